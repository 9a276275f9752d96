/-! my own rows: contracts in one shape, one row a call, one row a return, loops -/
section FSR
variable {p : Program} {l : Launch} {e : Env} {R : Room} {s : State} {m : MethodId} {args : Array Value} {below : List Frame} {meth : Method} {c : Code} {H : Heap} {locs : List Loc} {cells slots : Nat} {Q : State → Prop}
variable {cc : ByteArray} {pc : Nat} {ls : Array Slot} {rest : List Value} {D : va_G} {cl : List vw_C} {A : Nat → Prop} {a : Nat} {tys : List (ClassId × FieldType)} {ws : va_W} {H0 : Heap}
theorem fs_eqi {x v : Int32} (h : x = v) (k : W p l e R s m args below meth c H locs cells slots Q (F0 m pc ls (.int v :: rest))) : W p l e R s m args below meth c H locs cells slots Q (F0 m pc ls (.int x :: rest)) := by
  subst h
  exact k
theorem fs_eql {x v : Int64} (h : x = v) (k : W p l e R s m args below meth c H locs cells slots Q (F0 m pc ls (.long v :: rest))) : W p l e R s m args below meth c H locs cells slots Q (F0 m pc ls (.long x :: rest)) := by
  subst h
  exact k
theorem fs_eqv {x v : Value} (h : x = v) (k : W p l e R s m args below meth c H locs cells slots Q (F0 m pc ls (v :: rest))) : W p l e R s m args below meth c H locs cells slots Q (F0 m pc ls (x :: rest)) := by
  subst h
  exact k
/-- an int array is read at a natural index -/
theorem fs_iald (hexec : p.tables.exec = Jvm.exec) (hb : c.code = cc) (hK : va_K D cl tys s) (hP : va_P D cl ws H) (q0 t0 : Nat) {cA : ClassId} {n : Nat} {f : Nat → Int32} (ha : ws[q0]? = some (a, .inl (cA, n, .inl f))) (ht : tys[t0]? = some (cA, .int)) {i : Int32} (j : Nat) (hi : i = nI j) (hn : n < 2 ^ 31) (hj : j < n) {v : Int32} (hv : f j = v) (hdg : decode cc pc = .ok (.iaload, 1))
    (kk : W p l e R s m args below meth c H locs cells slots Q (F0 m (pc + 1) ls (.int v :: rest))) : W p l e R s m args below meth c H locs cells slots Q (F0 m pc ls (.int i :: .ref a :: rest)) := by
  subst hi
  subst hv
  refine va_iald hexec hb hK hP q0 t0 ha ht (vp_in_nI hj hn) hdg ?_
  rw [nI_clamp (Nat.lt_trans hj hn)]
  exact kk
theorem fs_zald (hexec : p.tables.exec = Jvm.exec) (hb : c.code = cc) (hK : va_K D cl tys s) (hP : va_P D cl ws H) (q0 t0 : Nat) {cA : ClassId} {n : Nat} {f : Nat → Int32} (ha : ws[q0]? = some (a, .inl (cA, n, .inl f))) (ht : tys[t0]? = some (cA, .boolean)) {i : Int32} (j : Nat) (hi : i = nI j) (hn : n < 2 ^ 31) (hj : j < n) {v : Int32} (hv : f j = v) (hdg : decode cc pc = .ok (.baload, 1))
    (kk : W p l e R s m args below meth c H locs cells slots Q (F0 m (pc + 1) ls (.int v :: rest))) : W p l e R s m args below meth c H locs cells slots Q (F0 m pc ls (.int i :: .ref a :: rest)) := by
  subst hi
  subst hv
  refine va_zald hexec hb hK hP q0 t0 ha ht (vp_in_nI hj hn) hdg ?_
  rw [nI_clamp (Nat.lt_trans hj hn)]
  exact kk
theorem fs_iast (hexec : p.tables.exec = Jvm.exec) (hb : c.code = cc) (hK : va_K D cl tys s) (hP : va_P D cl ws H) (hD : va_D A ws) (hS : va_S A H0 H locs) (q0 t0 : Nat) {cA : ClassId} {n : Nat} {f : Nat → Int32} (ha : ws[q0]? = some (a, .inl (cA, n, .inl f))) (ht : tys[t0]? = some (cA, .int)) {i : Int32} {x : Int32} (j : Nat) (hi : i = nI j) (hn : n < 2 ^ 31) (hj : j < n) (hdg : decode cc pc = .ok (.iastore, 1))
    (kk : ∀ (H1 : Heap) (locs1 : List Loc), va_P D cl (ws.set q0 (a, .inl (cA, n, .inl (upd f j x)))) H1 → va_D A (ws.set q0 (a, .inl (cA, n, .inl (upd f j x)))) → va_S A H0 H1 locs1 → W p l e R s m args below meth c H1 locs1 cells slots Q (F0 m (pc + 1) ls rest)) : W p l e R s m args below meth c H locs cells slots Q (F0 m pc ls (.int x :: .int i :: .ref a :: rest)) := by
  subst hi
  refine va_iast hexec hb hK hP hD hS q0 t0 ha ht (vp_in_nI hj hn) hdg ?_
  rw [nI_clamp (Nat.lt_trans hj hn)]
  exact kk
theorem fs_zast (hexec : p.tables.exec = Jvm.exec) (hb : c.code = cc) (hK : va_K D cl tys s) (hP : va_P D cl ws H) (hD : va_D A ws) (hS : va_S A H0 H locs) (q0 t0 : Nat) {cA : ClassId} {n : Nat} {f : Nat → Int32} (ha : ws[q0]? = some (a, .inl (cA, n, .inl f))) (ht : tys[t0]? = some (cA, .boolean)) {i : Int32} {x : Int32} (j : Nat) (hi : i = nI j) (hn : n < 2 ^ 31) (hj : j < n) (hx : vp_nar .boolean x = x) (hdg : decode cc pc = .ok (.bastore, 1))
    (kk : ∀ (H1 : Heap) (locs1 : List Loc), va_P D cl (ws.set q0 (a, .inl (cA, n, .inl (upd f j x)))) H1 → va_D A (ws.set q0 (a, .inl (cA, n, .inl (upd f j x)))) → va_S A H0 H1 locs1 → W p l e R s m args below meth c H1 locs1 cells slots Q (F0 m (pc + 1) ls rest)) : W p l e R s m args below meth c H locs cells slots Q (F0 m pc ls (.int x :: .int i :: .ref a :: rest)) := by
  subst hi
  refine va_zast hexec hb hK hP hD hS q0 t0 ha ht (vp_in_nI hj hn) hdg ?_
  rw [nI_clamp (Nat.lt_trans hj hn), hx]
  exact kk
/-- a loop: an invariant over a state of my own, the heap, the locals; a measure that falls -/
theorem fs_loop {σ : Type} (μ : σ → Nat) (I : σ → Heap → List Loc → Array Slot → Prop)
    (step : ∀ (x : σ) (H : Heap) (locs : List Loc) (ls : Array Slot), I x H locs ls → (∀ (y : σ) (H' : Heap) (locs' : List Loc) (ls' : Array Slot), μ y < μ x → I y H' locs' ls' → W p l e R s m args below meth c H' locs' cells slots Q (F0 m pc ls' rest)) → W p l e R s m args below meth c H locs cells slots Q (F0 m pc ls rest))
    (x : σ) (h : I x H locs ls) : W p l e R s m args below meth c H locs cells slots Q (F0 m pc ls rest) := by
  have key : ∀ (n : Nat) (x : σ) (H : Heap) (locs : List Loc) (ls : Array Slot), μ x < n → I x H locs ls → W p l e R s m args below meth c H locs cells slots Q (F0 m pc ls rest) := by
    intro n
    induction n with
    | zero => intro x H locs ls h; omega
    | succ n ih => intro x H locs ls hn hI; exact step x H locs ls hI (fun y H' locs' ls' hlt hI' => ih y H' locs' ls' (by omega) hI')
  exact key (μ x + 1) x H locs ls (by omega) h
/-- ways that meet again: the rest once, for every state with J -/
theorem fs_meet {σ : Type} {pc2 : Nat} {g : JFrame} (J : σ → Heap → List Loc → Array Slot → List Value → Prop)
    (main : (∀ (x : σ) (H : Heap) (locs : List Loc) (ls : Array Slot) (st : List Value), J x H locs ls st → W p l e R s m args below meth c H locs cells slots Q (F0 m pc2 ls st)) → W p l e R s m args below meth c H locs cells slots Q g)
    (k : ∀ (x : σ) (H : Heap) (locs : List Loc) (ls : Array Slot) (st : List Value), J x H locs ls st → W p l e R s m args below meth c H locs cells slots Q (F0 m pc2 ls st)) : W p l e R s m args below meth c H locs cells slots Q g := main k
end FSR
/-- the world of a method's start -/
def fs_B (D : va_G) (cl : List vw_C) (tys : List (ClassId × FieldType)) (w : va_W) (sz : Nat) (U : State) : Prop := U.heap.size = sz ∧ va_P D cl w U.heap ∧ va_K D cl tys U ∧ va_D (fun _ => True) w
/-- the world behind it -/
def fs_E (D : va_G) (cl : List vw_C) (tys : List (ClassId × FieldType)) (A : Nat → Prop) (w : va_W) (t : State) : Prop := va_P D cl w t.heap ∧ va_K D cl tys t ∧ va_D A w
/-- a contract whose answer is an int (a boolean: 0 or 1) -/
def fs_I (l : Launch) (y : MethodName) (ws : List Cond) (rm : Room) (D : va_G) (cl : List vw_C) (tys : List (ClassId × FieldType)) (av : List Value) (w : va_W) (sz : Nat) {S : Type} (post : Int32 → S → Prop) (w1 : S → va_W) (mc ms : Nat) : Prop :=
  Met l y ws rm (va_Pc av (fs_B D cl tys w sz)) (va_Qi post (fun u t => fs_E D cl tys (va_A w sz) (w1 u) t) (va_A w sz)) mc ms (va_A w sz)
/-- .. that answers nothing -/
def fs_V (l : Launch) (y : MethodName) (ws : List Cond) (rm : Room) (D : va_G) (cl : List vw_C) (tys : List (ClassId × FieldType)) (av : List Value) (w : va_W) (sz : Nat) {S : Type} (post : S → Prop) (w1 : S → va_W) (mc ms : Nat) : Prop :=
  Met l y ws rm (va_Pc av (fs_B D cl tys w sz)) (va_Qv post (fun u t => fs_E D cl tys (va_A w sz) (w1 u) t) (va_A w sz)) mc ms (va_A w sz)
/-- .. that answers a long -/
def fs_L (l : Launch) (y : MethodName) (ws : List Cond) (rm : Room) (D : va_G) (cl : List vw_C) (tys : List (ClassId × FieldType)) (av : List Value) (w : va_W) (sz : Nat) {S : Type} (post : Int64 → S → Prop) (w1 : S → va_W) (mc ms : Nat) : Prop :=
  Met l y ws rm (va_Pc av (fs_B D cl tys w sz)) (va_Ql post (fun u t => fs_E D cl tys (va_A w sz) (w1 u) t) (va_A w sz)) mc ms (va_A w sz)
/-- the head of every method -/
theorem fs_head {l : Launch} {y : MethodName} {rm : Room} {D : va_G} {cl : List vw_C} {tys : List (ClassId × FieldType)} {av : List Value} {w : va_W} {sz : Nat} {Qc : Array Value → State → Outcome → State → Prop} {mc ms : Nat} {cc : ByteArray} {maxL : Nat} {ret : Option FieldType}
    (hy : plainName y.cls = true) (hav : (lg_sl av).length ≤ maxL)
    (body : ∀ (p : Program) (e : Env) (s : State) (m : MethodId) (below : List Frame) (meth : Method) (c : Code) (A : Nat → Prop) (ls : Array Slot), p.tables.exec = Jvm.exec → c.code = cc → meth.sig.returnType = ret → (∀ w ∈ fs_T, w.before av.toArray s = true) → s.vm.findClass y.cls = some m.cls → meth.locks = false → meth.name = y.name → c.maxLocals = maxL → va_K D cl tys s → va_P D cl w s.heap → va_D A w → va_S A s.heap s.heap [] → (∀ q, s.heap.size ≤ q → A q) → va_A w sz = A → s.heap.size = sz → lv_has ls maxL (lv_args 0 av) →
      W p l e rm s m av.toArray below meth c s.heap [] 0 0 (MQ below Qc av.toArray s mc ms (va_A w sz)) (F0 m 0 ls [])) :
    Met l y (Cond.code y cc maxL ret :: fs_T) rm (va_Pc av (fs_B D cl tys w sz)) Qc mc ms (va_A w sz) := by
  refine Met.ofW (cc := cc) (maxL := maxL) (ret := ret) hy rfl ?_
  intro p e s m args below meth c s₁ B hml hv
  obtain ⟨rfl, hsz, hP, hK, hD0⟩ := hv
  have hx := B.exec
  have hb := B.bytes
  have hr := B.returns
  have hts := atoms_spec (ws := Cond.code y cc maxL ret :: fs_T) B.pre
  have hown : s.vm.findClass y.cls = some m.cls := findClass_of_methodNamed B.named
  have hlocks := B.notSynchronized
  have hin : meth.name = y.name := (name_of_methodNamed B.named B.method).1
  have hD := hD0.self (sz := sz)
  have hl := lv_entry av (n := maxL) hav
  rw [lg_entry_eq]
  exact body p e s m below meth c (va_A w sz) _ hx hb hr (fun w h => hts w (List.mem_cons_of_mem _ h)) hown hlocks hin hml hK hP hD va_S.rf (fun q h => Or.inr (hsz ▸ h)) rfl hsz hl
section FSC
variable {p : Program} {l : Launch} {e : Env} {R : Room} {s : State} {m : MethodId} {args : Array Value} {below : List Frame} {meth : Method} {c : Code} {H : Heap} {locs : List Loc} {cells slots : Nat} {Q : State → Prop}
variable {cc : ByteArray} {pc : Nat} {ls : Array Slot} {rest st0 : List Value} {D : va_G} {cl : List vw_C} {A : Nat → Prop} {a : Nat} {tys : List (ClassId × FieldType)} {ws : va_W} {H0 : Heap} {mc ms sz : Nat} {w wc wr : va_W} {aa : Array Value} {av : List Value}
theorem fs_blind : FrameBlind (va_Pc av (fs_B D cl tys w sz)) := fun a U g mk q => by
  obtain ⟨q0, q1, qP, qK, qD⟩ := q
  exact ⟨q0, q1, qP, va_K.moved (u := U) (U := U.calling g mk a) (Vm.Alike.refl U.vm) qK, qD⟩
theorem fs_preS (hP : va_P D cl w H) (hK : va_K D cl tys s) (hD : va_D A w) : PreS s H (va_Pc av (fs_B D cl tys w H.size)) av :=
  ⟨fs_blind, fun U hU hW => ⟨rfl, by rw [hU], by rw [hU]; exact hP, va_K.moved hW.alike hK, hD.weaken (fun _ _ _ _ => trivial)⟩⟩
theorem fs_preV {C : String} {T : u_T} {N ci b q0 : Nat} {fs : List Value} {As : List Value} (he : w[q0]? = some (b, .inr (ci, fs))) (hc : cl[ci]? = some (C, T, N)) (hP : va_P D cl w H) (hK : va_K D cl tys s) (hD : va_D A w) : PreV s H C b (va_Pc (.ref b :: As) (fs_B D cl tys w H.size)) As :=
  ⟨fs_blind, va_recv hK hP hc he, fun U hU hW => ⟨rfl, by rw [hU], by rw [hU]; exact hP, va_K.moved hW.alike hK, hD.weaken (fun _ _ _ _ => trivial)⟩⟩
theorem fs_calli {S : Type} {post : Int32 → S → Prop} {w1 : S → va_W} (isC isR : List Nat) (hP : va_P D cl ws H) (hD : va_D A ws) (hK : va_K D cl tys s) (hS : va_S A H0 H locs) (hA : ∀ q, H0.size ≤ q → A q) (hC : isC.map (fun i => ws[i]?) = wc.map some) (hR : isR.map (fun i => ws[i]?) = wr.map some) (hn : va_nd isR = true) (hdis : ∀ i ∈ isR, i ∉ isC)
    (run : va_P D cl wc H → va_D A wc → va_Run p l e R s m args below meth c H locs cells slots mc ms (F0 m pc ls st0) rest (va_Qi post (fun u t => fs_E D cl tys (va_A wc H.size) (w1 u) t) (va_A wc H.size) aa) (va_A wc H.size))
    (hnc : va_nd isC = true)
    (kk : ∀ (r : Int32) (u : S) (H1 : Heap) (locs1 : List Loc), post r u → va_P D cl (wr ++ w1 u) H1 → va_D A (wr ++ w1 u) → va_S A H0 H1 locs1 → W p l e R s m args below meth c H1 locs1 (cells + mc) (slots + ms) Q (F0 m (pc + 3) ls (.int r :: rest))) : W p l e R s m args below meth c H locs cells slots Q (F0 m pc ls st0) := by
  have hF := va_free (wc := wc) hD hS hA isC hC
  have hPc : va_P D cl wc H := hP.sub isC (by
    have h := congrArg (List.filterMap id) hC
    rw [List.filterMap_map, List.filterMap_map] at h
    simpa using h)
  refine va_calli (run hPc (hD.sub isC hnc hC)) hS (fun q _ h => hF q h) hF (fun r u t H1 locs1 ht hvm hp hB hz hk hS1 => ?_)
  obtain ⟨hP1, hK1, hD1⟩ := hB
  rw [ht] at hP1
  obtain ⟨hP2, hD2⟩ := va_join (wr := wr) (w1 := w1 u) hP hD isC isR hC hR hn hdis hk hF hP1 hD1
  exact kk r u H1 locs1 hp hP2 hD2 hS1
theorem fs_callv {S : Type} {post : S → Prop} {w1 : S → va_W} (isC isR : List Nat) (hP : va_P D cl ws H) (hD : va_D A ws) (hK : va_K D cl tys s) (hS : va_S A H0 H locs) (hA : ∀ q, H0.size ≤ q → A q) (hC : isC.map (fun i => ws[i]?) = wc.map some) (hR : isR.map (fun i => ws[i]?) = wr.map some) (hn : va_nd isR = true) (hdis : ∀ i ∈ isR, i ∉ isC)
    (run : va_P D cl wc H → va_D A wc → va_Run p l e R s m args below meth c H locs cells slots mc ms (F0 m pc ls st0) rest (va_Qv post (fun u t => fs_E D cl tys (va_A wc H.size) (w1 u) t) (va_A wc H.size) aa) (va_A wc H.size))
    (hnc : va_nd isC = true)
    (kk : ∀ (u : S) (H1 : Heap) (locs1 : List Loc), post u → va_P D cl (wr ++ w1 u) H1 → va_D A (wr ++ w1 u) → va_S A H0 H1 locs1 → W p l e R s m args below meth c H1 locs1 (cells + mc) (slots + ms) Q (F0 m (pc + 3) ls rest)) : W p l e R s m args below meth c H locs cells slots Q (F0 m pc ls st0) := by
  have hF := va_free (wc := wc) hD hS hA isC hC
  have hPc : va_P D cl wc H := hP.sub isC (by
    have h := congrArg (List.filterMap id) hC
    rw [List.filterMap_map, List.filterMap_map] at h
    simpa using h)
  refine va_callv (run hPc (hD.sub isC hnc hC)) hS (fun q _ h => hF q h) hF (fun u t H1 locs1 ht hvm hp hB hz hk hS1 => ?_)
  obtain ⟨hP1, hK1, hD1⟩ := hB
  rw [ht] at hP1
  obtain ⟨hP2, hD2⟩ := va_join (wr := wr) (w1 := w1 u) hP hD isC isR hC hR hn hdis hk hF hP1 hD1
  exact kk u H1 locs1 hp hP2 hD2 hS1
theorem fs_calll {S : Type} {post : Int64 → S → Prop} {w1 : S → va_W} (isC isR : List Nat) (hP : va_P D cl ws H) (hD : va_D A ws) (hK : va_K D cl tys s) (hS : va_S A H0 H locs) (hA : ∀ q, H0.size ≤ q → A q) (hC : isC.map (fun i => ws[i]?) = wc.map some) (hR : isR.map (fun i => ws[i]?) = wr.map some) (hn : va_nd isR = true) (hdis : ∀ i ∈ isR, i ∉ isC)
    (run : va_P D cl wc H → va_D A wc → va_Run p l e R s m args below meth c H locs cells slots mc ms (F0 m pc ls st0) rest (va_Ql post (fun u t => fs_E D cl tys (va_A wc H.size) (w1 u) t) (va_A wc H.size) aa) (va_A wc H.size))
    (hnc : va_nd isC = true)
    (kk : ∀ (r : Int64) (u : S) (H1 : Heap) (locs1 : List Loc), post r u → va_P D cl (wr ++ w1 u) H1 → va_D A (wr ++ w1 u) → va_S A H0 H1 locs1 → W p l e R s m args below meth c H1 locs1 (cells + mc) (slots + ms) Q (F0 m (pc + 3) ls (.long r :: rest))) : W p l e R s m args below meth c H locs cells slots Q (F0 m pc ls st0) := by
  have hF := va_free (wc := wc) hD hS hA isC hC
  have hPc : va_P D cl wc H := hP.sub isC (by
    have h := congrArg (List.filterMap id) hC
    rw [List.filterMap_map, List.filterMap_map] at h
    simpa using h)
  refine va_calll (run hPc (hD.sub isC hnc hC)) hS (fun q _ h => hF q h) hF (fun r u t H1 locs1 ht hvm hp hB hz hk hS1 => ?_)
  obtain ⟨hP1, hK1, hD1⟩ := hB
  rw [ht] at hP1
  obtain ⟨hP2, hD2⟩ := va_join (wr := wr) (w1 := w1 u) hP hD isC isR hC hR hn hdis hk hF hP1 hD1
  exact kk r u H1 locs1 hp hP2 hD2 hS1
/-- the returns -/
theorem fs_iret {S : Type} {post : Int32 → S → Prop} {w1 : S → va_W} {v : Int32} (hexec : p.tables.exec = Jvm.exec) (hb : c.code = cc) (hr : meth.sig.returnType = some .int) (hlocks : meth.locks = false) (hA : va_A w sz = A) (hK : va_K D cl tys s) (hS : va_S A s.heap H locs) (hdg : decode cc pc = .ok (.ireturn, 1)) (u : S) (hp : post v u) (hP : va_P D cl (w1 u) H) (hD : va_D A (w1 u)) :
    W p l e R s m args below meth c H locs cells slots (MQ below (va_Qi post (fun u t => fs_E D cl tys (va_A w sz) (w1 u) t) (va_A w sz)) args s cells slots (va_A w sz)) (F0 m pc ls [.int v]) := by
  subst hA
  exact W.iret hexec hb hr (fun t ht hW => ⟨⟨v, u, rfl, hp, by rw [ht]; exact hP, va_K.moved hW.alike hK, hD⟩, hS.F ht⟩) hS.2.2 hdg hlocks
theorem fs_zret {S : Type} {post : Int32 → S → Prop} {w1 : S → va_W} {v : Int32} (hexec : p.tables.exec = Jvm.exec) (hb : c.code = cc) (hr : meth.sig.returnType = some .boolean) (hlocks : meth.locks = false) (hA : va_A w sz = A) (hK : va_K D cl tys s) (hS : va_S A s.heap H locs) (hdg : decode cc pc = .ok (.ireturn, 1)) (hn : narrow .boolean (.int v) = .int v) (u : S) (hp : post v u) (hP : va_P D cl (w1 u) H) (hD : va_D A (w1 u)) :
    W p l e R s m args below meth c H locs cells slots (MQ below (va_Qi post (fun u t => fs_E D cl tys (va_A w sz) (w1 u) t) (va_A w sz)) args s cells slots (va_A w sz)) (F0 m pc ls [.int v]) := by
  subst hA
  exact W.zret hexec hb hr hn (fun t ht hW => ⟨⟨v, u, rfl, hp, by rw [ht]; exact hP, va_K.moved hW.alike hK, hD⟩, hS.F ht⟩) hS.2.2 hdg hlocks
theorem fs_vret {S : Type} {post : S → Prop} {w1 : S → va_W} (hexec : p.tables.exec = Jvm.exec) (hb : c.code = cc) (hr : meth.sig.returnType = none) (hlocks : meth.locks = false) (hA : va_A w sz = A) (hK : va_K D cl tys s) (hS : va_S A s.heap H locs) (hdg : decode cc pc = .ok (.return_, 1)) (u : S) (hp : post u) (hP : va_P D cl (w1 u) H) (hD : va_D A (w1 u)) :
    W p l e R s m args below meth c H locs cells slots (MQ below (va_Qv post (fun u t => fs_E D cl tys (va_A w sz) (w1 u) t) (va_A w sz)) args s cells slots (va_A w sz)) (F0 m pc ls []) := by
  subst hA
  exact W.vret hexec hb hr (fun t ht hW => ⟨⟨u, rfl, hp, by rw [ht]; exact hP, va_K.moved hW.alike hK, hD⟩, hS.F ht⟩) hS.2.2 hdg hlocks
theorem fs_lret {S : Type} {post : Int64 → S → Prop} {w1 : S → va_W} {v : Int64} (hexec : p.tables.exec = Jvm.exec) (hb : c.code = cc) (hr : meth.sig.returnType = some .long) (hlocks : meth.locks = false) (hA : va_A w sz = A) (hK : va_K D cl tys s) (hS : va_S A s.heap H locs) (hdg : decode cc pc = .ok (.lreturn, 1)) (u : S) (hp : post v u) (hP : va_P D cl (w1 u) H) (hD : va_D A (w1 u)) :
    W p l e R s m args below meth c H locs cells slots (MQ below (va_Ql post (fun u t => fs_E D cl tys (va_A w sz) (w1 u) t) (va_A w sz)) args s cells slots (va_A w sz)) (F0 m pc ls [.long v]) := by
  subst hA
  exact W.lret hexec hb hr (fun t ht hW => ⟨⟨v, u, rfl, hp, by rw [ht]; exact hP, va_K.moved hW.alike hK, hD⟩, hS.F ht⟩) hS.2.2 hdg hlocks
end FSC
/-- the kinds of arrays -/
abbrev fs_tys (cI cZ cJ cF : ClassId) : List (ClassId × FieldType) := [(cI, .int), (cZ, .boolean), (cJ, .long), (cF, .object "FilterStack$Filter")]
theorem fs_g {y : MethodName} {cy : ByteArray} {ny : Nat} {ry : Option FieldType} (hy : Cond.code y cy ny ry ∈ fs_T) : GoodIn fs_T (Cond.code y cy ny ry :: fs_T) := by
  intro w hw
  rcases List.mem_cons.mp hw with rfl | h
  · exact ⟨hy, good_of_word (List.mem_filter.mp hy).2⟩
  · exact ⟨h, good_of_word (List.mem_filter.mp h).2⟩
theorem fs_incN (e n : Nat) : nI e + Int32.ofInt (n : Int) = nI (e + n) := by
  rw [show Int32.ofInt (n : Int) = nI n from by unfold nI; rfl]
  exact nI_add e n
theorem fs_decN {e n : Nat} (h : n ≤ e) : nI e + Int32.ofInt (-(n : Int)) = nI (e - n) := by
  rw [show Int32.ofInt (-(n : Int)) = - nI n from by unfold nI; rw [Int32.ofInt_neg]; rfl, ← Int32.sub_eq_add_neg]
  exact pk_sub h
/-! comparisons of ints as whole numbers -/
theorem fs_lt0 {x : Int32} : x < 0 ↔ x.toInt < 0 := by rw [Int32.lt_iff_toInt_lt]; rfl
theorem fs_ge0 {x : Int32} : 0 ≤ x ↔ 0 ≤ x.toInt := by rw [Int32.le_iff_toInt_le]; rfl
theorem fs_gt0 {x : Int32} : 0 < x ↔ 0 < x.toInt := by rw [Int32.lt_iff_toInt_lt]; rfl
theorem fs_le0 {x : Int32} : x ≤ 0 ↔ x.toInt ≤ 0 := by rw [Int32.le_iff_toInt_le]; rfl
theorem fs_eq0 {x : Int32} : x = 0 ↔ x.toInt = 0 := by rw [← Int32.toInt_inj]; rfl
theorem fs_ltN {x : Int32} {n : Nat} (h : n < 2 ^ 31) : x < nI n ↔ x.toInt < (n : Int) := by rw [Int32.lt_iff_toInt_lt, nI_toInt h]
theorem fs_Nlt {x : Int32} {n : Nat} (h : n < 2 ^ 31) : nI n < x ↔ (n : Int) < x.toInt := by rw [Int32.lt_iff_toInt_lt, nI_toInt h]
theorem fs_leN {x : Int32} {n : Nat} (h : n < 2 ^ 31) : x ≤ nI n ↔ x.toInt ≤ (n : Int) := by rw [Int32.le_iff_toInt_le, nI_toInt h]
theorem fs_Nle {x : Int32} {n : Nat} (h : n < 2 ^ 31) : nI n ≤ x ↔ (n : Int) ≤ x.toInt := by rw [Int32.le_iff_toInt_le, nI_toInt h]
theorem fs_eqN {x : Int32} {n : Nat} (h : n < 2 ^ 31) : x = nI n ↔ x.toInt = (n : Int) := by rw [← Int32.toInt_inj, nI_toInt h]
theorem fs_Neq {x : Int32} {n : Nat} (h : n < 2 ^ 31) : nI n = x ↔ (n : Int) = x.toInt := by rw [← Int32.toInt_inj, nI_toInt h]
theorem fs_of {x : Int32} {n : Nat} (hn : n < 2 ^ 31) (h0 : 0 ≤ x.toInt) (h : x.toInt < (n : Int)) : ∃ j : Nat, j < n ∧ x = nI j := ⟨x.toInt.toNat, by omega, (fs_eqN (by omega)).mpr (by omega)⟩
theorem fs_clampI {x : Int32} (h : 0 ≤ x.toInt) : (x.toNatClampNeg : Int) = x.toInt := by
  show ((x.toInt.toNat : Nat) : Int) = x.toInt
  omega
theorem fs_clampN {x : Int32} (h : 0 ≤ x.toInt) : x = nI x.toNatClampNeg := by
  have h1 := fs_clampI h
  have h2 := x.toInt_lt
  exact (fs_eqN (by omega)).mpr h1.symm
/-- an array's contents count below its length alone -/
theorem fs_cellc {cA : ClassId} {n : Nat} {f g : Nat → Int32} (h : ∀ j, j < n → f j = g j) : vp_cell cA (n, .inl f) = vp_cell cA (n, .inl g) := by
  show arrV cA n (fun j => .int (f j)) = arrV cA n (fun j => .int (g j))
  unfold arrV
  congr 1
  apply Array.ext
  · simp
  · intro i h1 h2
    simp at h1
    simp [h i h1]
theorem fs_atc {D : va_G} {cl : List vw_C} {a : Nat} {cA : ClassId} {n : Nat} {f g : Nat → Int32} {ws ws' : va_W} {H : Heap} {A : Nat → Prop} (k : Nat) (h : ∀ j, j < n → f j = g j) (hk : ws[k]? = some (a, .inl (cA, n, .inl f))) (hw : ws.set k (a, .inl (cA, n, .inl g)) = ws') (hP : va_P D cl ws H) (hD : va_D A ws) : va_P D cl ws' H ∧ va_D A ws' := by
  subst hw
  refine ⟨fun j q hj => ?_, hD.set hk⟩
  by_cases e : k = j
  · subst e
    have hlt : k < ws.length := (List.getElem?_eq_some_iff.mp hk).1
    rw [List.getElem?_set_self hlt] at hj
    cases hj
    have h1 : H[a]? = some (vp_cell cA (n, .inl f)) := hP k _ hk
    show H[a]? = some (vp_cell cA (n, .inl g))
    rw [h1, fs_cellc h]
  · rw [List.getElem?_set_ne e] at hj
    exact hP j q hj
section FSL
variable {p : Program} {l : Launch} {e : Env} {R : Room} {s : State} {m : MethodId} {args : Array Value} {below : List Frame} {meth : Method} {c : Code} {H : Heap} {locs : List Loc} {cells slots : Nat} {Q : State → Prop} {pc : Nat} {ls : Array Slot} {rest : List Value}
theorem fs_loop1 {α1 : Type} (μ : α1 → Nat) (I : α1 → Heap → List Loc → Array Slot → Prop)
    (step : ∀ (x1 : α1) (H : Heap) (locs : List Loc) (ls : Array Slot), I x1 H locs ls → (∀ (y1 : α1) (H' : Heap) (locs' : List Loc) (ls' : Array Slot), μ y1 < μ x1 → I y1 H' locs' ls' → W p l e R s m args below meth c H' locs' cells slots Q (F0 m pc ls' rest)) → W p l e R s m args below meth c H locs cells slots Q (F0 m pc ls rest))
    (x1 : α1) (h : I x1 H locs ls) : W p l e R s m args below meth c H locs cells slots Q (F0 m pc ls rest) :=
  fs_loop (σ := α1) (fun z => μ z) (fun z => I z) (fun z H locs ls hI ih => step z H locs ls hI (fun y1 H' locs' ls' hm hI' => ih y1 H' locs' ls' hm hI')) x1 h
theorem fs_loop2 {α1 α2 : Type} (μ : α1 → α2 → Nat) (I : α1 → α2 → Heap → List Loc → Array Slot → Prop)
    (step : ∀ (x1 : α1) (x2 : α2) (H : Heap) (locs : List Loc) (ls : Array Slot), I x1 x2 H locs ls → (∀ (y1 : α1) (y2 : α2) (H' : Heap) (locs' : List Loc) (ls' : Array Slot), μ y1 y2 < μ x1 x2 → I y1 y2 H' locs' ls' → W p l e R s m args below meth c H' locs' cells slots Q (F0 m pc ls' rest)) → W p l e R s m args below meth c H locs cells slots Q (F0 m pc ls rest))
    (x1 : α1) (x2 : α2) (h : I x1 x2 H locs ls) : W p l e R s m args below meth c H locs cells slots Q (F0 m pc ls rest) :=
  fs_loop (σ := α1 × α2) (fun z => μ z.1 z.2) (fun z => I z.1 z.2) (fun z H locs ls hI ih => step z.1 z.2 H locs ls hI (fun y1 y2 H' locs' ls' hm hI' => ih (y1, y2) H' locs' ls' hm hI')) (x1, x2) h
theorem fs_loop3 {α1 α2 α3 : Type} (μ : α1 → α2 → α3 → Nat) (I : α1 → α2 → α3 → Heap → List Loc → Array Slot → Prop)
    (step : ∀ (x1 : α1) (x2 : α2) (x3 : α3) (H : Heap) (locs : List Loc) (ls : Array Slot), I x1 x2 x3 H locs ls → (∀ (y1 : α1) (y2 : α2) (y3 : α3) (H' : Heap) (locs' : List Loc) (ls' : Array Slot), μ y1 y2 y3 < μ x1 x2 x3 → I y1 y2 y3 H' locs' ls' → W p l e R s m args below meth c H' locs' cells slots Q (F0 m pc ls' rest)) → W p l e R s m args below meth c H locs cells slots Q (F0 m pc ls rest))
    (x1 : α1) (x2 : α2) (x3 : α3) (h : I x1 x2 x3 H locs ls) : W p l e R s m args below meth c H locs cells slots Q (F0 m pc ls rest) :=
  fs_loop (σ := α1 × α2 × α3) (fun z => μ z.1 z.2.1 z.2.2) (fun z => I z.1 z.2.1 z.2.2) (fun z H locs ls hI ih => step z.1 z.2.1 z.2.2 H locs ls hI (fun y1 y2 y3 H' locs' ls' hm hI' => ih (y1, y2, y3) H' locs' ls' hm hI')) (x1, x2, x3) h
theorem fs_loop4 {α1 α2 α3 α4 : Type} (μ : α1 → α2 → α3 → α4 → Nat) (I : α1 → α2 → α3 → α4 → Heap → List Loc → Array Slot → Prop)
    (step : ∀ (x1 : α1) (x2 : α2) (x3 : α3) (x4 : α4) (H : Heap) (locs : List Loc) (ls : Array Slot), I x1 x2 x3 x4 H locs ls → (∀ (y1 : α1) (y2 : α2) (y3 : α3) (y4 : α4) (H' : Heap) (locs' : List Loc) (ls' : Array Slot), μ y1 y2 y3 y4 < μ x1 x2 x3 x4 → I y1 y2 y3 y4 H' locs' ls' → W p l e R s m args below meth c H' locs' cells slots Q (F0 m pc ls' rest)) → W p l e R s m args below meth c H locs cells slots Q (F0 m pc ls rest))
    (x1 : α1) (x2 : α2) (x3 : α3) (x4 : α4) (h : I x1 x2 x3 x4 H locs ls) : W p l e R s m args below meth c H locs cells slots Q (F0 m pc ls rest) :=
  fs_loop (σ := α1 × α2 × α3 × α4) (fun z => μ z.1 z.2.1 z.2.2.1 z.2.2.2) (fun z => I z.1 z.2.1 z.2.2.1 z.2.2.2) (fun z H locs ls hI ih => step z.1 z.2.1 z.2.2.1 z.2.2.2 H locs ls hI (fun y1 y2 y3 y4 H' locs' ls' hm hI' => ih (y1, y2, y3, y4) H' locs' ls' hm hI')) (x1, x2, x3, x4) h
theorem fs_loop5 {α1 α2 α3 α4 α5 : Type} (μ : α1 → α2 → α3 → α4 → α5 → Nat) (I : α1 → α2 → α3 → α4 → α5 → Heap → List Loc → Array Slot → Prop)
    (step : ∀ (x1 : α1) (x2 : α2) (x3 : α3) (x4 : α4) (x5 : α5) (H : Heap) (locs : List Loc) (ls : Array Slot), I x1 x2 x3 x4 x5 H locs ls → (∀ (y1 : α1) (y2 : α2) (y3 : α3) (y4 : α4) (y5 : α5) (H' : Heap) (locs' : List Loc) (ls' : Array Slot), μ y1 y2 y3 y4 y5 < μ x1 x2 x3 x4 x5 → I y1 y2 y3 y4 y5 H' locs' ls' → W p l e R s m args below meth c H' locs' cells slots Q (F0 m pc ls' rest)) → W p l e R s m args below meth c H locs cells slots Q (F0 m pc ls rest))
    (x1 : α1) (x2 : α2) (x3 : α3) (x4 : α4) (x5 : α5) (h : I x1 x2 x3 x4 x5 H locs ls) : W p l e R s m args below meth c H locs cells slots Q (F0 m pc ls rest) :=
  fs_loop (σ := α1 × α2 × α3 × α4 × α5) (fun z => μ z.1 z.2.1 z.2.2.1 z.2.2.2.1 z.2.2.2.2) (fun z => I z.1 z.2.1 z.2.2.1 z.2.2.2.1 z.2.2.2.2) (fun z H locs ls hI ih => step z.1 z.2.1 z.2.2.1 z.2.2.2.1 z.2.2.2.2 H locs ls hI (fun y1 y2 y3 y4 y5 H' locs' ls' hm hI' => ih (y1, y2, y3, y4, y5) H' locs' ls' hm hI')) (x1, x2, x3, x4, x5) h
theorem fs_loop6 {α1 α2 α3 α4 α5 α6 : Type} (μ : α1 → α2 → α3 → α4 → α5 → α6 → Nat) (I : α1 → α2 → α3 → α4 → α5 → α6 → Heap → List Loc → Array Slot → Prop)
    (step : ∀ (x1 : α1) (x2 : α2) (x3 : α3) (x4 : α4) (x5 : α5) (x6 : α6) (H : Heap) (locs : List Loc) (ls : Array Slot), I x1 x2 x3 x4 x5 x6 H locs ls → (∀ (y1 : α1) (y2 : α2) (y3 : α3) (y4 : α4) (y5 : α5) (y6 : α6) (H' : Heap) (locs' : List Loc) (ls' : Array Slot), μ y1 y2 y3 y4 y5 y6 < μ x1 x2 x3 x4 x5 x6 → I y1 y2 y3 y4 y5 y6 H' locs' ls' → W p l e R s m args below meth c H' locs' cells slots Q (F0 m pc ls' rest)) → W p l e R s m args below meth c H locs cells slots Q (F0 m pc ls rest))
    (x1 : α1) (x2 : α2) (x3 : α3) (x4 : α4) (x5 : α5) (x6 : α6) (h : I x1 x2 x3 x4 x5 x6 H locs ls) : W p l e R s m args below meth c H locs cells slots Q (F0 m pc ls rest) :=
  fs_loop (σ := α1 × α2 × α3 × α4 × α5 × α6) (fun z => μ z.1 z.2.1 z.2.2.1 z.2.2.2.1 z.2.2.2.2.1 z.2.2.2.2.2) (fun z => I z.1 z.2.1 z.2.2.1 z.2.2.2.1 z.2.2.2.2.1 z.2.2.2.2.2) (fun z H locs ls hI ih => step z.1 z.2.1 z.2.2.1 z.2.2.2.1 z.2.2.2.2.1 z.2.2.2.2.2 H locs ls hI (fun y1 y2 y3 y4 y5 y6 H' locs' ls' hm hI' => ih (y1, y2, y3, y4, y5, y6) H' locs' ls' hm hI')) (x1, x2, x3, x4, x5, x6) h
end FSL
