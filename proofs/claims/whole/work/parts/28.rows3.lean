/-- a contract whose answer is the cell q -/
def fs_R (l : Launch) (y : MethodName) (ws : List Cond) (rm : Room) (D : va_G) (cl : List vw_C) (tys : List (ClassId × FieldType)) (av : List Value) (w : va_W) (sz : Nat) (q : Nat) {S : Type} (post : S → Prop) (w1 : S → va_W) (mc ms : Nat) : Prop :=
  Met l y ws rm (va_Pc av (fs_B D cl tys w sz)) (va_Qr post (fun u a t => a = q ∧ fs_E D cl tys (va_A w sz) (w1 u) t) (va_A w sz)) mc ms (va_A w sz)
section FSQ
variable {p : Program} {l : Launch} {e : Env} {R : Room} {s : State} {m : MethodId} {args : Array Value} {below : List Frame} {meth : Method} {c : Code} {H : Heap} {locs : List Loc} {cells slots : Nat} {Q : State → Prop}
variable {cc : ByteArray} {pc : Nat} {ls : Array Slot} {rest st0 : List Value} {D : va_G} {cl : List vw_C} {A : Nat → Prop} {tys : List (ClassId × FieldType)} {ws : va_W} {H0 : Heap} {mc ms sz q : Nat} {w wc wr : va_W} {aa : Array Value}
theorem fs_callr {S : Type} {post : S → Prop} {w1 : S → va_W} (isC isR : List Nat) (hP : va_P D cl ws H) (hD : va_D A ws) (hK : va_K D cl tys s) (hS : va_S A H0 H locs) (hA : ∀ q, H0.size ≤ q → A q) (hC : isC.map (fun i => ws[i]?) = wc.map some) (hR : isR.map (fun i => ws[i]?) = wr.map some) (hn : va_nd isR = true) (hdis : ∀ i ∈ isR, i ∉ isC)
    (run : va_P D cl wc H → va_D A wc → va_Run p l e R s m args below meth c H locs cells slots mc ms (F0 m pc ls st0) rest (va_Qr post (fun u a t => a = q ∧ fs_E D cl tys (va_A wc H.size) (w1 u) t) (va_A wc H.size) aa) (va_A wc H.size))
    (hnc : va_nd isC = true)
    (kk : ∀ (u : S) (H1 : Heap) (locs1 : List Loc), post u → va_P D cl (wr ++ w1 u) H1 → va_D A (wr ++ w1 u) → va_S A H0 H1 locs1 → W p l e R s m args below meth c H1 locs1 (cells + mc) (slots + ms) Q (F0 m (pc + 3) ls (.ref q :: rest))) : W p l e R s m args below meth c H locs cells slots Q (F0 m pc ls st0) := by
  have hF := va_free (wc := wc) hD hS hA isC hC
  have hPc : va_P D cl wc H := hP.sub isC (by
    have h := congrArg (List.filterMap id) hC
    rw [List.filterMap_map, List.filterMap_map] at h
    simpa using h)
  refine va_callr (run hPc (hD.sub isC hnc hC)) hS (fun q _ h => hF q h) hF (fun u ra t H1 locs1 ht hvm hp hB hz hk hS1 => ?_)
  obtain ⟨rfl, hP1, hK1, hD1⟩ := hB
  rw [ht] at hP1
  obtain ⟨hP2, hD2⟩ := va_join (wr := wr) (w1 := w1 u) hP hD isC isR hC hR hn hdis hk hF hP1 hD1
  exact kk u H1 locs1 hp hP2 hD2 hS1
theorem fs_aret {S : Type} {post : S → Prop} {w1 : S → va_W} {nm : String} (hexec : p.tables.exec = Jvm.exec) (hb : c.code = cc) (hr : meth.sig.returnType = some (.object nm)) (hlocks : meth.locks = false) (hA : va_A w sz = A) (hK : va_K D cl tys s) (hS : va_S A s.heap H locs) (hdg : decode cc pc = .ok (.areturn, 1)) (u : S) (hp : post u) (hP : va_P D cl (w1 u) H) (hD : va_D A (w1 u)) :
    W p l e R s m args below meth c H locs cells slots (MQ below (va_Qr post (fun u a t => a = q ∧ fs_E D cl tys (va_A w sz) (w1 u) t) (va_A w sz)) args s cells slots (va_A w sz)) (F0 m pc ls [.ref q]) := by
  subst hA
  exact W.aret hexec hb hr (Or.inl ⟨nm, rfl⟩) (Or.inr ⟨q, rfl⟩) (fun t ht hW => ⟨⟨u, q, rfl, hp, rfl, by rw [ht]; exact hP, va_K.moved hW.alike hK, hD⟩, hS.F ht⟩) hS.2.2 hdg hlocks
variable {C : String} {b : Nat} {As : List Value} {s0 : State}
theorem th_preV {T : u_T} {N ci q0 : Nat} {fs : List Value} (he : w[q0]? = some (b, .inr (ci, fs))) (hc : cl[ci]? = some (C, T, N)) (hX : ∀ U : State, U.heap = H → s.WarmedH U.vm → th_X s0 U) (hP : va_P D cl w H) (hK : va_K D cl tys s) (hD : va_D A w) : PreV s H C b (va_Pc (.ref b :: As) (fun U => fs_B D cl tys w H.size U ∧ th_X s0 U)) As :=
  ⟨fun a U g mk q => ⟨q.1, (fs_blind (av := .ref b :: As) a U g mk ⟨q.1, q.2.1⟩).2, q.2.2⟩, va_recv hK hP hc he, fun U hU hW => ⟨rfl, ⟨by rw [hU], by rw [hU]; exact hP, va_K.moved hW.alike hK, hD.weaken (fun _ _ _ _ => trivial)⟩, hX U hU hW⟩⟩
theorem th_preS {av : List Value} (hX : ∀ U : State, U.heap = H → s.WarmedH U.vm → th_X s0 U) (hP : va_P D cl w H) (hK : va_K D cl tys s) (hD : va_D A w) : PreS s H (va_Pc av (fun U => fs_B D cl tys w H.size U ∧ th_X s0 U)) av :=
  ⟨fun a U g mk q => ⟨q.1, (fs_blind (av := av) a U g mk ⟨q.1, q.2.1⟩).2, q.2.2⟩, fun U hU hW => ⟨rfl, ⟨by rw [hU], by rw [hU]; exact hP, va_K.moved hW.alike hK, hD.weaken (fun _ _ _ _ => trivial)⟩, hX U hU hW⟩⟩
end FSQ
