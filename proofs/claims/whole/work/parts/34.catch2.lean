section CT
theorem th_natom {CX CY : String} {s0 U : State} {A A' : Array Value} (hX : th_X s0 U) (h : (Cond.not (Cond.castable CX CY)).before A s0 = true) : (Cond.castable CX CY).before A' U = false := by
  have h1 := th_not h
  have e1 := Cond.castable_setVm (args := A) (s := s0) hX.1.alike CX CY
  rw [h1] at e1
  unfold Cond.before Cond.holds at e1 ⊢
  simp only [Cond.value] at e1 ⊢
  exact e1
section HIT
variable {e : Env} {s : State} {args : Array Value} {own CX CY : String} {m : MethodId} {x : ExceptionTableEntry} {t : List ExceptionTableEntry} {f : JFrame} {a : Addr} {ce : Cell} {hpc : Nat}
theorem th_hit (hpl : e.platform.magicAccessors = ({} : Platform).magicAccessors) (hown : s.vm.findClass own = some m.cls) (hlink : (Cond.classLink own x.catchType CY).before args s = true) (hfit : (Cond.castable CX CY).before args s = true) (h0 : x.catchType ≠ 0) (hf : f.method = m) (hx : covers x f.pc = true) (hh : x.handlerPc = hpc) (hvm : ce.vm = .none) (S : State) (hW : s.WarmedH S.vm) (hcell : S.heap[a]? = some ce) (hcls : S.vm.findClass CX = some ce.cls) :
    ∃ v' : Vm, s.WarmedH v' ∧ ∀ (Q : Handler → Pre) (E : CtlPost) (d : Bool) (acts : List Action), wp (findHandler.go f a (x :: t)) Q E e d acts S ↔ Q (.found hpc) d acts (S.setVm v') := by
  obtain ⟨v', h1, -, h3⟩ := th_row hpl hown hlink hfit h0 hW hf hx hcell hcls hvm
  subst hh
  exact ⟨v', h1, fun Q E d acts => by rw [h3 t Q E d acts, if_pos rfl]⟩
theorem th_miss (hpl : e.platform.magicAccessors = ({} : Platform).magicAccessors) (hown : s.vm.findClass own = some m.cls) (hlink : (Cond.classLink own x.catchType CY).before args s = true) (hfit : (Cond.castable CX CY).before args s = false) (h0 : x.catchType ≠ 0) (hf : f.method = m) (hx : covers x f.pc = true) (hvm : ce.vm = .none)
    (more : ∀ S : State, s.WarmedH S.vm → S.heap[a]? = some ce → S.vm.findClass CX = some ce.cls → ∃ v' : Vm, s.WarmedH v' ∧ ∀ (Q : Handler → Pre) (E : CtlPost) (d : Bool) (acts : List Action), wp (findHandler.go f a t) Q E e d acts S ↔ Q (.found hpc) d acts (S.setVm v')) (S : State) (hW : s.WarmedH S.vm) (hcell : S.heap[a]? = some ce) (hcls : S.vm.findClass CX = some ce.cls) :
    ∃ v' : Vm, s.WarmedH v' ∧ ∀ (Q : Handler → Pre) (E : CtlPost) (d : Bool) (acts : List Action), wp (findHandler.go f a (x :: t)) Q E e d acts S ↔ Q (.found hpc) d acts (S.setVm v') := by
  obtain ⟨v1, h1, h2, h3⟩ := th_row hpl hown hlink hfit h0 hW hf hx hcell hcls hvm
  obtain ⟨v2, g1, g2⟩ := more (S.setVm v1) h1 hcell h2
  exact ⟨v2, g1, fun Q E d acts => by rw [h3 t Q E d acts, if_neg (by decide), g2 Q E d acts]; rfl⟩
end HIT
/-- what the throws ask of the law's start -/
def th_law (a0 : Array Value) (s0 : State) : Prop := (∀ a ∈ Bundle.ownAtoms0 R_Fs 123 "java/lang/IndexOutOfBoundsException" th_names, a.before a0 s0 = true) ∧ (∀ a ∈ Bundle.ownAtoms0 R_Fs 126 "java/lang/IllegalStateException" th_names, a.before a0 s0 = true) ∧ (∀ a ∈ Bundle.ownAtoms0 R_Fs 111 "java/lang/UnsupportedOperationException" th_names, a.before a0 s0 = true) ∧ (Cond.castable "java/lang/IndexOutOfBoundsException" "java/lang/IndexOutOfBoundsException").before a0 s0 = true ∧ (Cond.castable "java/lang/IllegalStateException" "java/lang/IllegalStateException").before a0 s0 = true ∧ (Cond.castable "java/lang/UnsupportedOperationException" "java/lang/UnsupportedOperationException").before a0 s0 = true ∧ (Cond.not (Cond.castable "java/lang/IllegalStateException" "java/lang/IndexOutOfBoundsException")).before a0 s0 = true ∧ (Cond.not (Cond.castable "java/lang/UnsupportedOperationException" "java/lang/IndexOutOfBoundsException")).before a0 s0 = true ∧ (Cond.not (Cond.castable "java/lang/UnsupportedOperationException" "java/lang/IllegalStateException")).before a0 s0 = true
/-- the law's own row of one long -/
def OC (cJ : ClassId) (o : Nat) (k : Nat → Int64) : va_W := [(o, .inl (cJ, 1, .inr (.inl k)))]
variable {l : Launch} {dC : Nat → ClassId} {dI : Nat → Nat → Nat} {cI cZ cJ cF : ClassId}
theorem d_Lw_test_0 : decode b_Lw_test 0 = .ok (.aload_n 2, 1) := by decide +kernel
theorem d_Lw_test_1 : decode b_Lw_test 1 = .ok (.iconst 0, 1) := by decide +kernel
theorem d_Lw_test_2 : decode b_Lw_test 2 = .ok (.aload_n 0, 1) := by decide +kernel
theorem d_Lw_test_3 : decode b_Lw_test 3 = .ok (.iload_n 1, 1) := by decide +kernel
theorem d_Lw_test_4 : decode b_Lw_test 4 = .ok (.invokevirtual 7, 3) := by decide +kernel
theorem d_Lw_test_7 : decode b_Lw_test 7 = .ok (.i2l, 1) := by decide +kernel
theorem d_Lw_test_8 : decode b_Lw_test 8 = .ok (.lastore, 1) := by decide +kernel
theorem d_Lw_test_9 : decode b_Lw_test 9 = .ok (.goto 9, 3) := by decide +kernel
theorem d_Lw_test_12 : decode b_Lw_test 12 = .ok (.astore_n 3, 1) := by decide +kernel
theorem d_Lw_test_13 : decode b_Lw_test 13 = .ok (.iconst 1, 1) := by decide +kernel
theorem d_Lw_test_14 : decode b_Lw_test 14 = .ok (.ireturn, 1) := by decide +kernel
theorem d_Lw_test_15 : decode b_Lw_test 15 = .ok (.astore_n 3, 1) := by decide +kernel
theorem d_Lw_test_16 : decode b_Lw_test 16 = .ok (.iconst 2, 1) := by decide +kernel
theorem d_Lw_test_17 : decode b_Lw_test 17 = .ok (.ireturn, 1) := by decide +kernel
theorem d_Lw_test_18 : decode b_Lw_test 18 = .ok (.iconst 0, 1) := by decide +kernel
theorem d_Lw_test_19 : decode b_Lw_test 19 = .ok (.ireturn, 1) := by decide +kernel
set_option maxHeartbeats 4000000 in
set_option maxRecDepth 100000 in
theorem x_Lw_test (fs : Nat) (u : Nat → Nat) (A : fx_A) (J : fx_J) (o : Nat) (k : Nat → Int64) (f : Int32) (sz : Nat) (s0 : State) (a0 : Array Value) (htr : l.stackTraces = false) (hk0 : th_law a0 s0) (hnew0 : ∀ zz, va_A (XC cI cF fs u J ++ OC cJ o k) sz zz → s0.heap.size ≤ zz) (hI : fx_AI A) (hJ : fx_cr A J) : fs_IW l y_Lw_test (.codeWith y_Lw_test b_Lw_test 4 (some .int) [(0, 9, 12, 13), (0, 9, 15, 15)]) { frames := 8, cells := 1, slots := 6, locals := 157 } (dC, dI) vwCl (fs_tys cI cZ cJ cF) (th_X s0) [.ref fs, .int f, .ref o] (XC cI cF fs u J ++ OC cJ o k) sz (S := fx_A × fx_J × (Nat → Int64)) (fun r z => r = (fa_test A f).1 ∧ z.1 = (fa_test A f).2.2 ∧ fx_cr z.1 z.2.1 ∧ ((fa_test A f).1 = nI 0 → z.2.2 0 = (fa_test A f).2.1.toInt64)) (fun z => XC cI cF fs u z.2.1 ++ OC cJ o z.2.2) 1 6 := by
  obtain ⟨stk, w, cnt, dn, ln, Fo, Fy, Fn, Fk, gc, ga, gm, gv, g, ma, mx, cs⟩ := J
  obtain ⟨k1, k2, k3, k4, k5, k6, k7, k8, k9⟩ := hk0
  refine th_headW (by decide) (Nat.le_of_ble_eq_true rfl) ?_
  intro p e s m below meth c B ls htab hX hx hb hr hts hown hlocks hml hK hP hD hS hA hAe hsz hl
  have hl : lv_has ls 4 [(0, .ref fs), (1, .int f), (2, .ref o)] := hl
  have hown : s.vm.findClass R_Lw = some m.cls := hown
  have hnew : ∀ zz, B zz → s0.heap.size ≤ zz := fun zz h => hnew0 zz (by rw [hAe]; exact h)
  cases e4 : fx_ix 4 f with
  | none =>
    refine lv_aload_n hx hb d_Lw_test_0 rfl (lv_at hl 2 rfl) ?_
    refine lv_iconst (v := nI 0) hx hb d_Lw_test_1 (by decide) ?_
    refine lv_aload_n hx hb d_Lw_test_2 rfl (lv_at hl 0 rfl) ?_
    refine lv_iload_n hx hb d_Lw_test_3 rfl (lv_at hl 1 rfl) ?_
    obtain ⟨x0, x1, htb, hx0, hx1⟩ : ∃ x0 x1 : ExceptionTableEntry, c.exceptionTable.toList = [x0, x1] ∧ (x0.startPc, x0.endPc, x0.handlerPc, x0.catchType) = (0, 9, 12, 13) ∧ (x1.startPc, x1.endPc, x1.handlerPc, x1.catchType) = (0, 9, 15, 15) := by
      generalize c.exceptionTable.toList = LL at htab
      rcases LL with _ | ⟨x0, _ | ⟨x1, _ | ⟨x2, LL⟩⟩⟩
      · simp at htab
      · simp at htab
      · simp only [List.map_cons, List.map_nil, List.cons.injEq, and_true] at htab
        exact ⟨x0, x1, rfl, htab.1, htab.2⟩
      · simp at htab
    obtain ⟨p00, p01, p02, p03⟩ : x0.startPc = 0 ∧ x0.endPc = 9 ∧ x0.handlerPc = 12 ∧ x0.catchType = 13 := by simpa using hx0
    refine th_catch (S := Unit) (w1 := fun _ => XC cI cF fs u (stk, w, cnt, dn, ln, Fo, Fy, Fn, Fk, gc, ga, gm, gv, g, ma, mx, cs)) (hpc := 12) (CX := "java/lang/IndexOutOfBoundsException") (wc := XC cI cF fs u (stk, w, cnt, dn, ln, Fo, Fy, Fn, Fk, gc, ga, gm, gv, g, ma, mx, cs)) (wr := OC cJ o k) (C := R_Fs) (As := [.int f]) (rest := [.int (nI 0), .ref o]) (b := fs) hK [0, 1, 2, 3, 4, 5, 6, 7, 8, 9, 10, 11, 12, 13, 14, 15, 16, 17, 18, 19, 20, 21, 22, 23, 24, 25, 26, 27, 28, 29, 30, 31, 32, 33, 34, 35, 36, 37, 38, 39, 40, 41, 42, 43, 44, 45, 46, 47, 48, 49, 50, 51, 52] [53] hP hD hS hA rfl rfl rfl (by decide) rfl ⟨hx, hb, hml, hown, hts⟩ (x_Fs_testX fs u A (stk, w, cnt, dn, ln, Fo, Fy, Fn, Fk, gc, ga, gm, gv, g, ma, mx, cs) f _ s0 a0 htr k1 (fun zz h => hnew zz (va_free (wc := XC cI cF fs u (stk, w, cnt, dn, ln, Fo, Fy, Fn, Fk, gc, ga, gm, gv, g, ma, mx, cs)) hD hS hA [0, 1, 2, 3, 4, 5, 6, 7, 8, 9, 10, 11, 12, 13, 14, 15, 16, 17, 18, 19, 20, 21, 22, 23, 24, 25, 26, 27, 28, 29, 30, 31, 32, 33, 34, 35, 36, 37, 38, 39, 40, 41, 42, 43, 44, 45, 46, 47, 48, 49, 50, 51, 52] rfl zz h)) hI hJ e4) (⟨callB_of 1 hts (fs_g kin_Fs_test) rfl rfl rfl (hts _ wi_1) (hts _ wi_308) (by decide +kernel) ⟨Nat.le_of_ble_eq_true rfl, Nat.le_of_ble_eq_true rfl⟩, hts _ wi_309, hts _ wi_310⟩) (fun hPc hDc => th_preV (q0 := 0) rfl rfl (fun U hU hW => th_Xgo hX hS hnew hW hU) hPc hK hDc) rfl hl.1 rfl (Nat.le_of_ble_eq_true rfl) d_Lw_test_4 ⟨Nat.le_of_ble_eq_true rfl, Nat.le_of_ble_eq_true rfl⟩ ?_ ?_
    · intro S x ce hadm hW hcell hcls hvm
      have hpl : e.platform.magicAccessors = ({} : Platform).magicAccessors := by rw [hadm.platform]
      rw [htb]
      exact th_hit (CX := "java/lang/IndexOutOfBoundsException") (CY := "java/lang/IndexOutOfBoundsException") hpl hown (by rw [p03]; exact hts _ wi_306) (th_atom rfl hX k4) (by rw [p03]; decide) rfl (by simp [covers, F0, p00, p01]) p02 hvm S hW hcell hcls
    · intro z x H locs hP hD hS
      refine lv_astore_n hx hb d_Lw_test_12 rfl hl (by decide) (lv' := [(3, .ref x), (0, .ref fs), (1, .int f), (2, .ref o)]) rfl (fun ls hl => ?_)
      refine lv_iconst (v := nI 1) hx hb d_Lw_test_13 (by decide) ?_
      have hP : va_P (dC, dI) vwCl (XC cI cF fs u (stk, w, cnt, dn, ln, Fo, Fy, Fn, Fk, gc, ga, gm, gv, g, ma, mx, cs) ++ OC cJ o k) H := hP.sub [1, 2, 3, 4, 5, 6, 7, 8, 9, 10, 11, 12, 13, 14, 15, 16, 17, 18, 19, 20, 21, 22, 23, 24, 25, 26, 27, 28, 29, 30, 31, 32, 33, 34, 35, 36, 37, 38, 39, 40, 41, 42, 43, 44, 45, 46, 47, 48, 49, 50, 51, 52, 53, 0] rfl
      have hD : va_D B (XC cI cF fs u (stk, w, cnt, dn, ln, Fo, Fy, Fn, Fk, gc, ga, gm, gv, g, ma, mx, cs) ++ OC cJ o k) := hD.sub [1, 2, 3, 4, 5, 6, 7, 8, 9, 10, 11, 12, 13, 14, 15, 16, 17, 18, 19, 20, 21, 22, 23, 24, 25, 26, 27, 28, 29, 30, 31, 32, 33, 34, 35, 36, 37, 38, 39, 40, 41, 42, 43, 44, 45, 46, 47, 48, 49, 50, 51, 52, 53, 0] (by decide) rfl
      exact fs_iret hx hb hr hlocks hAe hK hS d_Lw_test_14 (A, (stk, w, cnt, dn, ln, Fo, Fy, Fn, Fk, gc, ga, gm, gv, g, ma, mx, cs), k) ⟨by simp only [fa_test, e4], by simp only [fa_test, e4], hJ, fun h => absurd h (by simp only [fa_test, e4]; decide)⟩ hP hD
  | some j =>
    obtain ⟨hj, rfl⟩ := fx_ix_some e4
    by_cases hc0 : fx_chk (A.1 j) = 0
    · refine lv_aload_n hx hb d_Lw_test_0 rfl (lv_at hl 2 rfl) ?_
      refine lv_iconst (v := nI 0) hx hb d_Lw_test_1 (by decide) ?_
      refine lv_aload_n hx hb d_Lw_test_2 rfl (lv_at hl 0 rfl) ?_
      refine lv_iload_n hx hb d_Lw_test_3 rfl (lv_at hl 1 rfl) ?_
      refine fs_calli (wc := XC cI cF fs u (stk, w, cnt, dn, ln, Fo, Fy, Fn, Fk, gc, ga, gm, gv, g, ma, mx, cs)) (wr := OC cJ o k) [0, 1, 2, 3, 4, 5, 6, 7, 8, 9, 10, 11, 12, 13, 14, 15, 16, 17, 18, 19, 20, 21, 22, 23, 24, 25, 26, 27, 28, 29, 30, 31, 32, 33, 34, 35, 36, 37, 38, 39, 40, 41, 42, 43, 44, 45, 46, 47, 48, 49, 50, 51, 52] [53] hP hD hK hS hA rfl rfl rfl (by decide) (fun hPc hDc => va_runV (C := R_Fs) (As := [.int (nI j)]) (rest := [.int (nI 0), .ref o]) ⟨hx, hb, hml, hown, hts⟩ (x_Fs_test fs u A (stk, w, cnt, dn, ln, Fo, Fy, Fn, Fk, gc, ga, gm, gv, g, ma, mx, cs) j _ hI hJ hj hc0) (⟨callB_of 1 hts (fs_g kin_Fs_test) rfl rfl rfl (hts _ wi_1) (hts _ wi_308) (by decide +kernel) ⟨Nat.le_of_ble_eq_true rfl, Nat.le_of_ble_eq_true rfl⟩, hts _ wi_309, hts _ wi_310⟩) (fs_preV (q0 := 0) rfl rfl hPc hK hDc) rfl rfl hl.1 rfl (lv_room (Nat.le_of_ble_eq_true rfl)) d_Lw_test_4 ⟨Nat.le_of_ble_eq_true rfl, Nat.le_of_ble_eq_true rfl⟩) rfl (fun r z H locs hp hP hD hS => ?_)
      refine lv_i2l hx hb d_Lw_test_7 rfl ?_
      refine va_last (a := o) hx hb hK hP hD hS 0 2 rfl rfl (vp_in_nI (by decide) (by decide)) d_Lw_test_8 (fun H locs hP hD hS => ?_)
      refine lv_goto (tgt := 18) hx hb d_Lw_test_9 (by decide) ?_
      refine lv_iconst (v := nI 0) hx hb d_Lw_test_18 (by decide) ?_
      have hP : va_P (dC, dI) vwCl (XC cI cF fs u z.2 ++ OC cJ o (vp_updL k (nI 0).toNatClampNeg r.toInt64)) H := hP.sub [1, 2, 3, 4, 5, 6, 7, 8, 9, 10, 11, 12, 13, 14, 15, 16, 17, 18, 19, 20, 21, 22, 23, 24, 25, 26, 27, 28, 29, 30, 31, 32, 33, 34, 35, 36, 37, 38, 39, 40, 41, 42, 43, 44, 45, 46, 47, 48, 49, 50, 51, 52, 53, 0] rfl
      have hD : va_D B (XC cI cF fs u z.2 ++ OC cJ o (vp_updL k (nI 0).toNatClampNeg r.toInt64)) := hD.sub [1, 2, 3, 4, 5, 6, 7, 8, 9, 10, 11, 12, 13, 14, 15, 16, 17, 18, 19, 20, 21, 22, 23, 24, 25, 26, 27, 28, 29, 30, 31, 32, 33, 34, 35, 36, 37, 38, 39, 40, 41, 42, 43, 44, 45, 46, 47, 48, 49, 50, 51, 52, 53, 0] (by decide) rfl
      refine W.widen (k := 1) (n := 6) (by decide) (by decide) ?_
      exact fs_iret hx hb hr hlocks hAe hK hS d_Lw_test_19 (z.1, z.2, vp_updL k (nI 0).toNatClampNeg r.toInt64) ⟨by simp only [fa_test, e4, hc0, if_true], hp.2.1, hp.2.2, fun _ => by rw [hp.1, show (nI 0).toNatClampNeg = 0 from by decide]; simp [vp_updL]⟩ hP hD
    · refine lv_aload_n hx hb d_Lw_test_0 rfl (lv_at hl 2 rfl) ?_
      refine lv_iconst (v := nI 0) hx hb d_Lw_test_1 (by decide) ?_
      refine lv_aload_n hx hb d_Lw_test_2 rfl (lv_at hl 0 rfl) ?_
      refine lv_iload_n hx hb d_Lw_test_3 rfl (lv_at hl 1 rfl) ?_
      obtain ⟨x0, x1, htb, hx0, hx1⟩ : ∃ x0 x1 : ExceptionTableEntry, c.exceptionTable.toList = [x0, x1] ∧ (x0.startPc, x0.endPc, x0.handlerPc, x0.catchType) = (0, 9, 12, 13) ∧ (x1.startPc, x1.endPc, x1.handlerPc, x1.catchType) = (0, 9, 15, 15) := by
        generalize c.exceptionTable.toList = LL at htab
        rcases LL with _ | ⟨x0, _ | ⟨x1, _ | ⟨x2, LL⟩⟩⟩
        · simp at htab
        · simp at htab
        · simp only [List.map_cons, List.map_nil, List.cons.injEq, and_true] at htab
          exact ⟨x0, x1, rfl, htab.1, htab.2⟩
        · simp at htab
      obtain ⟨p00, p01, p02, p03⟩ : x0.startPc = 0 ∧ x0.endPc = 9 ∧ x0.handlerPc = 12 ∧ x0.catchType = 13 := by simpa using hx0
      obtain ⟨p10, p11, p12, p13⟩ : x1.startPc = 0 ∧ x1.endPc = 9 ∧ x1.handlerPc = 15 ∧ x1.catchType = 15 := by simpa using hx1
      refine th_catch (S := Nat → Int32) (w1 := fun g' => XC cI cF fs u (fx_Jg (stk, w, cnt, dn, ln, Fo, Fy, Fn, Fk, gc, ga, gm, gv, g, ma, mx, cs) g')) (hpc := 15) (CX := "java/lang/IllegalStateException") (wc := XC cI cF fs u (stk, w, cnt, dn, ln, Fo, Fy, Fn, Fk, gc, ga, gm, gv, g, ma, mx, cs)) (wr := OC cJ o k) (C := R_Fs) (As := [.int (nI j)]) (rest := [.int (nI 0), .ref o]) (b := fs) hK [0, 1, 2, 3, 4, 5, 6, 7, 8, 9, 10, 11, 12, 13, 14, 15, 16, 17, 18, 19, 20, 21, 22, 23, 24, 25, 26, 27, 28, 29, 30, 31, 32, 33, 34, 35, 36, 37, 38, 39, 40, 41, 42, 43, 44, 45, 46, 47, 48, 49, 50, 51, 52] [53] hP hD hS hA rfl rfl rfl (by decide) rfl ⟨hx, hb, hml, hown, hts⟩ (x_Fs_testB fs u A (stk, w, cnt, dn, ln, Fo, Fy, Fn, Fk, gc, ga, gm, gv, g, ma, mx, cs) j _ s0 a0 htr k2 (fun zz h => hnew zz (va_free (wc := XC cI cF fs u (stk, w, cnt, dn, ln, Fo, Fy, Fn, Fk, gc, ga, gm, gv, g, ma, mx, cs)) hD hS hA [0, 1, 2, 3, 4, 5, 6, 7, 8, 9, 10, 11, 12, 13, 14, 15, 16, 17, 18, 19, 20, 21, 22, 23, 24, 25, 26, 27, 28, 29, 30, 31, 32, 33, 34, 35, 36, 37, 38, 39, 40, 41, 42, 43, 44, 45, 46, 47, 48, 49, 50, 51, 52] rfl zz h)) hI hJ hj hc0) (⟨callB_of 1 hts (fs_g kin_Fs_test) rfl rfl rfl (hts _ wi_1) (hts _ wi_308) (by decide +kernel) ⟨Nat.le_of_ble_eq_true rfl, Nat.le_of_ble_eq_true rfl⟩, hts _ wi_309, hts _ wi_310⟩) (fun hPc hDc => th_preV (q0 := 0) rfl rfl (fun U hU hW => th_Xgo hX hS hnew hW hU) hPc hK hDc) rfl hl.1 rfl (Nat.le_of_ble_eq_true rfl) d_Lw_test_4 ⟨Nat.le_of_ble_eq_true rfl, Nat.le_of_ble_eq_true rfl⟩ ?_ ?_
      · intro S x ce hadm hW hcell hcls hvm
        have hpl : e.platform.magicAccessors = ({} : Platform).magicAccessors := by rw [hadm.platform]
        rw [htb]
        exact th_miss (CX := "java/lang/IllegalStateException") (CY := "java/lang/IndexOutOfBoundsException") hpl hown (by rw [p03]; exact hts _ wi_306) (th_natom hX k7) (by rw [p03]; decide) rfl (by simp [covers, F0, p00, p01]) hvm (th_hit (CX := "java/lang/IllegalStateException") (CY := "java/lang/IllegalStateException") hpl hown (by rw [p13]; exact hts _ wi_307) (th_atom rfl hX k5) (by rw [p13]; decide) rfl (by simp [covers, F0, p10, p11]) p12 hvm) S hW hcell hcls
      · intro z x H locs hP hD hS
        refine lv_astore_n hx hb d_Lw_test_15 rfl hl (by decide) (lv' := [(3, .ref x), (0, .ref fs), (1, .int (nI j)), (2, .ref o)]) rfl (fun ls hl => ?_)
        refine lv_iconst (v := nI 2) hx hb d_Lw_test_16 (by decide) ?_
        have hP : va_P (dC, dI) vwCl (XC cI cF fs u (fx_Jg (stk, w, cnt, dn, ln, Fo, Fy, Fn, Fk, gc, ga, gm, gv, g, ma, mx, cs) z) ++ OC cJ o k) H := hP.sub [1, 2, 3, 4, 5, 6, 7, 8, 9, 10, 11, 12, 13, 14, 15, 16, 17, 18, 19, 20, 21, 22, 23, 24, 25, 26, 27, 28, 29, 30, 31, 32, 33, 34, 35, 36, 37, 38, 39, 40, 41, 42, 43, 44, 45, 46, 47, 48, 49, 50, 51, 52, 53, 0] rfl
        have hD : va_D B (XC cI cF fs u (fx_Jg (stk, w, cnt, dn, ln, Fo, Fy, Fn, Fk, gc, ga, gm, gv, g, ma, mx, cs) z) ++ OC cJ o k) := hD.sub [1, 2, 3, 4, 5, 6, 7, 8, 9, 10, 11, 12, 13, 14, 15, 16, 17, 18, 19, 20, 21, 22, 23, 24, 25, 26, 27, 28, 29, 30, 31, 32, 33, 34, 35, 36, 37, 38, 39, 40, 41, 42, 43, 44, 45, 46, 47, 48, 49, 50, 51, 52, 53, 0] (by decide) rfl
        exact fs_iret hx hb hr hlocks hAe hK hS d_Lw_test_17 (A, (fx_Jg (stk, w, cnt, dn, ln, Fo, Fy, Fn, Fk, gc, ga, gm, gv, g, ma, mx, cs) z), k) ⟨by simp only [fa_test, e4, hc0, if_false], by simp only [fa_test, e4, hc0, if_false], fx_cr_g hJ z, fun h => absurd h (by simp only [fa_test, e4, hc0, if_false]; decide)⟩ hP hD
theorem d_Lw_install_0 : decode b_Lw_install 0 = .ok (.aload_n 2, 1) := by decide +kernel
theorem d_Lw_install_1 : decode b_Lw_install 1 = .ok (.iconst 0, 1) := by decide +kernel
theorem d_Lw_install_2 : decode b_Lw_install 2 = .ok (.aload_n 0, 1) := by decide +kernel
theorem d_Lw_install_3 : decode b_Lw_install 3 = .ok (.iload_n 1, 1) := by decide +kernel
theorem d_Lw_install_4 : decode b_Lw_install 4 = .ok (.invokevirtual 17, 3) := by decide +kernel
theorem d_Lw_install_7 : decode b_Lw_install 7 = .ok (.i2l, 1) := by decide +kernel
theorem d_Lw_install_8 : decode b_Lw_install 8 = .ok (.lastore, 1) := by decide +kernel
theorem d_Lw_install_9 : decode b_Lw_install 9 = .ok (.goto 12, 3) := by decide +kernel
theorem d_Lw_install_12 : decode b_Lw_install 12 = .ok (.astore_n 3, 1) := by decide +kernel
theorem d_Lw_install_13 : decode b_Lw_install 13 = .ok (.iconst 1, 1) := by decide +kernel
theorem d_Lw_install_14 : decode b_Lw_install 14 = .ok (.ireturn, 1) := by decide +kernel
theorem d_Lw_install_15 : decode b_Lw_install 15 = .ok (.astore_n 3, 1) := by decide +kernel
theorem d_Lw_install_16 : decode b_Lw_install 16 = .ok (.iconst 2, 1) := by decide +kernel
theorem d_Lw_install_17 : decode b_Lw_install 17 = .ok (.ireturn, 1) := by decide +kernel
theorem d_Lw_install_18 : decode b_Lw_install 18 = .ok (.astore_n 3, 1) := by decide +kernel
theorem d_Lw_install_19 : decode b_Lw_install 19 = .ok (.iconst 3, 1) := by decide +kernel
theorem d_Lw_install_20 : decode b_Lw_install 20 = .ok (.ireturn, 1) := by decide +kernel
theorem d_Lw_install_21 : decode b_Lw_install 21 = .ok (.iconst 0, 1) := by decide +kernel
theorem d_Lw_install_22 : decode b_Lw_install 22 = .ok (.ireturn, 1) := by decide +kernel
set_option maxHeartbeats 4000000 in
set_option maxRecDepth 100000 in
theorem x_Lw_install (fs : Nat) (u : Nat → Nat) (A : fx_A) (J : fx_J) (o : Nat) (k : Nat → Int64) (f : Int32) (sz : Nat) (s0 : State) (a0 : Array Value) (htr : l.stackTraces = false) (hk0 : th_law a0 s0) (hnew0 : ∀ zz, va_A (XC cI cF fs u J ++ OC cJ o k) sz zz → s0.heap.size ≤ zz) (hI : fx_AI A) (hJ : fx_cr A J) : fs_IW l y_Lw_install (.codeWith y_Lw_install b_Lw_install 4 (some .int) [(0, 9, 12, 13), (0, 9, 15, 15), (0, 9, 18, 20)]) { frames := 8, cells := 1, slots := 6, locals := 158 } (dC, dI) vwCl (fs_tys cI cZ cJ cF) (th_X s0) [.ref fs, .int f, .ref o] (XC cI cF fs u J ++ OC cJ o k) sz (S := fx_A × fx_J × (Nat → Int64)) (fun r z => r = (fa_install A f).1 ∧ z.1 = (fa_install A f).2.2 ∧ fx_cr z.1 z.2.1 ∧ ((fa_install A f).1 = nI 0 → z.2.2 0 = (fa_install A f).2.1.toInt64)) (fun z => XC cI cF fs u z.2.1 ++ OC cJ o z.2.2) 1 6 := by
  obtain ⟨stk, w, cnt, dn, ln, Fo, Fy, Fn, Fk, gc, ga, gm, gv, g, ma, mx, cs⟩ := J
  obtain ⟨k1, k2, k3, k4, k5, k6, k7, k8, k9⟩ := hk0
  refine th_headW (by decide) (Nat.le_of_ble_eq_true rfl) ?_
  intro p e s m below meth c B ls htab hX hx hb hr hts hown hlocks hml hK hP hD hS hA hAe hsz hl
  have hl : lv_has ls 4 [(0, .ref fs), (1, .int f), (2, .ref o)] := hl
  have hown : s.vm.findClass R_Lw = some m.cls := hown
  have hnew : ∀ zz, B zz → s0.heap.size ≤ zz := fun zz h => hnew0 zz (by rw [hAe]; exact h)
  cases e4 : fx_ix 4 f with
  | none =>
    refine lv_aload_n hx hb d_Lw_install_0 rfl (lv_at hl 2 rfl) ?_
    refine lv_iconst (v := nI 0) hx hb d_Lw_install_1 (by decide) ?_
    refine lv_aload_n hx hb d_Lw_install_2 rfl (lv_at hl 0 rfl) ?_
    refine lv_iload_n hx hb d_Lw_install_3 rfl (lv_at hl 1 rfl) ?_
    obtain ⟨x0, x1, x2, htb, hx0, hx1, hx2⟩ : ∃ x0 x1 x2 : ExceptionTableEntry, c.exceptionTable.toList = [x0, x1, x2] ∧ (x0.startPc, x0.endPc, x0.handlerPc, x0.catchType) = (0, 9, 12, 13) ∧ (x1.startPc, x1.endPc, x1.handlerPc, x1.catchType) = (0, 9, 15, 15) ∧ (x2.startPc, x2.endPc, x2.handlerPc, x2.catchType) = (0, 9, 18, 20) := by
      generalize c.exceptionTable.toList = LL at htab
      rcases LL with _ | ⟨x0, _ | ⟨x1, _ | ⟨x2, _ | ⟨x3, LL⟩⟩⟩⟩
      · simp at htab
      · simp at htab
      · simp at htab
      · simp only [List.map_cons, List.map_nil, List.cons.injEq, and_true] at htab
        exact ⟨x0, x1, x2, rfl, htab.1, htab.2.1, htab.2.2⟩
      · simp at htab
    obtain ⟨p00, p01, p02, p03⟩ : x0.startPc = 0 ∧ x0.endPc = 9 ∧ x0.handlerPc = 12 ∧ x0.catchType = 13 := by simpa using hx0
    refine th_catch (S := Unit) (w1 := fun _ => XC cI cF fs u (stk, w, cnt, dn, ln, Fo, Fy, Fn, Fk, gc, ga, gm, gv, g, ma, mx, cs)) (hpc := 12) (CX := "java/lang/IndexOutOfBoundsException") (wc := XC cI cF fs u (stk, w, cnt, dn, ln, Fo, Fy, Fn, Fk, gc, ga, gm, gv, g, ma, mx, cs)) (wr := OC cJ o k) (C := R_Fs) (As := [.int f]) (rest := [.int (nI 0), .ref o]) (b := fs) hK [0, 1, 2, 3, 4, 5, 6, 7, 8, 9, 10, 11, 12, 13, 14, 15, 16, 17, 18, 19, 20, 21, 22, 23, 24, 25, 26, 27, 28, 29, 30, 31, 32, 33, 34, 35, 36, 37, 38, 39, 40, 41, 42, 43, 44, 45, 46, 47, 48, 49, 50, 51, 52] [53] hP hD hS hA rfl rfl rfl (by decide) rfl ⟨hx, hb, hml, hown, hts⟩ (x_Fs_installX fs u A (stk, w, cnt, dn, ln, Fo, Fy, Fn, Fk, gc, ga, gm, gv, g, ma, mx, cs) f _ s0 a0 htr k1 (fun zz h => hnew zz (va_free (wc := XC cI cF fs u (stk, w, cnt, dn, ln, Fo, Fy, Fn, Fk, gc, ga, gm, gv, g, ma, mx, cs)) hD hS hA [0, 1, 2, 3, 4, 5, 6, 7, 8, 9, 10, 11, 12, 13, 14, 15, 16, 17, 18, 19, 20, 21, 22, 23, 24, 25, 26, 27, 28, 29, 30, 31, 32, 33, 34, 35, 36, 37, 38, 39, 40, 41, 42, 43, 44, 45, 46, 47, 48, 49, 50, 51, 52] rfl zz h)) hI hJ e4) (⟨callB_of 1 hts (fs_g kin_Fs_install) rfl rfl rfl (hts _ wi_1) (hts _ wi_398) (by decide +kernel) ⟨Nat.le_of_ble_eq_true rfl, Nat.le_of_ble_eq_true rfl⟩, hts _ wi_399, hts _ wi_400⟩) (fun hPc hDc => th_preV (q0 := 0) rfl rfl (fun U hU hW => th_Xgo hX hS hnew hW hU) hPc hK hDc) rfl hl.1 rfl (Nat.le_of_ble_eq_true rfl) d_Lw_install_4 ⟨Nat.le_of_ble_eq_true rfl, Nat.le_of_ble_eq_true rfl⟩ ?_ ?_
    · intro S x ce hadm hW hcell hcls hvm
      have hpl : e.platform.magicAccessors = ({} : Platform).magicAccessors := by rw [hadm.platform]
      rw [htb]
      exact th_hit (CX := "java/lang/IndexOutOfBoundsException") (CY := "java/lang/IndexOutOfBoundsException") hpl hown (by rw [p03]; exact hts _ wi_306) (th_atom rfl hX k4) (by rw [p03]; decide) rfl (by simp [covers, F0, p00, p01]) p02 hvm S hW hcell hcls
    · intro z x H locs hP hD hS
      refine lv_astore_n hx hb d_Lw_install_12 rfl hl (by decide) (lv' := [(3, .ref x), (0, .ref fs), (1, .int f), (2, .ref o)]) rfl (fun ls hl => ?_)
      refine lv_iconst (v := nI 1) hx hb d_Lw_install_13 (by decide) ?_
      have hP : va_P (dC, dI) vwCl (XC cI cF fs u (stk, w, cnt, dn, ln, Fo, Fy, Fn, Fk, gc, ga, gm, gv, g, ma, mx, cs) ++ OC cJ o k) H := hP.sub [1, 2, 3, 4, 5, 6, 7, 8, 9, 10, 11, 12, 13, 14, 15, 16, 17, 18, 19, 20, 21, 22, 23, 24, 25, 26, 27, 28, 29, 30, 31, 32, 33, 34, 35, 36, 37, 38, 39, 40, 41, 42, 43, 44, 45, 46, 47, 48, 49, 50, 51, 52, 53, 0] rfl
      have hD : va_D B (XC cI cF fs u (stk, w, cnt, dn, ln, Fo, Fy, Fn, Fk, gc, ga, gm, gv, g, ma, mx, cs) ++ OC cJ o k) := hD.sub [1, 2, 3, 4, 5, 6, 7, 8, 9, 10, 11, 12, 13, 14, 15, 16, 17, 18, 19, 20, 21, 22, 23, 24, 25, 26, 27, 28, 29, 30, 31, 32, 33, 34, 35, 36, 37, 38, 39, 40, 41, 42, 43, 44, 45, 46, 47, 48, 49, 50, 51, 52, 53, 0] (by decide) rfl
      exact fs_iret hx hb hr hlocks hAe hK hS d_Lw_install_14 (A, (stk, w, cnt, dn, ln, Fo, Fy, Fn, Fk, gc, ga, gm, gv, g, ma, mx, cs), k) ⟨by simp only [fa_install, e4], by simp only [fa_install, e4], hJ, fun h => absurd h (by simp only [fa_install, e4]; decide)⟩ hP hD
  | some j =>
    obtain ⟨hj, rfl⟩ := fx_ix_some e4
    by_cases hc0 : fx_chk (A.1 j) = 0
    · by_cases hst : A.2.1 < 4
      · refine lv_aload_n hx hb d_Lw_install_0 rfl (lv_at hl 2 rfl) ?_
        refine lv_iconst (v := nI 0) hx hb d_Lw_install_1 (by decide) ?_
        refine lv_aload_n hx hb d_Lw_install_2 rfl (lv_at hl 0 rfl) ?_
        refine lv_iload_n hx hb d_Lw_install_3 rfl (lv_at hl 1 rfl) ?_
        refine fs_calli (wc := XC cI cF fs u (stk, w, cnt, dn, ln, Fo, Fy, Fn, Fk, gc, ga, gm, gv, g, ma, mx, cs)) (wr := OC cJ o k) [0, 1, 2, 3, 4, 5, 6, 7, 8, 9, 10, 11, 12, 13, 14, 15, 16, 17, 18, 19, 20, 21, 22, 23, 24, 25, 26, 27, 28, 29, 30, 31, 32, 33, 34, 35, 36, 37, 38, 39, 40, 41, 42, 43, 44, 45, 46, 47, 48, 49, 50, 51, 52] [53] hP hD hK hS hA rfl rfl rfl (by decide) (fun hPc hDc => va_runV (C := R_Fs) (As := [.int (nI j)]) (rest := [.int (nI 0), .ref o]) ⟨hx, hb, hml, hown, hts⟩ (x_Fs_install fs u A (stk, w, cnt, dn, ln, Fo, Fy, Fn, Fk, gc, ga, gm, gv, g, ma, mx, cs) j _ hI hJ hj hc0 hst) (⟨callB_of 1 hts (fs_g kin_Fs_install) rfl rfl rfl (hts _ wi_1) (hts _ wi_398) (by decide +kernel) ⟨Nat.le_of_ble_eq_true rfl, Nat.le_of_ble_eq_true rfl⟩, hts _ wi_399, hts _ wi_400⟩) (fs_preV (q0 := 0) rfl rfl hPc hK hDc) rfl rfl hl.1 rfl (lv_room (Nat.le_of_ble_eq_true rfl)) d_Lw_install_4 ⟨Nat.le_of_ble_eq_true rfl, Nat.le_of_ble_eq_true rfl⟩) rfl (fun r z H locs hp hP hD hS => ?_)
        refine lv_i2l hx hb d_Lw_install_7 rfl ?_
        refine va_last (a := o) hx hb hK hP hD hS 0 2 rfl rfl (vp_in_nI (by decide) (by decide)) d_Lw_install_8 (fun H locs hP hD hS => ?_)
        refine lv_goto (tgt := 21) hx hb d_Lw_install_9 (by decide) ?_
        refine lv_iconst (v := nI 0) hx hb d_Lw_install_21 (by decide) ?_
        have hP : va_P (dC, dI) vwCl (XC cI cF fs u z.2 ++ OC cJ o (vp_updL k (nI 0).toNatClampNeg r.toInt64)) H := hP.sub [1, 2, 3, 4, 5, 6, 7, 8, 9, 10, 11, 12, 13, 14, 15, 16, 17, 18, 19, 20, 21, 22, 23, 24, 25, 26, 27, 28, 29, 30, 31, 32, 33, 34, 35, 36, 37, 38, 39, 40, 41, 42, 43, 44, 45, 46, 47, 48, 49, 50, 51, 52, 53, 0] rfl
        have hD : va_D B (XC cI cF fs u z.2 ++ OC cJ o (vp_updL k (nI 0).toNatClampNeg r.toInt64)) := hD.sub [1, 2, 3, 4, 5, 6, 7, 8, 9, 10, 11, 12, 13, 14, 15, 16, 17, 18, 19, 20, 21, 22, 23, 24, 25, 26, 27, 28, 29, 30, 31, 32, 33, 34, 35, 36, 37, 38, 39, 40, 41, 42, 43, 44, 45, 46, 47, 48, 49, 50, 51, 52, 53, 0] (by decide) rfl
        refine W.widen (k := 1) (n := 6) (by decide) (by decide) ?_
        exact fs_iret hx hb hr hlocks hAe hK hS d_Lw_install_22 (z.1, z.2, vp_updL k (nI 0).toNatClampNeg r.toInt64) ⟨by simp only [fa_install, e4, hc0, if_true, hst], hp.2.1, hp.2.2, fun _ => by rw [hp.1, show (nI 0).toNatClampNeg = 0 from by decide]; simp [vp_updL]⟩ hP hD
      · have hs4 : A.2.1 = 4 := by have := hI.2.1; omega
        refine lv_aload_n hx hb d_Lw_install_0 rfl (lv_at hl 2 rfl) ?_
        refine lv_iconst (v := nI 0) hx hb d_Lw_install_1 (by decide) ?_
        refine lv_aload_n hx hb d_Lw_install_2 rfl (lv_at hl 0 rfl) ?_
        refine lv_iload_n hx hb d_Lw_install_3 rfl (lv_at hl 1 rfl) ?_
        obtain ⟨x0, x1, x2, htb, hx0, hx1, hx2⟩ : ∃ x0 x1 x2 : ExceptionTableEntry, c.exceptionTable.toList = [x0, x1, x2] ∧ (x0.startPc, x0.endPc, x0.handlerPc, x0.catchType) = (0, 9, 12, 13) ∧ (x1.startPc, x1.endPc, x1.handlerPc, x1.catchType) = (0, 9, 15, 15) ∧ (x2.startPc, x2.endPc, x2.handlerPc, x2.catchType) = (0, 9, 18, 20) := by
          generalize c.exceptionTable.toList = LL at htab
          rcases LL with _ | ⟨x0, _ | ⟨x1, _ | ⟨x2, _ | ⟨x3, LL⟩⟩⟩⟩
          · simp at htab
          · simp at htab
          · simp at htab
          · simp only [List.map_cons, List.map_nil, List.cons.injEq, and_true] at htab
            exact ⟨x0, x1, x2, rfl, htab.1, htab.2.1, htab.2.2⟩
          · simp at htab
        obtain ⟨p00, p01, p02, p03⟩ : x0.startPc = 0 ∧ x0.endPc = 9 ∧ x0.handlerPc = 12 ∧ x0.catchType = 13 := by simpa using hx0
        obtain ⟨p10, p11, p12, p13⟩ : x1.startPc = 0 ∧ x1.endPc = 9 ∧ x1.handlerPc = 15 ∧ x1.catchType = 15 := by simpa using hx1
        obtain ⟨p20, p21, p22, p23⟩ : x2.startPc = 0 ∧ x2.endPc = 9 ∧ x2.handlerPc = 18 ∧ x2.catchType = 20 := by simpa using hx2
        refine th_catch (S := Nat → Int32) (w1 := fun g' => XC cI cF fs u (fx_Jg (stk, w, cnt, dn, ln, Fo, Fy, Fn, Fk, gc, ga, gm, gv, g, ma, mx, cs) g')) (hpc := 18) (CX := "java/lang/UnsupportedOperationException") (wc := XC cI cF fs u (stk, w, cnt, dn, ln, Fo, Fy, Fn, Fk, gc, ga, gm, gv, g, ma, mx, cs)) (wr := OC cJ o k) (C := R_Fs) (As := [.int (nI j)]) (rest := [.int (nI 0), .ref o]) (b := fs) hK [0, 1, 2, 3, 4, 5, 6, 7, 8, 9, 10, 11, 12, 13, 14, 15, 16, 17, 18, 19, 20, 21, 22, 23, 24, 25, 26, 27, 28, 29, 30, 31, 32, 33, 34, 35, 36, 37, 38, 39, 40, 41, 42, 43, 44, 45, 46, 47, 48, 49, 50, 51, 52] [53] hP hD hS hA rfl rfl rfl (by decide) rfl ⟨hx, hb, hml, hown, hts⟩ (x_Fs_installS fs u A (stk, w, cnt, dn, ln, Fo, Fy, Fn, Fk, gc, ga, gm, gv, g, ma, mx, cs) j _ s0 a0 htr k3 (fun zz h => hnew zz (va_free (wc := XC cI cF fs u (stk, w, cnt, dn, ln, Fo, Fy, Fn, Fk, gc, ga, gm, gv, g, ma, mx, cs)) hD hS hA [0, 1, 2, 3, 4, 5, 6, 7, 8, 9, 10, 11, 12, 13, 14, 15, 16, 17, 18, 19, 20, 21, 22, 23, 24, 25, 26, 27, 28, 29, 30, 31, 32, 33, 34, 35, 36, 37, 38, 39, 40, 41, 42, 43, 44, 45, 46, 47, 48, 49, 50, 51, 52] rfl zz h)) hI hJ hj hc0 hs4) (⟨callB_of 1 hts (fs_g kin_Fs_install) rfl rfl rfl (hts _ wi_1) (hts _ wi_398) (by decide +kernel) ⟨Nat.le_of_ble_eq_true rfl, Nat.le_of_ble_eq_true rfl⟩, hts _ wi_399, hts _ wi_400⟩) (fun hPc hDc => th_preV (q0 := 0) rfl rfl (fun U hU hW => th_Xgo hX hS hnew hW hU) hPc hK hDc) rfl hl.1 rfl (Nat.le_of_ble_eq_true rfl) d_Lw_install_4 ⟨Nat.le_of_ble_eq_true rfl, Nat.le_of_ble_eq_true rfl⟩ ?_ ?_
        · intro S x ce hadm hW hcell hcls hvm
          have hpl : e.platform.magicAccessors = ({} : Platform).magicAccessors := by rw [hadm.platform]
          rw [htb]
          exact th_miss (CX := "java/lang/UnsupportedOperationException") (CY := "java/lang/IndexOutOfBoundsException") hpl hown (by rw [p03]; exact hts _ wi_306) (th_natom hX k8) (by rw [p03]; decide) rfl (by simp [covers, F0, p00, p01]) hvm (th_miss (CX := "java/lang/UnsupportedOperationException") (CY := "java/lang/IllegalStateException") hpl hown (by rw [p13]; exact hts _ wi_307) (th_natom hX k9) (by rw [p13]; decide) rfl (by simp [covers, F0, p10, p11]) hvm (th_hit (CX := "java/lang/UnsupportedOperationException") (CY := "java/lang/UnsupportedOperationException") hpl hown (by rw [p23]; exact hts _ wi_397) (th_atom rfl hX k6) (by rw [p23]; decide) rfl (by simp [covers, F0, p20, p21]) p22 hvm)) S hW hcell hcls
        · intro z x H locs hP hD hS
          refine lv_astore_n hx hb d_Lw_install_18 rfl hl (by decide) (lv' := [(3, .ref x), (0, .ref fs), (1, .int (nI j)), (2, .ref o)]) rfl (fun ls hl => ?_)
          refine lv_iconst (v := nI 3) hx hb d_Lw_install_19 (by decide) ?_
          have hP : va_P (dC, dI) vwCl (XC cI cF fs u (fx_Jg (stk, w, cnt, dn, ln, Fo, Fy, Fn, Fk, gc, ga, gm, gv, g, ma, mx, cs) z) ++ OC cJ o k) H := hP.sub [1, 2, 3, 4, 5, 6, 7, 8, 9, 10, 11, 12, 13, 14, 15, 16, 17, 18, 19, 20, 21, 22, 23, 24, 25, 26, 27, 28, 29, 30, 31, 32, 33, 34, 35, 36, 37, 38, 39, 40, 41, 42, 43, 44, 45, 46, 47, 48, 49, 50, 51, 52, 53, 0] rfl
          have hD : va_D B (XC cI cF fs u (fx_Jg (stk, w, cnt, dn, ln, Fo, Fy, Fn, Fk, gc, ga, gm, gv, g, ma, mx, cs) z) ++ OC cJ o k) := hD.sub [1, 2, 3, 4, 5, 6, 7, 8, 9, 10, 11, 12, 13, 14, 15, 16, 17, 18, 19, 20, 21, 22, 23, 24, 25, 26, 27, 28, 29, 30, 31, 32, 33, 34, 35, 36, 37, 38, 39, 40, 41, 42, 43, 44, 45, 46, 47, 48, 49, 50, 51, 52, 53, 0] (by decide) rfl
          exact fs_iret hx hb hr hlocks hAe hK hS d_Lw_install_20 (A, (fx_Jg (stk, w, cnt, dn, ln, Fo, Fy, Fn, Fk, gc, ga, gm, gv, g, ma, mx, cs) z), k) ⟨by simp only [fa_install, e4, hc0, hst, if_true, if_false], by simp only [fa_install, e4, hc0, hst, if_true, if_false], fx_cr_g hJ z, fun h => absurd h (by simp only [fa_install, e4, hc0, hst, if_true, if_false]; decide)⟩ hP hD
    · refine lv_aload_n hx hb d_Lw_install_0 rfl (lv_at hl 2 rfl) ?_
      refine lv_iconst (v := nI 0) hx hb d_Lw_install_1 (by decide) ?_
      refine lv_aload_n hx hb d_Lw_install_2 rfl (lv_at hl 0 rfl) ?_
      refine lv_iload_n hx hb d_Lw_install_3 rfl (lv_at hl 1 rfl) ?_
      obtain ⟨x0, x1, x2, htb, hx0, hx1, hx2⟩ : ∃ x0 x1 x2 : ExceptionTableEntry, c.exceptionTable.toList = [x0, x1, x2] ∧ (x0.startPc, x0.endPc, x0.handlerPc, x0.catchType) = (0, 9, 12, 13) ∧ (x1.startPc, x1.endPc, x1.handlerPc, x1.catchType) = (0, 9, 15, 15) ∧ (x2.startPc, x2.endPc, x2.handlerPc, x2.catchType) = (0, 9, 18, 20) := by
        generalize c.exceptionTable.toList = LL at htab
        rcases LL with _ | ⟨x0, _ | ⟨x1, _ | ⟨x2, _ | ⟨x3, LL⟩⟩⟩⟩
        · simp at htab
        · simp at htab
        · simp at htab
        · simp only [List.map_cons, List.map_nil, List.cons.injEq, and_true] at htab
          exact ⟨x0, x1, x2, rfl, htab.1, htab.2.1, htab.2.2⟩
        · simp at htab
      obtain ⟨p00, p01, p02, p03⟩ : x0.startPc = 0 ∧ x0.endPc = 9 ∧ x0.handlerPc = 12 ∧ x0.catchType = 13 := by simpa using hx0
      obtain ⟨p10, p11, p12, p13⟩ : x1.startPc = 0 ∧ x1.endPc = 9 ∧ x1.handlerPc = 15 ∧ x1.catchType = 15 := by simpa using hx1
      refine th_catch (S := Nat → Int32) (w1 := fun g' => XC cI cF fs u (fx_Jg (stk, w, cnt, dn, ln, Fo, Fy, Fn, Fk, gc, ga, gm, gv, g, ma, mx, cs) g')) (hpc := 15) (CX := "java/lang/IllegalStateException") (wc := XC cI cF fs u (stk, w, cnt, dn, ln, Fo, Fy, Fn, Fk, gc, ga, gm, gv, g, ma, mx, cs)) (wr := OC cJ o k) (C := R_Fs) (As := [.int (nI j)]) (rest := [.int (nI 0), .ref o]) (b := fs) hK [0, 1, 2, 3, 4, 5, 6, 7, 8, 9, 10, 11, 12, 13, 14, 15, 16, 17, 18, 19, 20, 21, 22, 23, 24, 25, 26, 27, 28, 29, 30, 31, 32, 33, 34, 35, 36, 37, 38, 39, 40, 41, 42, 43, 44, 45, 46, 47, 48, 49, 50, 51, 52] [53] hP hD hS hA rfl rfl rfl (by decide) rfl ⟨hx, hb, hml, hown, hts⟩ (x_Fs_installB fs u A (stk, w, cnt, dn, ln, Fo, Fy, Fn, Fk, gc, ga, gm, gv, g, ma, mx, cs) j _ s0 a0 htr k2 (fun zz h => hnew zz (va_free (wc := XC cI cF fs u (stk, w, cnt, dn, ln, Fo, Fy, Fn, Fk, gc, ga, gm, gv, g, ma, mx, cs)) hD hS hA [0, 1, 2, 3, 4, 5, 6, 7, 8, 9, 10, 11, 12, 13, 14, 15, 16, 17, 18, 19, 20, 21, 22, 23, 24, 25, 26, 27, 28, 29, 30, 31, 32, 33, 34, 35, 36, 37, 38, 39, 40, 41, 42, 43, 44, 45, 46, 47, 48, 49, 50, 51, 52] rfl zz h)) hI hJ hj hc0) (⟨callB_of 1 hts (fs_g kin_Fs_install) rfl rfl rfl (hts _ wi_1) (hts _ wi_398) (by decide +kernel) ⟨Nat.le_of_ble_eq_true rfl, Nat.le_of_ble_eq_true rfl⟩, hts _ wi_399, hts _ wi_400⟩) (fun hPc hDc => th_preV (q0 := 0) rfl rfl (fun U hU hW => th_Xgo hX hS hnew hW hU) hPc hK hDc) rfl hl.1 rfl (Nat.le_of_ble_eq_true rfl) d_Lw_install_4 ⟨Nat.le_of_ble_eq_true rfl, Nat.le_of_ble_eq_true rfl⟩ ?_ ?_
      · intro S x ce hadm hW hcell hcls hvm
        have hpl : e.platform.magicAccessors = ({} : Platform).magicAccessors := by rw [hadm.platform]
        rw [htb]
        exact th_miss (CX := "java/lang/IllegalStateException") (CY := "java/lang/IndexOutOfBoundsException") hpl hown (by rw [p03]; exact hts _ wi_306) (th_natom hX k7) (by rw [p03]; decide) rfl (by simp [covers, F0, p00, p01]) hvm (th_hit (CX := "java/lang/IllegalStateException") (CY := "java/lang/IllegalStateException") hpl hown (by rw [p13]; exact hts _ wi_307) (th_atom rfl hX k5) (by rw [p13]; decide) rfl (by simp [covers, F0, p10, p11]) p12 hvm) S hW hcell hcls
      · intro z x H locs hP hD hS
        refine lv_astore_n hx hb d_Lw_install_15 rfl hl (by decide) (lv' := [(3, .ref x), (0, .ref fs), (1, .int (nI j)), (2, .ref o)]) rfl (fun ls hl => ?_)
        refine lv_iconst (v := nI 2) hx hb d_Lw_install_16 (by decide) ?_
        have hP : va_P (dC, dI) vwCl (XC cI cF fs u (fx_Jg (stk, w, cnt, dn, ln, Fo, Fy, Fn, Fk, gc, ga, gm, gv, g, ma, mx, cs) z) ++ OC cJ o k) H := hP.sub [1, 2, 3, 4, 5, 6, 7, 8, 9, 10, 11, 12, 13, 14, 15, 16, 17, 18, 19, 20, 21, 22, 23, 24, 25, 26, 27, 28, 29, 30, 31, 32, 33, 34, 35, 36, 37, 38, 39, 40, 41, 42, 43, 44, 45, 46, 47, 48, 49, 50, 51, 52, 53, 0] rfl
        have hD : va_D B (XC cI cF fs u (fx_Jg (stk, w, cnt, dn, ln, Fo, Fy, Fn, Fk, gc, ga, gm, gv, g, ma, mx, cs) z) ++ OC cJ o k) := hD.sub [1, 2, 3, 4, 5, 6, 7, 8, 9, 10, 11, 12, 13, 14, 15, 16, 17, 18, 19, 20, 21, 22, 23, 24, 25, 26, 27, 28, 29, 30, 31, 32, 33, 34, 35, 36, 37, 38, 39, 40, 41, 42, 43, 44, 45, 46, 47, 48, 49, 50, 51, 52, 53, 0] (by decide) rfl
        exact fs_iret hx hb hr hlocks hAe hK hS d_Lw_install_17 (A, (fx_Jg (stk, w, cnt, dn, ln, Fo, Fy, Fn, Fk, gc, ga, gm, gv, g, ma, mx, cs) z), k) ⟨by simp only [fa_install, e4, hc0, if_false], by simp only [fa_install, e4, hc0, if_false], fx_cr_g hJ z, fun h => absurd h (by simp only [fa_install, e4, hc0, if_false]; decide)⟩ hP hD
end CT
