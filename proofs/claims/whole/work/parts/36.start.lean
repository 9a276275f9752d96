theorem lw_h0 {ic : Nat} {X : String} {a0 : Array Value} {s : State} (hd : (Bundle.ownAtoms0 R_Fs ic X th_names).all (fun a => decide (a ∈ lw_tbl) || (decide (a = .isRef (.static "java/lang/Throwable" "UNASSIGNED_STACK" "[Ljava/lang/StackTraceElement;")) || decide (a = .isRef (.static "java/lang/Throwable" "SUPPRESSED_SENTINEL" "Ljava/util/List;")))) = true) (hts : ∀ w ∈ lw_tbl, w.before a0 s = true) (h1 : (Cond.isRef (.static "java/lang/Throwable" "UNASSIGNED_STACK" "[Ljava/lang/StackTraceElement;")).before a0 s = true) (h2 : (Cond.isRef (.static "java/lang/Throwable" "SUPPRESSED_SENTINEL" "Ljava/util/List;")).before a0 s = true) : ∀ a ∈ Bundle.ownAtoms0 R_Fs ic X th_names, a.before a0 s = true := by
  intro a ha
  have h := List.all_eq_true.mp hd a ha
  simp only [Bool.or_eq_true, decide_eq_true_eq] at h
  rcases h with h | rfl | rfl
  · exact hts a h
  · exact h1
  · exact h2
theorem lw_law {a0 : Array Value} {s : State} (hts : ∀ w ∈ lw_tbl, w.before a0 s = true) (hgv : (Jvm.Cond.and given_1 narrow_1).before a0 s = true) : th_law a0 s := by
  have hs := flat_of_before _ hgv
  have h1 : (Cond.isRef (.static "java/lang/Throwable" "UNASSIGNED_STACK" "[Ljava/lang/StackTraceElement;")).before a0 s = true := hs _ (by decide +kernel)
  have h2 : (Cond.isRef (.static "java/lang/Throwable" "SUPPRESSED_SENTINEL" "Ljava/util/List;")).before a0 s = true := hs _ (by decide +kernel)
  exact ⟨lw_h0 (by decide +kernel) hts h1 h2, lw_h0 (by decide +kernel) hts h1 h2, lw_h0 (by decide +kernel) hts h1 h2, hts _ (by decide +kernel), hts _ (by decide +kernel), hts _ (by decide +kernel), hs _ (by decide +kernel), hs _ (by decide +kernel), hs _ (by decide +kernel)⟩
theorem lw_nx {a0 : Array Value} {s : State} (hts : ∀ w ∈ lw_tbl, w.before a0 s = true) : fs_NX s := by
  have hT : ∀ w ∈ tables_1, w.before a0 s = true := fun w h => hts w (List.mem_append_right _ h)
  exact ⟨va_Nw.of rfl (hT _ (List.mem_of_getElem? (i := 26) (by decide +kernel))), va_Nw.of rfl (hT _ (List.mem_of_getElem? (i := 64) (by decide +kernel))), va_Nw.of rfl (hT _ (List.mem_of_getElem? (i := 86) (by decide +kernel))), va_Nw.of rfl (hT _ (List.mem_of_getElem? (i := 96) (by decide +kernel))), va_AO.of (hT _ (List.mem_of_getElem? (i := 24) (by decide +kernel)))⟩
theorem lw_arr {a0 : Array Value} {s : State} {ty : FieldType} (h : (Cond.arrayClass ty).before a0 s = true) : ∃ cA : ClassId, ArrOfT s cA ty ∧ s.vm.findClass ("[" ++ ty.toString) = some cA := by
  obtain ⟨cA, kA, comp, h1, h2, h3⟩ := Cond.arrayClass_spec (show (Cond.arrayClass ty).holds a0 s none s [] = true from h)
  exact ⟨cA, fun n z => ⟨fun k h => (by cases h), kA, h2, comp, h3⟩, h1⟩
theorem lw_K {a0 : Array Value} {s : State} (htb : ∀ w ∈ lw_tbl, w.before a0 s = true) (hts : ∀ w ∈ fs_T, w.before a0 s = true) : ∃ (dC : Nat → ClassId) (dI : Nat → Nat → Nat) (cI cZ cJ cF : ClassId), va_K (dC, dI) vwCl (fs_tys cI cZ cJ cF) s := by
  obtain ⟨c0, i0, h0⟩ := u_known (C := R_Ck) (T := T_Ck) (N := 1) hts uin_Ck (hts _ wi_85)
  obtain ⟨c1, i1, h1⟩ := u_known (C := R_Fi) (T := T_Fi) (N := 5) hts uin_Fi (hts _ wi_25)
  obtain ⟨c2, i2, h2⟩ := u_known (C := R_Mc) (T := T_Mc) (N := 4) hts uin_Mc (hts _ wi_95)
  obtain ⟨c3, i3, h3⟩ := u_known (C := R_Ru) (T := T_Ru) (N := 5) hts uin_Ru (hts _ wi_63)
  obtain ⟨c4, i4, h4⟩ := u_known (C := R_Fs) (T := T_Fs) (N := 7) hts uin_Fs (hts _ wi_16)
  obtain ⟨c5, i5, h5⟩ := u_known (C := R_Mo) (T := T_Mo) (N := 16) hts uin_Mo (hts _ wi_425)
  obtain ⟨cI, a1, a2⟩ := lw_arr (hts _ wi_61)
  obtain ⟨cZ, b1, b2⟩ := lw_arr (hts _ wi_479)
  obtain ⟨cJ, e1, e2⟩ := lw_arr (hts _ wi_582)
  obtain ⟨comp, cF, kF, f1, -, f3, f4, f5⟩ := Cond.arrayOver_spec (show (Cond.arrayOver (.object "FilterStack$Filter")).holds a0 s none s [] = true from htb _ (List.mem_append_right _ (List.mem_of_getElem? (i := 24) (by decide +kernel))))
  refine ⟨fun z => [c0, c1, c2, c3, c4, c5].getD z 0, fun z => [i0, i1, i2, i3, i4, i5].getD z (fun _ => 0), cI, cZ, cJ, cF, fun c q hq => ?_, fun k q hq => ?_⟩
  · rcases c with _ | _ | _ | _ | _ | _ | c
    · cases hq; exact h0
    · cases hq; exact h1
    · cases hq; exact h2
    · cases hq; exact h3
    · cases hq; exact h4
    · cases hq; exact h5
    · simp [vwCl] at hq
  · rcases k with _ | _ | _ | _ | k
    · cases hq; exact ⟨a1, a2⟩
    · cases hq; exact ⟨b1, b2⟩
    · cases hq; exact ⟨e1, e2⟩
    · cases hq; exact ⟨fun n z => ⟨fun k h => (by cases h), kF, f3, comp, f4⟩, kF, comp, f3, f4, f1, f5⟩
    · simp [fs_tys] at hq
theorem lw_NXgo {s U : State} (h : fs_NX s) (hW : s.WarmedH U.vm) : fs_NX U := by
  obtain ⟨h1, h2, h3, h4, h5⟩ := h
  exact ⟨va_Nw.warmM hW h1, va_Nw.warmM hW h2, va_Nw.warmM hW h3, va_Nw.warmM hW h4, va_AO.moved hW.alike h5⟩
theorem lw_preX {D : va_G} {cl : List vw_C} {tys : List (ClassId × FieldType)} {w : va_W} {av : List Value} {H : Heap} {s : State} {A : Nat → Prop} (hN : fs_NX s) (hP : va_P D cl w H) (hK : va_K D cl tys s) (hD : va_D A w) : PreS s H (va_Pc av (fun U => fs_B D cl tys w H.size U ∧ fs_NX U)) av :=
  ⟨fun a U g mk q => ⟨q.1, (fs_blind (av := av) a U g mk ⟨q.1, q.2.1⟩).2, q.2.2⟩, fun U hU hW => ⟨rfl, ⟨by rw [hU], by rw [hU]; exact hP, va_K.moved hW.alike hK, hD.weaken (fun _ _ _ _ => trivial)⟩, lw_NXgo hN hW⟩⟩
set_option maxHeartbeats 4000000 in
set_option maxRecDepth 100000 in
/-- YOUR PART: from the entry, for every script of at most 3072 ints, the law comes to its end with true -/
theorem whole_start {p : Program} {e : Env} {s : State} {m : MethodId} {below : List Frame} {meth : Method} {c : Code} (l : Launch) (htr : l.stackTraces = false) {b L : Nat} {xs : Nat → Int32} (hL : L ≤ 3072) (C0 : lw_At p s m meth c b L xs) : W p l e room_1 s m #[Value.ref b] below meth c s.heap [] 0 0 (lw_Z below #[Value.ref b] s) (entryFrame m ([Value.ref b] : List Value).toArray 7) := by
  obtain ⟨hx, hb, hr, hml, hown, htb, hXs, hbl, hlocks, hgv⟩ := C0
  have hb : c.code = b_Lw_law := hb
  have hown : s.vm.findClass R_Lw = some m.cls := hown
  have hts : ∀ w ∈ fs_T, w.before #[Value.ref b] s = true := fun w h => htb w (List.mem_filter.mp h).1
  have hk0 := lw_law htb hgv
  have hNX := lw_nx htb
  obtain ⟨dC, dI, cI, cZ, cJ, cF, hK⟩ := lw_K htb hts
  have hl := lv_entry [Value.ref b] (n := 7) (Nat.le_of_ble_eq_true rfl)
  rw [lg_entry_eq]
  have hA : ∀ q, s.heap.size ≤ q → (fun q => s.heap.size ≤ q) q := fun q h => h
  have hP : va_P (dC, dI) vwCl [] s.heap := fun k q h => by simp at h
  have hD : va_D (fun q => s.heap.size ≤ q) [] := ⟨fun i j p q h => by simp at h, fun k q h => by simp at h⟩
  have hS : va_S (fun q => s.heap.size ≤ q) s.heap s.heap [] := va_S.rf
  generalize (lg_sl [Value.ref b] ++ List.replicate (7 - (lg_sl [Value.ref b]).length) Slot.unset).toArray = ls at hl ⊢
  have hl : lv_has ls 7 [(0, .ref b)] := hl
  refine va_new (ci := 4) (fs := [.null, .null, .int 0, .null, .null, .null, .null]) (C := R_Fs) (T := T_Fs) (N := 7) hx hb hts uin_Fs t_Fs ok_Fs hown (hts _ wi_15) (hts _ wi_16) (hts _ wi_1) hK hP hD hS hA rfl (fun j hj => by rcases (show j = 0 ∨ j = 1 ∨ j = 2 ∨ j = 3 ∨ j = 4 ∨ j = 5 ∨ j = 6 from by omega) with rfl | rfl | rfl | rfl | rfl | rfl | rfl <;> rfl) (Nat.le_of_ble_eq_true rfl) (Nat.le_of_ble_eq_true rfl) d_Lw_law_0 (fun fs H hP hD hS => ?_)
  refine lv_dup hx hb d_Lw_law_3 rfl ?_
  refine fs_callv (wc := [(fs, .inr (4, [.null, .null, .int 0, .null, .null, .null, .null]))]) (wr := []) [0] [] hP hD hK hS hA rfl rfl rfl (by decide) (fun hPc hDc => va_runI (As := []) (rest := [.ref fs]) ⟨hx, hb, hml, hown, hts⟩ (c_Fs_init fs _) (⟨callB_of 0 hts (fs_g kin_Fs_init) rfl rfl rfl (hts _ wi_1) (hts _ wi_17) (by decide +kernel) ⟨Nat.le_of_ble_eq_true rfl, Nat.le_of_ble_eq_true rfl⟩, rfl, hts _ wi_18⟩) (lw_preX hNX hPc hK hDc) rfl rfl hl.1 rfl (lv_room (Nat.le_of_ble_eq_true rfl)) d_Lw_law_4 ⟨Nat.le_of_ble_eq_true rfl, Nat.le_of_ble_eq_true rfl⟩) rfl (fun u H locs _ hP hD hS => ?_)
  have hP : va_P (dC, dI) vwCl (XC cI cF fs u (0, (fun _ => nI 0), 0, nI 0, (fun _ => 0), (fun _ _ => nI 0), (fun _ _ => nI 0), (fun _ _ => nI 0), (fun _ _ => nI 0), (fun _ => nI 0), (fun _ => nI 0), (fun _ => nI 0), (fun _ => nI 0), (fun _ => nI 0), nI 0, nI 0, (fun _ => nI 0))) H := hP
  have hD : va_D (fun q => s.heap.size ≤ q) (XC cI cF fs u (0, (fun _ => nI 0), 0, nI 0, (fun _ => 0), (fun _ _ => nI 0), (fun _ _ => nI 0), (fun _ _ => nI 0), (fun _ _ => nI 0), (fun _ => nI 0), (fun _ => nI 0), (fun _ => nI 0), (fun _ => nI 0), (fun _ => nI 0), nI 0, nI 0, (fun _ => nI 0))) := hD
  refine lv_astore_n hx hb d_Lw_law_7 rfl hl (by decide) (lv' := [(1, .ref fs), (0, .ref b)]) rfl (fun ls hl => ?_)
  refine va_new (ci := 5) (fs := [.null, .null, .null, .null, .null, .int 0, .null, .null, .null, .null, .null, .null, .null, .int 0, .int 0, .int 0]) (C := R_Mo) (T := T_Mo) (N := 16) hx hb hts uin_Mo t_Mo ok_Mo hown (hts _ wi_424) (hts _ wi_425) (hts _ wi_6) hK hP hD hS hA rfl (fun j hj => by rcases (show j = 0 ∨ j = 1 ∨ j = 2 ∨ j = 3 ∨ j = 4 ∨ j = 5 ∨ j = 6 ∨ j = 7 ∨ j = 8 ∨ j = 9 ∨ j = 10 ∨ j = 11 ∨ j = 12 ∨ j = 13 ∨ j = 14 ∨ j = 15 from by omega) with rfl | rfl | rfl | rfl | rfl | rfl | rfl | rfl | rfl | rfl | rfl | rfl | rfl | rfl | rfl | rfl <;> rfl) (Nat.le_of_ble_eq_true rfl) (Nat.le_of_ble_eq_true rfl) d_Lw_law_8 (fun mo H hP hD hS => ?_)
  refine lv_dup hx hb d_Lw_law_11 rfl ?_
  refine fs_callv (wc := [(mo, .inr (5, [.null, .null, .null, .null, .null, .int 0, .null, .null, .null, .null, .null, .null, .null, .int 0, .int 0, .int 0]))]) (wr := XC cI cF fs u (0, (fun _ => nI 0), 0, nI 0, (fun _ => 0), (fun _ _ => nI 0), (fun _ _ => nI 0), (fun _ _ => nI 0), (fun _ _ => nI 0), (fun _ => nI 0), (fun _ => nI 0), (fun _ => nI 0), (fun _ => nI 0), (fun _ => nI 0), nI 0, nI 0, (fun _ => nI 0))) [53] [0, 1, 2, 3, 4, 5, 6, 7, 8, 9, 10, 11, 12, 13, 14, 15, 16, 17, 18, 19, 20, 21, 22, 23, 24, 25, 26, 27, 28, 29, 30, 31, 32, 33, 34, 35, 36, 37, 38, 39, 40, 41, 42, 43, 44, 45, 46, 47, 48, 49, 50, 51, 52] hP hD hK hS hA rfl rfl rfl (by decide) (fun hPc hDc => va_runI (As := []) (rest := [.ref mo]) ⟨hx, hb, hml, hown, hts⟩ (c_Mo_init mo _) (⟨callB_of 0 hts (fs_g kin_Mo_init) rfl rfl rfl (hts _ wi_6) (hts _ wi_426) (by decide +kernel) ⟨Nat.le_of_ble_eq_true rfl, Nat.le_of_ble_eq_true rfl⟩, rfl, hts _ wi_427⟩) (fs_preS hPc hK hDc) rfl rfl hl.1 rfl (lv_room (Nat.le_of_ble_eq_true rfl)) d_Lw_law_12 ⟨Nat.le_of_ble_eq_true rfl, Nat.le_of_ble_eq_true rfl⟩) rfl (fun v H locs _ hP hD hS => ?_)
  have hP : va_P (dC, dI) vwCl (XC cI cF fs u (0, (fun _ => nI 0), 0, nI 0, (fun _ => 0), (fun _ _ => nI 0), (fun _ _ => nI 0), (fun _ _ => nI 0), (fun _ _ => nI 0), (fun _ => nI 0), (fun _ => nI 0), (fun _ => nI 0), (fun _ => nI 0), (fun _ => nI 0), nI 0, nI 0, (fun _ => nI 0)) ++ MC cI cZ mo v (0, (fun _ => nI 0), 0, nI 0, nI 0, (fun _ => nI 0), (fun _ => nI 0), (fun _ => nI 0), (fun _ => nI 0), (fun _ => nI 0), (fun _ => nI 0), (fun _ => nI 0), (fun _ => nI 0), (fun _ => nI 0), (fun _ => nI 0), (fun _ => nI 0))) H := hP
  have hD : va_D (fun q => s.heap.size ≤ q) (XC cI cF fs u (0, (fun _ => nI 0), 0, nI 0, (fun _ => 0), (fun _ _ => nI 0), (fun _ _ => nI 0), (fun _ _ => nI 0), (fun _ _ => nI 0), (fun _ => nI 0), (fun _ => nI 0), (fun _ => nI 0), (fun _ => nI 0), (fun _ => nI 0), nI 0, nI 0, (fun _ => nI 0)) ++ MC cI cZ mo v (0, (fun _ => nI 0), 0, nI 0, nI 0, (fun _ => nI 0), (fun _ => nI 0), (fun _ => nI 0), (fun _ => nI 0), (fun _ => nI 0), (fun _ => nI 0), (fun _ => nI 0), (fun _ => nI 0), (fun _ => nI 0), (fun _ => nI 0), (fun _ => nI 0))) := hD
  refine lv_astore_n hx hb d_Lw_law_15 rfl hl (by decide) (lv' := [(2, .ref mo), (1, .ref fs), (0, .ref b)]) rfl (fun ls hl => ?_)
  refine lv_iconst (v := nI 1) hx hb d_Lw_law_16 (by decide) ?_
  refine fs_newa (atype := .long) (ty := .long) (a0 := (1, .inr (.inl (fun _ => 0)))) hx hb (hts _ wi_582) rfl hK hP hD hS hA 2 rfl fs_uJ (fun _ => rfl) (by decide) (by decide) (by decide) (Nat.le_of_ble_eq_true rfl) (Nat.le_of_ble_eq_true rfl) d_Lw_law_17 (fun o H hP hD hS => ?_)
  have hP : va_P (dC, dI) vwCl (XC cI cF fs u (0, (fun _ => nI 0), 0, nI 0, (fun _ => 0), (fun _ _ => nI 0), (fun _ _ => nI 0), (fun _ _ => nI 0), (fun _ _ => nI 0), (fun _ => nI 0), (fun _ => nI 0), (fun _ => nI 0), (fun _ => nI 0), (fun _ => nI 0), nI 0, nI 0, (fun _ => nI 0)) ++ (MC cI cZ mo v (0, (fun _ => nI 0), 0, nI 0, nI 0, (fun _ => nI 0), (fun _ => nI 0), (fun _ => nI 0), (fun _ => nI 0), (fun _ => nI 0), (fun _ => nI 0), (fun _ => nI 0), (fun _ => nI 0), (fun _ => nI 0), (fun _ => nI 0), (fun _ => nI 0)) ++ OC cJ o (fun _ => 0))) H := by rw [List.append_assoc] at hP; exact hP
  have hD : va_D (fun q => s.heap.size ≤ q) (XC cI cF fs u (0, (fun _ => nI 0), 0, nI 0, (fun _ => 0), (fun _ _ => nI 0), (fun _ _ => nI 0), (fun _ _ => nI 0), (fun _ _ => nI 0), (fun _ => nI 0), (fun _ => nI 0), (fun _ => nI 0), (fun _ => nI 0), (fun _ => nI 0), nI 0, nI 0, (fun _ => nI 0)) ++ (MC cI cZ mo v (0, (fun _ => nI 0), 0, nI 0, nI 0, (fun _ => nI 0), (fun _ => nI 0), (fun _ => nI 0), (fun _ => nI 0), (fun _ => nI 0), (fun _ => nI 0), (fun _ => nI 0), (fun _ => nI 0), (fun _ => nI 0), (fun _ => nI 0), (fun _ => nI 0)) ++ OC cJ o (fun _ => 0))) := by rw [List.append_assoc] at hD; exact hD
  refine lv_astore_n hx hb d_Lw_law_19 rfl hl (by decide) (lv' := [(3, .ref o), (2, .ref mo), (1, .ref fs), (0, .ref b)]) rfl (fun ls hl => ?_)
  refine lv_iconst (v := nI 0) hx hb d_Lw_law_20 (by decide) ?_
  refine lv_istore hx hb d_Lw_law_21 hl (by decide) (lv' := [(4, .int (nI 0)), (3, .ref o), (2, .ref mo), (1, .ref fs), (0, .ref b)]) rfl (fun ls hl => ?_)
  refine W.widen (k := 100 + 0) (n := 3000 + 0) (by decide) (by decide) ?_
  have hI0 : fx_AI ((fun _ => []), 0, (fun _ => nI 0), [], nI 0) := ⟨fun _ => fx_ok_nil, Nat.zero_le 4, fun t ht => absurd ht (Nat.not_lt_zero t), Nat.zero_le 8, fun q hq => by cases hq⟩
  exact law_loop hL hx hb hr hml hown hts hXs hbl hlocks htr hk0 hK (L + 7) 0 ((fun _ => []), 0, (fun _ => nI 0), [], nI 0) (0, (fun _ => nI 0), 0, nI 0, (fun _ => 0), (fun _ _ => nI 0), (fun _ _ => nI 0), (fun _ _ => nI 0), (fun _ _ => nI 0), (fun _ => nI 0), (fun _ => nI 0), (fun _ => nI 0), (fun _ => nI 0), (fun _ => nI 0), nI 0, nI 0, (fun _ => nI 0)) (0, (fun _ => nI 0), 0, nI 0, nI 0, (fun _ => nI 0), (fun _ => nI 0), (fun _ => nI 0), (fun _ => nI 0), (fun _ => nI 0), (fun _ => nI 0), (fun _ => nI 0), (fun _ => nI 0), (fun _ => nI 0), (fun _ => nI 0), (fun _ => nI 0)) (fun _ => 0) _ _ _ (by omega) (by omega) hI0 (fx_cr_mk rfl rfl (fun f _ => fx_rep_nil _ _ _ _) (fx_rrep_nil _ _ _ _)) (fx_mr_mk rfl (fun f _ => ⟨rfl, fx_rep_nil _ _ _ _⟩) (fx_rrep_nil _ _ _ _)) hP hD hS (lv_sub hl [4, 3, 2, 1, 0] rfl)
set_option maxHeartbeats 4000000 in
theorem lw_walk (l : Launch) (htr : l.stackTraces = false) (b : Addr) (xs : List Int32) : MetFree l x (headSpec (Jvm.Cond.code x code maxLocals ret :: tables_1) room_1) (lw_P b xs) (fun _ _ _ _ _ => True) lw_Q := by
  refine MetFree.of_bodyS (code := code) (maxLocals := maxLocals) (ret := ret) (by decide) ?_ ?_
  · intro args s m h hn
    obtain ⟨meth, c, h1, h2, h3, h4, h5, h6, -, -⟩ := Cond.code_spec hn (atoms_spec (ws := Jvm.Cond.code x code maxLocals ret :: tables_1) h _ List.mem_cons_self)
    exact ⟨meth, c, h1, h2, h3, h4, h5, h6⟩
  · intro p e s m args below meth c s₁ B hml0 hP _
    obtain ⟨rfl, hx, hbd, hgv⟩ := hP
    obtain ⟨scr, harrAt, hlist, hof, hsmall⟩ := hx
    obtain ⟨hcb, hkn, -, -⟩ := State.arrayAt?_spec harrAt
    have hown : s.vm.findClass R_law = some m.cls := findClass_of_methodNamed B.named
    have hts0 : ∀ c ∈ (Jvm.Cond.code x code maxLocals ret :: tables_1), c.before #[Value.ref b] s = true := atoms_spec (ws := Jvm.Cond.code x code maxLocals ret :: tables_1) B.pre
    have hts : ∀ w ∈ lw_tbl, w.before #[Value.ref b] s = true := k2_hts_sels lw_privs (fun w hw => hts0 w (List.mem_cons_of_mem _ hw)) lw_privs_ok
    have hml : c.maxLocals = 7 := B.maxLocals_eq (hts0 _ List.mem_cons_self)
    have X₀ : Stand p l e room_1 s m #[Value.ref b] below meth c s₁ [] 0 0 := Stand.of_body B
    have hh0 : s₁.heap = s.heap := by rw [B.state]; rfl
    have hsz : scr.slots.size = xs.length := by rw [← Array.length_toList, hlist, List.length_map]
    have hval : ∀ j : Nat, j < xs.length → scr.slots[j]? = some (.int (xs.getD j 0)) := fun j hj => by
      rw [← Array.getElem?_toList, hlist]
      simp [hj]
    have hbl : b < s.heap.size := (Array.getElem?_eq_some_iff.mp hcb).1
    have hX : va_X b xs.length (fun j => xs.getD j 0) s s.heap := ⟨scr, hcb, hof, hkn, hsz, hval⟩
    have K : W p l e room_1 s m #[Value.ref b] below meth c s₁.heap [] 0 0 (lw_Z below #[Value.ref b] s) (entryFrame m ([Value.ref b] : List Value).toArray 7) := by
      rw [hh0]
      exact whole_start l htr hbd ⟨B.exec, B.bytes, B.returns, hml, hown, hts, hX, hbl, B.notSynchronized, hgv⟩
    obtain ⟨t, a1, o, b1, b2, b3⟩ := K s₁ rfl X₀
    exact ⟨t, o, a1, b1, b2, b3⟩
theorem lw_pre_spec {args : Array Value} {s : State} (h : (Jvm.Cond.and given_1 narrow_1).before args s = true) (hr : rest_1_c.before args s = true) : ∃ (b : Addr) (xs : List Int32), lw_P b xs args s := by
  have hs := flat_of_before _ h
  have hq := flat_of_before _ hr
  have hc : (Cond.count 1).before args s = true := hs _ (by decide +kernel)
  have harr : (Cond.arrayOf (.arg 0) .int).before args s = true := hs _ (by decide +kernel)
  have hle : (Cond.le (.length (.arg 0)) (.int 3072)).before args s = true := hs _ (by decide +kernel)
  have hlen : (Cond.isInt (.length (.arg 0))).before args s = true := hq _ (by decide +kernel)
  have hall : (Cond.all (.arg 0) (.isInt (.elem (.arg 0) (.index 0)))).before args s = true := hq _ (by decide +kernel)
  obtain ⟨b, xs, hb, hx⟩ := State.ints_of_pre rfl harr hlen hall
  have hsm : xs.length < 2 ^ 31 := hx.choose_spec.2.2.2
  have hev : (Term.length (.arg 0)).eval args s none [] s = some (.int xs.length.toInt32) := hx.length_eval hb
  have hv := Cond.le_ints hev (show (Term.int 3072).eval args s none [] s = some (.int 3072) from rfl)
  have hd : xs.length.toInt32 ≤ 3072 := by
    simpa [Cond.before, Cond.holds, hv] using hle
  have hN : xs.length ≤ 3072 := (Int32.ofNat_le_ofNat hsm (by decide)).mp (show Int32.ofNat xs.length ≤ Int32.ofNat 3072 from hd)
  exact ⟨b, xs, Cond.one_arg hc (show args[0]? = some (.ref b) from hb), hx, hN, h⟩
theorem lw_comes (l : Launch) (htr : l.stackTraces = false) : Comes l x (Jvm.Cond.code x code maxLocals ret :: tables_1) room_1 (fun tb e args s => Calls_1 tb e args s ∧ rest_1 tb e args s ∧ Pre_1 tb e args s)
    (fun _ _ args s o t => lw_Q args s o t) := by
  intro p e ha hc hk s m args below hf hfit hheap happ hpre
  obtain ⟨b, xs, hP⟩ := lw_pre_spec hpre.2.2 hpre.2.1
  obtain ⟨k, o, h1, h2, h3, hQ⟩ := lw_walk l htr b xs p e ha hc hk s m args below hf ((Spec.applies_iff_loose hf).mp happ).1 hP trivial
  exact ⟨k, o, h1, h2, h3, hQ⟩
theorem lw_frame {s t : State} {o : Outcome} {args : Array Value} (h : Framed s o t [] 601024 7293034) :
    Framed s o t (fieldLocs frame_1_writes args s ++ arrayLocs frame_1_arrays args s ++ staticLocs frame_1_statics s) 601024 7293034 := h
theorem lw_limb (L : Cond) (hL : ∀ (args : Array Value) (s t : State), L.after args s (.returned (some (.int 1))) t = true) :
    ArmFor flags0 classFile x code maxLocals ret World_1 tables_1 room_1 Calls_1 rest_1 Pre_1
      (fun tb e a s o t => postC L tb e a s o t ∧ Framed s o t (fieldLocs frame_1_writes a s ++ arrayLocs frame_1_arrays a s ++ staticLocs frame_1_statics s) 601024 7293034) := by
  intro l hfl _ _ p e ha hc hk s m args below hf hfit hheap happ hpre
  obtain ⟨k, o, h1, h2, h3, rfl, hF⟩ := lw_comes l (by unfold Launch.stackTraces; rw [hfl]; decide) p e ha hc hk s m args below hf hfit hheap happ hpre
  exact ⟨k, _, h1, h2, h3, hL args s _, lw_frame hF⟩
