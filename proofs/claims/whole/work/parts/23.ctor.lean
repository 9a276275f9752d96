section CT
variable {l : Launch} {dC : Nat → ClassId} {dI : Nat → Nat → Nat} {cI cZ cJ cF : ClassId}
theorem fs_uI {s : State} : ∀ x y : ClassId, va_RA s x .int → va_RA s y .int → x = y := fun x y h1 h2 => by
  have e1 : s.vm.findClass ("[" ++ (FieldType.int).toString) = some x := h1
  have e2 : s.vm.findClass ("[" ++ (FieldType.int).toString) = some y := h2
  exact Option.some.inj (e1.symm.trans e2)
theorem fs_uZ {s : State} : ∀ x y : ClassId, va_RA s x .boolean → va_RA s y .boolean → x = y := fun x y h1 h2 => by
  have e1 : s.vm.findClass ("[" ++ (FieldType.boolean).toString) = some x := h1
  have e2 : s.vm.findClass ("[" ++ (FieldType.boolean).toString) = some y := h2
  exact Option.some.inj (e1.symm.trans e2)
theorem fs_uJ {s : State} : ∀ x y : ClassId, va_RA s x .long → va_RA s y .long → x = y := fun x y h1 h2 => by
  have e1 : s.vm.findClass ("[" ++ (FieldType.long).toString) = some x := h1
  have e2 : s.vm.findClass ("[" ++ (FieldType.long).toString) = some y := h2
  exact Option.some.inj (e1.symm.trans e2)
theorem d_Fi_init_0 : decode b_Fi_init 0 = .ok (.aload_n 0, 1) := by decide +kernel
theorem d_Fi_init_1 : decode b_Fi_init 1 = .ok (.invokespecial 3, 3) := by decide +kernel
theorem d_Fi_init_4 : decode b_Fi_init 4 = .ok (.aload_n 0, 1) := by decide +kernel
theorem d_Fi_init_5 : decode b_Fi_init 5 = .ok (.bipush 40, 2) := by decide +kernel
theorem d_Fi_init_7 : decode b_Fi_init 7 = .ok (.newarray .int, 2) := by decide +kernel
theorem d_Fi_init_9 : decode b_Fi_init 9 = .ok (.putfield 9, 3) := by decide +kernel
theorem d_Fi_init_12 : decode b_Fi_init 12 = .ok (.aload_n 0, 1) := by decide +kernel
theorem d_Fi_init_13 : decode b_Fi_init 13 = .ok (.bipush 40, 2) := by decide +kernel
theorem d_Fi_init_15 : decode b_Fi_init 15 = .ok (.newarray .int, 2) := by decide +kernel
theorem d_Fi_init_17 : decode b_Fi_init 17 = .ok (.putfield 15, 3) := by decide +kernel
theorem d_Fi_init_20 : decode b_Fi_init 20 = .ok (.aload_n 0, 1) := by decide +kernel
theorem d_Fi_init_21 : decode b_Fi_init 21 = .ok (.bipush 40, 2) := by decide +kernel
theorem d_Fi_init_23 : decode b_Fi_init 23 = .ok (.newarray .int, 2) := by decide +kernel
theorem d_Fi_init_25 : decode b_Fi_init 25 = .ok (.putfield 18, 3) := by decide +kernel
theorem d_Fi_init_28 : decode b_Fi_init 28 = .ok (.aload_n 0, 1) := by decide +kernel
theorem d_Fi_init_29 : decode b_Fi_init 29 = .ok (.bipush 40, 2) := by decide +kernel
theorem d_Fi_init_31 : decode b_Fi_init 31 = .ok (.newarray .int, 2) := by decide +kernel
theorem d_Fi_init_33 : decode b_Fi_init 33 = .ok (.putfield 21, 3) := by decide +kernel
theorem d_Fi_init_36 : decode b_Fi_init 36 = .ok (.aload_n 0, 1) := by decide +kernel
theorem d_Fi_init_37 : decode b_Fi_init 37 = .ok (.iconst 0, 1) := by decide +kernel
theorem d_Fi_init_38 : decode b_Fi_init 38 = .ok (.putfield 24, 3) := by decide +kernel
theorem d_Fi_init_41 : decode b_Fi_init 41 = .ok (.return_, 1) := by decide +kernel
set_option maxHeartbeats 4000000 in
set_option maxRecDepth 100000 in
theorem c_Fi_init (q : Nat) (sz : Nat)  : fs_V l y_Fi_init (k_Fi_init :: fs_T) { frames := 1, cells := 4, slots := 160, locals := 12 } (dC, dI) vwCl (fs_tys cI cZ cJ cF) [.ref q] [(q, .inr (1, [.null, .null, .null, .null, .int 0]))] sz (S := Nat × Nat × Nat × Nat) (fun _ => True) (fun u => [(q, .inr (1, [.ref u.1, .ref u.2.1, .ref u.2.2.1, .ref u.2.2.2, .int (nI 0)])), (u.1, .inl (cI, 40, .inl (fun _ => nI 0))), (u.2.1, .inl (cI, 40, .inl (fun _ => nI 0))), (u.2.2.1, .inl (cI, 40, .inl (fun _ => nI 0))), (u.2.2.2, .inl (cI, 40, .inl (fun _ => nI 0)))]) 4 160 := by
  refine fs_head (by decide) (Nat.le_of_ble_eq_true rfl) ?_
  intro p e s m below meth c A ls hx hb hr hts hown hlocks hin hml hK hP hD hS hA hAe hsz hl
  have hl : lv_has ls 1 [(0, .ref q)] := hl
  have hown : s.vm.findClass R_Fi = some m.cls := hown
  refine lv_aload_n hx hb d_Fi_init_0 rfl (lv_at hl 0 rfl) ?_
  refine W.objInit hx hb hown (hts _ wi_29) (hts _ wi_21) (hts _ wi_22) rfl (by rw [hml]; exact hl.1) rfl d_Fi_init_1 (Nat.le_of_ble_eq_true rfl) (Nat.le_of_ble_eq_true rfl) ?_
  refine W.eq (g2 := F0 m 4 ls []) rfl ?_
  refine lv_aload_n hx hb d_Fi_init_4 rfl (lv_at hl 0 rfl) ?_
  refine lv_bipush (v := nI 40) hx hb d_Fi_init_5 (by decide) ?_
  refine fs_newa (atype := .int) (ty := .int) (a0 := (40, .inl (fun _ => nI 0))) hx hb (hts _ wi_61) rfl hK hP hD hS hA 0 rfl fs_uI (fun _ => rfl) (by decide) (by decide) (by decide) (Nat.le_of_ble_eq_true rfl) (Nat.le_of_ble_eq_true rfl) d_Fi_init_7 (fun q7 H hP hD hS => ?_)
  have hP : va_P (dC, dI) vwCl [(q, .inr (1, [.null, .null, .null, .null, .int 0])), (q7, .inl (cI, 40, .inl (fun _ => nI 0)))] H := hP
  have hD : va_D A [(q, .inr (1, [.null, .null, .null, .null, .int 0])), (q7, .inl (cI, 40, .inl (fun _ => nI 0)))] := hD
  refine va_putF (D := (dC, dI)) (ci := 1) (v := .ref q7) (ty := (.array .int)) (C := R_Fi) (T := T_Fi) (N := 5) hx hb hts uin_Fi t_Fi ok_Fi n_Fi hown hK hP hD hS 0 rfl rfl 0 (by decide) (hts _ wi_30) (fun _ h9 => h9) rfl hin rfl (by decide +kernel) rfl rfl (Nat.le_of_ble_eq_true rfl) d_Fi_init_9 (fun H locs hP hD hS => ?_)
  have hP : va_P (dC, dI) vwCl [(q, .inr (1, [.ref q7, .null, .null, .null, .int 0])), (q7, .inl (cI, 40, .inl (fun _ => nI 0)))] H := hP
  have hD : va_D A [(q, .inr (1, [.ref q7, .null, .null, .null, .int 0])), (q7, .inl (cI, 40, .inl (fun _ => nI 0)))] := hD
  refine lv_aload_n hx hb d_Fi_init_12 rfl (lv_at hl 0 rfl) ?_
  refine lv_bipush (v := nI 40) hx hb d_Fi_init_13 (by decide) ?_
  refine fs_newa (atype := .int) (ty := .int) (a0 := (40, .inl (fun _ => nI 0))) hx hb (hts _ wi_61) rfl hK hP hD hS hA 0 rfl fs_uI (fun _ => rfl) (by decide) (by decide) (by decide) (Nat.le_of_ble_eq_true rfl) (Nat.le_of_ble_eq_true rfl) d_Fi_init_15 (fun q15 H hP hD hS => ?_)
  have hP : va_P (dC, dI) vwCl [(q, .inr (1, [.ref q7, .null, .null, .null, .int 0])), (q7, .inl (cI, 40, .inl (fun _ => nI 0))), (q15, .inl (cI, 40, .inl (fun _ => nI 0)))] H := hP
  have hD : va_D A [(q, .inr (1, [.ref q7, .null, .null, .null, .int 0])), (q7, .inl (cI, 40, .inl (fun _ => nI 0))), (q15, .inl (cI, 40, .inl (fun _ => nI 0)))] := hD
  refine va_putF (D := (dC, dI)) (ci := 1) (v := .ref q15) (ty := (.array .int)) (C := R_Fi) (T := T_Fi) (N := 5) hx hb hts uin_Fi t_Fi ok_Fi n_Fi hown hK hP hD hS 0 rfl rfl 1 (by decide) (hts _ wi_34) (fun _ h9 => h9) rfl hin rfl (by decide +kernel) rfl rfl (Nat.le_of_ble_eq_true rfl) d_Fi_init_17 (fun H locs hP hD hS => ?_)
  have hP : va_P (dC, dI) vwCl [(q, .inr (1, [.ref q7, .ref q15, .null, .null, .int 0])), (q7, .inl (cI, 40, .inl (fun _ => nI 0))), (q15, .inl (cI, 40, .inl (fun _ => nI 0)))] H := hP
  have hD : va_D A [(q, .inr (1, [.ref q7, .ref q15, .null, .null, .int 0])), (q7, .inl (cI, 40, .inl (fun _ => nI 0))), (q15, .inl (cI, 40, .inl (fun _ => nI 0)))] := hD
  refine lv_aload_n hx hb d_Fi_init_20 rfl (lv_at hl 0 rfl) ?_
  refine lv_bipush (v := nI 40) hx hb d_Fi_init_21 (by decide) ?_
  refine fs_newa (atype := .int) (ty := .int) (a0 := (40, .inl (fun _ => nI 0))) hx hb (hts _ wi_61) rfl hK hP hD hS hA 0 rfl fs_uI (fun _ => rfl) (by decide) (by decide) (by decide) (Nat.le_of_ble_eq_true rfl) (Nat.le_of_ble_eq_true rfl) d_Fi_init_23 (fun q23 H hP hD hS => ?_)
  have hP : va_P (dC, dI) vwCl [(q, .inr (1, [.ref q7, .ref q15, .null, .null, .int 0])), (q7, .inl (cI, 40, .inl (fun _ => nI 0))), (q15, .inl (cI, 40, .inl (fun _ => nI 0))), (q23, .inl (cI, 40, .inl (fun _ => nI 0)))] H := hP
  have hD : va_D A [(q, .inr (1, [.ref q7, .ref q15, .null, .null, .int 0])), (q7, .inl (cI, 40, .inl (fun _ => nI 0))), (q15, .inl (cI, 40, .inl (fun _ => nI 0))), (q23, .inl (cI, 40, .inl (fun _ => nI 0)))] := hD
  refine va_putF (D := (dC, dI)) (ci := 1) (v := .ref q23) (ty := (.array .int)) (C := R_Fi) (T := T_Fi) (N := 5) hx hb hts uin_Fi t_Fi ok_Fi n_Fi hown hK hP hD hS 0 rfl rfl 2 (by decide) (hts _ wi_38) (fun _ h9 => h9) rfl hin rfl (by decide +kernel) rfl rfl (Nat.le_of_ble_eq_true rfl) d_Fi_init_25 (fun H locs hP hD hS => ?_)
  have hP : va_P (dC, dI) vwCl [(q, .inr (1, [.ref q7, .ref q15, .ref q23, .null, .int 0])), (q7, .inl (cI, 40, .inl (fun _ => nI 0))), (q15, .inl (cI, 40, .inl (fun _ => nI 0))), (q23, .inl (cI, 40, .inl (fun _ => nI 0)))] H := hP
  have hD : va_D A [(q, .inr (1, [.ref q7, .ref q15, .ref q23, .null, .int 0])), (q7, .inl (cI, 40, .inl (fun _ => nI 0))), (q15, .inl (cI, 40, .inl (fun _ => nI 0))), (q23, .inl (cI, 40, .inl (fun _ => nI 0)))] := hD
  refine lv_aload_n hx hb d_Fi_init_28 rfl (lv_at hl 0 rfl) ?_
  refine lv_bipush (v := nI 40) hx hb d_Fi_init_29 (by decide) ?_
  refine fs_newa (atype := .int) (ty := .int) (a0 := (40, .inl (fun _ => nI 0))) hx hb (hts _ wi_61) rfl hK hP hD hS hA 0 rfl fs_uI (fun _ => rfl) (by decide) (by decide) (by decide) (Nat.le_of_ble_eq_true rfl) (Nat.le_of_ble_eq_true rfl) d_Fi_init_31 (fun q31 H hP hD hS => ?_)
  have hP : va_P (dC, dI) vwCl [(q, .inr (1, [.ref q7, .ref q15, .ref q23, .null, .int 0])), (q7, .inl (cI, 40, .inl (fun _ => nI 0))), (q15, .inl (cI, 40, .inl (fun _ => nI 0))), (q23, .inl (cI, 40, .inl (fun _ => nI 0))), (q31, .inl (cI, 40, .inl (fun _ => nI 0)))] H := hP
  have hD : va_D A [(q, .inr (1, [.ref q7, .ref q15, .ref q23, .null, .int 0])), (q7, .inl (cI, 40, .inl (fun _ => nI 0))), (q15, .inl (cI, 40, .inl (fun _ => nI 0))), (q23, .inl (cI, 40, .inl (fun _ => nI 0))), (q31, .inl (cI, 40, .inl (fun _ => nI 0)))] := hD
  refine va_putF (D := (dC, dI)) (ci := 1) (v := .ref q31) (ty := (.array .int)) (C := R_Fi) (T := T_Fi) (N := 5) hx hb hts uin_Fi t_Fi ok_Fi n_Fi hown hK hP hD hS 0 rfl rfl 3 (by decide) (hts _ wi_42) (fun _ h9 => h9) rfl hin rfl (by decide +kernel) rfl rfl (Nat.le_of_ble_eq_true rfl) d_Fi_init_33 (fun H locs hP hD hS => ?_)
  have hP : va_P (dC, dI) vwCl [(q, .inr (1, [.ref q7, .ref q15, .ref q23, .ref q31, .int 0])), (q7, .inl (cI, 40, .inl (fun _ => nI 0))), (q15, .inl (cI, 40, .inl (fun _ => nI 0))), (q23, .inl (cI, 40, .inl (fun _ => nI 0))), (q31, .inl (cI, 40, .inl (fun _ => nI 0)))] H := hP
  have hD : va_D A [(q, .inr (1, [.ref q7, .ref q15, .ref q23, .ref q31, .int 0])), (q7, .inl (cI, 40, .inl (fun _ => nI 0))), (q15, .inl (cI, 40, .inl (fun _ => nI 0))), (q23, .inl (cI, 40, .inl (fun _ => nI 0))), (q31, .inl (cI, 40, .inl (fun _ => nI 0)))] := hD
  refine lv_aload_n hx hb d_Fi_init_36 rfl (lv_at hl 0 rfl) ?_
  refine lv_iconst (v := nI 0) hx hb d_Fi_init_37 (by decide) ?_
  refine va_put (D := (dC, dI)) (ci := 1) (v := .int (nI 0)) (ty := (.int)) (C := R_Fi) (T := T_Fi) (N := 5) hx hb hts uin_Fi t_Fi ok_Fi n_Fi hown hK hP hD hS 0 rfl rfl 4 (by decide) (hts _ wi_46) (fun _ h9 => h9) rfl (by decide +kernel) rfl rfl (Nat.le_of_ble_eq_true rfl) d_Fi_init_38 (fun H locs hP hD hS => ?_)
  have hP : va_P (dC, dI) vwCl [(q, .inr (1, [.ref q7, .ref q15, .ref q23, .ref q31, .int (nI 0)])), (q7, .inl (cI, 40, .inl (fun _ => nI 0))), (q15, .inl (cI, 40, .inl (fun _ => nI 0))), (q23, .inl (cI, 40, .inl (fun _ => nI 0))), (q31, .inl (cI, 40, .inl (fun _ => nI 0)))] H := hP
  have hD : va_D A [(q, .inr (1, [.ref q7, .ref q15, .ref q23, .ref q31, .int (nI 0)])), (q7, .inl (cI, 40, .inl (fun _ => nI 0))), (q15, .inl (cI, 40, .inl (fun _ => nI 0))), (q23, .inl (cI, 40, .inl (fun _ => nI 0))), (q31, .inl (cI, 40, .inl (fun _ => nI 0)))] := hD
  refine W.widen (k := 4) (n := 160) (by decide) (by decide) ?_
  exact fs_vret hx hb hr hlocks hAe hK hS d_Fi_init_41 (q7, q15, q23, q31) (trivial) hP hD

theorem d_Ck_init_0 : decode b_Ck_init 0 = .ok (.aload_n 0, 1) := by decide +kernel
theorem d_Ck_init_1 : decode b_Ck_init 1 = .ok (.invokespecial 3, 3) := by decide +kernel
theorem d_Ck_init_4 : decode b_Ck_init 4 = .ok (.aload_n 0, 1) := by decide +kernel
theorem d_Ck_init_5 : decode b_Ck_init 5 = .ok (.bipush 40, 2) := by decide +kernel
theorem d_Ck_init_7 : decode b_Ck_init 7 = .ok (.newarray .int, 2) := by decide +kernel
theorem d_Ck_init_9 : decode b_Ck_init 9 = .ok (.putfield 9, 3) := by decide +kernel
theorem d_Ck_init_12 : decode b_Ck_init 12 = .ok (.return_, 1) := by decide +kernel
set_option maxHeartbeats 4000000 in
set_option maxRecDepth 100000 in
theorem c_Ck_init (q : Nat) (sz : Nat)  : fs_V l y_Ck_init (k_Ck_init :: fs_T) { frames := 1, cells := 1, slots := 40, locals := 12 } (dC, dI) vwCl (fs_tys cI cZ cJ cF) [.ref q] [(q, .inr (0, [.null]))] sz (S := Nat) (fun _ => True) (fun u => [(q, .inr (0, [.ref u])), (u, .inl (cI, 40, .inl (fun _ => nI 0)))]) 1 40 := by
  refine fs_head (by decide) (Nat.le_of_ble_eq_true rfl) ?_
  intro p e s m below meth c A ls hx hb hr hts hown hlocks hin hml hK hP hD hS hA hAe hsz hl
  have hl : lv_has ls 1 [(0, .ref q)] := hl
  have hown : s.vm.findClass R_Ck = some m.cls := hown
  refine lv_aload_n hx hb d_Ck_init_0 rfl (lv_at hl 0 rfl) ?_
  refine W.objInit hx hb hown (hts _ wi_89) (hts _ wi_21) (hts _ wi_22) rfl (by rw [hml]; exact hl.1) rfl d_Ck_init_1 (Nat.le_of_ble_eq_true rfl) (Nat.le_of_ble_eq_true rfl) ?_
  refine W.eq (g2 := F0 m 4 ls []) rfl ?_
  refine lv_aload_n hx hb d_Ck_init_4 rfl (lv_at hl 0 rfl) ?_
  refine lv_bipush (v := nI 40) hx hb d_Ck_init_5 (by decide) ?_
  refine fs_newa (atype := .int) (ty := .int) (a0 := (40, .inl (fun _ => nI 0))) hx hb (hts _ wi_61) rfl hK hP hD hS hA 0 rfl fs_uI (fun _ => rfl) (by decide) (by decide) (by decide) (Nat.le_of_ble_eq_true rfl) (Nat.le_of_ble_eq_true rfl) d_Ck_init_7 (fun q7 H hP hD hS => ?_)
  have hP : va_P (dC, dI) vwCl [(q, .inr (0, [.null])), (q7, .inl (cI, 40, .inl (fun _ => nI 0)))] H := hP
  have hD : va_D A [(q, .inr (0, [.null])), (q7, .inl (cI, 40, .inl (fun _ => nI 0)))] := hD
  refine va_putF (D := (dC, dI)) (ci := 0) (v := .ref q7) (ty := (.array .int)) (C := R_Ck) (T := T_Ck) (N := 1) hx hb hts uin_Ck t_Ck ok_Ck n_Ck hown hK hP hD hS 0 rfl rfl 0 (by decide) (hts _ wi_90) (fun _ h9 => h9) rfl hin rfl (by decide +kernel) rfl rfl (Nat.le_of_ble_eq_true rfl) d_Ck_init_9 (fun H locs hP hD hS => ?_)
  have hP : va_P (dC, dI) vwCl [(q, .inr (0, [.ref q7])), (q7, .inl (cI, 40, .inl (fun _ => nI 0)))] H := hP
  have hD : va_D A [(q, .inr (0, [.ref q7])), (q7, .inl (cI, 40, .inl (fun _ => nI 0)))] := hD
  refine W.widen (k := 1) (n := 40) (by decide) (by decide) ?_
  exact fs_vret hx hb hr hlocks hAe hK hS d_Ck_init_12 q7 (trivial) hP hD

theorem d_Mc_init_0 : decode b_Mc_init 0 = .ok (.aload_n 0, 1) := by decide +kernel
theorem d_Mc_init_1 : decode b_Mc_init 1 = .ok (.invokespecial 3, 3) := by decide +kernel
theorem d_Mc_init_4 : decode b_Mc_init 4 = .ok (.aload_n 0, 1) := by decide +kernel
theorem d_Mc_init_5 : decode b_Mc_init 5 = .ok (.bipush 16, 2) := by decide +kernel
theorem d_Mc_init_7 : decode b_Mc_init 7 = .ok (.newarray .int, 2) := by decide +kernel
theorem d_Mc_init_9 : decode b_Mc_init 9 = .ok (.putfield 9, 3) := by decide +kernel
theorem d_Mc_init_12 : decode b_Mc_init 12 = .ok (.aload_n 0, 1) := by decide +kernel
theorem d_Mc_init_13 : decode b_Mc_init 13 = .ok (.iconst 0, 1) := by decide +kernel
theorem d_Mc_init_14 : decode b_Mc_init 14 = .ok (.putfield 15, 3) := by decide +kernel
theorem d_Mc_init_17 : decode b_Mc_init 17 = .ok (.aload_n 0, 1) := by decide +kernel
theorem d_Mc_init_18 : decode b_Mc_init 18 = .ok (.iconst 0, 1) := by decide +kernel
theorem d_Mc_init_19 : decode b_Mc_init 19 = .ok (.putfield 19, 3) := by decide +kernel
theorem d_Mc_init_22 : decode b_Mc_init 22 = .ok (.aload_n 0, 1) := by decide +kernel
theorem d_Mc_init_23 : decode b_Mc_init 23 = .ok (.iconst 0, 1) := by decide +kernel
theorem d_Mc_init_24 : decode b_Mc_init 24 = .ok (.putfield 22, 3) := by decide +kernel
theorem d_Mc_init_27 : decode b_Mc_init 27 = .ok (.return_, 1) := by decide +kernel
set_option maxHeartbeats 4000000 in
set_option maxRecDepth 100000 in
theorem c_Mc_init (q : Nat) (sz : Nat)  : fs_V l y_Mc_init (k_Mc_init :: fs_T) { frames := 1, cells := 1, slots := 16, locals := 12 } (dC, dI) vwCl (fs_tys cI cZ cJ cF) [.ref q] [(q, .inr (2, [.null, .int 0, .int 0, .int 0]))] sz (S := Nat) (fun _ => True) (fun u => [(q, .inr (2, [.ref u, .int (nI 0), .int (nI 0), .int (nI 0)])), (u, .inl (cI, 16, .inl (fun _ => nI 0)))]) 1 16 := by
  refine fs_head (by decide) (Nat.le_of_ble_eq_true rfl) ?_
  intro p e s m below meth c A ls hx hb hr hts hown hlocks hin hml hK hP hD hS hA hAe hsz hl
  have hl : lv_has ls 1 [(0, .ref q)] := hl
  have hown : s.vm.findClass R_Mc = some m.cls := hown
  refine lv_aload_n hx hb d_Mc_init_0 rfl (lv_at hl 0 rfl) ?_
  refine W.objInit hx hb hown (hts _ wi_99) (hts _ wi_21) (hts _ wi_22) rfl (by rw [hml]; exact hl.1) rfl d_Mc_init_1 (Nat.le_of_ble_eq_true rfl) (Nat.le_of_ble_eq_true rfl) ?_
  refine W.eq (g2 := F0 m 4 ls []) rfl ?_
  refine lv_aload_n hx hb d_Mc_init_4 rfl (lv_at hl 0 rfl) ?_
  refine lv_bipush (v := nI 16) hx hb d_Mc_init_5 (by decide) ?_
  refine fs_newa (atype := .int) (ty := .int) (a0 := (16, .inl (fun _ => nI 0))) hx hb (hts _ wi_61) rfl hK hP hD hS hA 0 rfl fs_uI (fun _ => rfl) (by decide) (by decide) (by decide) (Nat.le_of_ble_eq_true rfl) (Nat.le_of_ble_eq_true rfl) d_Mc_init_7 (fun q7 H hP hD hS => ?_)
  have hP : va_P (dC, dI) vwCl [(q, .inr (2, [.null, .int 0, .int 0, .int 0])), (q7, .inl (cI, 16, .inl (fun _ => nI 0)))] H := hP
  have hD : va_D A [(q, .inr (2, [.null, .int 0, .int 0, .int 0])), (q7, .inl (cI, 16, .inl (fun _ => nI 0)))] := hD
  refine va_putF (D := (dC, dI)) (ci := 2) (v := .ref q7) (ty := (.array .int)) (C := R_Mc) (T := T_Mc) (N := 4) hx hb hts uin_Mc t_Mc ok_Mc n_Mc hown hK hP hD hS 0 rfl rfl 0 (by decide) (hts _ wi_100) (fun _ h9 => h9) rfl hin rfl (by decide +kernel) rfl rfl (Nat.le_of_ble_eq_true rfl) d_Mc_init_9 (fun H locs hP hD hS => ?_)
  have hP : va_P (dC, dI) vwCl [(q, .inr (2, [.ref q7, .int 0, .int 0, .int 0])), (q7, .inl (cI, 16, .inl (fun _ => nI 0)))] H := hP
  have hD : va_D A [(q, .inr (2, [.ref q7, .int 0, .int 0, .int 0])), (q7, .inl (cI, 16, .inl (fun _ => nI 0)))] := hD
  refine lv_aload_n hx hb d_Mc_init_12 rfl (lv_at hl 0 rfl) ?_
  refine lv_iconst (v := nI 0) hx hb d_Mc_init_13 (by decide) ?_
  refine va_put (D := (dC, dI)) (ci := 2) (v := .int (nI 0)) (ty := (.int)) (C := R_Mc) (T := T_Mc) (N := 4) hx hb hts uin_Mc t_Mc ok_Mc n_Mc hown hK hP hD hS 0 rfl rfl 1 (by decide) (hts _ wi_101) (fun _ h9 => h9) rfl (by decide +kernel) rfl rfl (Nat.le_of_ble_eq_true rfl) d_Mc_init_14 (fun H locs hP hD hS => ?_)
  have hP : va_P (dC, dI) vwCl [(q, .inr (2, [.ref q7, .int (nI 0), .int 0, .int 0])), (q7, .inl (cI, 16, .inl (fun _ => nI 0)))] H := hP
  have hD : va_D A [(q, .inr (2, [.ref q7, .int (nI 0), .int 0, .int 0])), (q7, .inl (cI, 16, .inl (fun _ => nI 0)))] := hD
  refine lv_aload_n hx hb d_Mc_init_17 rfl (lv_at hl 0 rfl) ?_
  refine lv_iconst (v := nI 0) hx hb d_Mc_init_18 (by decide) ?_
  refine va_put (D := (dC, dI)) (ci := 2) (v := .int (nI 0)) (ty := (.int)) (C := R_Mc) (T := T_Mc) (N := 4) hx hb hts uin_Mc t_Mc ok_Mc n_Mc hown hK hP hD hS 0 rfl rfl 2 (by decide) (hts _ wi_102) (fun _ h9 => h9) rfl (by decide +kernel) rfl rfl (Nat.le_of_ble_eq_true rfl) d_Mc_init_19 (fun H locs hP hD hS => ?_)
  have hP : va_P (dC, dI) vwCl [(q, .inr (2, [.ref q7, .int (nI 0), .int (nI 0), .int 0])), (q7, .inl (cI, 16, .inl (fun _ => nI 0)))] H := hP
  have hD : va_D A [(q, .inr (2, [.ref q7, .int (nI 0), .int (nI 0), .int 0])), (q7, .inl (cI, 16, .inl (fun _ => nI 0)))] := hD
  refine lv_aload_n hx hb d_Mc_init_22 rfl (lv_at hl 0 rfl) ?_
  refine lv_iconst (v := nI 0) hx hb d_Mc_init_23 (by decide) ?_
  refine va_put (D := (dC, dI)) (ci := 2) (v := .int (nI 0)) (ty := (.int)) (C := R_Mc) (T := T_Mc) (N := 4) hx hb hts uin_Mc t_Mc ok_Mc n_Mc hown hK hP hD hS 0 rfl rfl 3 (by decide) (hts _ wi_103) (fun _ h9 => h9) rfl (by decide +kernel) rfl rfl (Nat.le_of_ble_eq_true rfl) d_Mc_init_24 (fun H locs hP hD hS => ?_)
  have hP : va_P (dC, dI) vwCl [(q, .inr (2, [.ref q7, .int (nI 0), .int (nI 0), .int (nI 0)])), (q7, .inl (cI, 16, .inl (fun _ => nI 0)))] H := hP
  have hD : va_D A [(q, .inr (2, [.ref q7, .int (nI 0), .int (nI 0), .int (nI 0)])), (q7, .inl (cI, 16, .inl (fun _ => nI 0)))] := hD
  refine W.widen (k := 1) (n := 16) (by decide) (by decide) ?_
  exact fs_vret hx hb hr hlocks hAe hK hS d_Mc_init_27 q7 (trivial) hP hD

theorem d_Ru_init_0 : decode b_Ru_init 0 = .ok (.aload_n 0, 1) := by decide +kernel
theorem d_Ru_init_1 : decode b_Ru_init 1 = .ok (.invokespecial 3, 3) := by decide +kernel
theorem d_Ru_init_4 : decode b_Ru_init 4 = .ok (.aload_n 0, 1) := by decide +kernel
theorem d_Ru_init_5 : decode b_Ru_init 5 = .ok (.bipush 8, 2) := by decide +kernel
theorem d_Ru_init_7 : decode b_Ru_init 7 = .ok (.newarray .int, 2) := by decide +kernel
theorem d_Ru_init_9 : decode b_Ru_init 9 = .ok (.putfield 9, 3) := by decide +kernel
theorem d_Ru_init_12 : decode b_Ru_init 12 = .ok (.aload_n 0, 1) := by decide +kernel
theorem d_Ru_init_13 : decode b_Ru_init 13 = .ok (.bipush 8, 2) := by decide +kernel
theorem d_Ru_init_15 : decode b_Ru_init 15 = .ok (.newarray .int, 2) := by decide +kernel
theorem d_Ru_init_17 : decode b_Ru_init 17 = .ok (.putfield 15, 3) := by decide +kernel
theorem d_Ru_init_20 : decode b_Ru_init 20 = .ok (.aload_n 0, 1) := by decide +kernel
theorem d_Ru_init_21 : decode b_Ru_init 21 = .ok (.bipush 8, 2) := by decide +kernel
theorem d_Ru_init_23 : decode b_Ru_init 23 = .ok (.newarray .int, 2) := by decide +kernel
theorem d_Ru_init_25 : decode b_Ru_init 25 = .ok (.putfield 18, 3) := by decide +kernel
theorem d_Ru_init_28 : decode b_Ru_init 28 = .ok (.aload_n 0, 1) := by decide +kernel
theorem d_Ru_init_29 : decode b_Ru_init 29 = .ok (.bipush 8, 2) := by decide +kernel
theorem d_Ru_init_31 : decode b_Ru_init 31 = .ok (.newarray .int, 2) := by decide +kernel
theorem d_Ru_init_33 : decode b_Ru_init 33 = .ok (.putfield 21, 3) := by decide +kernel
theorem d_Ru_init_36 : decode b_Ru_init 36 = .ok (.aload_n 0, 1) := by decide +kernel
theorem d_Ru_init_37 : decode b_Ru_init 37 = .ok (.iconst 0, 1) := by decide +kernel
theorem d_Ru_init_38 : decode b_Ru_init 38 = .ok (.putfield 24, 3) := by decide +kernel
theorem d_Ru_init_41 : decode b_Ru_init 41 = .ok (.return_, 1) := by decide +kernel
set_option maxHeartbeats 4000000 in
set_option maxRecDepth 100000 in
theorem c_Ru_init (q : Nat) (sz : Nat)  : fs_V l y_Ru_init (k_Ru_init :: fs_T) { frames := 1, cells := 4, slots := 32, locals := 12 } (dC, dI) vwCl (fs_tys cI cZ cJ cF) [.ref q] [(q, .inr (3, [.null, .null, .null, .null, .int 0]))] sz (S := Nat × Nat × Nat × Nat) (fun _ => True) (fun u => [(q, .inr (3, [.ref u.1, .ref u.2.1, .ref u.2.2.1, .ref u.2.2.2, .int (nI 0)])), (u.1, .inl (cI, 8, .inl (fun _ => nI 0))), (u.2.1, .inl (cI, 8, .inl (fun _ => nI 0))), (u.2.2.1, .inl (cI, 8, .inl (fun _ => nI 0))), (u.2.2.2, .inl (cI, 8, .inl (fun _ => nI 0)))]) 4 32 := by
  refine fs_head (by decide) (Nat.le_of_ble_eq_true rfl) ?_
  intro p e s m below meth c A ls hx hb hr hts hown hlocks hin hml hK hP hD hS hA hAe hsz hl
  have hl : lv_has ls 1 [(0, .ref q)] := hl
  have hown : s.vm.findClass R_Ru = some m.cls := hown
  refine lv_aload_n hx hb d_Ru_init_0 rfl (lv_at hl 0 rfl) ?_
  refine W.objInit hx hb hown (hts _ wi_67) (hts _ wi_21) (hts _ wi_22) rfl (by rw [hml]; exact hl.1) rfl d_Ru_init_1 (Nat.le_of_ble_eq_true rfl) (Nat.le_of_ble_eq_true rfl) ?_
  refine W.eq (g2 := F0 m 4 ls []) rfl ?_
  refine lv_aload_n hx hb d_Ru_init_4 rfl (lv_at hl 0 rfl) ?_
  refine lv_bipush (v := nI 8) hx hb d_Ru_init_5 (by decide) ?_
  refine fs_newa (atype := .int) (ty := .int) (a0 := (8, .inl (fun _ => nI 0))) hx hb (hts _ wi_61) rfl hK hP hD hS hA 0 rfl fs_uI (fun _ => rfl) (by decide) (by decide) (by decide) (Nat.le_of_ble_eq_true rfl) (Nat.le_of_ble_eq_true rfl) d_Ru_init_7 (fun q7 H hP hD hS => ?_)
  have hP : va_P (dC, dI) vwCl [(q, .inr (3, [.null, .null, .null, .null, .int 0])), (q7, .inl (cI, 8, .inl (fun _ => nI 0)))] H := hP
  have hD : va_D A [(q, .inr (3, [.null, .null, .null, .null, .int 0])), (q7, .inl (cI, 8, .inl (fun _ => nI 0)))] := hD
  refine va_putF (D := (dC, dI)) (ci := 3) (v := .ref q7) (ty := (.array .int)) (C := R_Ru) (T := T_Ru) (N := 5) hx hb hts uin_Ru t_Ru ok_Ru n_Ru hown hK hP hD hS 0 rfl rfl 0 (by decide) (hts _ wi_68) (fun _ h9 => h9) rfl hin rfl (by decide +kernel) rfl rfl (Nat.le_of_ble_eq_true rfl) d_Ru_init_9 (fun H locs hP hD hS => ?_)
  have hP : va_P (dC, dI) vwCl [(q, .inr (3, [.ref q7, .null, .null, .null, .int 0])), (q7, .inl (cI, 8, .inl (fun _ => nI 0)))] H := hP
  have hD : va_D A [(q, .inr (3, [.ref q7, .null, .null, .null, .int 0])), (q7, .inl (cI, 8, .inl (fun _ => nI 0)))] := hD
  refine lv_aload_n hx hb d_Ru_init_12 rfl (lv_at hl 0 rfl) ?_
  refine lv_bipush (v := nI 8) hx hb d_Ru_init_13 (by decide) ?_
  refine fs_newa (atype := .int) (ty := .int) (a0 := (8, .inl (fun _ => nI 0))) hx hb (hts _ wi_61) rfl hK hP hD hS hA 0 rfl fs_uI (fun _ => rfl) (by decide) (by decide) (by decide) (Nat.le_of_ble_eq_true rfl) (Nat.le_of_ble_eq_true rfl) d_Ru_init_15 (fun q15 H hP hD hS => ?_)
  have hP : va_P (dC, dI) vwCl [(q, .inr (3, [.ref q7, .null, .null, .null, .int 0])), (q7, .inl (cI, 8, .inl (fun _ => nI 0))), (q15, .inl (cI, 8, .inl (fun _ => nI 0)))] H := hP
  have hD : va_D A [(q, .inr (3, [.ref q7, .null, .null, .null, .int 0])), (q7, .inl (cI, 8, .inl (fun _ => nI 0))), (q15, .inl (cI, 8, .inl (fun _ => nI 0)))] := hD
  refine va_putF (D := (dC, dI)) (ci := 3) (v := .ref q15) (ty := (.array .int)) (C := R_Ru) (T := T_Ru) (N := 5) hx hb hts uin_Ru t_Ru ok_Ru n_Ru hown hK hP hD hS 0 rfl rfl 1 (by decide) (hts _ wi_69) (fun _ h9 => h9) rfl hin rfl (by decide +kernel) rfl rfl (Nat.le_of_ble_eq_true rfl) d_Ru_init_17 (fun H locs hP hD hS => ?_)
  have hP : va_P (dC, dI) vwCl [(q, .inr (3, [.ref q7, .ref q15, .null, .null, .int 0])), (q7, .inl (cI, 8, .inl (fun _ => nI 0))), (q15, .inl (cI, 8, .inl (fun _ => nI 0)))] H := hP
  have hD : va_D A [(q, .inr (3, [.ref q7, .ref q15, .null, .null, .int 0])), (q7, .inl (cI, 8, .inl (fun _ => nI 0))), (q15, .inl (cI, 8, .inl (fun _ => nI 0)))] := hD
  refine lv_aload_n hx hb d_Ru_init_20 rfl (lv_at hl 0 rfl) ?_
  refine lv_bipush (v := nI 8) hx hb d_Ru_init_21 (by decide) ?_
  refine fs_newa (atype := .int) (ty := .int) (a0 := (8, .inl (fun _ => nI 0))) hx hb (hts _ wi_61) rfl hK hP hD hS hA 0 rfl fs_uI (fun _ => rfl) (by decide) (by decide) (by decide) (Nat.le_of_ble_eq_true rfl) (Nat.le_of_ble_eq_true rfl) d_Ru_init_23 (fun q23 H hP hD hS => ?_)
  have hP : va_P (dC, dI) vwCl [(q, .inr (3, [.ref q7, .ref q15, .null, .null, .int 0])), (q7, .inl (cI, 8, .inl (fun _ => nI 0))), (q15, .inl (cI, 8, .inl (fun _ => nI 0))), (q23, .inl (cI, 8, .inl (fun _ => nI 0)))] H := hP
  have hD : va_D A [(q, .inr (3, [.ref q7, .ref q15, .null, .null, .int 0])), (q7, .inl (cI, 8, .inl (fun _ => nI 0))), (q15, .inl (cI, 8, .inl (fun _ => nI 0))), (q23, .inl (cI, 8, .inl (fun _ => nI 0)))] := hD
  refine va_putF (D := (dC, dI)) (ci := 3) (v := .ref q23) (ty := (.array .int)) (C := R_Ru) (T := T_Ru) (N := 5) hx hb hts uin_Ru t_Ru ok_Ru n_Ru hown hK hP hD hS 0 rfl rfl 2 (by decide) (hts _ wi_70) (fun _ h9 => h9) rfl hin rfl (by decide +kernel) rfl rfl (Nat.le_of_ble_eq_true rfl) d_Ru_init_25 (fun H locs hP hD hS => ?_)
  have hP : va_P (dC, dI) vwCl [(q, .inr (3, [.ref q7, .ref q15, .ref q23, .null, .int 0])), (q7, .inl (cI, 8, .inl (fun _ => nI 0))), (q15, .inl (cI, 8, .inl (fun _ => nI 0))), (q23, .inl (cI, 8, .inl (fun _ => nI 0)))] H := hP
  have hD : va_D A [(q, .inr (3, [.ref q7, .ref q15, .ref q23, .null, .int 0])), (q7, .inl (cI, 8, .inl (fun _ => nI 0))), (q15, .inl (cI, 8, .inl (fun _ => nI 0))), (q23, .inl (cI, 8, .inl (fun _ => nI 0)))] := hD
  refine lv_aload_n hx hb d_Ru_init_28 rfl (lv_at hl 0 rfl) ?_
  refine lv_bipush (v := nI 8) hx hb d_Ru_init_29 (by decide) ?_
  refine fs_newa (atype := .int) (ty := .int) (a0 := (8, .inl (fun _ => nI 0))) hx hb (hts _ wi_61) rfl hK hP hD hS hA 0 rfl fs_uI (fun _ => rfl) (by decide) (by decide) (by decide) (Nat.le_of_ble_eq_true rfl) (Nat.le_of_ble_eq_true rfl) d_Ru_init_31 (fun q31 H hP hD hS => ?_)
  have hP : va_P (dC, dI) vwCl [(q, .inr (3, [.ref q7, .ref q15, .ref q23, .null, .int 0])), (q7, .inl (cI, 8, .inl (fun _ => nI 0))), (q15, .inl (cI, 8, .inl (fun _ => nI 0))), (q23, .inl (cI, 8, .inl (fun _ => nI 0))), (q31, .inl (cI, 8, .inl (fun _ => nI 0)))] H := hP
  have hD : va_D A [(q, .inr (3, [.ref q7, .ref q15, .ref q23, .null, .int 0])), (q7, .inl (cI, 8, .inl (fun _ => nI 0))), (q15, .inl (cI, 8, .inl (fun _ => nI 0))), (q23, .inl (cI, 8, .inl (fun _ => nI 0))), (q31, .inl (cI, 8, .inl (fun _ => nI 0)))] := hD
  refine va_putF (D := (dC, dI)) (ci := 3) (v := .ref q31) (ty := (.array .int)) (C := R_Ru) (T := T_Ru) (N := 5) hx hb hts uin_Ru t_Ru ok_Ru n_Ru hown hK hP hD hS 0 rfl rfl 3 (by decide) (hts _ wi_71) (fun _ h9 => h9) rfl hin rfl (by decide +kernel) rfl rfl (Nat.le_of_ble_eq_true rfl) d_Ru_init_33 (fun H locs hP hD hS => ?_)
  have hP : va_P (dC, dI) vwCl [(q, .inr (3, [.ref q7, .ref q15, .ref q23, .ref q31, .int 0])), (q7, .inl (cI, 8, .inl (fun _ => nI 0))), (q15, .inl (cI, 8, .inl (fun _ => nI 0))), (q23, .inl (cI, 8, .inl (fun _ => nI 0))), (q31, .inl (cI, 8, .inl (fun _ => nI 0)))] H := hP
  have hD : va_D A [(q, .inr (3, [.ref q7, .ref q15, .ref q23, .ref q31, .int 0])), (q7, .inl (cI, 8, .inl (fun _ => nI 0))), (q15, .inl (cI, 8, .inl (fun _ => nI 0))), (q23, .inl (cI, 8, .inl (fun _ => nI 0))), (q31, .inl (cI, 8, .inl (fun _ => nI 0)))] := hD
  refine lv_aload_n hx hb d_Ru_init_36 rfl (lv_at hl 0 rfl) ?_
  refine lv_iconst (v := nI 0) hx hb d_Ru_init_37 (by decide) ?_
  refine va_put (D := (dC, dI)) (ci := 3) (v := .int (nI 0)) (ty := (.int)) (C := R_Ru) (T := T_Ru) (N := 5) hx hb hts uin_Ru t_Ru ok_Ru n_Ru hown hK hP hD hS 0 rfl rfl 4 (by decide) (hts _ wi_72) (fun _ h9 => h9) rfl (by decide +kernel) rfl rfl (Nat.le_of_ble_eq_true rfl) d_Ru_init_38 (fun H locs hP hD hS => ?_)
  have hP : va_P (dC, dI) vwCl [(q, .inr (3, [.ref q7, .ref q15, .ref q23, .ref q31, .int (nI 0)])), (q7, .inl (cI, 8, .inl (fun _ => nI 0))), (q15, .inl (cI, 8, .inl (fun _ => nI 0))), (q23, .inl (cI, 8, .inl (fun _ => nI 0))), (q31, .inl (cI, 8, .inl (fun _ => nI 0)))] H := hP
  have hD : va_D A [(q, .inr (3, [.ref q7, .ref q15, .ref q23, .ref q31, .int (nI 0)])), (q7, .inl (cI, 8, .inl (fun _ => nI 0))), (q15, .inl (cI, 8, .inl (fun _ => nI 0))), (q23, .inl (cI, 8, .inl (fun _ => nI 0))), (q31, .inl (cI, 8, .inl (fun _ => nI 0)))] := hD
  refine W.widen (k := 4) (n := 32) (by decide) (by decide) ?_
  exact fs_vret hx hb hr hlocks hAe hK hS d_Ru_init_41 (q7, q15, q23, q31) (trivial) hP hD

theorem d_Mo_init_0 : decode b_Mo_init 0 = .ok (.aload_n 0, 1) := by decide +kernel
theorem d_Mo_init_1 : decode b_Mo_init 1 = .ok (.invokespecial 1, 3) := by decide +kernel
theorem d_Mo_init_4 : decode b_Mo_init 4 = .ok (.aload_n 0, 1) := by decide +kernel
theorem d_Mo_init_5 : decode b_Mo_init 5 = .ok (.sipush 320, 3) := by decide +kernel
theorem d_Mo_init_8 : decode b_Mo_init 8 = .ok (.newarray .int, 2) := by decide +kernel
theorem d_Mo_init_10 : decode b_Mo_init 10 = .ok (.putfield 7, 3) := by decide +kernel
theorem d_Mo_init_13 : decode b_Mo_init 13 = .ok (.aload_n 0, 1) := by decide +kernel
theorem d_Mo_init_14 : decode b_Mo_init 14 = .ok (.sipush 320, 3) := by decide +kernel
theorem d_Mo_init_17 : decode b_Mo_init 17 = .ok (.newarray .int, 2) := by decide +kernel
theorem d_Mo_init_19 : decode b_Mo_init 19 = .ok (.putfield 13, 3) := by decide +kernel
theorem d_Mo_init_22 : decode b_Mo_init 22 = .ok (.aload_n 0, 1) := by decide +kernel
theorem d_Mo_init_23 : decode b_Mo_init 23 = .ok (.sipush 320, 3) := by decide +kernel
theorem d_Mo_init_26 : decode b_Mo_init 26 = .ok (.newarray .int, 2) := by decide +kernel
theorem d_Mo_init_28 : decode b_Mo_init 28 = .ok (.putfield 16, 3) := by decide +kernel
theorem d_Mo_init_31 : decode b_Mo_init 31 = .ok (.aload_n 0, 1) := by decide +kernel
theorem d_Mo_init_32 : decode b_Mo_init 32 = .ok (.sipush 320, 3) := by decide +kernel
theorem d_Mo_init_35 : decode b_Mo_init 35 = .ok (.newarray .int, 2) := by decide +kernel
theorem d_Mo_init_37 : decode b_Mo_init 37 = .ok (.putfield 19, 3) := by decide +kernel
theorem d_Mo_init_40 : decode b_Mo_init 40 = .ok (.aload_n 0, 1) := by decide +kernel
theorem d_Mo_init_41 : decode b_Mo_init 41 = .ok (.bipush 8, 2) := by decide +kernel
theorem d_Mo_init_43 : decode b_Mo_init 43 = .ok (.newarray .int, 2) := by decide +kernel
theorem d_Mo_init_45 : decode b_Mo_init 45 = .ok (.putfield 22, 3) := by decide +kernel
theorem d_Mo_init_48 : decode b_Mo_init 48 = .ok (.aload_n 0, 1) := by decide +kernel
theorem d_Mo_init_49 : decode b_Mo_init 49 = .ok (.bipush 16, 2) := by decide +kernel
theorem d_Mo_init_51 : decode b_Mo_init 51 = .ok (.newarray .int, 2) := by decide +kernel
theorem d_Mo_init_53 : decode b_Mo_init 53 = .ok (.putfield 25, 3) := by decide +kernel
theorem d_Mo_init_56 : decode b_Mo_init 56 = .ok (.aload_n 0, 1) := by decide +kernel
theorem d_Mo_init_57 : decode b_Mo_init 57 = .ok (.bipush 16, 2) := by decide +kernel
theorem d_Mo_init_59 : decode b_Mo_init 59 = .ok (.newarray .int, 2) := by decide +kernel
theorem d_Mo_init_61 : decode b_Mo_init 61 = .ok (.putfield 28, 3) := by decide +kernel
theorem d_Mo_init_64 : decode b_Mo_init 64 = .ok (.aload_n 0, 1) := by decide +kernel
theorem d_Mo_init_65 : decode b_Mo_init 65 = .ok (.bipush 41, 2) := by decide +kernel
theorem d_Mo_init_67 : decode b_Mo_init 67 = .ok (.newarray .boolean, 2) := by decide +kernel
theorem d_Mo_init_69 : decode b_Mo_init 69 = .ok (.putfield 31, 3) := by decide +kernel
theorem d_Mo_init_72 : decode b_Mo_init 72 = .ok (.aload_n 0, 1) := by decide +kernel
theorem d_Mo_init_73 : decode b_Mo_init 73 = .ok (.bipush 8, 2) := by decide +kernel
theorem d_Mo_init_75 : decode b_Mo_init 75 = .ok (.newarray .int, 2) := by decide +kernel
theorem d_Mo_init_77 : decode b_Mo_init 77 = .ok (.putfield 35, 3) := by decide +kernel
theorem d_Mo_init_80 : decode b_Mo_init 80 = .ok (.aload_n 0, 1) := by decide +kernel
theorem d_Mo_init_81 : decode b_Mo_init 81 = .ok (.bipush 8, 2) := by decide +kernel
theorem d_Mo_init_83 : decode b_Mo_init 83 = .ok (.newarray .int, 2) := by decide +kernel
theorem d_Mo_init_85 : decode b_Mo_init 85 = .ok (.putfield 38, 3) := by decide +kernel
theorem d_Mo_init_88 : decode b_Mo_init 88 = .ok (.aload_n 0, 1) := by decide +kernel
theorem d_Mo_init_89 : decode b_Mo_init 89 = .ok (.bipush 8, 2) := by decide +kernel
theorem d_Mo_init_91 : decode b_Mo_init 91 = .ok (.newarray .int, 2) := by decide +kernel
theorem d_Mo_init_93 : decode b_Mo_init 93 = .ok (.putfield 41, 3) := by decide +kernel
theorem d_Mo_init_96 : decode b_Mo_init 96 = .ok (.aload_n 0, 1) := by decide +kernel
theorem d_Mo_init_97 : decode b_Mo_init 97 = .ok (.bipush 8, 2) := by decide +kernel
theorem d_Mo_init_99 : decode b_Mo_init 99 = .ok (.newarray .int, 2) := by decide +kernel
theorem d_Mo_init_101 : decode b_Mo_init 101 = .ok (.putfield 44, 3) := by decide +kernel
theorem d_Mo_init_104 : decode b_Mo_init 104 = .ok (.return_, 1) := by decide +kernel
set_option maxHeartbeats 4000000 in
set_option maxRecDepth 100000 in
theorem c_Mo_init (mo : Nat) (sz : Nat)  : fs_V l y_Mo_init (k_Mo_init :: fs_T) { frames := 1, cells := 12, slots := 1393, locals := 12 } (dC, dI) vwCl (fs_tys cI cZ cJ cF) [.ref mo] [(mo, .inr (5, [.null, .null, .null, .null, .null, .int 0, .null, .null, .null, .null, .null, .null, .null, .int 0, .int 0, .int 0]))] sz (S := Nat → Nat) (fun _ => True) (fun u => [(mo, .inr (5, [.ref (u 0), .ref (u 1), .ref (u 2), .ref (u 3), .ref (u 4), .int (nI 0), .ref (u 5), .ref (u 6), .ref (u 7), .ref (u 8), .ref (u 9), .ref (u 10), .ref (u 11), .int (nI 0), .int (nI 0), .int (nI 0)])), (u 0, .inl (cI, 320, .inl (fun _ => nI 0))), (u 1, .inl (cI, 320, .inl (fun _ => nI 0))), (u 2, .inl (cI, 320, .inl (fun _ => nI 0))), (u 3, .inl (cI, 320, .inl (fun _ => nI 0))), (u 4, .inl (cI, 8, .inl (fun _ => nI 0))), (u 5, .inl (cI, 16, .inl (fun _ => nI 0))), (u 6, .inl (cI, 16, .inl (fun _ => nI 0))), (u 7, .inl (cZ, 41, .inl (fun _ => nI 0))), (u 8, .inl (cI, 8, .inl (fun _ => nI 0))), (u 9, .inl (cI, 8, .inl (fun _ => nI 0))), (u 10, .inl (cI, 8, .inl (fun _ => nI 0))), (u 11, .inl (cI, 8, .inl (fun _ => nI 0)))]) 12 1393 := by
  refine fs_head (by decide) (Nat.le_of_ble_eq_true rfl) ?_
  intro p e s m below meth c A ls hx hb hr hts hown hlocks hin hml hK hP hD hS hA hAe hsz hl
  have hl : lv_has ls 1 [(0, .ref mo)] := hl
  have hown : s.vm.findClass R_Mo = some m.cls := hown
  refine lv_aload_n hx hb d_Mo_init_0 rfl (lv_at hl 0 rfl) ?_
  refine W.objInit hx hb hown (hts _ wi_429) (hts _ wi_21) (hts _ wi_22) rfl (by rw [hml]; exact hl.1) rfl d_Mo_init_1 (Nat.le_of_ble_eq_true rfl) (Nat.le_of_ble_eq_true rfl) ?_
  refine W.eq (g2 := F0 m 4 ls []) rfl ?_
  refine lv_aload_n hx hb d_Mo_init_4 rfl (lv_at hl 0 rfl) ?_
  refine lv_sipush (v := nI 320) hx hb d_Mo_init_5 (by decide) ?_
  refine fs_newa (atype := .int) (ty := .int) (a0 := (320, .inl (fun _ => nI 0))) hx hb (hts _ wi_61) rfl hK hP hD hS hA 0 rfl fs_uI (fun _ => rfl) (by decide) (by decide) (by decide) (Nat.le_of_ble_eq_true rfl) (Nat.le_of_ble_eq_true rfl) d_Mo_init_8 (fun q8 H hP hD hS => ?_)
  have hP : va_P (dC, dI) vwCl [(mo, .inr (5, [.null, .null, .null, .null, .null, .int 0, .null, .null, .null, .null, .null, .null, .null, .int 0, .int 0, .int 0])), (q8, .inl (cI, 320, .inl (fun _ => nI 0)))] H := hP
  have hD : va_D A [(mo, .inr (5, [.null, .null, .null, .null, .null, .int 0, .null, .null, .null, .null, .null, .null, .null, .int 0, .int 0, .int 0])), (q8, .inl (cI, 320, .inl (fun _ => nI 0)))] := hD
  refine va_putF (D := (dC, dI)) (ci := 5) (v := .ref q8) (ty := (.array .int)) (C := R_Mo) (T := T_Mo) (N := 16) hx hb hts uin_Mo t_Mo ok_Mo n_Mo hown hK hP hD hS 0 rfl rfl 0 (by decide) (hts _ wi_430) (fun _ h9 => h9) rfl hin rfl (by decide +kernel) rfl rfl (Nat.le_of_ble_eq_true rfl) d_Mo_init_10 (fun H locs hP hD hS => ?_)
  have hP : va_P (dC, dI) vwCl [(mo, .inr (5, [.ref q8, .null, .null, .null, .null, .int 0, .null, .null, .null, .null, .null, .null, .null, .int 0, .int 0, .int 0])), (q8, .inl (cI, 320, .inl (fun _ => nI 0)))] H := hP
  have hD : va_D A [(mo, .inr (5, [.ref q8, .null, .null, .null, .null, .int 0, .null, .null, .null, .null, .null, .null, .null, .int 0, .int 0, .int 0])), (q8, .inl (cI, 320, .inl (fun _ => nI 0)))] := hD
  refine lv_aload_n hx hb d_Mo_init_13 rfl (lv_at hl 0 rfl) ?_
  refine lv_sipush (v := nI 320) hx hb d_Mo_init_14 (by decide) ?_
  refine fs_newa (atype := .int) (ty := .int) (a0 := (320, .inl (fun _ => nI 0))) hx hb (hts _ wi_61) rfl hK hP hD hS hA 0 rfl fs_uI (fun _ => rfl) (by decide) (by decide) (by decide) (Nat.le_of_ble_eq_true rfl) (Nat.le_of_ble_eq_true rfl) d_Mo_init_17 (fun q17 H hP hD hS => ?_)
  have hP : va_P (dC, dI) vwCl [(mo, .inr (5, [.ref q8, .null, .null, .null, .null, .int 0, .null, .null, .null, .null, .null, .null, .null, .int 0, .int 0, .int 0])), (q8, .inl (cI, 320, .inl (fun _ => nI 0))), (q17, .inl (cI, 320, .inl (fun _ => nI 0)))] H := hP
  have hD : va_D A [(mo, .inr (5, [.ref q8, .null, .null, .null, .null, .int 0, .null, .null, .null, .null, .null, .null, .null, .int 0, .int 0, .int 0])), (q8, .inl (cI, 320, .inl (fun _ => nI 0))), (q17, .inl (cI, 320, .inl (fun _ => nI 0)))] := hD
  refine va_putF (D := (dC, dI)) (ci := 5) (v := .ref q17) (ty := (.array .int)) (C := R_Mo) (T := T_Mo) (N := 16) hx hb hts uin_Mo t_Mo ok_Mo n_Mo hown hK hP hD hS 0 rfl rfl 1 (by decide) (hts _ wi_431) (fun _ h9 => h9) rfl hin rfl (by decide +kernel) rfl rfl (Nat.le_of_ble_eq_true rfl) d_Mo_init_19 (fun H locs hP hD hS => ?_)
  have hP : va_P (dC, dI) vwCl [(mo, .inr (5, [.ref q8, .ref q17, .null, .null, .null, .int 0, .null, .null, .null, .null, .null, .null, .null, .int 0, .int 0, .int 0])), (q8, .inl (cI, 320, .inl (fun _ => nI 0))), (q17, .inl (cI, 320, .inl (fun _ => nI 0)))] H := hP
  have hD : va_D A [(mo, .inr (5, [.ref q8, .ref q17, .null, .null, .null, .int 0, .null, .null, .null, .null, .null, .null, .null, .int 0, .int 0, .int 0])), (q8, .inl (cI, 320, .inl (fun _ => nI 0))), (q17, .inl (cI, 320, .inl (fun _ => nI 0)))] := hD
  refine lv_aload_n hx hb d_Mo_init_22 rfl (lv_at hl 0 rfl) ?_
  refine lv_sipush (v := nI 320) hx hb d_Mo_init_23 (by decide) ?_
  refine fs_newa (atype := .int) (ty := .int) (a0 := (320, .inl (fun _ => nI 0))) hx hb (hts _ wi_61) rfl hK hP hD hS hA 0 rfl fs_uI (fun _ => rfl) (by decide) (by decide) (by decide) (Nat.le_of_ble_eq_true rfl) (Nat.le_of_ble_eq_true rfl) d_Mo_init_26 (fun q26 H hP hD hS => ?_)
  have hP : va_P (dC, dI) vwCl [(mo, .inr (5, [.ref q8, .ref q17, .null, .null, .null, .int 0, .null, .null, .null, .null, .null, .null, .null, .int 0, .int 0, .int 0])), (q8, .inl (cI, 320, .inl (fun _ => nI 0))), (q17, .inl (cI, 320, .inl (fun _ => nI 0))), (q26, .inl (cI, 320, .inl (fun _ => nI 0)))] H := hP
  have hD : va_D A [(mo, .inr (5, [.ref q8, .ref q17, .null, .null, .null, .int 0, .null, .null, .null, .null, .null, .null, .null, .int 0, .int 0, .int 0])), (q8, .inl (cI, 320, .inl (fun _ => nI 0))), (q17, .inl (cI, 320, .inl (fun _ => nI 0))), (q26, .inl (cI, 320, .inl (fun _ => nI 0)))] := hD
  refine va_putF (D := (dC, dI)) (ci := 5) (v := .ref q26) (ty := (.array .int)) (C := R_Mo) (T := T_Mo) (N := 16) hx hb hts uin_Mo t_Mo ok_Mo n_Mo hown hK hP hD hS 0 rfl rfl 2 (by decide) (hts _ wi_432) (fun _ h9 => h9) rfl hin rfl (by decide +kernel) rfl rfl (Nat.le_of_ble_eq_true rfl) d_Mo_init_28 (fun H locs hP hD hS => ?_)
  have hP : va_P (dC, dI) vwCl [(mo, .inr (5, [.ref q8, .ref q17, .ref q26, .null, .null, .int 0, .null, .null, .null, .null, .null, .null, .null, .int 0, .int 0, .int 0])), (q8, .inl (cI, 320, .inl (fun _ => nI 0))), (q17, .inl (cI, 320, .inl (fun _ => nI 0))), (q26, .inl (cI, 320, .inl (fun _ => nI 0)))] H := hP
  have hD : va_D A [(mo, .inr (5, [.ref q8, .ref q17, .ref q26, .null, .null, .int 0, .null, .null, .null, .null, .null, .null, .null, .int 0, .int 0, .int 0])), (q8, .inl (cI, 320, .inl (fun _ => nI 0))), (q17, .inl (cI, 320, .inl (fun _ => nI 0))), (q26, .inl (cI, 320, .inl (fun _ => nI 0)))] := hD
  refine lv_aload_n hx hb d_Mo_init_31 rfl (lv_at hl 0 rfl) ?_
  refine lv_sipush (v := nI 320) hx hb d_Mo_init_32 (by decide) ?_
  refine fs_newa (atype := .int) (ty := .int) (a0 := (320, .inl (fun _ => nI 0))) hx hb (hts _ wi_61) rfl hK hP hD hS hA 0 rfl fs_uI (fun _ => rfl) (by decide) (by decide) (by decide) (Nat.le_of_ble_eq_true rfl) (Nat.le_of_ble_eq_true rfl) d_Mo_init_35 (fun q35 H hP hD hS => ?_)
  have hP : va_P (dC, dI) vwCl [(mo, .inr (5, [.ref q8, .ref q17, .ref q26, .null, .null, .int 0, .null, .null, .null, .null, .null, .null, .null, .int 0, .int 0, .int 0])), (q8, .inl (cI, 320, .inl (fun _ => nI 0))), (q17, .inl (cI, 320, .inl (fun _ => nI 0))), (q26, .inl (cI, 320, .inl (fun _ => nI 0))), (q35, .inl (cI, 320, .inl (fun _ => nI 0)))] H := hP
  have hD : va_D A [(mo, .inr (5, [.ref q8, .ref q17, .ref q26, .null, .null, .int 0, .null, .null, .null, .null, .null, .null, .null, .int 0, .int 0, .int 0])), (q8, .inl (cI, 320, .inl (fun _ => nI 0))), (q17, .inl (cI, 320, .inl (fun _ => nI 0))), (q26, .inl (cI, 320, .inl (fun _ => nI 0))), (q35, .inl (cI, 320, .inl (fun _ => nI 0)))] := hD
  refine va_putF (D := (dC, dI)) (ci := 5) (v := .ref q35) (ty := (.array .int)) (C := R_Mo) (T := T_Mo) (N := 16) hx hb hts uin_Mo t_Mo ok_Mo n_Mo hown hK hP hD hS 0 rfl rfl 3 (by decide) (hts _ wi_433) (fun _ h9 => h9) rfl hin rfl (by decide +kernel) rfl rfl (Nat.le_of_ble_eq_true rfl) d_Mo_init_37 (fun H locs hP hD hS => ?_)
  have hP : va_P (dC, dI) vwCl [(mo, .inr (5, [.ref q8, .ref q17, .ref q26, .ref q35, .null, .int 0, .null, .null, .null, .null, .null, .null, .null, .int 0, .int 0, .int 0])), (q8, .inl (cI, 320, .inl (fun _ => nI 0))), (q17, .inl (cI, 320, .inl (fun _ => nI 0))), (q26, .inl (cI, 320, .inl (fun _ => nI 0))), (q35, .inl (cI, 320, .inl (fun _ => nI 0)))] H := hP
  have hD : va_D A [(mo, .inr (5, [.ref q8, .ref q17, .ref q26, .ref q35, .null, .int 0, .null, .null, .null, .null, .null, .null, .null, .int 0, .int 0, .int 0])), (q8, .inl (cI, 320, .inl (fun _ => nI 0))), (q17, .inl (cI, 320, .inl (fun _ => nI 0))), (q26, .inl (cI, 320, .inl (fun _ => nI 0))), (q35, .inl (cI, 320, .inl (fun _ => nI 0)))] := hD
  refine lv_aload_n hx hb d_Mo_init_40 rfl (lv_at hl 0 rfl) ?_
  refine lv_bipush (v := nI 8) hx hb d_Mo_init_41 (by decide) ?_
  refine fs_newa (atype := .int) (ty := .int) (a0 := (8, .inl (fun _ => nI 0))) hx hb (hts _ wi_61) rfl hK hP hD hS hA 0 rfl fs_uI (fun _ => rfl) (by decide) (by decide) (by decide) (Nat.le_of_ble_eq_true rfl) (Nat.le_of_ble_eq_true rfl) d_Mo_init_43 (fun q43 H hP hD hS => ?_)
  have hP : va_P (dC, dI) vwCl [(mo, .inr (5, [.ref q8, .ref q17, .ref q26, .ref q35, .null, .int 0, .null, .null, .null, .null, .null, .null, .null, .int 0, .int 0, .int 0])), (q8, .inl (cI, 320, .inl (fun _ => nI 0))), (q17, .inl (cI, 320, .inl (fun _ => nI 0))), (q26, .inl (cI, 320, .inl (fun _ => nI 0))), (q35, .inl (cI, 320, .inl (fun _ => nI 0))), (q43, .inl (cI, 8, .inl (fun _ => nI 0)))] H := hP
  have hD : va_D A [(mo, .inr (5, [.ref q8, .ref q17, .ref q26, .ref q35, .null, .int 0, .null, .null, .null, .null, .null, .null, .null, .int 0, .int 0, .int 0])), (q8, .inl (cI, 320, .inl (fun _ => nI 0))), (q17, .inl (cI, 320, .inl (fun _ => nI 0))), (q26, .inl (cI, 320, .inl (fun _ => nI 0))), (q35, .inl (cI, 320, .inl (fun _ => nI 0))), (q43, .inl (cI, 8, .inl (fun _ => nI 0)))] := hD
  refine va_putF (D := (dC, dI)) (ci := 5) (v := .ref q43) (ty := (.array .int)) (C := R_Mo) (T := T_Mo) (N := 16) hx hb hts uin_Mo t_Mo ok_Mo n_Mo hown hK hP hD hS 0 rfl rfl 4 (by decide) (hts _ wi_434) (fun _ h9 => h9) rfl hin rfl (by decide +kernel) rfl rfl (Nat.le_of_ble_eq_true rfl) d_Mo_init_45 (fun H locs hP hD hS => ?_)
  have hP : va_P (dC, dI) vwCl [(mo, .inr (5, [.ref q8, .ref q17, .ref q26, .ref q35, .ref q43, .int 0, .null, .null, .null, .null, .null, .null, .null, .int 0, .int 0, .int 0])), (q8, .inl (cI, 320, .inl (fun _ => nI 0))), (q17, .inl (cI, 320, .inl (fun _ => nI 0))), (q26, .inl (cI, 320, .inl (fun _ => nI 0))), (q35, .inl (cI, 320, .inl (fun _ => nI 0))), (q43, .inl (cI, 8, .inl (fun _ => nI 0)))] H := hP
  have hD : va_D A [(mo, .inr (5, [.ref q8, .ref q17, .ref q26, .ref q35, .ref q43, .int 0, .null, .null, .null, .null, .null, .null, .null, .int 0, .int 0, .int 0])), (q8, .inl (cI, 320, .inl (fun _ => nI 0))), (q17, .inl (cI, 320, .inl (fun _ => nI 0))), (q26, .inl (cI, 320, .inl (fun _ => nI 0))), (q35, .inl (cI, 320, .inl (fun _ => nI 0))), (q43, .inl (cI, 8, .inl (fun _ => nI 0)))] := hD
  refine lv_aload_n hx hb d_Mo_init_48 rfl (lv_at hl 0 rfl) ?_
  refine lv_bipush (v := nI 16) hx hb d_Mo_init_49 (by decide) ?_
  refine fs_newa (atype := .int) (ty := .int) (a0 := (16, .inl (fun _ => nI 0))) hx hb (hts _ wi_61) rfl hK hP hD hS hA 0 rfl fs_uI (fun _ => rfl) (by decide) (by decide) (by decide) (Nat.le_of_ble_eq_true rfl) (Nat.le_of_ble_eq_true rfl) d_Mo_init_51 (fun q51 H hP hD hS => ?_)
  have hP : va_P (dC, dI) vwCl [(mo, .inr (5, [.ref q8, .ref q17, .ref q26, .ref q35, .ref q43, .int 0, .null, .null, .null, .null, .null, .null, .null, .int 0, .int 0, .int 0])), (q8, .inl (cI, 320, .inl (fun _ => nI 0))), (q17, .inl (cI, 320, .inl (fun _ => nI 0))), (q26, .inl (cI, 320, .inl (fun _ => nI 0))), (q35, .inl (cI, 320, .inl (fun _ => nI 0))), (q43, .inl (cI, 8, .inl (fun _ => nI 0))), (q51, .inl (cI, 16, .inl (fun _ => nI 0)))] H := hP
  have hD : va_D A [(mo, .inr (5, [.ref q8, .ref q17, .ref q26, .ref q35, .ref q43, .int 0, .null, .null, .null, .null, .null, .null, .null, .int 0, .int 0, .int 0])), (q8, .inl (cI, 320, .inl (fun _ => nI 0))), (q17, .inl (cI, 320, .inl (fun _ => nI 0))), (q26, .inl (cI, 320, .inl (fun _ => nI 0))), (q35, .inl (cI, 320, .inl (fun _ => nI 0))), (q43, .inl (cI, 8, .inl (fun _ => nI 0))), (q51, .inl (cI, 16, .inl (fun _ => nI 0)))] := hD
  refine va_putF (D := (dC, dI)) (ci := 5) (v := .ref q51) (ty := (.array .int)) (C := R_Mo) (T := T_Mo) (N := 16) hx hb hts uin_Mo t_Mo ok_Mo n_Mo hown hK hP hD hS 0 rfl rfl 6 (by decide) (hts _ wi_436) (fun _ h9 => h9) rfl hin rfl (by decide +kernel) rfl rfl (Nat.le_of_ble_eq_true rfl) d_Mo_init_53 (fun H locs hP hD hS => ?_)
  have hP : va_P (dC, dI) vwCl [(mo, .inr (5, [.ref q8, .ref q17, .ref q26, .ref q35, .ref q43, .int 0, .ref q51, .null, .null, .null, .null, .null, .null, .int 0, .int 0, .int 0])), (q8, .inl (cI, 320, .inl (fun _ => nI 0))), (q17, .inl (cI, 320, .inl (fun _ => nI 0))), (q26, .inl (cI, 320, .inl (fun _ => nI 0))), (q35, .inl (cI, 320, .inl (fun _ => nI 0))), (q43, .inl (cI, 8, .inl (fun _ => nI 0))), (q51, .inl (cI, 16, .inl (fun _ => nI 0)))] H := hP
  have hD : va_D A [(mo, .inr (5, [.ref q8, .ref q17, .ref q26, .ref q35, .ref q43, .int 0, .ref q51, .null, .null, .null, .null, .null, .null, .int 0, .int 0, .int 0])), (q8, .inl (cI, 320, .inl (fun _ => nI 0))), (q17, .inl (cI, 320, .inl (fun _ => nI 0))), (q26, .inl (cI, 320, .inl (fun _ => nI 0))), (q35, .inl (cI, 320, .inl (fun _ => nI 0))), (q43, .inl (cI, 8, .inl (fun _ => nI 0))), (q51, .inl (cI, 16, .inl (fun _ => nI 0)))] := hD
  refine lv_aload_n hx hb d_Mo_init_56 rfl (lv_at hl 0 rfl) ?_
  refine lv_bipush (v := nI 16) hx hb d_Mo_init_57 (by decide) ?_
  refine fs_newa (atype := .int) (ty := .int) (a0 := (16, .inl (fun _ => nI 0))) hx hb (hts _ wi_61) rfl hK hP hD hS hA 0 rfl fs_uI (fun _ => rfl) (by decide) (by decide) (by decide) (Nat.le_of_ble_eq_true rfl) (Nat.le_of_ble_eq_true rfl) d_Mo_init_59 (fun q59 H hP hD hS => ?_)
  have hP : va_P (dC, dI) vwCl [(mo, .inr (5, [.ref q8, .ref q17, .ref q26, .ref q35, .ref q43, .int 0, .ref q51, .null, .null, .null, .null, .null, .null, .int 0, .int 0, .int 0])), (q8, .inl (cI, 320, .inl (fun _ => nI 0))), (q17, .inl (cI, 320, .inl (fun _ => nI 0))), (q26, .inl (cI, 320, .inl (fun _ => nI 0))), (q35, .inl (cI, 320, .inl (fun _ => nI 0))), (q43, .inl (cI, 8, .inl (fun _ => nI 0))), (q51, .inl (cI, 16, .inl (fun _ => nI 0))), (q59, .inl (cI, 16, .inl (fun _ => nI 0)))] H := hP
  have hD : va_D A [(mo, .inr (5, [.ref q8, .ref q17, .ref q26, .ref q35, .ref q43, .int 0, .ref q51, .null, .null, .null, .null, .null, .null, .int 0, .int 0, .int 0])), (q8, .inl (cI, 320, .inl (fun _ => nI 0))), (q17, .inl (cI, 320, .inl (fun _ => nI 0))), (q26, .inl (cI, 320, .inl (fun _ => nI 0))), (q35, .inl (cI, 320, .inl (fun _ => nI 0))), (q43, .inl (cI, 8, .inl (fun _ => nI 0))), (q51, .inl (cI, 16, .inl (fun _ => nI 0))), (q59, .inl (cI, 16, .inl (fun _ => nI 0)))] := hD
  refine va_putF (D := (dC, dI)) (ci := 5) (v := .ref q59) (ty := (.array .int)) (C := R_Mo) (T := T_Mo) (N := 16) hx hb hts uin_Mo t_Mo ok_Mo n_Mo hown hK hP hD hS 0 rfl rfl 7 (by decide) (hts _ wi_437) (fun _ h9 => h9) rfl hin rfl (by decide +kernel) rfl rfl (Nat.le_of_ble_eq_true rfl) d_Mo_init_61 (fun H locs hP hD hS => ?_)
  have hP : va_P (dC, dI) vwCl [(mo, .inr (5, [.ref q8, .ref q17, .ref q26, .ref q35, .ref q43, .int 0, .ref q51, .ref q59, .null, .null, .null, .null, .null, .int 0, .int 0, .int 0])), (q8, .inl (cI, 320, .inl (fun _ => nI 0))), (q17, .inl (cI, 320, .inl (fun _ => nI 0))), (q26, .inl (cI, 320, .inl (fun _ => nI 0))), (q35, .inl (cI, 320, .inl (fun _ => nI 0))), (q43, .inl (cI, 8, .inl (fun _ => nI 0))), (q51, .inl (cI, 16, .inl (fun _ => nI 0))), (q59, .inl (cI, 16, .inl (fun _ => nI 0)))] H := hP
  have hD : va_D A [(mo, .inr (5, [.ref q8, .ref q17, .ref q26, .ref q35, .ref q43, .int 0, .ref q51, .ref q59, .null, .null, .null, .null, .null, .int 0, .int 0, .int 0])), (q8, .inl (cI, 320, .inl (fun _ => nI 0))), (q17, .inl (cI, 320, .inl (fun _ => nI 0))), (q26, .inl (cI, 320, .inl (fun _ => nI 0))), (q35, .inl (cI, 320, .inl (fun _ => nI 0))), (q43, .inl (cI, 8, .inl (fun _ => nI 0))), (q51, .inl (cI, 16, .inl (fun _ => nI 0))), (q59, .inl (cI, 16, .inl (fun _ => nI 0)))] := hD
  refine lv_aload_n hx hb d_Mo_init_64 rfl (lv_at hl 0 rfl) ?_
  refine lv_bipush (v := nI 41) hx hb d_Mo_init_65 (by decide) ?_
  refine fs_newa (atype := .boolean) (ty := .boolean) (a0 := (41, .inl (fun _ => nI 0))) hx hb (hts _ wi_479) rfl hK hP hD hS hA 1 rfl fs_uZ (fun _ => rfl) (by decide) (by decide) (by decide) (Nat.le_of_ble_eq_true rfl) (Nat.le_of_ble_eq_true rfl) d_Mo_init_67 (fun q67 H hP hD hS => ?_)
  have hP : va_P (dC, dI) vwCl [(mo, .inr (5, [.ref q8, .ref q17, .ref q26, .ref q35, .ref q43, .int 0, .ref q51, .ref q59, .null, .null, .null, .null, .null, .int 0, .int 0, .int 0])), (q8, .inl (cI, 320, .inl (fun _ => nI 0))), (q17, .inl (cI, 320, .inl (fun _ => nI 0))), (q26, .inl (cI, 320, .inl (fun _ => nI 0))), (q35, .inl (cI, 320, .inl (fun _ => nI 0))), (q43, .inl (cI, 8, .inl (fun _ => nI 0))), (q51, .inl (cI, 16, .inl (fun _ => nI 0))), (q59, .inl (cI, 16, .inl (fun _ => nI 0))), (q67, .inl (cZ, 41, .inl (fun _ => nI 0)))] H := hP
  have hD : va_D A [(mo, .inr (5, [.ref q8, .ref q17, .ref q26, .ref q35, .ref q43, .int 0, .ref q51, .ref q59, .null, .null, .null, .null, .null, .int 0, .int 0, .int 0])), (q8, .inl (cI, 320, .inl (fun _ => nI 0))), (q17, .inl (cI, 320, .inl (fun _ => nI 0))), (q26, .inl (cI, 320, .inl (fun _ => nI 0))), (q35, .inl (cI, 320, .inl (fun _ => nI 0))), (q43, .inl (cI, 8, .inl (fun _ => nI 0))), (q51, .inl (cI, 16, .inl (fun _ => nI 0))), (q59, .inl (cI, 16, .inl (fun _ => nI 0))), (q67, .inl (cZ, 41, .inl (fun _ => nI 0)))] := hD
  refine va_putF (D := (dC, dI)) (ci := 5) (v := .ref q67) (ty := (.array .boolean)) (C := R_Mo) (T := T_Mo) (N := 16) hx hb hts uin_Mo t_Mo ok_Mo n_Mo hown hK hP hD hS 0 rfl rfl 8 (by decide) (hts _ wi_438) (fun _ h9 => h9) rfl hin rfl (by decide +kernel) rfl rfl (Nat.le_of_ble_eq_true rfl) d_Mo_init_69 (fun H locs hP hD hS => ?_)
  have hP : va_P (dC, dI) vwCl [(mo, .inr (5, [.ref q8, .ref q17, .ref q26, .ref q35, .ref q43, .int 0, .ref q51, .ref q59, .ref q67, .null, .null, .null, .null, .int 0, .int 0, .int 0])), (q8, .inl (cI, 320, .inl (fun _ => nI 0))), (q17, .inl (cI, 320, .inl (fun _ => nI 0))), (q26, .inl (cI, 320, .inl (fun _ => nI 0))), (q35, .inl (cI, 320, .inl (fun _ => nI 0))), (q43, .inl (cI, 8, .inl (fun _ => nI 0))), (q51, .inl (cI, 16, .inl (fun _ => nI 0))), (q59, .inl (cI, 16, .inl (fun _ => nI 0))), (q67, .inl (cZ, 41, .inl (fun _ => nI 0)))] H := hP
  have hD : va_D A [(mo, .inr (5, [.ref q8, .ref q17, .ref q26, .ref q35, .ref q43, .int 0, .ref q51, .ref q59, .ref q67, .null, .null, .null, .null, .int 0, .int 0, .int 0])), (q8, .inl (cI, 320, .inl (fun _ => nI 0))), (q17, .inl (cI, 320, .inl (fun _ => nI 0))), (q26, .inl (cI, 320, .inl (fun _ => nI 0))), (q35, .inl (cI, 320, .inl (fun _ => nI 0))), (q43, .inl (cI, 8, .inl (fun _ => nI 0))), (q51, .inl (cI, 16, .inl (fun _ => nI 0))), (q59, .inl (cI, 16, .inl (fun _ => nI 0))), (q67, .inl (cZ, 41, .inl (fun _ => nI 0)))] := hD
  refine lv_aload_n hx hb d_Mo_init_72 rfl (lv_at hl 0 rfl) ?_
  refine lv_bipush (v := nI 8) hx hb d_Mo_init_73 (by decide) ?_
  refine fs_newa (atype := .int) (ty := .int) (a0 := (8, .inl (fun _ => nI 0))) hx hb (hts _ wi_61) rfl hK hP hD hS hA 0 rfl fs_uI (fun _ => rfl) (by decide) (by decide) (by decide) (Nat.le_of_ble_eq_true rfl) (Nat.le_of_ble_eq_true rfl) d_Mo_init_75 (fun q75 H hP hD hS => ?_)
  have hP : va_P (dC, dI) vwCl [(mo, .inr (5, [.ref q8, .ref q17, .ref q26, .ref q35, .ref q43, .int 0, .ref q51, .ref q59, .ref q67, .null, .null, .null, .null, .int 0, .int 0, .int 0])), (q8, .inl (cI, 320, .inl (fun _ => nI 0))), (q17, .inl (cI, 320, .inl (fun _ => nI 0))), (q26, .inl (cI, 320, .inl (fun _ => nI 0))), (q35, .inl (cI, 320, .inl (fun _ => nI 0))), (q43, .inl (cI, 8, .inl (fun _ => nI 0))), (q51, .inl (cI, 16, .inl (fun _ => nI 0))), (q59, .inl (cI, 16, .inl (fun _ => nI 0))), (q67, .inl (cZ, 41, .inl (fun _ => nI 0))), (q75, .inl (cI, 8, .inl (fun _ => nI 0)))] H := hP
  have hD : va_D A [(mo, .inr (5, [.ref q8, .ref q17, .ref q26, .ref q35, .ref q43, .int 0, .ref q51, .ref q59, .ref q67, .null, .null, .null, .null, .int 0, .int 0, .int 0])), (q8, .inl (cI, 320, .inl (fun _ => nI 0))), (q17, .inl (cI, 320, .inl (fun _ => nI 0))), (q26, .inl (cI, 320, .inl (fun _ => nI 0))), (q35, .inl (cI, 320, .inl (fun _ => nI 0))), (q43, .inl (cI, 8, .inl (fun _ => nI 0))), (q51, .inl (cI, 16, .inl (fun _ => nI 0))), (q59, .inl (cI, 16, .inl (fun _ => nI 0))), (q67, .inl (cZ, 41, .inl (fun _ => nI 0))), (q75, .inl (cI, 8, .inl (fun _ => nI 0)))] := hD
  refine va_putF (D := (dC, dI)) (ci := 5) (v := .ref q75) (ty := (.array .int)) (C := R_Mo) (T := T_Mo) (N := 16) hx hb hts uin_Mo t_Mo ok_Mo n_Mo hown hK hP hD hS 0 rfl rfl 9 (by decide) (hts _ wi_439) (fun _ h9 => h9) rfl hin rfl (by decide +kernel) rfl rfl (Nat.le_of_ble_eq_true rfl) d_Mo_init_77 (fun H locs hP hD hS => ?_)
  have hP : va_P (dC, dI) vwCl [(mo, .inr (5, [.ref q8, .ref q17, .ref q26, .ref q35, .ref q43, .int 0, .ref q51, .ref q59, .ref q67, .ref q75, .null, .null, .null, .int 0, .int 0, .int 0])), (q8, .inl (cI, 320, .inl (fun _ => nI 0))), (q17, .inl (cI, 320, .inl (fun _ => nI 0))), (q26, .inl (cI, 320, .inl (fun _ => nI 0))), (q35, .inl (cI, 320, .inl (fun _ => nI 0))), (q43, .inl (cI, 8, .inl (fun _ => nI 0))), (q51, .inl (cI, 16, .inl (fun _ => nI 0))), (q59, .inl (cI, 16, .inl (fun _ => nI 0))), (q67, .inl (cZ, 41, .inl (fun _ => nI 0))), (q75, .inl (cI, 8, .inl (fun _ => nI 0)))] H := hP
  have hD : va_D A [(mo, .inr (5, [.ref q8, .ref q17, .ref q26, .ref q35, .ref q43, .int 0, .ref q51, .ref q59, .ref q67, .ref q75, .null, .null, .null, .int 0, .int 0, .int 0])), (q8, .inl (cI, 320, .inl (fun _ => nI 0))), (q17, .inl (cI, 320, .inl (fun _ => nI 0))), (q26, .inl (cI, 320, .inl (fun _ => nI 0))), (q35, .inl (cI, 320, .inl (fun _ => nI 0))), (q43, .inl (cI, 8, .inl (fun _ => nI 0))), (q51, .inl (cI, 16, .inl (fun _ => nI 0))), (q59, .inl (cI, 16, .inl (fun _ => nI 0))), (q67, .inl (cZ, 41, .inl (fun _ => nI 0))), (q75, .inl (cI, 8, .inl (fun _ => nI 0)))] := hD
  refine lv_aload_n hx hb d_Mo_init_80 rfl (lv_at hl 0 rfl) ?_
  refine lv_bipush (v := nI 8) hx hb d_Mo_init_81 (by decide) ?_
  refine fs_newa (atype := .int) (ty := .int) (a0 := (8, .inl (fun _ => nI 0))) hx hb (hts _ wi_61) rfl hK hP hD hS hA 0 rfl fs_uI (fun _ => rfl) (by decide) (by decide) (by decide) (Nat.le_of_ble_eq_true rfl) (Nat.le_of_ble_eq_true rfl) d_Mo_init_83 (fun q83 H hP hD hS => ?_)
  have hP : va_P (dC, dI) vwCl [(mo, .inr (5, [.ref q8, .ref q17, .ref q26, .ref q35, .ref q43, .int 0, .ref q51, .ref q59, .ref q67, .ref q75, .null, .null, .null, .int 0, .int 0, .int 0])), (q8, .inl (cI, 320, .inl (fun _ => nI 0))), (q17, .inl (cI, 320, .inl (fun _ => nI 0))), (q26, .inl (cI, 320, .inl (fun _ => nI 0))), (q35, .inl (cI, 320, .inl (fun _ => nI 0))), (q43, .inl (cI, 8, .inl (fun _ => nI 0))), (q51, .inl (cI, 16, .inl (fun _ => nI 0))), (q59, .inl (cI, 16, .inl (fun _ => nI 0))), (q67, .inl (cZ, 41, .inl (fun _ => nI 0))), (q75, .inl (cI, 8, .inl (fun _ => nI 0))), (q83, .inl (cI, 8, .inl (fun _ => nI 0)))] H := hP
  have hD : va_D A [(mo, .inr (5, [.ref q8, .ref q17, .ref q26, .ref q35, .ref q43, .int 0, .ref q51, .ref q59, .ref q67, .ref q75, .null, .null, .null, .int 0, .int 0, .int 0])), (q8, .inl (cI, 320, .inl (fun _ => nI 0))), (q17, .inl (cI, 320, .inl (fun _ => nI 0))), (q26, .inl (cI, 320, .inl (fun _ => nI 0))), (q35, .inl (cI, 320, .inl (fun _ => nI 0))), (q43, .inl (cI, 8, .inl (fun _ => nI 0))), (q51, .inl (cI, 16, .inl (fun _ => nI 0))), (q59, .inl (cI, 16, .inl (fun _ => nI 0))), (q67, .inl (cZ, 41, .inl (fun _ => nI 0))), (q75, .inl (cI, 8, .inl (fun _ => nI 0))), (q83, .inl (cI, 8, .inl (fun _ => nI 0)))] := hD
  refine va_putF (D := (dC, dI)) (ci := 5) (v := .ref q83) (ty := (.array .int)) (C := R_Mo) (T := T_Mo) (N := 16) hx hb hts uin_Mo t_Mo ok_Mo n_Mo hown hK hP hD hS 0 rfl rfl 10 (by decide) (hts _ wi_440) (fun _ h9 => h9) rfl hin rfl (by decide +kernel) rfl rfl (Nat.le_of_ble_eq_true rfl) d_Mo_init_85 (fun H locs hP hD hS => ?_)
  have hP : va_P (dC, dI) vwCl [(mo, .inr (5, [.ref q8, .ref q17, .ref q26, .ref q35, .ref q43, .int 0, .ref q51, .ref q59, .ref q67, .ref q75, .ref q83, .null, .null, .int 0, .int 0, .int 0])), (q8, .inl (cI, 320, .inl (fun _ => nI 0))), (q17, .inl (cI, 320, .inl (fun _ => nI 0))), (q26, .inl (cI, 320, .inl (fun _ => nI 0))), (q35, .inl (cI, 320, .inl (fun _ => nI 0))), (q43, .inl (cI, 8, .inl (fun _ => nI 0))), (q51, .inl (cI, 16, .inl (fun _ => nI 0))), (q59, .inl (cI, 16, .inl (fun _ => nI 0))), (q67, .inl (cZ, 41, .inl (fun _ => nI 0))), (q75, .inl (cI, 8, .inl (fun _ => nI 0))), (q83, .inl (cI, 8, .inl (fun _ => nI 0)))] H := hP
  have hD : va_D A [(mo, .inr (5, [.ref q8, .ref q17, .ref q26, .ref q35, .ref q43, .int 0, .ref q51, .ref q59, .ref q67, .ref q75, .ref q83, .null, .null, .int 0, .int 0, .int 0])), (q8, .inl (cI, 320, .inl (fun _ => nI 0))), (q17, .inl (cI, 320, .inl (fun _ => nI 0))), (q26, .inl (cI, 320, .inl (fun _ => nI 0))), (q35, .inl (cI, 320, .inl (fun _ => nI 0))), (q43, .inl (cI, 8, .inl (fun _ => nI 0))), (q51, .inl (cI, 16, .inl (fun _ => nI 0))), (q59, .inl (cI, 16, .inl (fun _ => nI 0))), (q67, .inl (cZ, 41, .inl (fun _ => nI 0))), (q75, .inl (cI, 8, .inl (fun _ => nI 0))), (q83, .inl (cI, 8, .inl (fun _ => nI 0)))] := hD
  refine lv_aload_n hx hb d_Mo_init_88 rfl (lv_at hl 0 rfl) ?_
  refine lv_bipush (v := nI 8) hx hb d_Mo_init_89 (by decide) ?_
  refine fs_newa (atype := .int) (ty := .int) (a0 := (8, .inl (fun _ => nI 0))) hx hb (hts _ wi_61) rfl hK hP hD hS hA 0 rfl fs_uI (fun _ => rfl) (by decide) (by decide) (by decide) (Nat.le_of_ble_eq_true rfl) (Nat.le_of_ble_eq_true rfl) d_Mo_init_91 (fun q91 H hP hD hS => ?_)
  have hP : va_P (dC, dI) vwCl [(mo, .inr (5, [.ref q8, .ref q17, .ref q26, .ref q35, .ref q43, .int 0, .ref q51, .ref q59, .ref q67, .ref q75, .ref q83, .null, .null, .int 0, .int 0, .int 0])), (q8, .inl (cI, 320, .inl (fun _ => nI 0))), (q17, .inl (cI, 320, .inl (fun _ => nI 0))), (q26, .inl (cI, 320, .inl (fun _ => nI 0))), (q35, .inl (cI, 320, .inl (fun _ => nI 0))), (q43, .inl (cI, 8, .inl (fun _ => nI 0))), (q51, .inl (cI, 16, .inl (fun _ => nI 0))), (q59, .inl (cI, 16, .inl (fun _ => nI 0))), (q67, .inl (cZ, 41, .inl (fun _ => nI 0))), (q75, .inl (cI, 8, .inl (fun _ => nI 0))), (q83, .inl (cI, 8, .inl (fun _ => nI 0))), (q91, .inl (cI, 8, .inl (fun _ => nI 0)))] H := hP
  have hD : va_D A [(mo, .inr (5, [.ref q8, .ref q17, .ref q26, .ref q35, .ref q43, .int 0, .ref q51, .ref q59, .ref q67, .ref q75, .ref q83, .null, .null, .int 0, .int 0, .int 0])), (q8, .inl (cI, 320, .inl (fun _ => nI 0))), (q17, .inl (cI, 320, .inl (fun _ => nI 0))), (q26, .inl (cI, 320, .inl (fun _ => nI 0))), (q35, .inl (cI, 320, .inl (fun _ => nI 0))), (q43, .inl (cI, 8, .inl (fun _ => nI 0))), (q51, .inl (cI, 16, .inl (fun _ => nI 0))), (q59, .inl (cI, 16, .inl (fun _ => nI 0))), (q67, .inl (cZ, 41, .inl (fun _ => nI 0))), (q75, .inl (cI, 8, .inl (fun _ => nI 0))), (q83, .inl (cI, 8, .inl (fun _ => nI 0))), (q91, .inl (cI, 8, .inl (fun _ => nI 0)))] := hD
  refine va_putF (D := (dC, dI)) (ci := 5) (v := .ref q91) (ty := (.array .int)) (C := R_Mo) (T := T_Mo) (N := 16) hx hb hts uin_Mo t_Mo ok_Mo n_Mo hown hK hP hD hS 0 rfl rfl 11 (by decide) (hts _ wi_441) (fun _ h9 => h9) rfl hin rfl (by decide +kernel) rfl rfl (Nat.le_of_ble_eq_true rfl) d_Mo_init_93 (fun H locs hP hD hS => ?_)
  have hP : va_P (dC, dI) vwCl [(mo, .inr (5, [.ref q8, .ref q17, .ref q26, .ref q35, .ref q43, .int 0, .ref q51, .ref q59, .ref q67, .ref q75, .ref q83, .ref q91, .null, .int 0, .int 0, .int 0])), (q8, .inl (cI, 320, .inl (fun _ => nI 0))), (q17, .inl (cI, 320, .inl (fun _ => nI 0))), (q26, .inl (cI, 320, .inl (fun _ => nI 0))), (q35, .inl (cI, 320, .inl (fun _ => nI 0))), (q43, .inl (cI, 8, .inl (fun _ => nI 0))), (q51, .inl (cI, 16, .inl (fun _ => nI 0))), (q59, .inl (cI, 16, .inl (fun _ => nI 0))), (q67, .inl (cZ, 41, .inl (fun _ => nI 0))), (q75, .inl (cI, 8, .inl (fun _ => nI 0))), (q83, .inl (cI, 8, .inl (fun _ => nI 0))), (q91, .inl (cI, 8, .inl (fun _ => nI 0)))] H := hP
  have hD : va_D A [(mo, .inr (5, [.ref q8, .ref q17, .ref q26, .ref q35, .ref q43, .int 0, .ref q51, .ref q59, .ref q67, .ref q75, .ref q83, .ref q91, .null, .int 0, .int 0, .int 0])), (q8, .inl (cI, 320, .inl (fun _ => nI 0))), (q17, .inl (cI, 320, .inl (fun _ => nI 0))), (q26, .inl (cI, 320, .inl (fun _ => nI 0))), (q35, .inl (cI, 320, .inl (fun _ => nI 0))), (q43, .inl (cI, 8, .inl (fun _ => nI 0))), (q51, .inl (cI, 16, .inl (fun _ => nI 0))), (q59, .inl (cI, 16, .inl (fun _ => nI 0))), (q67, .inl (cZ, 41, .inl (fun _ => nI 0))), (q75, .inl (cI, 8, .inl (fun _ => nI 0))), (q83, .inl (cI, 8, .inl (fun _ => nI 0))), (q91, .inl (cI, 8, .inl (fun _ => nI 0)))] := hD
  refine lv_aload_n hx hb d_Mo_init_96 rfl (lv_at hl 0 rfl) ?_
  refine lv_bipush (v := nI 8) hx hb d_Mo_init_97 (by decide) ?_
  refine fs_newa (atype := .int) (ty := .int) (a0 := (8, .inl (fun _ => nI 0))) hx hb (hts _ wi_61) rfl hK hP hD hS hA 0 rfl fs_uI (fun _ => rfl) (by decide) (by decide) (by decide) (Nat.le_of_ble_eq_true rfl) (Nat.le_of_ble_eq_true rfl) d_Mo_init_99 (fun q99 H hP hD hS => ?_)
  have hP : va_P (dC, dI) vwCl [(mo, .inr (5, [.ref q8, .ref q17, .ref q26, .ref q35, .ref q43, .int 0, .ref q51, .ref q59, .ref q67, .ref q75, .ref q83, .ref q91, .null, .int 0, .int 0, .int 0])), (q8, .inl (cI, 320, .inl (fun _ => nI 0))), (q17, .inl (cI, 320, .inl (fun _ => nI 0))), (q26, .inl (cI, 320, .inl (fun _ => nI 0))), (q35, .inl (cI, 320, .inl (fun _ => nI 0))), (q43, .inl (cI, 8, .inl (fun _ => nI 0))), (q51, .inl (cI, 16, .inl (fun _ => nI 0))), (q59, .inl (cI, 16, .inl (fun _ => nI 0))), (q67, .inl (cZ, 41, .inl (fun _ => nI 0))), (q75, .inl (cI, 8, .inl (fun _ => nI 0))), (q83, .inl (cI, 8, .inl (fun _ => nI 0))), (q91, .inl (cI, 8, .inl (fun _ => nI 0))), (q99, .inl (cI, 8, .inl (fun _ => nI 0)))] H := hP
  have hD : va_D A [(mo, .inr (5, [.ref q8, .ref q17, .ref q26, .ref q35, .ref q43, .int 0, .ref q51, .ref q59, .ref q67, .ref q75, .ref q83, .ref q91, .null, .int 0, .int 0, .int 0])), (q8, .inl (cI, 320, .inl (fun _ => nI 0))), (q17, .inl (cI, 320, .inl (fun _ => nI 0))), (q26, .inl (cI, 320, .inl (fun _ => nI 0))), (q35, .inl (cI, 320, .inl (fun _ => nI 0))), (q43, .inl (cI, 8, .inl (fun _ => nI 0))), (q51, .inl (cI, 16, .inl (fun _ => nI 0))), (q59, .inl (cI, 16, .inl (fun _ => nI 0))), (q67, .inl (cZ, 41, .inl (fun _ => nI 0))), (q75, .inl (cI, 8, .inl (fun _ => nI 0))), (q83, .inl (cI, 8, .inl (fun _ => nI 0))), (q91, .inl (cI, 8, .inl (fun _ => nI 0))), (q99, .inl (cI, 8, .inl (fun _ => nI 0)))] := hD
  refine va_putF (D := (dC, dI)) (ci := 5) (v := .ref q99) (ty := (.array .int)) (C := R_Mo) (T := T_Mo) (N := 16) hx hb hts uin_Mo t_Mo ok_Mo n_Mo hown hK hP hD hS 0 rfl rfl 12 (by decide) (hts _ wi_442) (fun _ h9 => h9) rfl hin rfl (by decide +kernel) rfl rfl (Nat.le_of_ble_eq_true rfl) d_Mo_init_101 (fun H locs hP hD hS => ?_)
  have hP : va_P (dC, dI) vwCl [(mo, .inr (5, [.ref q8, .ref q17, .ref q26, .ref q35, .ref q43, .int 0, .ref q51, .ref q59, .ref q67, .ref q75, .ref q83, .ref q91, .ref q99, .int 0, .int 0, .int 0])), (q8, .inl (cI, 320, .inl (fun _ => nI 0))), (q17, .inl (cI, 320, .inl (fun _ => nI 0))), (q26, .inl (cI, 320, .inl (fun _ => nI 0))), (q35, .inl (cI, 320, .inl (fun _ => nI 0))), (q43, .inl (cI, 8, .inl (fun _ => nI 0))), (q51, .inl (cI, 16, .inl (fun _ => nI 0))), (q59, .inl (cI, 16, .inl (fun _ => nI 0))), (q67, .inl (cZ, 41, .inl (fun _ => nI 0))), (q75, .inl (cI, 8, .inl (fun _ => nI 0))), (q83, .inl (cI, 8, .inl (fun _ => nI 0))), (q91, .inl (cI, 8, .inl (fun _ => nI 0))), (q99, .inl (cI, 8, .inl (fun _ => nI 0)))] H := hP
  have hD : va_D A [(mo, .inr (5, [.ref q8, .ref q17, .ref q26, .ref q35, .ref q43, .int 0, .ref q51, .ref q59, .ref q67, .ref q75, .ref q83, .ref q91, .ref q99, .int 0, .int 0, .int 0])), (q8, .inl (cI, 320, .inl (fun _ => nI 0))), (q17, .inl (cI, 320, .inl (fun _ => nI 0))), (q26, .inl (cI, 320, .inl (fun _ => nI 0))), (q35, .inl (cI, 320, .inl (fun _ => nI 0))), (q43, .inl (cI, 8, .inl (fun _ => nI 0))), (q51, .inl (cI, 16, .inl (fun _ => nI 0))), (q59, .inl (cI, 16, .inl (fun _ => nI 0))), (q67, .inl (cZ, 41, .inl (fun _ => nI 0))), (q75, .inl (cI, 8, .inl (fun _ => nI 0))), (q83, .inl (cI, 8, .inl (fun _ => nI 0))), (q91, .inl (cI, 8, .inl (fun _ => nI 0))), (q99, .inl (cI, 8, .inl (fun _ => nI 0)))] := hD
  refine W.widen (k := 12) (n := 1393) (by decide) (by decide) ?_
  exact fs_vret hx hb hr hlocks hAe hK hS d_Mo_init_104 (fun z => [q8, q17, q26, q35, q43, q51, q59, q67, q75, q83, q91, q99].getD z 0) (trivial) hP hD

end CT
