section FI
variable {l : Launch} {dC : Nat → ClassId} {dI : Nat → Nat → Nat} {cI cZ cJ cF : ClassId}
theorem d_Fi_has_0 : decode b_Fi_has 0 = .ok (.iload_n 1, 1) := by decide +kernel
theorem d_Fi_has_1 : decode b_Fi_has 1 = .ok (.ifCond .lt 15, 3) := by decide +kernel
theorem d_Fi_has_4 : decode b_Fi_has 4 = .ok (.iload_n 1, 1) := by decide +kernel
theorem d_Fi_has_5 : decode b_Fi_has 5 = .ok (.aload_n 0, 1) := by decide +kernel
theorem d_Fi_has_6 : decode b_Fi_has 6 = .ok (.getfield 24, 3) := by decide +kernel
theorem d_Fi_has_9 : decode b_Fi_has 9 = .ok (.if_icmp .ge 7, 3) := by decide +kernel
theorem d_Fi_has_12 : decode b_Fi_has 12 = .ok (.iconst 1, 1) := by decide +kernel
theorem d_Fi_has_13 : decode b_Fi_has 13 = .ok (.goto 4, 3) := by decide +kernel
theorem d_Fi_has_16 : decode b_Fi_has 16 = .ok (.iconst 0, 1) := by decide +kernel
theorem d_Fi_has_17 : decode b_Fi_has 17 = .ok (.ireturn, 1) := by decide +kernel
set_option maxHeartbeats 4000000 in
set_option maxRecDepth 100000 in
/-- is there an instruction i -/
theorem c_Fi_has (q o y n k len : Nat) (i : Int32) (sz : Nat) (hlen : len ≤ 40) : fs_I l y_Fi_has (k_Fi_has :: fs_T) { frames := 0, cells := 0, slots := 0, locals := 0 } (dC, dI) vwCl (fs_tys cI cZ cJ cF) [.ref q, .int i] [(q, .inr (1, [.ref o, .ref y, .ref n, .ref k, .int (nI len)]))] sz (S := Unit) (fun r _ => ((∃ j, j < len ∧ i = nI j) ∧ r = nI 1) ∨ ((∀ j, j < len → i ≠ nI j) ∧ r = nI 0)) (fun _ => [(q, .inr (1, [.ref o, .ref y, .ref n, .ref k, .int (nI len)]))]) 0 0 := by
  refine fs_head (by decide) (Nat.le_of_ble_eq_true rfl) ?_
  intro p e s m below meth c A ls hx hb hr hts hown hlocks hin hml hK hP hD hS hA hAe hsz hl
  have hl : lv_has ls 2 [(0, .ref q), (1, .int i)] := hl
  have hown : s.vm.findClass R_Fi = some m.cls := hown
  refine lv_iload_n hx hb d_Fi_has_0 rfl (lv_at hl 1 rfl) ?_
  refine lv_if_lt (tgt := 16) hx hb d_Fi_has_1 (by decide) (fun hc1 => ?_) (fun hc1 => ?_)
  · refine lv_iconst (v := nI 0) hx hb d_Fi_has_16 (by decide) ?_
    exact fs_zret hx hb hr hlocks hAe hK hS d_Fi_has_17 (by decide) () (Or.inr ⟨fun j hj e => by rw [e] at hc1; exact nI_pos (by omega) hc1, rfl⟩) hP hD
  refine lv_iload_n hx hb d_Fi_has_4 rfl (lv_at hl 1 rfl) ?_
  refine lv_aload_n hx hb d_Fi_has_5 rfl (lv_at hl 0 rfl) ?_
  refine va_get (D := (dC, dI)) (ci := 1) (v := .int (nI len)) (C := R_Fi) (T := T_Fi) (N := 5) hx hb hts uin_Fi hown hK hP 0 rfl rfl 4 (by decide) (hts _ wi_46) (fun _ h9 => h9) rfl d_Fi_has_6 ?_
  refine lv_icmp_ge (tgt := 16) hx hb d_Fi_has_9 (by decide) (fun hc9 => ?_) (fun hc9 => ?_)
  · refine lv_iconst (v := nI 0) hx hb d_Fi_has_16 (by decide) ?_
    exact fs_zret hx hb hr hlocks hAe hK hS d_Fi_has_17 (by decide) () (Or.inr ⟨fun j hj e => by rw [e] at hc9; exact nI_ge hj (by omega) hc9, rfl⟩) hP hD
  refine lv_iconst (v := nI 1) hx hb d_Fi_has_12 (by decide) ?_
  refine lv_goto (tgt := 17) hx hb d_Fi_has_13 (by decide) ?_
  exact fs_zret hx hb hr hlocks hAe hK hS d_Fi_has_17 (by decide) () (by obtain ⟨j, h1, h2, _⟩ := pk_mu hc1 hc9 (by omega); exact Or.inl ⟨⟨j, h1, h2⟩, rfl⟩) hP hD

theorem d_Fi_append_0 : decode b_Fi_append 0 = .ok (.aload_n 0, 1) := by decide +kernel
theorem d_Fi_append_1 : decode b_Fi_append 1 = .ok (.getfield 24, 3) := by decide +kernel
theorem d_Fi_append_4 : decode b_Fi_append 4 = .ok (.bipush 40, 2) := by decide +kernel
theorem d_Fi_append_6 : decode b_Fi_append 6 = .ok (.if_icmp .lt 6, 3) := by decide +kernel
theorem d_Fi_append_9 : decode b_Fi_append 9 = .ok (.bipush (-2), 2) := by decide +kernel
theorem d_Fi_append_11 : decode b_Fi_append 11 = .ok (.ireturn, 1) := by decide +kernel
theorem d_Fi_append_12 : decode b_Fi_append 12 = .ok (.aload_n 0, 1) := by decide +kernel
theorem d_Fi_append_13 : decode b_Fi_append 13 = .ok (.getfield 9, 3) := by decide +kernel
theorem d_Fi_append_16 : decode b_Fi_append 16 = .ok (.aload_n 0, 1) := by decide +kernel
theorem d_Fi_append_17 : decode b_Fi_append 17 = .ok (.getfield 24, 3) := by decide +kernel
theorem d_Fi_append_20 : decode b_Fi_append 20 = .ok (.iload_n 1, 1) := by decide +kernel
theorem d_Fi_append_21 : decode b_Fi_append 21 = .ok (.iastore, 1) := by decide +kernel
theorem d_Fi_append_22 : decode b_Fi_append 22 = .ok (.aload_n 0, 1) := by decide +kernel
theorem d_Fi_append_23 : decode b_Fi_append 23 = .ok (.getfield 15, 3) := by decide +kernel
theorem d_Fi_append_26 : decode b_Fi_append 26 = .ok (.aload_n 0, 1) := by decide +kernel
theorem d_Fi_append_27 : decode b_Fi_append 27 = .ok (.getfield 24, 3) := by decide +kernel
theorem d_Fi_append_30 : decode b_Fi_append 30 = .ok (.iload_n 2, 1) := by decide +kernel
theorem d_Fi_append_31 : decode b_Fi_append 31 = .ok (.iastore, 1) := by decide +kernel
theorem d_Fi_append_32 : decode b_Fi_append 32 = .ok (.aload_n 0, 1) := by decide +kernel
theorem d_Fi_append_33 : decode b_Fi_append 33 = .ok (.getfield 18, 3) := by decide +kernel
theorem d_Fi_append_36 : decode b_Fi_append 36 = .ok (.aload_n 0, 1) := by decide +kernel
theorem d_Fi_append_37 : decode b_Fi_append 37 = .ok (.getfield 24, 3) := by decide +kernel
theorem d_Fi_append_40 : decode b_Fi_append 40 = .ok (.iload_n 3, 1) := by decide +kernel
theorem d_Fi_append_41 : decode b_Fi_append 41 = .ok (.iastore, 1) := by decide +kernel
theorem d_Fi_append_42 : decode b_Fi_append 42 = .ok (.aload_n 0, 1) := by decide +kernel
theorem d_Fi_append_43 : decode b_Fi_append 43 = .ok (.getfield 21, 3) := by decide +kernel
theorem d_Fi_append_46 : decode b_Fi_append 46 = .ok (.aload_n 0, 1) := by decide +kernel
theorem d_Fi_append_47 : decode b_Fi_append 47 = .ok (.getfield 24, 3) := by decide +kernel
theorem d_Fi_append_50 : decode b_Fi_append 50 = .ok (.iload 4, 2) := by decide +kernel
theorem d_Fi_append_52 : decode b_Fi_append 52 = .ok (.iastore, 1) := by decide +kernel
theorem d_Fi_append_53 : decode b_Fi_append 53 = .ok (.aload_n 0, 1) := by decide +kernel
theorem d_Fi_append_54 : decode b_Fi_append 54 = .ok (.dup, 1) := by decide +kernel
theorem d_Fi_append_55 : decode b_Fi_append 55 = .ok (.getfield 24, 3) := by decide +kernel
theorem d_Fi_append_58 : decode b_Fi_append 58 = .ok (.iconst 1, 1) := by decide +kernel
theorem d_Fi_append_59 : decode b_Fi_append 59 = .ok (.iadd, 1) := by decide +kernel
theorem d_Fi_append_60 : decode b_Fi_append 60 = .ok (.putfield 24, 3) := by decide +kernel
theorem d_Fi_append_63 : decode b_Fi_append 63 = .ok (.aload_n 0, 1) := by decide +kernel
theorem d_Fi_append_64 : decode b_Fi_append 64 = .ok (.getfield 24, 3) := by decide +kernel
theorem d_Fi_append_67 : decode b_Fi_append 67 = .ok (.iconst 1, 1) := by decide +kernel
theorem d_Fi_append_68 : decode b_Fi_append 68 = .ok (.isub, 1) := by decide +kernel
theorem d_Fi_append_69 : decode b_Fi_append 69 = .ok (.ireturn, 1) := by decide +kernel
set_option maxHeartbeats 4000000 in
set_option maxRecDepth 100000 in
/-- an instruction is put behind the others -/
theorem c_Fi_append (q o y n k len : Nat) (fo fy fn fk : Nat → Int32) (v1 v2 v3 v4 : Int32) (sz : Nat) (hlen : len < 40) : fs_I l y_Fi_append (k_Fi_append :: fs_T) { frames := 0, cells := 0, slots := 0, locals := 0 } (dC, dI) vwCl (fs_tys cI cZ cJ cF) [.ref q, .int v1, .int v2, .int v3, .int v4] [(q, .inr (1, [.ref o, .ref y, .ref n, .ref k, .int (nI len)])), (o, .inl (cI, 40, .inl fo)), (y, .inl (cI, 40, .inl fy)), (n, .inl (cI, 40, .inl fn)), (k, .inl (cI, 40, .inl fk))] sz (S := Unit) (fun r _ => r = nI len) (fun _ => [(q, .inr (1, [.ref o, .ref y, .ref n, .ref k, .int (nI (len + 1))])), (o, .inl (cI, 40, .inl (upd fo len v1))), (y, .inl (cI, 40, .inl (upd fy len v2))), (n, .inl (cI, 40, .inl (upd fn len v3))), (k, .inl (cI, 40, .inl (upd fk len v4)))]) 0 0 := by
  refine fs_head (by decide) (Nat.le_of_ble_eq_true rfl) ?_
  intro p e s m below meth c A ls hx hb hr hts hown hlocks hin hml hK hP hD hS hA hAe hsz hl
  have hl : lv_has ls 5 [(0, .ref q), (1, .int v1), (2, .int v2), (3, .int v3), (4, .int v4)] := hl
  have hown : s.vm.findClass R_Fi = some m.cls := hown
  refine lv_aload_n hx hb d_Fi_append_0 rfl (lv_at hl 0 rfl) ?_
  refine va_get (D := (dC, dI)) (ci := 1) (v := .int (nI len)) (C := R_Fi) (T := T_Fi) (N := 5) hx hb hts uin_Fi hown hK hP 0 rfl rfl 4 (by decide) (hts _ wi_46) (fun _ h9 => h9) rfl d_Fi_append_1 ?_
  refine lv_bipush (v := nI 40) hx hb d_Fi_append_4 (by decide) ?_
  refine lv_icmp_lt (tgt := 12) hx hb d_Fi_append_6 (by decide) (fun hc6 => ?_) (fun hc6 => absurd (nI_lt hlen (by decide)) hc6)
  rw [nI_ltI (by omega) (by omega)] at hc6
  refine lv_aload_n hx hb d_Fi_append_12 rfl (lv_at hl 0 rfl) ?_
  refine va_get (D := (dC, dI)) (ci := 1) (v := .ref o) (C := R_Fi) (T := T_Fi) (N := 5) hx hb hts uin_Fi hown hK hP 0 rfl rfl 0 (by decide) (hts _ wi_30) (fun _ h9 => h9) rfl d_Fi_append_13 ?_
  refine lv_aload_n hx hb d_Fi_append_16 rfl (lv_at hl 0 rfl) ?_
  refine va_get (D := (dC, dI)) (ci := 1) (v := .int (nI len)) (C := R_Fi) (T := T_Fi) (N := 5) hx hb hts uin_Fi hown hK hP 0 rfl rfl 4 (by decide) (hts _ wi_46) (fun _ h9 => h9) rfl d_Fi_append_17 ?_
  refine lv_iload_n hx hb d_Fi_append_20 rfl (lv_at hl 1 rfl) ?_
  refine fs_iast hx hb hK hP hD hS 1 0 rfl rfl len rfl (by decide) (by omega) d_Fi_append_21 (fun H locs hP hD hS => ?_)
  have hP : va_P (dC, dI) vwCl [(q, .inr (1, [.ref o, .ref y, .ref n, .ref k, .int (nI len)])), (o, .inl (cI, 40, .inl (upd fo len v1))), (y, .inl (cI, 40, .inl fy)), (n, .inl (cI, 40, .inl fn)), (k, .inl (cI, 40, .inl fk))] H := hP
  have hD : va_D A [(q, .inr (1, [.ref o, .ref y, .ref n, .ref k, .int (nI len)])), (o, .inl (cI, 40, .inl (upd fo len v1))), (y, .inl (cI, 40, .inl fy)), (n, .inl (cI, 40, .inl fn)), (k, .inl (cI, 40, .inl fk))] := hD
  refine lv_aload_n hx hb d_Fi_append_22 rfl (lv_at hl 0 rfl) ?_
  refine va_get (D := (dC, dI)) (ci := 1) (v := .ref y) (C := R_Fi) (T := T_Fi) (N := 5) hx hb hts uin_Fi hown hK hP 0 rfl rfl 1 (by decide) (hts _ wi_34) (fun _ h9 => h9) rfl d_Fi_append_23 ?_
  refine lv_aload_n hx hb d_Fi_append_26 rfl (lv_at hl 0 rfl) ?_
  refine va_get (D := (dC, dI)) (ci := 1) (v := .int (nI len)) (C := R_Fi) (T := T_Fi) (N := 5) hx hb hts uin_Fi hown hK hP 0 rfl rfl 4 (by decide) (hts _ wi_46) (fun _ h9 => h9) rfl d_Fi_append_27 ?_
  refine lv_iload_n hx hb d_Fi_append_30 rfl (lv_at hl 2 rfl) ?_
  refine fs_iast hx hb hK hP hD hS 2 0 rfl rfl len rfl (by decide) (by omega) d_Fi_append_31 (fun H locs hP hD hS => ?_)
  have hP : va_P (dC, dI) vwCl [(q, .inr (1, [.ref o, .ref y, .ref n, .ref k, .int (nI len)])), (o, .inl (cI, 40, .inl (upd fo len v1))), (y, .inl (cI, 40, .inl (upd fy len v2))), (n, .inl (cI, 40, .inl fn)), (k, .inl (cI, 40, .inl fk))] H := hP
  have hD : va_D A [(q, .inr (1, [.ref o, .ref y, .ref n, .ref k, .int (nI len)])), (o, .inl (cI, 40, .inl (upd fo len v1))), (y, .inl (cI, 40, .inl (upd fy len v2))), (n, .inl (cI, 40, .inl fn)), (k, .inl (cI, 40, .inl fk))] := hD
  refine lv_aload_n hx hb d_Fi_append_32 rfl (lv_at hl 0 rfl) ?_
  refine va_get (D := (dC, dI)) (ci := 1) (v := .ref n) (C := R_Fi) (T := T_Fi) (N := 5) hx hb hts uin_Fi hown hK hP 0 rfl rfl 2 (by decide) (hts _ wi_38) (fun _ h9 => h9) rfl d_Fi_append_33 ?_
  refine lv_aload_n hx hb d_Fi_append_36 rfl (lv_at hl 0 rfl) ?_
  refine va_get (D := (dC, dI)) (ci := 1) (v := .int (nI len)) (C := R_Fi) (T := T_Fi) (N := 5) hx hb hts uin_Fi hown hK hP 0 rfl rfl 4 (by decide) (hts _ wi_46) (fun _ h9 => h9) rfl d_Fi_append_37 ?_
  refine lv_iload_n hx hb d_Fi_append_40 rfl (lv_at hl 3 rfl) ?_
  refine fs_iast hx hb hK hP hD hS 3 0 rfl rfl len rfl (by decide) (by omega) d_Fi_append_41 (fun H locs hP hD hS => ?_)
  have hP : va_P (dC, dI) vwCl [(q, .inr (1, [.ref o, .ref y, .ref n, .ref k, .int (nI len)])), (o, .inl (cI, 40, .inl (upd fo len v1))), (y, .inl (cI, 40, .inl (upd fy len v2))), (n, .inl (cI, 40, .inl (upd fn len v3))), (k, .inl (cI, 40, .inl fk))] H := hP
  have hD : va_D A [(q, .inr (1, [.ref o, .ref y, .ref n, .ref k, .int (nI len)])), (o, .inl (cI, 40, .inl (upd fo len v1))), (y, .inl (cI, 40, .inl (upd fy len v2))), (n, .inl (cI, 40, .inl (upd fn len v3))), (k, .inl (cI, 40, .inl fk))] := hD
  refine lv_aload_n hx hb d_Fi_append_42 rfl (lv_at hl 0 rfl) ?_
  refine va_get (D := (dC, dI)) (ci := 1) (v := .ref k) (C := R_Fi) (T := T_Fi) (N := 5) hx hb hts uin_Fi hown hK hP 0 rfl rfl 3 (by decide) (hts _ wi_42) (fun _ h9 => h9) rfl d_Fi_append_43 ?_
  refine lv_aload_n hx hb d_Fi_append_46 rfl (lv_at hl 0 rfl) ?_
  refine va_get (D := (dC, dI)) (ci := 1) (v := .int (nI len)) (C := R_Fi) (T := T_Fi) (N := 5) hx hb hts uin_Fi hown hK hP 0 rfl rfl 4 (by decide) (hts _ wi_46) (fun _ h9 => h9) rfl d_Fi_append_47 ?_
  refine lv_iload hx hb d_Fi_append_50 (lv_at hl 4 rfl) ?_
  refine fs_iast hx hb hK hP hD hS 4 0 rfl rfl len rfl (by decide) (by omega) d_Fi_append_52 (fun H locs hP hD hS => ?_)
  have hP : va_P (dC, dI) vwCl [(q, .inr (1, [.ref o, .ref y, .ref n, .ref k, .int (nI len)])), (o, .inl (cI, 40, .inl (upd fo len v1))), (y, .inl (cI, 40, .inl (upd fy len v2))), (n, .inl (cI, 40, .inl (upd fn len v3))), (k, .inl (cI, 40, .inl (upd fk len v4)))] H := hP
  have hD : va_D A [(q, .inr (1, [.ref o, .ref y, .ref n, .ref k, .int (nI len)])), (o, .inl (cI, 40, .inl (upd fo len v1))), (y, .inl (cI, 40, .inl (upd fy len v2))), (n, .inl (cI, 40, .inl (upd fn len v3))), (k, .inl (cI, 40, .inl (upd fk len v4)))] := hD
  refine lv_aload_n hx hb d_Fi_append_53 rfl (lv_at hl 0 rfl) ?_
  refine lv_dup hx hb d_Fi_append_54 rfl ?_
  refine va_get (D := (dC, dI)) (ci := 1) (v := .int (nI len)) (C := R_Fi) (T := T_Fi) (N := 5) hx hb hts uin_Fi hown hK hP 0 rfl rfl 4 (by decide) (hts _ wi_46) (fun _ h9 => h9) rfl d_Fi_append_55 ?_
  refine lv_iconst (v := nI 1) hx hb d_Fi_append_58 (by decide) ?_
  refine lv_iadd hx hb d_Fi_append_59 ?_
  refine fs_eqi (nI_add _ _) ?_
  refine va_put (D := (dC, dI)) (ci := 1) (v := .int (nI (len + 1))) (ty := (.int)) (C := R_Fi) (T := T_Fi) (N := 5) hx hb hts uin_Fi t_Fi ok_Fi n_Fi hown hK hP hD hS 0 rfl rfl 4 (by decide) (hts _ wi_46) (fun _ h9 => h9) rfl (by decide +kernel) rfl rfl (Nat.le_of_ble_eq_true rfl) d_Fi_append_60 (fun H locs hP hD hS => ?_)
  have hP : va_P (dC, dI) vwCl [(q, .inr (1, [.ref o, .ref y, .ref n, .ref k, .int (nI (len + 1))])), (o, .inl (cI, 40, .inl (upd fo len v1))), (y, .inl (cI, 40, .inl (upd fy len v2))), (n, .inl (cI, 40, .inl (upd fn len v3))), (k, .inl (cI, 40, .inl (upd fk len v4)))] H := hP
  have hD : va_D A [(q, .inr (1, [.ref o, .ref y, .ref n, .ref k, .int (nI (len + 1))])), (o, .inl (cI, 40, .inl (upd fo len v1))), (y, .inl (cI, 40, .inl (upd fy len v2))), (n, .inl (cI, 40, .inl (upd fn len v3))), (k, .inl (cI, 40, .inl (upd fk len v4)))] := hD
  refine lv_aload_n hx hb d_Fi_append_63 rfl (lv_at hl 0 rfl) ?_
  refine va_get (D := (dC, dI)) (ci := 1) (v := .int (nI (len + 1))) (C := R_Fi) (T := T_Fi) (N := 5) hx hb hts uin_Fi hown hK hP 0 rfl rfl 4 (by decide) (hts _ wi_46) (fun _ h9 => h9) rfl d_Fi_append_64 ?_
  refine lv_iconst (v := nI 1) hx hb d_Fi_append_67 (by decide) ?_
  refine lv_isub hx hb d_Fi_append_68 ?_
  refine fs_eqi (pk_sub (by omega)) ?_
  exact fs_iret hx hb hr hlocks hAe hK hS d_Fi_append_69 () (rfl) hP hD

set_option maxHeartbeats 4000000 in
set_option maxRecDepth 100000 in
/-- .. but not into a full filter -/
theorem c_Fi_appendF (q o y n k : Nat) (fo fy fn fk : Nat → Int32) (v1 v2 v3 v4 : Int32) (sz : Nat)  : fs_I l y_Fi_append (k_Fi_append :: fs_T) { frames := 0, cells := 0, slots := 0, locals := 0 } (dC, dI) vwCl (fs_tys cI cZ cJ cF) [.ref q, .int v1, .int v2, .int v3, .int v4] [(q, .inr (1, [.ref o, .ref y, .ref n, .ref k, .int (nI 40)])), (o, .inl (cI, 40, .inl fo)), (y, .inl (cI, 40, .inl fy)), (n, .inl (cI, 40, .inl fn)), (k, .inl (cI, 40, .inl fk))] sz (S := Unit) (fun r _ => r = (-2)) (fun _ => [(q, .inr (1, [.ref o, .ref y, .ref n, .ref k, .int (nI 40)])), (o, .inl (cI, 40, .inl fo)), (y, .inl (cI, 40, .inl fy)), (n, .inl (cI, 40, .inl fn)), (k, .inl (cI, 40, .inl fk))]) 0 0 := by
  refine fs_head (by decide) (Nat.le_of_ble_eq_true rfl) ?_
  intro p e s m below meth c A ls hx hb hr hts hown hlocks hin hml hK hP hD hS hA hAe hsz hl
  have hl : lv_has ls 5 [(0, .ref q), (1, .int v1), (2, .int v2), (3, .int v3), (4, .int v4)] := hl
  have hown : s.vm.findClass R_Fi = some m.cls := hown
  refine lv_aload_n hx hb d_Fi_append_0 rfl (lv_at hl 0 rfl) ?_
  refine va_get (D := (dC, dI)) (ci := 1) (v := .int (nI 40)) (C := R_Fi) (T := T_Fi) (N := 5) hx hb hts uin_Fi hown hK hP 0 rfl rfl 4 (by decide) (hts _ wi_46) (fun _ h9 => h9) rfl d_Fi_append_1 ?_
  refine lv_bipush (v := nI 40) hx hb d_Fi_append_4 (by decide) ?_
  refine lv_icmp_lt (tgt := 12) hx hb d_Fi_append_6 (by decide) (fun hc => absurd hc (by decide)) (fun _ => ?_)
  refine lv_bipush (v := (-2)) hx hb d_Fi_append_9 (by decide) ?_
  exact fs_iret hx hb hr hlocks hAe hK hS d_Fi_append_11 () (rfl) hP hD

theorem d_Fi_empty_0 : decode b_Fi_empty 0 = .ok (.aload_n 0, 1) := by decide +kernel
theorem d_Fi_empty_1 : decode b_Fi_empty 1 = .ok (.getfield 24, 3) := by decide +kernel
theorem d_Fi_empty_4 : decode b_Fi_empty 4 = .ok (.istore_n 1, 1) := by decide +kernel
theorem d_Fi_empty_5 : decode b_Fi_empty 5 = .ok (.aload_n 0, 1) := by decide +kernel
theorem d_Fi_empty_6 : decode b_Fi_empty 6 = .ok (.iconst 0, 1) := by decide +kernel
theorem d_Fi_empty_7 : decode b_Fi_empty 7 = .ok (.putfield 24, 3) := by decide +kernel
theorem d_Fi_empty_10 : decode b_Fi_empty 10 = .ok (.iload_n 1, 1) := by decide +kernel
theorem d_Fi_empty_11 : decode b_Fi_empty 11 = .ok (.ireturn, 1) := by decide +kernel
set_option maxHeartbeats 4000000 in
set_option maxRecDepth 100000 in
/-- the filter is emptied -/
theorem c_Fi_empty (q o y n k len : Nat) (sz : Nat)  : fs_I l y_Fi_empty (k_Fi_empty :: fs_T) { frames := 0, cells := 0, slots := 0, locals := 0 } (dC, dI) vwCl (fs_tys cI cZ cJ cF) [.ref q] [(q, .inr (1, [.ref o, .ref y, .ref n, .ref k, .int (nI len)]))] sz (S := Unit) (fun r _ => r = nI len) (fun _ => [(q, .inr (1, [.ref o, .ref y, .ref n, .ref k, .int (nI 0)]))]) 0 0 := by
  refine fs_head (by decide) (Nat.le_of_ble_eq_true rfl) ?_
  intro p e s m below meth c A ls hx hb hr hts hown hlocks hin hml hK hP hD hS hA hAe hsz hl
  have hl : lv_has ls 2 [(0, .ref q)] := hl
  have hown : s.vm.findClass R_Fi = some m.cls := hown
  refine lv_aload_n hx hb d_Fi_empty_0 rfl (lv_at hl 0 rfl) ?_
  refine va_get (D := (dC, dI)) (ci := 1) (v := .int (nI len)) (C := R_Fi) (T := T_Fi) (N := 5) hx hb hts uin_Fi hown hK hP 0 rfl rfl 4 (by decide) (hts _ wi_46) (fun _ h9 => h9) rfl d_Fi_empty_1 ?_
  refine lv_istore_n hx hb d_Fi_empty_4 rfl hl (by decide) (lv' := [(1, .int (nI len)), (0, .ref q)]) rfl (fun ls hl => ?_)
  refine lv_aload_n hx hb d_Fi_empty_5 rfl (lv_at hl 1 rfl) ?_
  refine lv_iconst (v := nI 0) hx hb d_Fi_empty_6 (by decide) ?_
  refine va_put (D := (dC, dI)) (ci := 1) (v := .int (nI 0)) (ty := (.int)) (C := R_Fi) (T := T_Fi) (N := 5) hx hb hts uin_Fi t_Fi ok_Fi n_Fi hown hK hP hD hS 0 rfl rfl 4 (by decide) (hts _ wi_46) (fun _ h9 => h9) rfl (by decide +kernel) rfl rfl (Nat.le_of_ble_eq_true rfl) d_Fi_empty_7 (fun H locs hP hD hS => ?_)
  have hP : va_P (dC, dI) vwCl [(q, .inr (1, [.ref o, .ref y, .ref n, .ref k, .int (nI 0)]))] H := hP
  have hD : va_D A [(q, .inr (1, [.ref o, .ref y, .ref n, .ref k, .int (nI 0)]))] := hD
  refine lv_iload_n hx hb d_Fi_empty_10 rfl (lv_at hl 0 rfl) ?_
  exact fs_iret hx hb hr hlocks hAe hK hS d_Fi_empty_11 () (rfl) hP hD

end FI
