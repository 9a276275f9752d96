section FS
variable {l : Launch} {dC : Nat → ClassId} {dI : Nat → Nat → Nat} {cI cZ cJ cF : ClassId}
section FSA
variable {p : Program} {l : Launch} {e : Env} {R : Room} {s : State} {m : MethodId} {args : Array Value} {below : List Frame} {meth : Method} {c : Code} {H : Heap} {locs : List Loc} {cells slots : Nat} {Q : State → Prop}
variable {cc : ByteArray} {pc : Nat} {ls : Array Slot} {rest : List Value} {D : va_G} {cl : List vw_C} {a : Nat} {tys : List (ClassId × FieldType)} {ws : va_W}
theorem fs_aald (hexec : p.tables.exec = Jvm.exec) (hb : c.code = cc) (hK : va_K D cl tys s) (hP : va_P D cl ws H) (q0 t0 : Nat) {cA : ClassId} {C : String} {n : Nat} {f : Nat → Option Nat} (ha : ws[q0]? = some (a, .inl (cA, n, .inr (.inr (.inr (.inr f)))))) (ht : tys[t0]? = some (cA, .object C)) {i : Int32} (j : Nat) (hi : i = nI j) (hn : n < 2 ^ 31) (hj : j < n) {b : Nat} (hv : f j = some b) (hdg : decode cc pc = .ok (.aaload, 1))
    (kk : W p l e R s m args below meth c H locs cells slots Q (F0 m (pc + 1) ls (.ref b :: rest))) : W p l e R s m args below meth c H locs cells slots Q (F0 m pc ls (.int i :: .ref a :: rest)) := by
  subst hi
  refine va_aldq hexec hb hK hP q0 t0 ha ht (vp_in_nI hj hn) hdg ?_
  rw [nI_clamp (Nat.lt_trans hj hn), hv]
  exact kk
end FSA
theorem d_Fi_become_0 : decode b_Fi_become 0 = .ok (.aload_n 1, 1) := by decide +kernel
theorem d_Fi_become_1 : decode b_Fi_become 1 = .ok (.getfield 9, 3) := by decide +kernel
theorem d_Fi_become_4 : decode b_Fi_become 4 = .ok (.iconst 0, 1) := by decide +kernel
theorem d_Fi_become_5 : decode b_Fi_become 5 = .ok (.aload_n 0, 1) := by decide +kernel
theorem d_Fi_become_6 : decode b_Fi_become 6 = .ok (.getfield 9, 3) := by decide +kernel
theorem d_Fi_become_9 : decode b_Fi_become 9 = .ok (.iconst 0, 1) := by decide +kernel
theorem d_Fi_become_10 : decode b_Fi_become 10 = .ok (.bipush 40, 2) := by decide +kernel
theorem d_Fi_become_12 : decode b_Fi_become 12 = .ok (.invokestatic 28, 3) := by decide +kernel
theorem d_Fi_become_15 : decode b_Fi_become 15 = .ok (.aload_n 1, 1) := by decide +kernel
theorem d_Fi_become_16 : decode b_Fi_become 16 = .ok (.getfield 15, 3) := by decide +kernel
theorem d_Fi_become_19 : decode b_Fi_become 19 = .ok (.iconst 0, 1) := by decide +kernel
theorem d_Fi_become_20 : decode b_Fi_become 20 = .ok (.aload_n 0, 1) := by decide +kernel
theorem d_Fi_become_21 : decode b_Fi_become 21 = .ok (.getfield 15, 3) := by decide +kernel
theorem d_Fi_become_24 : decode b_Fi_become 24 = .ok (.iconst 0, 1) := by decide +kernel
theorem d_Fi_become_25 : decode b_Fi_become 25 = .ok (.bipush 40, 2) := by decide +kernel
theorem d_Fi_become_27 : decode b_Fi_become 27 = .ok (.invokestatic 28, 3) := by decide +kernel
theorem d_Fi_become_30 : decode b_Fi_become 30 = .ok (.aload_n 1, 1) := by decide +kernel
theorem d_Fi_become_31 : decode b_Fi_become 31 = .ok (.getfield 18, 3) := by decide +kernel
theorem d_Fi_become_34 : decode b_Fi_become 34 = .ok (.iconst 0, 1) := by decide +kernel
theorem d_Fi_become_35 : decode b_Fi_become 35 = .ok (.aload_n 0, 1) := by decide +kernel
theorem d_Fi_become_36 : decode b_Fi_become 36 = .ok (.getfield 18, 3) := by decide +kernel
theorem d_Fi_become_39 : decode b_Fi_become 39 = .ok (.iconst 0, 1) := by decide +kernel
theorem d_Fi_become_40 : decode b_Fi_become 40 = .ok (.bipush 40, 2) := by decide +kernel
theorem d_Fi_become_42 : decode b_Fi_become 42 = .ok (.invokestatic 28, 3) := by decide +kernel
theorem d_Fi_become_45 : decode b_Fi_become 45 = .ok (.aload_n 1, 1) := by decide +kernel
theorem d_Fi_become_46 : decode b_Fi_become 46 = .ok (.getfield 21, 3) := by decide +kernel
theorem d_Fi_become_49 : decode b_Fi_become 49 = .ok (.iconst 0, 1) := by decide +kernel
theorem d_Fi_become_50 : decode b_Fi_become 50 = .ok (.aload_n 0, 1) := by decide +kernel
theorem d_Fi_become_51 : decode b_Fi_become 51 = .ok (.getfield 21, 3) := by decide +kernel
theorem d_Fi_become_54 : decode b_Fi_become 54 = .ok (.iconst 0, 1) := by decide +kernel
theorem d_Fi_become_55 : decode b_Fi_become 55 = .ok (.bipush 40, 2) := by decide +kernel
theorem d_Fi_become_57 : decode b_Fi_become 57 = .ok (.invokestatic 28, 3) := by decide +kernel
theorem d_Fi_become_60 : decode b_Fi_become 60 = .ok (.aload_n 0, 1) := by decide +kernel
theorem d_Fi_become_61 : decode b_Fi_become 61 = .ok (.aload_n 1, 1) := by decide +kernel
theorem d_Fi_become_62 : decode b_Fi_become 62 = .ok (.getfield 24, 3) := by decide +kernel
theorem d_Fi_become_65 : decode b_Fi_become 65 = .ok (.putfield 24, 3) := by decide +kernel
theorem d_Fi_become_68 : decode b_Fi_become 68 = .ok (.return_, 1) := by decide +kernel
set_option maxHeartbeats 4000000 in
set_option maxRecDepth 100000 in
theorem c_Fi_become (q o y n k len : Nat) (fo fy fn fk : Nat → Int32) (p po py pn pk plen : Nat) (go gy gn gk : Nat → Int32) (sz : Nat)  : fs_V l y_Fi_become (k_Fi_become :: fs_T) { frames := 1, cells := 0, slots := 0, locals := 40 } (dC, dI) vwCl (fs_tys cI cZ cJ cF) [.ref q, .ref p] [(q, .inr (1, [.ref o, .ref y, .ref n, .ref k, .int (nI len)])), (o, .inl (cI, 40, .inl fo)), (y, .inl (cI, 40, .inl fy)), (n, .inl (cI, 40, .inl fn)), (k, .inl (cI, 40, .inl fk)), (p, .inr (1, [.ref po, .ref py, .ref pn, .ref pk, .int (nI plen)])), (po, .inl (cI, 40, .inl go)), (py, .inl (cI, 40, .inl gy)), (pn, .inl (cI, 40, .inl gn)), (pk, .inl (cI, 40, .inl gk))] sz (S := Unit) (fun _ => True) (fun _ => [(q, .inr (1, [.ref o, .ref y, .ref n, .ref k, .int (nI plen)])), (o, .inl (cI, 40, .inl go)), (y, .inl (cI, 40, .inl gy)), (n, .inl (cI, 40, .inl gn)), (k, .inl (cI, 40, .inl gk)), (p, .inr (1, [.ref po, .ref py, .ref pn, .ref pk, .int (nI plen)])), (po, .inl (cI, 40, .inl go)), (py, .inl (cI, 40, .inl gy)), (pn, .inl (cI, 40, .inl gn)), (pk, .inl (cI, 40, .inl gk))]) 0 0 := by
  refine fs_head (by decide) (Nat.le_of_ble_eq_true rfl) ?_
  intro p9 e s m below meth c A ls hx hb hr hts hown hlocks hin hml hK hP hD hS hA hAe hsz hl
  have hl : lv_has ls 2 [(0, .ref q), (1, .ref p)] := hl
  have hown : s.vm.findClass R_Fi = some m.cls := hown
  refine lv_aload_n hx hb d_Fi_become_0 rfl (lv_at hl 1 rfl) ?_
  refine va_get (D := (dC, dI)) (ci := 1) (v := .ref po) (C := R_Fi) (T := T_Fi) (N := 5) hx hb hts uin_Fi hown hK hP 5 rfl rfl 0 (by decide) (hts _ wi_30) (fun _ h9 => h9) rfl d_Fi_become_1 ?_
  refine lv_iconst (v := nI 0) hx hb d_Fi_become_4 (by decide) ?_
  refine lv_aload_n hx hb d_Fi_become_5 rfl (lv_at hl 0 rfl) ?_
  refine va_get (D := (dC, dI)) (ci := 1) (v := .ref o) (C := R_Fi) (T := T_Fi) (N := 5) hx hb hts uin_Fi hown hK hP 0 rfl rfl 0 (by decide) (hts _ wi_30) (fun _ h9 => h9) rfl d_Fi_become_6 ?_
  refine lv_iconst (v := nI 0) hx hb d_Fi_become_9 (by decide) ?_
  refine lv_bipush (v := nI 40) hx hb d_Fi_become_10 (by decide) ?_
  refine va_copyi hx hb (hml.trans hl.1.symm) hown (hts _ wi_421) (hts _ wi_423) (hts _ wi_422) (hts _ wi_14) hK hP hD hS 6 1 0 0 rfl rfl rfl rfl rfl (by decide) (by decide) (by decide) (by decide) (by decide) (fun _ _ => rfl) (Nat.le_of_ble_eq_true rfl) (Nat.le_of_ble_eq_true rfl) d_Fi_become_12 (fun H locs hP hD hS => ?_)
  obtain ⟨hP, hD⟩ := fs_atc 1 (g := go) (fun j hj => by show va_cpy _ _ 0 0 40 j = _; rw [pk_cpy_in (by omega) (by omega)]; simp) rfl rfl hP hD
  have hP : va_P (dC, dI) vwCl [(q, .inr (1, [.ref o, .ref y, .ref n, .ref k, .int (nI len)])), (o, .inl (cI, 40, .inl go)), (y, .inl (cI, 40, .inl fy)), (n, .inl (cI, 40, .inl fn)), (k, .inl (cI, 40, .inl fk)), (p, .inr (1, [.ref po, .ref py, .ref pn, .ref pk, .int (nI plen)])), (po, .inl (cI, 40, .inl go)), (py, .inl (cI, 40, .inl gy)), (pn, .inl (cI, 40, .inl gn)), (pk, .inl (cI, 40, .inl gk))] H := hP
  have hD : va_D A [(q, .inr (1, [.ref o, .ref y, .ref n, .ref k, .int (nI len)])), (o, .inl (cI, 40, .inl go)), (y, .inl (cI, 40, .inl fy)), (n, .inl (cI, 40, .inl fn)), (k, .inl (cI, 40, .inl fk)), (p, .inr (1, [.ref po, .ref py, .ref pn, .ref pk, .int (nI plen)])), (po, .inl (cI, 40, .inl go)), (py, .inl (cI, 40, .inl gy)), (pn, .inl (cI, 40, .inl gn)), (pk, .inl (cI, 40, .inl gk))] := hD
  refine lv_aload_n hx hb d_Fi_become_15 rfl (lv_at hl 1 rfl) ?_
  refine va_get (D := (dC, dI)) (ci := 1) (v := .ref py) (C := R_Fi) (T := T_Fi) (N := 5) hx hb hts uin_Fi hown hK hP 5 rfl rfl 1 (by decide) (hts _ wi_34) (fun _ h9 => h9) rfl d_Fi_become_16 ?_
  refine lv_iconst (v := nI 0) hx hb d_Fi_become_19 (by decide) ?_
  refine lv_aload_n hx hb d_Fi_become_20 rfl (lv_at hl 0 rfl) ?_
  refine va_get (D := (dC, dI)) (ci := 1) (v := .ref y) (C := R_Fi) (T := T_Fi) (N := 5) hx hb hts uin_Fi hown hK hP 0 rfl rfl 1 (by decide) (hts _ wi_34) (fun _ h9 => h9) rfl d_Fi_become_21 ?_
  refine lv_iconst (v := nI 0) hx hb d_Fi_become_24 (by decide) ?_
  refine lv_bipush (v := nI 40) hx hb d_Fi_become_25 (by decide) ?_
  refine va_copyi hx hb (hml.trans hl.1.symm) hown (hts _ wi_421) (hts _ wi_423) (hts _ wi_422) (hts _ wi_14) hK hP hD hS 7 2 0 0 rfl rfl rfl rfl rfl (by decide) (by decide) (by decide) (by decide) (by decide) (fun _ _ => rfl) (Nat.le_of_ble_eq_true rfl) (Nat.le_of_ble_eq_true rfl) d_Fi_become_27 (fun H locs hP hD hS => ?_)
  obtain ⟨hP, hD⟩ := fs_atc 2 (g := gy) (fun j hj => by show va_cpy _ _ 0 0 40 j = _; rw [pk_cpy_in (by omega) (by omega)]; simp) rfl rfl hP hD
  have hP : va_P (dC, dI) vwCl [(q, .inr (1, [.ref o, .ref y, .ref n, .ref k, .int (nI len)])), (o, .inl (cI, 40, .inl go)), (y, .inl (cI, 40, .inl gy)), (n, .inl (cI, 40, .inl fn)), (k, .inl (cI, 40, .inl fk)), (p, .inr (1, [.ref po, .ref py, .ref pn, .ref pk, .int (nI plen)])), (po, .inl (cI, 40, .inl go)), (py, .inl (cI, 40, .inl gy)), (pn, .inl (cI, 40, .inl gn)), (pk, .inl (cI, 40, .inl gk))] H := hP
  have hD : va_D A [(q, .inr (1, [.ref o, .ref y, .ref n, .ref k, .int (nI len)])), (o, .inl (cI, 40, .inl go)), (y, .inl (cI, 40, .inl gy)), (n, .inl (cI, 40, .inl fn)), (k, .inl (cI, 40, .inl fk)), (p, .inr (1, [.ref po, .ref py, .ref pn, .ref pk, .int (nI plen)])), (po, .inl (cI, 40, .inl go)), (py, .inl (cI, 40, .inl gy)), (pn, .inl (cI, 40, .inl gn)), (pk, .inl (cI, 40, .inl gk))] := hD
  refine lv_aload_n hx hb d_Fi_become_30 rfl (lv_at hl 1 rfl) ?_
  refine va_get (D := (dC, dI)) (ci := 1) (v := .ref pn) (C := R_Fi) (T := T_Fi) (N := 5) hx hb hts uin_Fi hown hK hP 5 rfl rfl 2 (by decide) (hts _ wi_38) (fun _ h9 => h9) rfl d_Fi_become_31 ?_
  refine lv_iconst (v := nI 0) hx hb d_Fi_become_34 (by decide) ?_
  refine lv_aload_n hx hb d_Fi_become_35 rfl (lv_at hl 0 rfl) ?_
  refine va_get (D := (dC, dI)) (ci := 1) (v := .ref n) (C := R_Fi) (T := T_Fi) (N := 5) hx hb hts uin_Fi hown hK hP 0 rfl rfl 2 (by decide) (hts _ wi_38) (fun _ h9 => h9) rfl d_Fi_become_36 ?_
  refine lv_iconst (v := nI 0) hx hb d_Fi_become_39 (by decide) ?_
  refine lv_bipush (v := nI 40) hx hb d_Fi_become_40 (by decide) ?_
  refine va_copyi hx hb (hml.trans hl.1.symm) hown (hts _ wi_421) (hts _ wi_423) (hts _ wi_422) (hts _ wi_14) hK hP hD hS 8 3 0 0 rfl rfl rfl rfl rfl (by decide) (by decide) (by decide) (by decide) (by decide) (fun _ _ => rfl) (Nat.le_of_ble_eq_true rfl) (Nat.le_of_ble_eq_true rfl) d_Fi_become_42 (fun H locs hP hD hS => ?_)
  obtain ⟨hP, hD⟩ := fs_atc 3 (g := gn) (fun j hj => by show va_cpy _ _ 0 0 40 j = _; rw [pk_cpy_in (by omega) (by omega)]; simp) rfl rfl hP hD
  have hP : va_P (dC, dI) vwCl [(q, .inr (1, [.ref o, .ref y, .ref n, .ref k, .int (nI len)])), (o, .inl (cI, 40, .inl go)), (y, .inl (cI, 40, .inl gy)), (n, .inl (cI, 40, .inl gn)), (k, .inl (cI, 40, .inl fk)), (p, .inr (1, [.ref po, .ref py, .ref pn, .ref pk, .int (nI plen)])), (po, .inl (cI, 40, .inl go)), (py, .inl (cI, 40, .inl gy)), (pn, .inl (cI, 40, .inl gn)), (pk, .inl (cI, 40, .inl gk))] H := hP
  have hD : va_D A [(q, .inr (1, [.ref o, .ref y, .ref n, .ref k, .int (nI len)])), (o, .inl (cI, 40, .inl go)), (y, .inl (cI, 40, .inl gy)), (n, .inl (cI, 40, .inl gn)), (k, .inl (cI, 40, .inl fk)), (p, .inr (1, [.ref po, .ref py, .ref pn, .ref pk, .int (nI plen)])), (po, .inl (cI, 40, .inl go)), (py, .inl (cI, 40, .inl gy)), (pn, .inl (cI, 40, .inl gn)), (pk, .inl (cI, 40, .inl gk))] := hD
  refine lv_aload_n hx hb d_Fi_become_45 rfl (lv_at hl 1 rfl) ?_
  refine va_get (D := (dC, dI)) (ci := 1) (v := .ref pk) (C := R_Fi) (T := T_Fi) (N := 5) hx hb hts uin_Fi hown hK hP 5 rfl rfl 3 (by decide) (hts _ wi_42) (fun _ h9 => h9) rfl d_Fi_become_46 ?_
  refine lv_iconst (v := nI 0) hx hb d_Fi_become_49 (by decide) ?_
  refine lv_aload_n hx hb d_Fi_become_50 rfl (lv_at hl 0 rfl) ?_
  refine va_get (D := (dC, dI)) (ci := 1) (v := .ref k) (C := R_Fi) (T := T_Fi) (N := 5) hx hb hts uin_Fi hown hK hP 0 rfl rfl 3 (by decide) (hts _ wi_42) (fun _ h9 => h9) rfl d_Fi_become_51 ?_
  refine lv_iconst (v := nI 0) hx hb d_Fi_become_54 (by decide) ?_
  refine lv_bipush (v := nI 40) hx hb d_Fi_become_55 (by decide) ?_
  refine va_copyi hx hb (hml.trans hl.1.symm) hown (hts _ wi_421) (hts _ wi_423) (hts _ wi_422) (hts _ wi_14) hK hP hD hS 9 4 0 0 rfl rfl rfl rfl rfl (by decide) (by decide) (by decide) (by decide) (by decide) (fun _ _ => rfl) (Nat.le_of_ble_eq_true rfl) (Nat.le_of_ble_eq_true rfl) d_Fi_become_57 (fun H locs hP hD hS => ?_)
  obtain ⟨hP, hD⟩ := fs_atc 4 (g := gk) (fun j hj => by show va_cpy _ _ 0 0 40 j = _; rw [pk_cpy_in (by omega) (by omega)]; simp) rfl rfl hP hD
  have hP : va_P (dC, dI) vwCl [(q, .inr (1, [.ref o, .ref y, .ref n, .ref k, .int (nI len)])), (o, .inl (cI, 40, .inl go)), (y, .inl (cI, 40, .inl gy)), (n, .inl (cI, 40, .inl gn)), (k, .inl (cI, 40, .inl gk)), (p, .inr (1, [.ref po, .ref py, .ref pn, .ref pk, .int (nI plen)])), (po, .inl (cI, 40, .inl go)), (py, .inl (cI, 40, .inl gy)), (pn, .inl (cI, 40, .inl gn)), (pk, .inl (cI, 40, .inl gk))] H := hP
  have hD : va_D A [(q, .inr (1, [.ref o, .ref y, .ref n, .ref k, .int (nI len)])), (o, .inl (cI, 40, .inl go)), (y, .inl (cI, 40, .inl gy)), (n, .inl (cI, 40, .inl gn)), (k, .inl (cI, 40, .inl gk)), (p, .inr (1, [.ref po, .ref py, .ref pn, .ref pk, .int (nI plen)])), (po, .inl (cI, 40, .inl go)), (py, .inl (cI, 40, .inl gy)), (pn, .inl (cI, 40, .inl gn)), (pk, .inl (cI, 40, .inl gk))] := hD
  refine lv_aload_n hx hb d_Fi_become_60 rfl (lv_at hl 0 rfl) ?_
  refine lv_aload_n hx hb d_Fi_become_61 rfl (lv_at hl 1 rfl) ?_
  refine va_get (D := (dC, dI)) (ci := 1) (v := .int (nI plen)) (C := R_Fi) (T := T_Fi) (N := 5) hx hb hts uin_Fi hown hK hP 5 rfl rfl 4 (by decide) (hts _ wi_46) (fun _ h9 => h9) rfl d_Fi_become_62 ?_
  refine va_put (D := (dC, dI)) (ci := 1) (v := .int (nI plen)) (ty := (.int)) (C := R_Fi) (T := T_Fi) (N := 5) hx hb hts uin_Fi t_Fi ok_Fi n_Fi hown hK hP hD hS 0 rfl rfl 4 (by decide) (hts _ wi_46) (fun _ h9 => h9) rfl (by decide +kernel) rfl rfl (Nat.le_of_ble_eq_true rfl) d_Fi_become_65 (fun H locs hP hD hS => ?_)
  have hP : va_P (dC, dI) vwCl [(q, .inr (1, [.ref o, .ref y, .ref n, .ref k, .int (nI plen)])), (o, .inl (cI, 40, .inl go)), (y, .inl (cI, 40, .inl gy)), (n, .inl (cI, 40, .inl gn)), (k, .inl (cI, 40, .inl gk)), (p, .inr (1, [.ref po, .ref py, .ref pn, .ref pk, .int (nI plen)])), (po, .inl (cI, 40, .inl go)), (py, .inl (cI, 40, .inl gy)), (pn, .inl (cI, 40, .inl gn)), (pk, .inl (cI, 40, .inl gk))] H := hP
  have hD : va_D A [(q, .inr (1, [.ref o, .ref y, .ref n, .ref k, .int (nI plen)])), (o, .inl (cI, 40, .inl go)), (y, .inl (cI, 40, .inl gy)), (n, .inl (cI, 40, .inl gn)), (k, .inl (cI, 40, .inl gk)), (p, .inr (1, [.ref po, .ref py, .ref pn, .ref pk, .int (nI plen)])), (po, .inl (cI, 40, .inl go)), (py, .inl (cI, 40, .inl gy)), (pn, .inl (cI, 40, .inl gn)), (pk, .inl (cI, 40, .inl gk))] := hD
  exact fs_vret hx hb hr hlocks hAe hK hS d_Fi_become_68 () (trivial) hP hD

theorem d_Fs_isFilter_0 : decode b_Fs_isFilter 0 = .ok (.iload_n 0, 1) := by decide +kernel
theorem d_Fs_isFilter_1 : decode b_Fs_isFilter 1 = .ok (.ifCond .lt 12, 3) := by decide +kernel
theorem d_Fs_isFilter_4 : decode b_Fs_isFilter 4 = .ok (.iload_n 0, 1) := by decide +kernel
theorem d_Fs_isFilter_5 : decode b_Fs_isFilter 5 = .ok (.iconst 4, 1) := by decide +kernel
theorem d_Fs_isFilter_6 : decode b_Fs_isFilter 6 = .ok (.if_icmp .ge 7, 3) := by decide +kernel
theorem d_Fs_isFilter_9 : decode b_Fs_isFilter 9 = .ok (.iconst 1, 1) := by decide +kernel
theorem d_Fs_isFilter_10 : decode b_Fs_isFilter 10 = .ok (.goto 4, 3) := by decide +kernel
theorem d_Fs_isFilter_13 : decode b_Fs_isFilter 13 = .ok (.iconst 0, 1) := by decide +kernel
theorem d_Fs_isFilter_14 : decode b_Fs_isFilter 14 = .ok (.ireturn, 1) := by decide +kernel
set_option maxHeartbeats 4000000 in
set_option maxRecDepth 100000 in
theorem c_Fs_isFilter (f : Int32) (sz : Nat)  : fs_I l y_Fs_isFilter (k_Fs_isFilter :: fs_T) { frames := 0, cells := 0, slots := 0, locals := 0 } (dC, dI) vwCl (fs_tys cI cZ cJ cF) [.int f] [] sz (S := Unit) (fun r _ => ((∃ j, j < 4 ∧ f = nI j) ∧ r = nI 1) ∨ ((∀ j, j < 4 → f ≠ nI j) ∧ r = nI 0)) (fun _ => []) 0 0 := by
  refine fs_head (by decide) (Nat.le_of_ble_eq_true rfl) ?_
  intro p e s m below meth c A ls hx hb hr hts hown hlocks hin hml hK hP hD hS hA hAe hsz hl
  have hl : lv_has ls 1 [(0, .int f)] := hl
  have hown : s.vm.findClass R_Fs = some m.cls := hown
  refine lv_iload_n hx hb d_Fs_isFilter_0 rfl (lv_at hl 0 rfl) ?_
  refine lv_if_lt (tgt := 13) hx hb d_Fs_isFilter_1 (by decide) (fun hc1 => ?_) (fun hc1 => ?_)
  · rw [fs_lt0] at hc1
    refine lv_iconst (v := nI 0) hx hb d_Fs_isFilter_13 (by decide) ?_
    exact fs_zret hx hb hr hlocks hAe hK hS d_Fs_isFilter_14 (by decide) () (Or.inr ⟨fun j hj e => by rw [e, nI_toInt (by omega)] at hc1; omega, rfl⟩) hP hD
  rw [fs_lt0] at hc1
  refine lv_iload_n hx hb d_Fs_isFilter_4 rfl (lv_at hl 0 rfl) ?_
  refine lv_iconst (v := nI 4) hx hb d_Fs_isFilter_5 (by decide) ?_
  refine lv_icmp_ge (tgt := 13) hx hb d_Fs_isFilter_6 (by decide) (fun hc6 => ?_) (fun hc6 => ?_)
  · rw [fs_Nle (by omega)] at hc6
    refine lv_iconst (v := nI 0) hx hb d_Fs_isFilter_13 (by decide) ?_
    exact fs_zret hx hb hr hlocks hAe hK hS d_Fs_isFilter_14 (by decide) () (Or.inr ⟨fun j hj e => by rw [e, nI_toInt (by omega)] at hc6; omega, rfl⟩) hP hD
  rw [fs_Nle (by omega)] at hc6
  refine lv_iconst (v := nI 1) hx hb d_Fs_isFilter_9 (by decide) ?_
  refine lv_goto (tgt := 14) hx hb d_Fs_isFilter_10 (by decide) ?_
  exact fs_zret hx hb hr hlocks hAe hK hS d_Fs_isFilter_14 (by decide) () (Or.inl ⟨fs_of (by decide) (by omega) (by omega), rfl⟩) hP hD

set_option maxHeartbeats 4000000 in
set_option maxRecDepth 100000 in
theorem c_Fs_isFilterT (j : Nat) (sz : Nat) (hj : j < 4) : fs_I l y_Fs_isFilter (k_Fs_isFilter :: fs_T) { frames := 0, cells := 0, slots := 0, locals := 0 } (dC, dI) vwCl (fs_tys cI cZ cJ cF) [.int (nI j)] [] sz (S := Unit) (fun r _ => r = nI 1) (fun _ => []) 0 0 := by
  refine fs_head (by decide) (Nat.le_of_ble_eq_true rfl) ?_
  intro p e s m below meth c A ls hx hb hr hts hown hlocks hin hml hK hP hD hS hA hAe hsz hl
  have hl : lv_has ls 1 [(0, .int (nI j))] := hl
  have hown : s.vm.findClass R_Fs = some m.cls := hown
  refine lv_iload_n hx hb d_Fs_isFilter_0 rfl (lv_at hl 0 rfl) ?_
  refine lv_if_lt (tgt := 13) hx hb d_Fs_isFilter_1 (by decide) (fun hc => absurd hc (nI_pos (by omega))) (fun _ => ?_)
  refine lv_iload_n hx hb d_Fs_isFilter_4 rfl (lv_at hl 0 rfl) ?_
  refine lv_iconst (v := nI 4) hx hb d_Fs_isFilter_5 (by decide) ?_
  refine lv_icmp_ge (tgt := 13) hx hb d_Fs_isFilter_6 (by decide) (fun hc6 => absurd hc6 (by first | exact nI_ge (by omega) (by omega) | (rw [nI_ltI (by omega) (by omega)]; omega))) (fun hc6 => ?_)
  rw [nI_leI (by omega) (by omega)] at hc6
  refine lv_iconst (v := nI 1) hx hb d_Fs_isFilter_9 (by decide) ?_
  refine lv_goto (tgt := 14) hx hb d_Fs_isFilter_10 (by decide) ?_
  exact fs_zret hx hb hr hlocks hAe hK hS d_Fs_isFilter_14 (by decide) () (rfl) hP hD

theorem d_Fs_isDistance_0 : decode b_Fs_isDistance 0 = .ok (.iload_n 0, 1) := by decide +kernel
theorem d_Fs_isDistance_1 : decode b_Fs_isDistance 1 = .ok (.ifCond .lt 14, 3) := by decide +kernel
theorem d_Fs_isDistance_4 : decode b_Fs_isDistance 4 = .ok (.iload_n 0, 1) := by decide +kernel
theorem d_Fs_isDistance_5 : decode b_Fs_isDistance 5 = .ok (.sipush 255, 3) := by decide +kernel
theorem d_Fs_isDistance_8 : decode b_Fs_isDistance 8 = .ok (.if_icmp .gt 7, 3) := by decide +kernel
theorem d_Fs_isDistance_11 : decode b_Fs_isDistance 11 = .ok (.iconst 1, 1) := by decide +kernel
theorem d_Fs_isDistance_12 : decode b_Fs_isDistance 12 = .ok (.goto 4, 3) := by decide +kernel
theorem d_Fs_isDistance_15 : decode b_Fs_isDistance 15 = .ok (.iconst 0, 1) := by decide +kernel
theorem d_Fs_isDistance_16 : decode b_Fs_isDistance 16 = .ok (.ireturn, 1) := by decide +kernel
set_option maxHeartbeats 4000000 in
set_option maxRecDepth 100000 in
theorem c_Fs_isDistance (f : Int32) (sz : Nat)  : fs_I l y_Fs_isDistance (k_Fs_isDistance :: fs_T) { frames := 0, cells := 0, slots := 0, locals := 0 } (dC, dI) vwCl (fs_tys cI cZ cJ cF) [.int f] [] sz (S := Unit) (fun r _ => ((∃ j, j < 256 ∧ f = nI j) ∧ r = nI 1) ∨ ((∀ j, j < 256 → f ≠ nI j) ∧ r = nI 0)) (fun _ => []) 0 0 := by
  refine fs_head (by decide) (Nat.le_of_ble_eq_true rfl) ?_
  intro p e s m below meth c A ls hx hb hr hts hown hlocks hin hml hK hP hD hS hA hAe hsz hl
  have hl : lv_has ls 1 [(0, .int f)] := hl
  have hown : s.vm.findClass R_Fs = some m.cls := hown
  refine lv_iload_n hx hb d_Fs_isDistance_0 rfl (lv_at hl 0 rfl) ?_
  refine lv_if_lt (tgt := 15) hx hb d_Fs_isDistance_1 (by decide) (fun hc1 => ?_) (fun hc1 => ?_)
  · rw [fs_lt0] at hc1
    refine lv_iconst (v := nI 0) hx hb d_Fs_isDistance_15 (by decide) ?_
    exact fs_zret hx hb hr hlocks hAe hK hS d_Fs_isDistance_16 (by decide) () (Or.inr ⟨fun j hj e => by rw [e, nI_toInt (by omega)] at hc1; omega, rfl⟩) hP hD
  rw [fs_lt0] at hc1
  refine lv_iload_n hx hb d_Fs_isDistance_4 rfl (lv_at hl 0 rfl) ?_
  refine lv_sipush (v := nI 255) hx hb d_Fs_isDistance_5 (by decide) ?_
  refine lv_icmp_gt (tgt := 15) hx hb d_Fs_isDistance_8 (by decide) (fun hc8 => ?_) (fun hc8 => ?_)
  · rw [fs_Nlt (by omega)] at hc8
    refine lv_iconst (v := nI 0) hx hb d_Fs_isDistance_15 (by decide) ?_
    exact fs_zret hx hb hr hlocks hAe hK hS d_Fs_isDistance_16 (by decide) () (Or.inr ⟨fun j hj e => by rw [e, nI_toInt (by omega)] at hc8; omega, rfl⟩) hP hD
  rw [fs_Nlt (by omega)] at hc8
  refine lv_iconst (v := nI 1) hx hb d_Fs_isDistance_11 (by decide) ?_
  refine lv_goto (tgt := 16) hx hb d_Fs_isDistance_12 (by decide) ?_
  exact fs_zret hx hb hr hlocks hAe hK hS d_Fs_isDistance_16 (by decide) () (Or.inl ⟨fs_of (by decide) (by omega) (by omega), rfl⟩) hP hD

set_option maxHeartbeats 4000000 in
set_option maxRecDepth 100000 in
theorem c_Fs_isDistanceT (j : Nat) (sz : Nat) (hj : j < 256) : fs_I l y_Fs_isDistance (k_Fs_isDistance :: fs_T) { frames := 0, cells := 0, slots := 0, locals := 0 } (dC, dI) vwCl (fs_tys cI cZ cJ cF) [.int (nI j)] [] sz (S := Unit) (fun r _ => r = nI 1) (fun _ => []) 0 0 := by
  refine fs_head (by decide) (Nat.le_of_ble_eq_true rfl) ?_
  intro p e s m below meth c A ls hx hb hr hts hown hlocks hin hml hK hP hD hS hA hAe hsz hl
  have hl : lv_has ls 1 [(0, .int (nI j))] := hl
  have hown : s.vm.findClass R_Fs = some m.cls := hown
  refine lv_iload_n hx hb d_Fs_isDistance_0 rfl (lv_at hl 0 rfl) ?_
  refine lv_if_lt (tgt := 15) hx hb d_Fs_isDistance_1 (by decide) (fun hc => absurd hc (nI_pos (by omega))) (fun _ => ?_)
  refine lv_iload_n hx hb d_Fs_isDistance_4 rfl (lv_at hl 0 rfl) ?_
  refine lv_sipush (v := nI 255) hx hb d_Fs_isDistance_5 (by decide) ?_
  refine lv_icmp_gt (tgt := 15) hx hb d_Fs_isDistance_8 (by decide) (fun hc8 => absurd hc8 (by first | exact nI_ge (by omega) (by omega) | (rw [nI_ltI (by omega) (by omega)]; omega))) (fun hc8 => ?_)
  rw [nI_ltI (by omega) (by omega)] at hc8
  refine lv_iconst (v := nI 1) hx hb d_Fs_isDistance_11 (by decide) ?_
  refine lv_goto (tgt := 16) hx hb d_Fs_isDistance_12 (by decide) ?_
  exact fs_zret hx hb hr hlocks hAe hK hS d_Fs_isDistance_16 (by decide) () (rfl) hP hD

theorem d_Fs_add_0 : decode b_Fs_add 0 = .ok (.iload_n 1, 1) := by decide +kernel
theorem d_Fs_add_1 : decode b_Fs_add 1 = .ok (.invokestatic 48, 3) := by decide +kernel
theorem d_Fs_add_4 : decode b_Fs_add 4 = .ok (.ifCond .eq 28, 3) := by decide +kernel
theorem d_Fs_add_7 : decode b_Fs_add 7 = .ok (.iload_n 2, 1) := by decide +kernel
theorem d_Fs_add_8 : decode b_Fs_add 8 = .ok (.ifCond .lt 24, 3) := by decide +kernel
theorem d_Fs_add_11 : decode b_Fs_add 11 = .ok (.iload_n 2, 1) := by decide +kernel
theorem d_Fs_add_12 : decode b_Fs_add 12 = .ok (.bipush 31, 2) := by decide +kernel
theorem d_Fs_add_14 : decode b_Fs_add 14 = .ok (.if_icmp .gt 18, 3) := by decide +kernel
theorem d_Fs_add_17 : decode b_Fs_add 17 = .ok (.iload_n 3, 1) := by decide +kernel
theorem d_Fs_add_18 : decode b_Fs_add 18 = .ok (.invokestatic 52, 3) := by decide +kernel
theorem d_Fs_add_21 : decode b_Fs_add 21 = .ok (.ifCond .eq 11, 3) := by decide +kernel
theorem d_Fs_add_24 : decode b_Fs_add 24 = .ok (.iload 4, 2) := by decide +kernel
theorem d_Fs_add_26 : decode b_Fs_add 26 = .ok (.invokestatic 52, 3) := by decide +kernel
theorem d_Fs_add_29 : decode b_Fs_add 29 = .ok (.ifCond .ne 5, 3) := by decide +kernel
theorem d_Fs_add_32 : decode b_Fs_add 32 = .ok (.iconst (-1), 1) := by decide +kernel
theorem d_Fs_add_33 : decode b_Fs_add 33 = .ok (.ireturn, 1) := by decide +kernel
theorem d_Fs_add_34 : decode b_Fs_add 34 = .ok (.aload_n 0, 1) := by decide +kernel
theorem d_Fs_add_35 : decode b_Fs_add 35 = .ok (.getfield 11, 3) := by decide +kernel
theorem d_Fs_add_38 : decode b_Fs_add 38 = .ok (.iload_n 1, 1) := by decide +kernel
theorem d_Fs_add_39 : decode b_Fs_add 39 = .ok (.aaload, 1) := by decide +kernel
theorem d_Fs_add_40 : decode b_Fs_add 40 = .ok (.iload_n 2, 1) := by decide +kernel
theorem d_Fs_add_41 : decode b_Fs_add 41 = .ok (.iload_n 3, 1) := by decide +kernel
theorem d_Fs_add_42 : decode b_Fs_add 42 = .ok (.iload 4, 2) := by decide +kernel
theorem d_Fs_add_44 : decode b_Fs_add 44 = .ok (.iload 5, 2) := by decide +kernel
theorem d_Fs_add_46 : decode b_Fs_add 46 = .ok (.invokevirtual 55, 3) := by decide +kernel
theorem d_Fs_add_49 : decode b_Fs_add 49 = .ok (.ireturn, 1) := by decide +kernel
set_option maxHeartbeats 4000000 in
set_option maxRecDepth 100000 in
theorem c_Fs_add (fs fa sa stk wd ru ck mc : Nat) (ff : Nat → Option Nat) (q o y n k len : Nat) (fo fy fn fk : Nat → Int32) (j : Nat) (vo vy vn : Nat) (vk : Int32) (sz : Nat) (hj : j < 4) (hff : ff j = some q) (hvo : vo < 32) (hvy : vy < 256) (hvn : vn < 256) (hlen : len < 40) : fs_I l y_Fs_add (k_Fs_add :: fs_T) { frames := 1, cells := 0, slots := 0, locals := 24 } (dC, dI) vwCl (fs_tys cI cZ cJ cF) [.ref fs, .int (nI j), .int (nI vo), .int (nI vy), .int (nI vn), .int vk] [(fs, .inr (4, [.ref fa, .ref sa, .int (nI stk), .ref wd, .ref ru, .ref ck, .ref mc])), (fa, .inl (cF, 4, .inr (.inr (.inr (.inr ff))))), (q, .inr (1, [.ref o, .ref y, .ref n, .ref k, .int (nI len)])), (o, .inl (cI, 40, .inl fo)), (y, .inl (cI, 40, .inl fy)), (n, .inl (cI, 40, .inl fn)), (k, .inl (cI, 40, .inl fk))] sz (S := Unit) (fun r _ => r = nI len) (fun _ => [(fs, .inr (4, [.ref fa, .ref sa, .int (nI stk), .ref wd, .ref ru, .ref ck, .ref mc])), (fa, .inl (cF, 4, .inr (.inr (.inr (.inr ff))))), (q, .inr (1, [.ref o, .ref y, .ref n, .ref k, .int (nI (len + 1))])), (o, .inl (cI, 40, .inl (upd fo len (nI vo)))), (y, .inl (cI, 40, .inl (upd fy len (nI vy)))), (n, .inl (cI, 40, .inl (upd fn len (nI vn)))), (k, .inl (cI, 40, .inl (upd fk len vk)))]) 0 0 := by
  refine fs_head (by decide) (Nat.le_of_ble_eq_true rfl) ?_
  intro p e s m below meth c A ls hx hb hr hts hown hlocks hin hml hK hP hD hS hA hAe hsz hl
  have hl : lv_has ls 6 [(0, .ref fs), (1, .int (nI j)), (2, .int (nI vo)), (3, .int (nI vy)), (4, .int (nI vn)), (5, .int vk)] := hl
  have hown : s.vm.findClass R_Fs = some m.cls := hown
  refine lv_iload_n hx hb d_Fs_add_0 rfl (lv_at hl 1 rfl) ?_
  refine fs_calli (wc := []) (wr := [(fs, .inr (4, [.ref fa, .ref sa, .int (nI stk), .ref wd, .ref ru, .ref ck, .ref mc])), (fa, .inl (cF, 4, .inr (.inr (.inr (.inr ff))))), (q, .inr (1, [.ref o, .ref y, .ref n, .ref k, .int (nI len)])), (o, .inl (cI, 40, .inl fo)), (y, .inl (cI, 40, .inl fy)), (n, .inl (cI, 40, .inl fn)), (k, .inl (cI, 40, .inl fk))]) [] [0, 1, 2, 3, 4, 5, 6] hP hD hK hS hA rfl rfl rfl (by decide) (fun hPc hDc => va_runS (As := [.int (nI j)]) (rest := []) ⟨hx, hb, hml, hown, hts⟩ (c_Fs_isFilterT j _ (by omega)) (⟨callB_of 1 hts (fs_g kin_Fs_isFilter) rfl rfl rfl (hts _ wi_1) (hts _ wi_140) (by decide +kernel) ⟨Nat.le_of_ble_eq_true rfl, Nat.le_of_ble_eq_true rfl⟩, hts _ wi_141⟩) (fs_preS hPc hK hDc) rfl rfl hl.1 rfl (lv_room (Nat.le_of_ble_eq_true rfl)) d_Fs_add_1 ⟨Nat.le_of_ble_eq_true rfl, Nat.le_of_ble_eq_true rfl⟩) rfl (fun r1 _ H locs hp1 hP hD hS => ?_)
  have hP : va_P (dC, dI) vwCl [(fs, .inr (4, [.ref fa, .ref sa, .int (nI stk), .ref wd, .ref ru, .ref ck, .ref mc])), (fa, .inl (cF, 4, .inr (.inr (.inr (.inr ff))))), (q, .inr (1, [.ref o, .ref y, .ref n, .ref k, .int (nI len)])), (o, .inl (cI, 40, .inl fo)), (y, .inl (cI, 40, .inl fy)), (n, .inl (cI, 40, .inl fn)), (k, .inl (cI, 40, .inl fk))] H := hP
  have hD : va_D A [(fs, .inr (4, [.ref fa, .ref sa, .int (nI stk), .ref wd, .ref ru, .ref ck, .ref mc])), (fa, .inl (cF, 4, .inr (.inr (.inr (.inr ff))))), (q, .inr (1, [.ref o, .ref y, .ref n, .ref k, .int (nI len)])), (o, .inl (cI, 40, .inl fo)), (y, .inl (cI, 40, .inl fy)), (n, .inl (cI, 40, .inl fn)), (k, .inl (cI, 40, .inl fk))] := hD
  subst hp1
  refine lv_if_eq (tgt := 32) hx hb d_Fs_add_4 (by decide) (fun hc => absurd hc (by decide)) (fun _ => ?_)
  refine lv_iload_n hx hb d_Fs_add_7 rfl (lv_at hl 2 rfl) ?_
  refine lv_if_lt (tgt := 32) hx hb d_Fs_add_8 (by decide) (fun hc => absurd hc (nI_pos (by omega))) (fun _ => ?_)
  refine lv_iload_n hx hb d_Fs_add_11 rfl (lv_at hl 2 rfl) ?_
  refine lv_bipush (v := nI 31) hx hb d_Fs_add_12 (by decide) ?_
  refine lv_icmp_gt (tgt := 32) hx hb d_Fs_add_14 (by decide) (fun hc14 => absurd hc14 (by rw [nI_ltI (by omega) (by omega)]; omega)) (fun hc14 => ?_)
  rw [nI_ltI (by omega) (by omega)] at hc14
  refine lv_iload_n hx hb d_Fs_add_17 rfl (lv_at hl 3 rfl) ?_
  refine fs_calli (wc := []) (wr := [(fs, .inr (4, [.ref fa, .ref sa, .int (nI stk), .ref wd, .ref ru, .ref ck, .ref mc])), (fa, .inl (cF, 4, .inr (.inr (.inr (.inr ff))))), (q, .inr (1, [.ref o, .ref y, .ref n, .ref k, .int (nI len)])), (o, .inl (cI, 40, .inl fo)), (y, .inl (cI, 40, .inl fy)), (n, .inl (cI, 40, .inl fn)), (k, .inl (cI, 40, .inl fk))]) [] [0, 1, 2, 3, 4, 5, 6] hP hD hK hS hA rfl rfl rfl (by decide) (fun hPc hDc => va_runS (As := [.int (nI vy)]) (rest := []) ⟨hx, hb, hml, hown, hts⟩ (c_Fs_isDistanceT vy _ (by omega)) (⟨callB_of 1 hts (fs_g kin_Fs_isDistance) rfl rfl rfl (hts _ wi_1) (hts _ wi_143) (by decide +kernel) ⟨Nat.le_of_ble_eq_true rfl, Nat.le_of_ble_eq_true rfl⟩, hts _ wi_144⟩) (fs_preS hPc hK hDc) rfl rfl hl.1 rfl (lv_room (Nat.le_of_ble_eq_true rfl)) d_Fs_add_18 ⟨Nat.le_of_ble_eq_true rfl, Nat.le_of_ble_eq_true rfl⟩) rfl (fun r18 _ H locs hp18 hP hD hS => ?_)
  have hP : va_P (dC, dI) vwCl [(fs, .inr (4, [.ref fa, .ref sa, .int (nI stk), .ref wd, .ref ru, .ref ck, .ref mc])), (fa, .inl (cF, 4, .inr (.inr (.inr (.inr ff))))), (q, .inr (1, [.ref o, .ref y, .ref n, .ref k, .int (nI len)])), (o, .inl (cI, 40, .inl fo)), (y, .inl (cI, 40, .inl fy)), (n, .inl (cI, 40, .inl fn)), (k, .inl (cI, 40, .inl fk))] H := hP
  have hD : va_D A [(fs, .inr (4, [.ref fa, .ref sa, .int (nI stk), .ref wd, .ref ru, .ref ck, .ref mc])), (fa, .inl (cF, 4, .inr (.inr (.inr (.inr ff))))), (q, .inr (1, [.ref o, .ref y, .ref n, .ref k, .int (nI len)])), (o, .inl (cI, 40, .inl fo)), (y, .inl (cI, 40, .inl fy)), (n, .inl (cI, 40, .inl fn)), (k, .inl (cI, 40, .inl fk))] := hD
  subst hp18
  refine lv_if_eq (tgt := 32) hx hb d_Fs_add_21 (by decide) (fun hc => absurd hc (by decide)) (fun _ => ?_)
  refine lv_iload hx hb d_Fs_add_24 (lv_at hl 4 rfl) ?_
  refine fs_calli (wc := []) (wr := [(fs, .inr (4, [.ref fa, .ref sa, .int (nI stk), .ref wd, .ref ru, .ref ck, .ref mc])), (fa, .inl (cF, 4, .inr (.inr (.inr (.inr ff))))), (q, .inr (1, [.ref o, .ref y, .ref n, .ref k, .int (nI len)])), (o, .inl (cI, 40, .inl fo)), (y, .inl (cI, 40, .inl fy)), (n, .inl (cI, 40, .inl fn)), (k, .inl (cI, 40, .inl fk))]) [] [0, 1, 2, 3, 4, 5, 6] hP hD hK hS hA rfl rfl rfl (by decide) (fun hPc hDc => va_runS (As := [.int (nI vn)]) (rest := []) ⟨hx, hb, hml, hown, hts⟩ (c_Fs_isDistanceT vn _ (by omega)) (⟨callB_of 1 hts (fs_g kin_Fs_isDistance) rfl rfl rfl (hts _ wi_1) (hts _ wi_143) (by decide +kernel) ⟨Nat.le_of_ble_eq_true rfl, Nat.le_of_ble_eq_true rfl⟩, hts _ wi_144⟩) (fs_preS hPc hK hDc) rfl rfl hl.1 rfl (lv_room (Nat.le_of_ble_eq_true rfl)) d_Fs_add_26 ⟨Nat.le_of_ble_eq_true rfl, Nat.le_of_ble_eq_true rfl⟩) rfl (fun r26 _ H locs hp26 hP hD hS => ?_)
  have hP : va_P (dC, dI) vwCl [(fs, .inr (4, [.ref fa, .ref sa, .int (nI stk), .ref wd, .ref ru, .ref ck, .ref mc])), (fa, .inl (cF, 4, .inr (.inr (.inr (.inr ff))))), (q, .inr (1, [.ref o, .ref y, .ref n, .ref k, .int (nI len)])), (o, .inl (cI, 40, .inl fo)), (y, .inl (cI, 40, .inl fy)), (n, .inl (cI, 40, .inl fn)), (k, .inl (cI, 40, .inl fk))] H := hP
  have hD : va_D A [(fs, .inr (4, [.ref fa, .ref sa, .int (nI stk), .ref wd, .ref ru, .ref ck, .ref mc])), (fa, .inl (cF, 4, .inr (.inr (.inr (.inr ff))))), (q, .inr (1, [.ref o, .ref y, .ref n, .ref k, .int (nI len)])), (o, .inl (cI, 40, .inl fo)), (y, .inl (cI, 40, .inl fy)), (n, .inl (cI, 40, .inl fn)), (k, .inl (cI, 40, .inl fk))] := hD
  subst hp26
  refine lv_if_ne (tgt := 34) hx hb d_Fs_add_29 (by decide) (fun _ => ?_) (fun hc => absurd hc (by decide))
  refine lv_aload_n hx hb d_Fs_add_34 rfl (lv_at hl 0 rfl) ?_
  refine va_get (D := (dC, dI)) (ci := 4) (v := .ref fa) (C := R_Fs) (T := T_Fs) (N := 7) hx hb hts uin_Fs hown hK hP 0 rfl rfl 0 (by decide) (hts _ wi_114) (fun _ h9 => h9) rfl d_Fs_add_35 ?_
  refine lv_iload_n hx hb d_Fs_add_38 rfl (lv_at hl 1 rfl) ?_
  refine fs_aald (b := q) hx hb hK hP 1 3 rfl rfl j rfl (by decide) (by omega) hff d_Fs_add_39 ?_
  refine lv_iload_n hx hb d_Fs_add_40 rfl (lv_at hl 2 rfl) ?_
  refine lv_iload_n hx hb d_Fs_add_41 rfl (lv_at hl 3 rfl) ?_
  refine lv_iload hx hb d_Fs_add_42 (lv_at hl 4 rfl) ?_
  refine lv_iload hx hb d_Fs_add_44 (lv_at hl 5 rfl) ?_
  refine fs_calli (wc := [(q, .inr (1, [.ref o, .ref y, .ref n, .ref k, .int (nI len)])), (o, .inl (cI, 40, .inl fo)), (y, .inl (cI, 40, .inl fy)), (n, .inl (cI, 40, .inl fn)), (k, .inl (cI, 40, .inl fk))]) (wr := [(fs, .inr (4, [.ref fa, .ref sa, .int (nI stk), .ref wd, .ref ru, .ref ck, .ref mc])), (fa, .inl (cF, 4, .inr (.inr (.inr (.inr ff)))))]) [2, 3, 4, 5, 6] [0, 1] hP hD hK hS hA rfl rfl rfl (by decide) (fun hPc hDc => va_runV (C := R_Fi) (As := [.int (nI vo), .int (nI vy), .int (nI vn), .int vk]) (rest := []) ⟨hx, hb, hml, hown, hts⟩ (c_Fi_append q o y n k len fo fy fn fk (nI vo) (nI vy) (nI vn) vk _ (by omega)) (⟨callB_of 4 hts (fs_g kin_Fi_append) rfl rfl rfl (hts _ wi_2) (hts _ wi_146) (by decide +kernel) ⟨Nat.le_of_ble_eq_true rfl, Nat.le_of_ble_eq_true rfl⟩, hts _ wi_147, hts _ wi_148⟩) (fs_preV (q0 := 0) rfl rfl hPc hK hDc) rfl rfl hl.1 rfl (lv_room (Nat.le_of_ble_eq_true rfl)) d_Fs_add_46 ⟨Nat.le_of_ble_eq_true rfl, Nat.le_of_ble_eq_true rfl⟩) rfl (fun r46 _ H locs hp46 hP hD hS => ?_)
  have hP : va_P (dC, dI) vwCl [(fs, .inr (4, [.ref fa, .ref sa, .int (nI stk), .ref wd, .ref ru, .ref ck, .ref mc])), (fa, .inl (cF, 4, .inr (.inr (.inr (.inr ff))))), (q, .inr (1, [.ref o, .ref y, .ref n, .ref k, .int (nI (len + 1))])), (o, .inl (cI, 40, .inl (upd fo len (nI vo)))), (y, .inl (cI, 40, .inl (upd fy len (nI vy)))), (n, .inl (cI, 40, .inl (upd fn len (nI vn)))), (k, .inl (cI, 40, .inl (upd fk len vk)))] H := hP
  have hD : va_D A [(fs, .inr (4, [.ref fa, .ref sa, .int (nI stk), .ref wd, .ref ru, .ref ck, .ref mc])), (fa, .inl (cF, 4, .inr (.inr (.inr (.inr ff))))), (q, .inr (1, [.ref o, .ref y, .ref n, .ref k, .int (nI (len + 1))])), (o, .inl (cI, 40, .inl (upd fo len (nI vo)))), (y, .inl (cI, 40, .inl (upd fy len (nI vy)))), (n, .inl (cI, 40, .inl (upd fn len (nI vn)))), (k, .inl (cI, 40, .inl (upd fk len vk)))] := hD
  subst hp46
  exact fs_iret hx hb hr hlocks hAe hK hS d_Fs_add_49 () (rfl) hP hD

set_option maxHeartbeats 4000000 in
set_option maxRecDepth 100000 in
theorem c_Fs_addF (fs fa sa stk wd ru ck mc : Nat) (ff : Nat → Option Nat) (q o y n k : Nat) (fo fy fn fk : Nat → Int32) (j : Nat) (vo vy vn : Nat) (vk : Int32) (sz : Nat) (hj : j < 4) (hff : ff j = some q) (hvo : vo < 32) (hvy : vy < 256) (hvn : vn < 256) : fs_I l y_Fs_add (k_Fs_add :: fs_T) { frames := 1, cells := 0, slots := 0, locals := 24 } (dC, dI) vwCl (fs_tys cI cZ cJ cF) [.ref fs, .int (nI j), .int (nI vo), .int (nI vy), .int (nI vn), .int vk] [(fs, .inr (4, [.ref fa, .ref sa, .int (nI stk), .ref wd, .ref ru, .ref ck, .ref mc])), (fa, .inl (cF, 4, .inr (.inr (.inr (.inr ff))))), (q, .inr (1, [.ref o, .ref y, .ref n, .ref k, .int (nI 40)])), (o, .inl (cI, 40, .inl fo)), (y, .inl (cI, 40, .inl fy)), (n, .inl (cI, 40, .inl fn)), (k, .inl (cI, 40, .inl fk))] sz (S := Unit) (fun r _ => r = (-2)) (fun _ => [(fs, .inr (4, [.ref fa, .ref sa, .int (nI stk), .ref wd, .ref ru, .ref ck, .ref mc])), (fa, .inl (cF, 4, .inr (.inr (.inr (.inr ff))))), (q, .inr (1, [.ref o, .ref y, .ref n, .ref k, .int (nI 40)])), (o, .inl (cI, 40, .inl fo)), (y, .inl (cI, 40, .inl fy)), (n, .inl (cI, 40, .inl fn)), (k, .inl (cI, 40, .inl fk))]) 0 0 := by
  refine fs_head (by decide) (Nat.le_of_ble_eq_true rfl) ?_
  intro p e s m below meth c A ls hx hb hr hts hown hlocks hin hml hK hP hD hS hA hAe hsz hl
  have hl : lv_has ls 6 [(0, .ref fs), (1, .int (nI j)), (2, .int (nI vo)), (3, .int (nI vy)), (4, .int (nI vn)), (5, .int vk)] := hl
  have hown : s.vm.findClass R_Fs = some m.cls := hown
  refine lv_iload_n hx hb d_Fs_add_0 rfl (lv_at hl 1 rfl) ?_
  refine fs_calli (wc := []) (wr := [(fs, .inr (4, [.ref fa, .ref sa, .int (nI stk), .ref wd, .ref ru, .ref ck, .ref mc])), (fa, .inl (cF, 4, .inr (.inr (.inr (.inr ff))))), (q, .inr (1, [.ref o, .ref y, .ref n, .ref k, .int (nI 40)])), (o, .inl (cI, 40, .inl fo)), (y, .inl (cI, 40, .inl fy)), (n, .inl (cI, 40, .inl fn)), (k, .inl (cI, 40, .inl fk))]) [] [0, 1, 2, 3, 4, 5, 6] hP hD hK hS hA rfl rfl rfl (by decide) (fun hPc hDc => va_runS (As := [.int (nI j)]) (rest := []) ⟨hx, hb, hml, hown, hts⟩ (c_Fs_isFilterT j _ (by omega)) (⟨callB_of 1 hts (fs_g kin_Fs_isFilter) rfl rfl rfl (hts _ wi_1) (hts _ wi_140) (by decide +kernel) ⟨Nat.le_of_ble_eq_true rfl, Nat.le_of_ble_eq_true rfl⟩, hts _ wi_141⟩) (fs_preS hPc hK hDc) rfl rfl hl.1 rfl (lv_room (Nat.le_of_ble_eq_true rfl)) d_Fs_add_1 ⟨Nat.le_of_ble_eq_true rfl, Nat.le_of_ble_eq_true rfl⟩) rfl (fun r1 _ H locs hp1 hP hD hS => ?_)
  have hP : va_P (dC, dI) vwCl [(fs, .inr (4, [.ref fa, .ref sa, .int (nI stk), .ref wd, .ref ru, .ref ck, .ref mc])), (fa, .inl (cF, 4, .inr (.inr (.inr (.inr ff))))), (q, .inr (1, [.ref o, .ref y, .ref n, .ref k, .int (nI 40)])), (o, .inl (cI, 40, .inl fo)), (y, .inl (cI, 40, .inl fy)), (n, .inl (cI, 40, .inl fn)), (k, .inl (cI, 40, .inl fk))] H := hP
  have hD : va_D A [(fs, .inr (4, [.ref fa, .ref sa, .int (nI stk), .ref wd, .ref ru, .ref ck, .ref mc])), (fa, .inl (cF, 4, .inr (.inr (.inr (.inr ff))))), (q, .inr (1, [.ref o, .ref y, .ref n, .ref k, .int (nI 40)])), (o, .inl (cI, 40, .inl fo)), (y, .inl (cI, 40, .inl fy)), (n, .inl (cI, 40, .inl fn)), (k, .inl (cI, 40, .inl fk))] := hD
  subst hp1
  refine lv_if_eq (tgt := 32) hx hb d_Fs_add_4 (by decide) (fun hc => absurd hc (by decide)) (fun _ => ?_)
  refine lv_iload_n hx hb d_Fs_add_7 rfl (lv_at hl 2 rfl) ?_
  refine lv_if_lt (tgt := 32) hx hb d_Fs_add_8 (by decide) (fun hc => absurd hc (nI_pos (by omega))) (fun _ => ?_)
  refine lv_iload_n hx hb d_Fs_add_11 rfl (lv_at hl 2 rfl) ?_
  refine lv_bipush (v := nI 31) hx hb d_Fs_add_12 (by decide) ?_
  refine lv_icmp_gt (tgt := 32) hx hb d_Fs_add_14 (by decide) (fun hc14 => absurd hc14 (by rw [nI_ltI (by omega) (by omega)]; omega)) (fun hc14 => ?_)
  rw [nI_ltI (by omega) (by omega)] at hc14
  refine lv_iload_n hx hb d_Fs_add_17 rfl (lv_at hl 3 rfl) ?_
  refine fs_calli (wc := []) (wr := [(fs, .inr (4, [.ref fa, .ref sa, .int (nI stk), .ref wd, .ref ru, .ref ck, .ref mc])), (fa, .inl (cF, 4, .inr (.inr (.inr (.inr ff))))), (q, .inr (1, [.ref o, .ref y, .ref n, .ref k, .int (nI 40)])), (o, .inl (cI, 40, .inl fo)), (y, .inl (cI, 40, .inl fy)), (n, .inl (cI, 40, .inl fn)), (k, .inl (cI, 40, .inl fk))]) [] [0, 1, 2, 3, 4, 5, 6] hP hD hK hS hA rfl rfl rfl (by decide) (fun hPc hDc => va_runS (As := [.int (nI vy)]) (rest := []) ⟨hx, hb, hml, hown, hts⟩ (c_Fs_isDistanceT vy _ (by omega)) (⟨callB_of 1 hts (fs_g kin_Fs_isDistance) rfl rfl rfl (hts _ wi_1) (hts _ wi_143) (by decide +kernel) ⟨Nat.le_of_ble_eq_true rfl, Nat.le_of_ble_eq_true rfl⟩, hts _ wi_144⟩) (fs_preS hPc hK hDc) rfl rfl hl.1 rfl (lv_room (Nat.le_of_ble_eq_true rfl)) d_Fs_add_18 ⟨Nat.le_of_ble_eq_true rfl, Nat.le_of_ble_eq_true rfl⟩) rfl (fun r18 _ H locs hp18 hP hD hS => ?_)
  have hP : va_P (dC, dI) vwCl [(fs, .inr (4, [.ref fa, .ref sa, .int (nI stk), .ref wd, .ref ru, .ref ck, .ref mc])), (fa, .inl (cF, 4, .inr (.inr (.inr (.inr ff))))), (q, .inr (1, [.ref o, .ref y, .ref n, .ref k, .int (nI 40)])), (o, .inl (cI, 40, .inl fo)), (y, .inl (cI, 40, .inl fy)), (n, .inl (cI, 40, .inl fn)), (k, .inl (cI, 40, .inl fk))] H := hP
  have hD : va_D A [(fs, .inr (4, [.ref fa, .ref sa, .int (nI stk), .ref wd, .ref ru, .ref ck, .ref mc])), (fa, .inl (cF, 4, .inr (.inr (.inr (.inr ff))))), (q, .inr (1, [.ref o, .ref y, .ref n, .ref k, .int (nI 40)])), (o, .inl (cI, 40, .inl fo)), (y, .inl (cI, 40, .inl fy)), (n, .inl (cI, 40, .inl fn)), (k, .inl (cI, 40, .inl fk))] := hD
  subst hp18
  refine lv_if_eq (tgt := 32) hx hb d_Fs_add_21 (by decide) (fun hc => absurd hc (by decide)) (fun _ => ?_)
  refine lv_iload hx hb d_Fs_add_24 (lv_at hl 4 rfl) ?_
  refine fs_calli (wc := []) (wr := [(fs, .inr (4, [.ref fa, .ref sa, .int (nI stk), .ref wd, .ref ru, .ref ck, .ref mc])), (fa, .inl (cF, 4, .inr (.inr (.inr (.inr ff))))), (q, .inr (1, [.ref o, .ref y, .ref n, .ref k, .int (nI 40)])), (o, .inl (cI, 40, .inl fo)), (y, .inl (cI, 40, .inl fy)), (n, .inl (cI, 40, .inl fn)), (k, .inl (cI, 40, .inl fk))]) [] [0, 1, 2, 3, 4, 5, 6] hP hD hK hS hA rfl rfl rfl (by decide) (fun hPc hDc => va_runS (As := [.int (nI vn)]) (rest := []) ⟨hx, hb, hml, hown, hts⟩ (c_Fs_isDistanceT vn _ (by omega)) (⟨callB_of 1 hts (fs_g kin_Fs_isDistance) rfl rfl rfl (hts _ wi_1) (hts _ wi_143) (by decide +kernel) ⟨Nat.le_of_ble_eq_true rfl, Nat.le_of_ble_eq_true rfl⟩, hts _ wi_144⟩) (fs_preS hPc hK hDc) rfl rfl hl.1 rfl (lv_room (Nat.le_of_ble_eq_true rfl)) d_Fs_add_26 ⟨Nat.le_of_ble_eq_true rfl, Nat.le_of_ble_eq_true rfl⟩) rfl (fun r26 _ H locs hp26 hP hD hS => ?_)
  have hP : va_P (dC, dI) vwCl [(fs, .inr (4, [.ref fa, .ref sa, .int (nI stk), .ref wd, .ref ru, .ref ck, .ref mc])), (fa, .inl (cF, 4, .inr (.inr (.inr (.inr ff))))), (q, .inr (1, [.ref o, .ref y, .ref n, .ref k, .int (nI 40)])), (o, .inl (cI, 40, .inl fo)), (y, .inl (cI, 40, .inl fy)), (n, .inl (cI, 40, .inl fn)), (k, .inl (cI, 40, .inl fk))] H := hP
  have hD : va_D A [(fs, .inr (4, [.ref fa, .ref sa, .int (nI stk), .ref wd, .ref ru, .ref ck, .ref mc])), (fa, .inl (cF, 4, .inr (.inr (.inr (.inr ff))))), (q, .inr (1, [.ref o, .ref y, .ref n, .ref k, .int (nI 40)])), (o, .inl (cI, 40, .inl fo)), (y, .inl (cI, 40, .inl fy)), (n, .inl (cI, 40, .inl fn)), (k, .inl (cI, 40, .inl fk))] := hD
  subst hp26
  refine lv_if_ne (tgt := 34) hx hb d_Fs_add_29 (by decide) (fun _ => ?_) (fun hc => absurd hc (by decide))
  refine lv_aload_n hx hb d_Fs_add_34 rfl (lv_at hl 0 rfl) ?_
  refine va_get (D := (dC, dI)) (ci := 4) (v := .ref fa) (C := R_Fs) (T := T_Fs) (N := 7) hx hb hts uin_Fs hown hK hP 0 rfl rfl 0 (by decide) (hts _ wi_114) (fun _ h9 => h9) rfl d_Fs_add_35 ?_
  refine lv_iload_n hx hb d_Fs_add_38 rfl (lv_at hl 1 rfl) ?_
  refine fs_aald (b := q) hx hb hK hP 1 3 rfl rfl j rfl (by decide) (by omega) hff d_Fs_add_39 ?_
  refine lv_iload_n hx hb d_Fs_add_40 rfl (lv_at hl 2 rfl) ?_
  refine lv_iload_n hx hb d_Fs_add_41 rfl (lv_at hl 3 rfl) ?_
  refine lv_iload hx hb d_Fs_add_42 (lv_at hl 4 rfl) ?_
  refine lv_iload hx hb d_Fs_add_44 (lv_at hl 5 rfl) ?_
  refine fs_calli (wc := [(q, .inr (1, [.ref o, .ref y, .ref n, .ref k, .int (nI 40)])), (o, .inl (cI, 40, .inl fo)), (y, .inl (cI, 40, .inl fy)), (n, .inl (cI, 40, .inl fn)), (k, .inl (cI, 40, .inl fk))]) (wr := [(fs, .inr (4, [.ref fa, .ref sa, .int (nI stk), .ref wd, .ref ru, .ref ck, .ref mc])), (fa, .inl (cF, 4, .inr (.inr (.inr (.inr ff)))))]) [2, 3, 4, 5, 6] [0, 1] hP hD hK hS hA rfl rfl rfl (by decide) (fun hPc hDc => va_runV (C := R_Fi) (As := [.int (nI vo), .int (nI vy), .int (nI vn), .int vk]) (rest := []) ⟨hx, hb, hml, hown, hts⟩ (c_Fi_appendF q o y n k fo fy fn fk (nI vo) (nI vy) (nI vn) vk _) (⟨callB_of 4 hts (fs_g kin_Fi_append) rfl rfl rfl (hts _ wi_2) (hts _ wi_146) (by decide +kernel) ⟨Nat.le_of_ble_eq_true rfl, Nat.le_of_ble_eq_true rfl⟩, hts _ wi_147, hts _ wi_148⟩) (fs_preV (q0 := 0) rfl rfl hPc hK hDc) rfl rfl hl.1 rfl (lv_room (Nat.le_of_ble_eq_true rfl)) d_Fs_add_46 ⟨Nat.le_of_ble_eq_true rfl, Nat.le_of_ble_eq_true rfl⟩) rfl (fun r46 _ H locs hp46 hP hD hS => ?_)
  have hP : va_P (dC, dI) vwCl [(fs, .inr (4, [.ref fa, .ref sa, .int (nI stk), .ref wd, .ref ru, .ref ck, .ref mc])), (fa, .inl (cF, 4, .inr (.inr (.inr (.inr ff))))), (q, .inr (1, [.ref o, .ref y, .ref n, .ref k, .int (nI 40)])), (o, .inl (cI, 40, .inl fo)), (y, .inl (cI, 40, .inl fy)), (n, .inl (cI, 40, .inl fn)), (k, .inl (cI, 40, .inl fk))] H := hP
  have hD : va_D A [(fs, .inr (4, [.ref fa, .ref sa, .int (nI stk), .ref wd, .ref ru, .ref ck, .ref mc])), (fa, .inl (cF, 4, .inr (.inr (.inr (.inr ff))))), (q, .inr (1, [.ref o, .ref y, .ref n, .ref k, .int (nI 40)])), (o, .inl (cI, 40, .inl fo)), (y, .inl (cI, 40, .inl fy)), (n, .inl (cI, 40, .inl fn)), (k, .inl (cI, 40, .inl fk))] := hD
  subst hp46
  exact fs_iret hx hb hr hlocks hAe hK hS d_Fs_add_49 () (rfl) hP hD

set_option maxHeartbeats 4000000 in
set_option maxRecDepth 100000 in
theorem c_Fs_addX (fs fa sa stk wd ru ck mc : Nat) (f vo vy vn vk : Int32) (sz : Nat) (hbad : ¬ ((∃ j, j < 4 ∧ f = nI j) ∧ 0 ≤ vo.toInt ∧ vo.toInt ≤ 31 ∧ (∃ j, j < 256 ∧ vy = nI j) ∧ (∃ j, j < 256 ∧ vn = nI j))) : fs_I l y_Fs_add (k_Fs_add :: fs_T) { frames := 1, cells := 0, slots := 0, locals := 24 } (dC, dI) vwCl (fs_tys cI cZ cJ cF) [.ref fs, .int f, .int vo, .int vy, .int vn, .int vk] [(fs, .inr (4, [.ref fa, .ref sa, .int (nI stk), .ref wd, .ref ru, .ref ck, .ref mc]))] sz (S := Unit) (fun r _ => r = (-1)) (fun _ => [(fs, .inr (4, [.ref fa, .ref sa, .int (nI stk), .ref wd, .ref ru, .ref ck, .ref mc]))]) 0 0 := by
  refine fs_head (by decide) (Nat.le_of_ble_eq_true rfl) ?_
  intro p e s m below meth c A ls hx hb hr hts hown hlocks hin hml hK hP hD hS hA hAe hsz hl
  have hl : lv_has ls 6 [(0, .ref fs), (1, .int f), (2, .int vo), (3, .int vy), (4, .int vn), (5, .int vk)] := hl
  have hown : s.vm.findClass R_Fs = some m.cls := hown
  refine lv_iload_n hx hb d_Fs_add_0 rfl (lv_at hl 1 rfl) ?_
  refine fs_calli (wc := []) (wr := [(fs, .inr (4, [.ref fa, .ref sa, .int (nI stk), .ref wd, .ref ru, .ref ck, .ref mc]))]) [] [0] hP hD hK hS hA rfl rfl rfl (by decide) (fun hPc hDc => va_runS (As := [.int f]) (rest := []) ⟨hx, hb, hml, hown, hts⟩ (c_Fs_isFilter f _) (⟨callB_of 1 hts (fs_g kin_Fs_isFilter) rfl rfl rfl (hts _ wi_1) (hts _ wi_140) (by decide +kernel) ⟨Nat.le_of_ble_eq_true rfl, Nat.le_of_ble_eq_true rfl⟩, hts _ wi_141⟩) (fs_preS hPc hK hDc) rfl rfl hl.1 rfl (lv_room (Nat.le_of_ble_eq_true rfl)) d_Fs_add_1 ⟨Nat.le_of_ble_eq_true rfl, Nat.le_of_ble_eq_true rfl⟩) rfl (fun r1 _ H locs hp1 hP hD hS => ?_)
  have hP : va_P (dC, dI) vwCl [(fs, .inr (4, [.ref fa, .ref sa, .int (nI stk), .ref wd, .ref ru, .ref ck, .ref mc]))] H := hP
  have hD : va_D A [(fs, .inr (4, [.ref fa, .ref sa, .int (nI stk), .ref wd, .ref ru, .ref ck, .ref mc]))] := hD
  rcases hp1 with ⟨hc1, rfl⟩ | ⟨hc1, rfl⟩
  · refine lv_if_eq (tgt := 32) hx hb d_Fs_add_4 (by decide) (fun hc => absurd hc (by decide)) (fun _ => ?_)
    refine lv_iload_n hx hb d_Fs_add_7 rfl (lv_at hl 2 rfl) ?_
    refine lv_if_lt (tgt := 32) hx hb d_Fs_add_8 (by decide) (fun hc8 => ?_) (fun hc8 => ?_)
    · rw [fs_lt0] at hc8
      refine lv_iconst (v := (-1)) hx hb d_Fs_add_32 (by decide) ?_
      exact fs_iret hx hb hr hlocks hAe hK hS d_Fs_add_33 () (rfl) hP hD
    rw [fs_lt0] at hc8
    refine lv_iload_n hx hb d_Fs_add_11 rfl (lv_at hl 2 rfl) ?_
    refine lv_bipush (v := nI 31) hx hb d_Fs_add_12 (by decide) ?_
    refine lv_icmp_gt (tgt := 32) hx hb d_Fs_add_14 (by decide) (fun hc14 => ?_) (fun hc14 => ?_)
    · rw [fs_Nlt (by omega)] at hc14
      refine lv_iconst (v := (-1)) hx hb d_Fs_add_32 (by decide) ?_
      exact fs_iret hx hb hr hlocks hAe hK hS d_Fs_add_33 () (rfl) hP hD
    rw [fs_Nlt (by omega)] at hc14
    refine lv_iload_n hx hb d_Fs_add_17 rfl (lv_at hl 3 rfl) ?_
    refine fs_calli (wc := []) (wr := [(fs, .inr (4, [.ref fa, .ref sa, .int (nI stk), .ref wd, .ref ru, .ref ck, .ref mc]))]) [] [0] hP hD hK hS hA rfl rfl rfl (by decide) (fun hPc hDc => va_runS (As := [.int vy]) (rest := []) ⟨hx, hb, hml, hown, hts⟩ (c_Fs_isDistance vy _) (⟨callB_of 1 hts (fs_g kin_Fs_isDistance) rfl rfl rfl (hts _ wi_1) (hts _ wi_143) (by decide +kernel) ⟨Nat.le_of_ble_eq_true rfl, Nat.le_of_ble_eq_true rfl⟩, hts _ wi_144⟩) (fs_preS hPc hK hDc) rfl rfl hl.1 rfl (lv_room (Nat.le_of_ble_eq_true rfl)) d_Fs_add_18 ⟨Nat.le_of_ble_eq_true rfl, Nat.le_of_ble_eq_true rfl⟩) rfl (fun r18 _ H locs hp18 hP hD hS => ?_)
    have hP : va_P (dC, dI) vwCl [(fs, .inr (4, [.ref fa, .ref sa, .int (nI stk), .ref wd, .ref ru, .ref ck, .ref mc]))] H := hP
    have hD : va_D A [(fs, .inr (4, [.ref fa, .ref sa, .int (nI stk), .ref wd, .ref ru, .ref ck, .ref mc]))] := hD
    rcases hp18 with ⟨hc18, rfl⟩ | ⟨hc18, rfl⟩
    · refine lv_if_eq (tgt := 32) hx hb d_Fs_add_21 (by decide) (fun hc => absurd hc (by decide)) (fun _ => ?_)
      refine lv_iload hx hb d_Fs_add_24 (lv_at hl 4 rfl) ?_
      refine fs_calli (wc := []) (wr := [(fs, .inr (4, [.ref fa, .ref sa, .int (nI stk), .ref wd, .ref ru, .ref ck, .ref mc]))]) [] [0] hP hD hK hS hA rfl rfl rfl (by decide) (fun hPc hDc => va_runS (As := [.int vn]) (rest := []) ⟨hx, hb, hml, hown, hts⟩ (c_Fs_isDistance vn _) (⟨callB_of 1 hts (fs_g kin_Fs_isDistance) rfl rfl rfl (hts _ wi_1) (hts _ wi_143) (by decide +kernel) ⟨Nat.le_of_ble_eq_true rfl, Nat.le_of_ble_eq_true rfl⟩, hts _ wi_144⟩) (fs_preS hPc hK hDc) rfl rfl hl.1 rfl (lv_room (Nat.le_of_ble_eq_true rfl)) d_Fs_add_26 ⟨Nat.le_of_ble_eq_true rfl, Nat.le_of_ble_eq_true rfl⟩) rfl (fun r26 _ H locs hp26 hP hD hS => ?_)
      have hP : va_P (dC, dI) vwCl [(fs, .inr (4, [.ref fa, .ref sa, .int (nI stk), .ref wd, .ref ru, .ref ck, .ref mc]))] H := hP
      have hD : va_D A [(fs, .inr (4, [.ref fa, .ref sa, .int (nI stk), .ref wd, .ref ru, .ref ck, .ref mc]))] := hD
      rcases hp26 with ⟨hc26, rfl⟩ | ⟨hc26, rfl⟩
      · refine lv_if_ne (tgt := 34) hx hb d_Fs_add_29 (by decide) (fun _ => ?_) (fun hc => absurd hc (by decide))
        exact absurd ⟨hc1, by omega, by omega, hc18, hc26⟩ hbad
      refine lv_if_ne (tgt := 34) hx hb d_Fs_add_29 (by decide) (fun hc => absurd (by decide) hc) (fun _ => ?_)
      refine lv_iconst (v := (-1)) hx hb d_Fs_add_32 (by decide) ?_
      exact fs_iret hx hb hr hlocks hAe hK hS d_Fs_add_33 () (rfl) hP hD
    refine lv_if_eq (tgt := 32) hx hb d_Fs_add_21 (by decide) (fun _ => ?_) (fun hc => absurd (by decide) hc)
    refine lv_iconst (v := (-1)) hx hb d_Fs_add_32 (by decide) ?_
    exact fs_iret hx hb hr hlocks hAe hK hS d_Fs_add_33 () (rfl) hP hD
  refine lv_if_eq (tgt := 32) hx hb d_Fs_add_4 (by decide) (fun _ => ?_) (fun hc => absurd (by decide) hc)
  refine lv_iconst (v := (-1)) hx hb d_Fs_add_32 (by decide) ?_
  exact fs_iret hx hb hr hlocks hAe hK hS d_Fs_add_33 () (rfl) hP hD

theorem d_Fs_clear_0 : decode b_Fs_clear 0 = .ok (.iload_n 1, 1) := by decide +kernel
theorem d_Fs_clear_1 : decode b_Fs_clear 1 = .ok (.invokestatic 48, 3) := by decide +kernel
theorem d_Fs_clear_4 : decode b_Fs_clear 4 = .ok (.ifCond .eq 15, 3) := by decide +kernel
theorem d_Fs_clear_7 : decode b_Fs_clear 7 = .ok (.aload_n 0, 1) := by decide +kernel
theorem d_Fs_clear_8 : decode b_Fs_clear 8 = .ok (.getfield 11, 3) := by decide +kernel
theorem d_Fs_clear_11 : decode b_Fs_clear 11 = .ok (.iload_n 1, 1) := by decide +kernel
theorem d_Fs_clear_12 : decode b_Fs_clear 12 = .ok (.aaload, 1) := by decide +kernel
theorem d_Fs_clear_13 : decode b_Fs_clear 13 = .ok (.invokevirtual 59, 3) := by decide +kernel
theorem d_Fs_clear_16 : decode b_Fs_clear 16 = .ok (.goto 4, 3) := by decide +kernel
theorem d_Fs_clear_19 : decode b_Fs_clear 19 = .ok (.iconst (-1), 1) := by decide +kernel
theorem d_Fs_clear_20 : decode b_Fs_clear 20 = .ok (.ireturn, 1) := by decide +kernel
set_option maxHeartbeats 4000000 in
set_option maxRecDepth 100000 in
theorem c_Fs_clear (fs fa sa stk wd ru ck mc : Nat) (ff : Nat → Option Nat) (q o y n k len : Nat) (j : Nat) (sz : Nat) (hj : j < 4) (hff : ff j = some q) : fs_I l y_Fs_clear (k_Fs_clear :: fs_T) { frames := 1, cells := 0, slots := 0, locals := 21 } (dC, dI) vwCl (fs_tys cI cZ cJ cF) [.ref fs, .int (nI j)] [(fs, .inr (4, [.ref fa, .ref sa, .int (nI stk), .ref wd, .ref ru, .ref ck, .ref mc])), (fa, .inl (cF, 4, .inr (.inr (.inr (.inr ff))))), (q, .inr (1, [.ref o, .ref y, .ref n, .ref k, .int (nI len)]))] sz (S := Unit) (fun r _ => r = nI len) (fun _ => [(fs, .inr (4, [.ref fa, .ref sa, .int (nI stk), .ref wd, .ref ru, .ref ck, .ref mc])), (fa, .inl (cF, 4, .inr (.inr (.inr (.inr ff))))), (q, .inr (1, [.ref o, .ref y, .ref n, .ref k, .int (nI 0)]))]) 0 0 := by
  refine fs_head (by decide) (Nat.le_of_ble_eq_true rfl) ?_
  intro p e s m below meth c A ls hx hb hr hts hown hlocks hin hml hK hP hD hS hA hAe hsz hl
  have hl : lv_has ls 2 [(0, .ref fs), (1, .int (nI j))] := hl
  have hown : s.vm.findClass R_Fs = some m.cls := hown
  refine lv_iload_n hx hb d_Fs_clear_0 rfl (lv_at hl 1 rfl) ?_
  refine fs_calli (wc := []) (wr := [(fs, .inr (4, [.ref fa, .ref sa, .int (nI stk), .ref wd, .ref ru, .ref ck, .ref mc])), (fa, .inl (cF, 4, .inr (.inr (.inr (.inr ff))))), (q, .inr (1, [.ref o, .ref y, .ref n, .ref k, .int (nI len)]))]) [] [0, 1, 2] hP hD hK hS hA rfl rfl rfl (by decide) (fun hPc hDc => va_runS (As := [.int (nI j)]) (rest := []) ⟨hx, hb, hml, hown, hts⟩ (c_Fs_isFilterT j _ (by omega)) (⟨callB_of 1 hts (fs_g kin_Fs_isFilter) rfl rfl rfl (hts _ wi_1) (hts _ wi_140) (by decide +kernel) ⟨Nat.le_of_ble_eq_true rfl, Nat.le_of_ble_eq_true rfl⟩, hts _ wi_141⟩) (fs_preS hPc hK hDc) rfl rfl hl.1 rfl (lv_room (Nat.le_of_ble_eq_true rfl)) d_Fs_clear_1 ⟨Nat.le_of_ble_eq_true rfl, Nat.le_of_ble_eq_true rfl⟩) rfl (fun r1 _ H locs hp1 hP hD hS => ?_)
  have hP : va_P (dC, dI) vwCl [(fs, .inr (4, [.ref fa, .ref sa, .int (nI stk), .ref wd, .ref ru, .ref ck, .ref mc])), (fa, .inl (cF, 4, .inr (.inr (.inr (.inr ff))))), (q, .inr (1, [.ref o, .ref y, .ref n, .ref k, .int (nI len)]))] H := hP
  have hD : va_D A [(fs, .inr (4, [.ref fa, .ref sa, .int (nI stk), .ref wd, .ref ru, .ref ck, .ref mc])), (fa, .inl (cF, 4, .inr (.inr (.inr (.inr ff))))), (q, .inr (1, [.ref o, .ref y, .ref n, .ref k, .int (nI len)]))] := hD
  subst hp1
  refine lv_if_eq (tgt := 19) hx hb d_Fs_clear_4 (by decide) (fun hc => absurd hc (by decide)) (fun _ => ?_)
  refine lv_aload_n hx hb d_Fs_clear_7 rfl (lv_at hl 0 rfl) ?_
  refine va_get (D := (dC, dI)) (ci := 4) (v := .ref fa) (C := R_Fs) (T := T_Fs) (N := 7) hx hb hts uin_Fs hown hK hP 0 rfl rfl 0 (by decide) (hts _ wi_114) (fun _ h9 => h9) rfl d_Fs_clear_8 ?_
  refine lv_iload_n hx hb d_Fs_clear_11 rfl (lv_at hl 1 rfl) ?_
  refine fs_aald (b := q) hx hb hK hP 1 3 rfl rfl j rfl (by decide) (by omega) hff d_Fs_clear_12 ?_
  refine fs_calli (wc := [(q, .inr (1, [.ref o, .ref y, .ref n, .ref k, .int (nI len)]))]) (wr := [(fs, .inr (4, [.ref fa, .ref sa, .int (nI stk), .ref wd, .ref ru, .ref ck, .ref mc])), (fa, .inl (cF, 4, .inr (.inr (.inr (.inr ff)))))]) [2] [0, 1] hP hD hK hS hA rfl rfl rfl (by decide) (fun hPc hDc => va_runV (C := R_Fi) (As := []) (rest := []) ⟨hx, hb, hml, hown, hts⟩ (c_Fi_empty q o y n k len _) (⟨callB_of 0 hts (fs_g kin_Fi_empty) rfl rfl rfl (hts _ wi_2) (hts _ wi_154) (by decide +kernel) ⟨Nat.le_of_ble_eq_true rfl, Nat.le_of_ble_eq_true rfl⟩, hts _ wi_155, hts _ wi_156⟩) (fs_preV (q0 := 0) rfl rfl hPc hK hDc) rfl rfl hl.1 rfl (lv_room (Nat.le_of_ble_eq_true rfl)) d_Fs_clear_13 ⟨Nat.le_of_ble_eq_true rfl, Nat.le_of_ble_eq_true rfl⟩) rfl (fun r13 _ H locs hp13 hP hD hS => ?_)
  have hP : va_P (dC, dI) vwCl [(fs, .inr (4, [.ref fa, .ref sa, .int (nI stk), .ref wd, .ref ru, .ref ck, .ref mc])), (fa, .inl (cF, 4, .inr (.inr (.inr (.inr ff))))), (q, .inr (1, [.ref o, .ref y, .ref n, .ref k, .int (nI 0)]))] H := hP
  have hD : va_D A [(fs, .inr (4, [.ref fa, .ref sa, .int (nI stk), .ref wd, .ref ru, .ref ck, .ref mc])), (fa, .inl (cF, 4, .inr (.inr (.inr (.inr ff))))), (q, .inr (1, [.ref o, .ref y, .ref n, .ref k, .int (nI 0)]))] := hD
  subst hp13
  refine lv_goto (tgt := 20) hx hb d_Fs_clear_16 (by decide) ?_
  exact fs_iret hx hb hr hlocks hAe hK hS d_Fs_clear_20 () (rfl) hP hD

theorem d_Fs_size_0 : decode b_Fs_size 0 = .ok (.iload_n 1, 1) := by decide +kernel
theorem d_Fs_size_1 : decode b_Fs_size 1 = .ok (.invokestatic 48, 3) := by decide +kernel
theorem d_Fs_size_4 : decode b_Fs_size 4 = .ok (.ifCond .eq 15, 3) := by decide +kernel
theorem d_Fs_size_7 : decode b_Fs_size 7 = .ok (.aload_n 0, 1) := by decide +kernel
theorem d_Fs_size_8 : decode b_Fs_size 8 = .ok (.getfield 11, 3) := by decide +kernel
theorem d_Fs_size_11 : decode b_Fs_size 11 = .ok (.iload_n 1, 1) := by decide +kernel
theorem d_Fs_size_12 : decode b_Fs_size 12 = .ok (.aaload, 1) := by decide +kernel
theorem d_Fs_size_13 : decode b_Fs_size 13 = .ok (.getfield 63, 3) := by decide +kernel
theorem d_Fs_size_16 : decode b_Fs_size 16 = .ok (.goto 4, 3) := by decide +kernel
theorem d_Fs_size_19 : decode b_Fs_size 19 = .ok (.iconst (-1), 1) := by decide +kernel
theorem d_Fs_size_20 : decode b_Fs_size 20 = .ok (.ireturn, 1) := by decide +kernel
set_option maxHeartbeats 4000000 in
set_option maxRecDepth 100000 in
theorem c_Fs_size (fs fa sa stk wd ru ck mc : Nat) (ff : Nat → Option Nat) (q o y n k len : Nat) (j : Nat) (sz : Nat) (hj : j < 4) (hff : ff j = some q) : fs_I l y_Fs_size (k_Fs_size :: fs_T) { frames := 1, cells := 0, slots := 0, locals := 20 } (dC, dI) vwCl (fs_tys cI cZ cJ cF) [.ref fs, .int (nI j)] [(fs, .inr (4, [.ref fa, .ref sa, .int (nI stk), .ref wd, .ref ru, .ref ck, .ref mc])), (fa, .inl (cF, 4, .inr (.inr (.inr (.inr ff))))), (q, .inr (1, [.ref o, .ref y, .ref n, .ref k, .int (nI len)]))] sz (S := Unit) (fun r _ => r = nI len) (fun _ => [(fs, .inr (4, [.ref fa, .ref sa, .int (nI stk), .ref wd, .ref ru, .ref ck, .ref mc])), (fa, .inl (cF, 4, .inr (.inr (.inr (.inr ff))))), (q, .inr (1, [.ref o, .ref y, .ref n, .ref k, .int (nI len)]))]) 0 0 := by
  refine fs_head (by decide) (Nat.le_of_ble_eq_true rfl) ?_
  intro p e s m below meth c A ls hx hb hr hts hown hlocks hin hml hK hP hD hS hA hAe hsz hl
  have hl : lv_has ls 2 [(0, .ref fs), (1, .int (nI j))] := hl
  have hown : s.vm.findClass R_Fs = some m.cls := hown
  refine lv_iload_n hx hb d_Fs_size_0 rfl (lv_at hl 1 rfl) ?_
  refine fs_calli (wc := []) (wr := [(fs, .inr (4, [.ref fa, .ref sa, .int (nI stk), .ref wd, .ref ru, .ref ck, .ref mc])), (fa, .inl (cF, 4, .inr (.inr (.inr (.inr ff))))), (q, .inr (1, [.ref o, .ref y, .ref n, .ref k, .int (nI len)]))]) [] [0, 1, 2] hP hD hK hS hA rfl rfl rfl (by decide) (fun hPc hDc => va_runS (As := [.int (nI j)]) (rest := []) ⟨hx, hb, hml, hown, hts⟩ (c_Fs_isFilterT j _ (by omega)) (⟨callB_of 1 hts (fs_g kin_Fs_isFilter) rfl rfl rfl (hts _ wi_1) (hts _ wi_140) (by decide +kernel) ⟨Nat.le_of_ble_eq_true rfl, Nat.le_of_ble_eq_true rfl⟩, hts _ wi_141⟩) (fs_preS hPc hK hDc) rfl rfl hl.1 rfl (lv_room (Nat.le_of_ble_eq_true rfl)) d_Fs_size_1 ⟨Nat.le_of_ble_eq_true rfl, Nat.le_of_ble_eq_true rfl⟩) rfl (fun r1 _ H locs hp1 hP hD hS => ?_)
  have hP : va_P (dC, dI) vwCl [(fs, .inr (4, [.ref fa, .ref sa, .int (nI stk), .ref wd, .ref ru, .ref ck, .ref mc])), (fa, .inl (cF, 4, .inr (.inr (.inr (.inr ff))))), (q, .inr (1, [.ref o, .ref y, .ref n, .ref k, .int (nI len)]))] H := hP
  have hD : va_D A [(fs, .inr (4, [.ref fa, .ref sa, .int (nI stk), .ref wd, .ref ru, .ref ck, .ref mc])), (fa, .inl (cF, 4, .inr (.inr (.inr (.inr ff))))), (q, .inr (1, [.ref o, .ref y, .ref n, .ref k, .int (nI len)]))] := hD
  subst hp1
  refine lv_if_eq (tgt := 19) hx hb d_Fs_size_4 (by decide) (fun hc => absurd hc (by decide)) (fun _ => ?_)
  refine lv_aload_n hx hb d_Fs_size_7 rfl (lv_at hl 0 rfl) ?_
  refine va_get (D := (dC, dI)) (ci := 4) (v := .ref fa) (C := R_Fs) (T := T_Fs) (N := 7) hx hb hts uin_Fs hown hK hP 0 rfl rfl 0 (by decide) (hts _ wi_114) (fun _ h9 => h9) rfl d_Fs_size_8 ?_
  refine lv_iload_n hx hb d_Fs_size_11 rfl (lv_at hl 1 rfl) ?_
  refine fs_aald (b := q) hx hb hK hP 1 3 rfl rfl j rfl (by decide) (by omega) hff d_Fs_size_12 ?_
  refine va_get (D := (dC, dI)) (ci := 1) (v := .int (nI len)) (C := R_Fi) (T := T_Fi) (N := 5) hx hb hts uin_Fi hown hK hP 2 rfl rfl 4 (by decide) (hts _ wi_49) (fun _ h9 => h9) rfl d_Fs_size_13 ?_
  refine lv_goto (tgt := 20) hx hb d_Fs_size_16 (by decide) ?_
  exact fs_iret hx hb hr hlocks hAe hK hS d_Fs_size_20 () (rfl) hP hD

set_option maxHeartbeats 4000000 in
set_option maxRecDepth 100000 in
theorem c_Fs_clearX (fs fa sa stk wd ru ck mc : Nat) (f : Int32) (sz : Nat) (hf : ∀ j, j < 4 → f ≠ nI j) : fs_I l y_Fs_clear (k_Fs_clear :: fs_T) { frames := 1, cells := 0, slots := 0, locals := 21 } (dC, dI) vwCl (fs_tys cI cZ cJ cF) [.ref fs, .int f] [(fs, .inr (4, [.ref fa, .ref sa, .int (nI stk), .ref wd, .ref ru, .ref ck, .ref mc]))] sz (S := Unit) (fun r _ => r = (-1)) (fun _ => [(fs, .inr (4, [.ref fa, .ref sa, .int (nI stk), .ref wd, .ref ru, .ref ck, .ref mc]))]) 0 0 := by
  refine fs_head (by decide) (Nat.le_of_ble_eq_true rfl) ?_
  intro p e s m below meth c A ls hx hb hr hts hown hlocks hin hml hK hP hD hS hA hAe hsz hl
  have hl : lv_has ls 2 [(0, .ref fs), (1, .int f)] := hl
  have hown : s.vm.findClass R_Fs = some m.cls := hown
  refine lv_iload_n hx hb d_Fs_clear_0 rfl (lv_at hl 1 rfl) ?_
  refine fs_calli (wc := []) (wr := [(fs, .inr (4, [.ref fa, .ref sa, .int (nI stk), .ref wd, .ref ru, .ref ck, .ref mc]))]) [] [0] hP hD hK hS hA rfl rfl rfl (by decide) (fun hPc hDc => va_runS (As := [.int f]) (rest := []) ⟨hx, hb, hml, hown, hts⟩ (c_Fs_isFilter f _) (⟨callB_of 1 hts (fs_g kin_Fs_isFilter) rfl rfl rfl (hts _ wi_1) (hts _ wi_140) (by decide +kernel) ⟨Nat.le_of_ble_eq_true rfl, Nat.le_of_ble_eq_true rfl⟩, hts _ wi_141⟩) (fs_preS hPc hK hDc) rfl rfl hl.1 rfl (lv_room (Nat.le_of_ble_eq_true rfl)) d_Fs_clear_1 ⟨Nat.le_of_ble_eq_true rfl, Nat.le_of_ble_eq_true rfl⟩) rfl (fun r1 _ H locs hp1 hP hD hS => ?_)
  have hP : va_P (dC, dI) vwCl [(fs, .inr (4, [.ref fa, .ref sa, .int (nI stk), .ref wd, .ref ru, .ref ck, .ref mc]))] H := hP
  have hD : va_D A [(fs, .inr (4, [.ref fa, .ref sa, .int (nI stk), .ref wd, .ref ru, .ref ck, .ref mc]))] := hD
  rcases hp1 with ⟨⟨j, hj, e⟩, _⟩ | ⟨_, rfl⟩
  · exact absurd e (hf j hj)
  refine lv_if_eq (tgt := 19) hx hb d_Fs_clear_4 (by decide) (fun _ => ?_) (fun hc => absurd (by decide) hc)
  refine lv_iconst (v := (-1)) hx hb d_Fs_clear_19 (by decide) ?_
  exact fs_iret hx hb hr hlocks hAe hK hS d_Fs_clear_20 () (rfl) hP hD

set_option maxHeartbeats 4000000 in
set_option maxRecDepth 100000 in
theorem c_Fs_sizeX (fs fa sa stk wd ru ck mc : Nat) (f : Int32) (sz : Nat) (hf : ∀ j, j < 4 → f ≠ nI j) : fs_I l y_Fs_size (k_Fs_size :: fs_T) { frames := 1, cells := 0, slots := 0, locals := 20 } (dC, dI) vwCl (fs_tys cI cZ cJ cF) [.ref fs, .int f] [(fs, .inr (4, [.ref fa, .ref sa, .int (nI stk), .ref wd, .ref ru, .ref ck, .ref mc]))] sz (S := Unit) (fun r _ => r = (-1)) (fun _ => [(fs, .inr (4, [.ref fa, .ref sa, .int (nI stk), .ref wd, .ref ru, .ref ck, .ref mc]))]) 0 0 := by
  refine fs_head (by decide) (Nat.le_of_ble_eq_true rfl) ?_
  intro p e s m below meth c A ls hx hb hr hts hown hlocks hin hml hK hP hD hS hA hAe hsz hl
  have hl : lv_has ls 2 [(0, .ref fs), (1, .int f)] := hl
  have hown : s.vm.findClass R_Fs = some m.cls := hown
  refine lv_iload_n hx hb d_Fs_size_0 rfl (lv_at hl 1 rfl) ?_
  refine fs_calli (wc := []) (wr := [(fs, .inr (4, [.ref fa, .ref sa, .int (nI stk), .ref wd, .ref ru, .ref ck, .ref mc]))]) [] [0] hP hD hK hS hA rfl rfl rfl (by decide) (fun hPc hDc => va_runS (As := [.int f]) (rest := []) ⟨hx, hb, hml, hown, hts⟩ (c_Fs_isFilter f _) (⟨callB_of 1 hts (fs_g kin_Fs_isFilter) rfl rfl rfl (hts _ wi_1) (hts _ wi_140) (by decide +kernel) ⟨Nat.le_of_ble_eq_true rfl, Nat.le_of_ble_eq_true rfl⟩, hts _ wi_141⟩) (fs_preS hPc hK hDc) rfl rfl hl.1 rfl (lv_room (Nat.le_of_ble_eq_true rfl)) d_Fs_size_1 ⟨Nat.le_of_ble_eq_true rfl, Nat.le_of_ble_eq_true rfl⟩) rfl (fun r1 _ H locs hp1 hP hD hS => ?_)
  have hP : va_P (dC, dI) vwCl [(fs, .inr (4, [.ref fa, .ref sa, .int (nI stk), .ref wd, .ref ru, .ref ck, .ref mc]))] H := hP
  have hD : va_D A [(fs, .inr (4, [.ref fa, .ref sa, .int (nI stk), .ref wd, .ref ru, .ref ck, .ref mc]))] := hD
  rcases hp1 with ⟨⟨j, hj, e⟩, _⟩ | ⟨_, rfl⟩
  · exact absurd e (hf j hj)
  refine lv_if_eq (tgt := 19) hx hb d_Fs_size_4 (by decide) (fun _ => ?_) (fun hc => absurd (by decide) hc)
  refine lv_iconst (v := (-1)) hx hb d_Fs_size_19 (by decide) ?_
  exact fs_iret hx hb hr hlocks hAe hK hS d_Fs_size_20 () (rfl) hP hD

theorem d_Fs_fault_0 : decode b_Fs_fault 0 = .ok (.iload_n 1, 1) := by decide +kernel
theorem d_Fs_fault_1 : decode b_Fs_fault 1 = .ok (.invokestatic 48, 3) := by decide +kernel
theorem d_Fs_fault_4 : decode b_Fs_fault 4 = .ok (.ifCond .eq 19, 3) := by decide +kernel
theorem d_Fs_fault_7 : decode b_Fs_fault 7 = .ok (.aload_n 0, 1) := by decide +kernel
theorem d_Fs_fault_8 : decode b_Fs_fault 8 = .ok (.getfield 37, 3) := by decide +kernel
theorem d_Fs_fault_11 : decode b_Fs_fault 11 = .ok (.aload_n 0, 1) := by decide +kernel
theorem d_Fs_fault_12 : decode b_Fs_fault 12 = .ok (.getfield 11, 3) := by decide +kernel
theorem d_Fs_fault_15 : decode b_Fs_fault 15 = .ok (.iload_n 1, 1) := by decide +kernel
theorem d_Fs_fault_16 : decode b_Fs_fault 16 = .ok (.aaload, 1) := by decide +kernel
theorem d_Fs_fault_17 : decode b_Fs_fault 17 = .ok (.invokevirtual 81, 3) := by decide +kernel
theorem d_Fs_fault_20 : decode b_Fs_fault 20 = .ok (.goto 4, 3) := by decide +kernel
theorem d_Fs_fault_23 : decode b_Fs_fault 23 = .ok (.iconst (-1), 1) := by decide +kernel
theorem d_Fs_fault_24 : decode b_Fs_fault 24 = .ok (.ireturn, 1) := by decide +kernel
set_option maxHeartbeats 4000000 in
set_option maxRecDepth 100000 in
theorem c_Fs_faultX (fs fa sa stk wd ru ck mc : Nat) (f : Int32) (sz : Nat) (hf : ∀ j, j < 4 → f ≠ nI j) : fs_I l y_Fs_fault (k_Fs_fault :: fs_T) { frames := 5, cells := 0, slots := 0, locals := 115 } (dC, dI) vwCl (fs_tys cI cZ cJ cF) [.ref fs, .int f] [(fs, .inr (4, [.ref fa, .ref sa, .int (nI stk), .ref wd, .ref ru, .ref ck, .ref mc]))] sz (S := Unit) (fun r _ => r = (-1)) (fun _ => [(fs, .inr (4, [.ref fa, .ref sa, .int (nI stk), .ref wd, .ref ru, .ref ck, .ref mc]))]) 0 0 := by
  refine fs_head (by decide) (Nat.le_of_ble_eq_true rfl) ?_
  intro p e s m below meth c A ls hx hb hr hts hown hlocks hin hml hK hP hD hS hA hAe hsz hl
  have hl : lv_has ls 2 [(0, .ref fs), (1, .int f)] := hl
  have hown : s.vm.findClass R_Fs = some m.cls := hown
  refine lv_iload_n hx hb d_Fs_fault_0 rfl (lv_at hl 1 rfl) ?_
  refine fs_calli (wc := []) (wr := [(fs, .inr (4, [.ref fa, .ref sa, .int (nI stk), .ref wd, .ref ru, .ref ck, .ref mc]))]) [] [0] hP hD hK hS hA rfl rfl rfl (by decide) (fun hPc hDc => va_runS (As := [.int f]) (rest := []) ⟨hx, hb, hml, hown, hts⟩ (c_Fs_isFilter f _) (⟨callB_of 1 hts (fs_g kin_Fs_isFilter) rfl rfl rfl (hts _ wi_1) (hts _ wi_140) (by decide +kernel) ⟨Nat.le_of_ble_eq_true rfl, Nat.le_of_ble_eq_true rfl⟩, hts _ wi_141⟩) (fs_preS hPc hK hDc) rfl rfl hl.1 rfl (lv_room (Nat.le_of_ble_eq_true rfl)) d_Fs_fault_1 ⟨Nat.le_of_ble_eq_true rfl, Nat.le_of_ble_eq_true rfl⟩) rfl (fun r1 _ H locs hp1 hP hD hS => ?_)
  have hP : va_P (dC, dI) vwCl [(fs, .inr (4, [.ref fa, .ref sa, .int (nI stk), .ref wd, .ref ru, .ref ck, .ref mc]))] H := hP
  have hD : va_D A [(fs, .inr (4, [.ref fa, .ref sa, .int (nI stk), .ref wd, .ref ru, .ref ck, .ref mc]))] := hD
  rcases hp1 with ⟨⟨j, hj, e⟩, _⟩ | ⟨_, rfl⟩
  · exact absurd e (hf j hj)
  refine lv_if_eq (tgt := 23) hx hb d_Fs_fault_4 (by decide) (fun _ => ?_) (fun hc => absurd (by decide) hc)
  refine lv_iconst (v := (-1)) hx hb d_Fs_fault_23 (by decide) ?_
  exact fs_iret hx hb hr hlocks hAe hK hS d_Fs_fault_24 () (rfl) hP hD

theorem d_Fs_place_0 : decode b_Fs_place 0 = .ok (.iload_n 1, 1) := by decide +kernel
theorem d_Fs_place_1 : decode b_Fs_place 1 = .ok (.invokestatic 48, 3) := by decide +kernel
theorem d_Fs_place_4 : decode b_Fs_place 4 = .ok (.ifCond .ne 5, 3) := by decide +kernel
theorem d_Fs_place_7 : decode b_Fs_place 7 = .ok (.iconst (-1), 1) := by decide +kernel
theorem d_Fs_place_8 : decode b_Fs_place 8 = .ok (.ireturn, 1) := by decide +kernel
theorem d_Fs_place_9 : decode b_Fs_place 9 = .ok (.aload_n 0, 1) := by decide +kernel
theorem d_Fs_place_10 : decode b_Fs_place 10 = .ok (.getfield 37, 3) := by decide +kernel
theorem d_Fs_place_13 : decode b_Fs_place 13 = .ok (.aload_n 0, 1) := by decide +kernel
theorem d_Fs_place_14 : decode b_Fs_place 14 = .ok (.getfield 11, 3) := by decide +kernel
theorem d_Fs_place_17 : decode b_Fs_place 17 = .ok (.iload_n 1, 1) := by decide +kernel
theorem d_Fs_place_18 : decode b_Fs_place 18 = .ok (.aaload, 1) := by decide +kernel
theorem d_Fs_place_19 : decode b_Fs_place 19 = .ok (.aload_n 0, 1) := by decide +kernel
theorem d_Fs_place_20 : decode b_Fs_place 20 = .ok (.getfield 37, 3) := by decide +kernel
theorem d_Fs_place_23 : decode b_Fs_place 23 = .ok (.aload_n 0, 1) := by decide +kernel
theorem d_Fs_place_24 : decode b_Fs_place 24 = .ok (.getfield 11, 3) := by decide +kernel
theorem d_Fs_place_27 : decode b_Fs_place 27 = .ok (.iload_n 1, 1) := by decide +kernel
theorem d_Fs_place_28 : decode b_Fs_place 28 = .ok (.aaload, 1) := by decide +kernel
theorem d_Fs_place_29 : decode b_Fs_place 29 = .ok (.invokevirtual 81, 3) := by decide +kernel
theorem d_Fs_place_32 : decode b_Fs_place 32 = .ok (.invokevirtual 85, 3) := by decide +kernel
theorem d_Fs_place_35 : decode b_Fs_place 35 = .ok (.ireturn, 1) := by decide +kernel
set_option maxHeartbeats 4000000 in
set_option maxRecDepth 100000 in
theorem c_Fs_placeX (fs fa sa stk wd ru ck mc : Nat) (f : Int32) (sz : Nat) (hf : ∀ j, j < 4 → f ≠ nI j) : fs_I l y_Fs_place (k_Fs_place :: fs_T) { frames := 5, cells := 0, slots := 0, locals := 115 } (dC, dI) vwCl (fs_tys cI cZ cJ cF) [.ref fs, .int f] [(fs, .inr (4, [.ref fa, .ref sa, .int (nI stk), .ref wd, .ref ru, .ref ck, .ref mc]))] sz (S := Unit) (fun r _ => r = (-1)) (fun _ => [(fs, .inr (4, [.ref fa, .ref sa, .int (nI stk), .ref wd, .ref ru, .ref ck, .ref mc]))]) 0 0 := by
  refine fs_head (by decide) (Nat.le_of_ble_eq_true rfl) ?_
  intro p e s m below meth c A ls hx hb hr hts hown hlocks hin hml hK hP hD hS hA hAe hsz hl
  have hl : lv_has ls 2 [(0, .ref fs), (1, .int f)] := hl
  have hown : s.vm.findClass R_Fs = some m.cls := hown
  refine lv_iload_n hx hb d_Fs_place_0 rfl (lv_at hl 1 rfl) ?_
  refine fs_calli (wc := []) (wr := [(fs, .inr (4, [.ref fa, .ref sa, .int (nI stk), .ref wd, .ref ru, .ref ck, .ref mc]))]) [] [0] hP hD hK hS hA rfl rfl rfl (by decide) (fun hPc hDc => va_runS (As := [.int f]) (rest := []) ⟨hx, hb, hml, hown, hts⟩ (c_Fs_isFilter f _) (⟨callB_of 1 hts (fs_g kin_Fs_isFilter) rfl rfl rfl (hts _ wi_1) (hts _ wi_140) (by decide +kernel) ⟨Nat.le_of_ble_eq_true rfl, Nat.le_of_ble_eq_true rfl⟩, hts _ wi_141⟩) (fs_preS hPc hK hDc) rfl rfl hl.1 rfl (lv_room (Nat.le_of_ble_eq_true rfl)) d_Fs_place_1 ⟨Nat.le_of_ble_eq_true rfl, Nat.le_of_ble_eq_true rfl⟩) rfl (fun r1 _ H locs hp1 hP hD hS => ?_)
  have hP : va_P (dC, dI) vwCl [(fs, .inr (4, [.ref fa, .ref sa, .int (nI stk), .ref wd, .ref ru, .ref ck, .ref mc]))] H := hP
  have hD : va_D A [(fs, .inr (4, [.ref fa, .ref sa, .int (nI stk), .ref wd, .ref ru, .ref ck, .ref mc]))] := hD
  rcases hp1 with ⟨⟨j, hj, e⟩, _⟩ | ⟨_, rfl⟩
  · exact absurd e (hf j hj)
  refine lv_if_ne (tgt := 9) hx hb d_Fs_place_4 (by decide) (fun hc => absurd (by decide) hc) (fun _ => ?_)
  refine lv_iconst (v := (-1)) hx hb d_Fs_place_7 (by decide) ?_
  exact fs_iret hx hb hr hlocks hAe hK hS d_Fs_place_8 () (rfl) hP hD

theorem d_Fs_shape_0 : decode b_Fs_shape 0 = .ok (.iload_n 1, 1) := by decide +kernel
theorem d_Fs_shape_1 : decode b_Fs_shape 1 = .ok (.invokestatic 48, 3) := by decide +kernel
theorem d_Fs_shape_4 : decode b_Fs_shape 4 = .ok (.ifCond .eq 16, 3) := by decide +kernel
theorem d_Fs_shape_7 : decode b_Fs_shape 7 = .ok (.aload_n 0, 1) := by decide +kernel
theorem d_Fs_shape_8 : decode b_Fs_shape 8 = .ok (.getfield 11, 3) := by decide +kernel
theorem d_Fs_shape_11 : decode b_Fs_shape 11 = .ok (.iload_n 1, 1) := by decide +kernel
theorem d_Fs_shape_12 : decode b_Fs_shape 12 = .ok (.aaload, 1) := by decide +kernel
theorem d_Fs_shape_13 : decode b_Fs_shape 13 = .ok (.iload_n 2, 1) := by decide +kernel
theorem d_Fs_shape_14 : decode b_Fs_shape 14 = .ok (.invokevirtual 66, 3) := by decide +kernel
theorem d_Fs_shape_17 : decode b_Fs_shape 17 = .ok (.ifCond .ne 5, 3) := by decide +kernel
theorem d_Fs_shape_20 : decode b_Fs_shape 20 = .ok (.iconst (-1), 1) := by decide +kernel
theorem d_Fs_shape_21 : decode b_Fs_shape 21 = .ok (.ireturn, 1) := by decide +kernel
theorem d_Fs_shape_22 : decode b_Fs_shape 22 = .ok (.aload_n 0, 1) := by decide +kernel
theorem d_Fs_shape_23 : decode b_Fs_shape 23 = .ok (.getfield 11, 3) := by decide +kernel
theorem d_Fs_shape_26 : decode b_Fs_shape 26 = .ok (.iload_n 1, 1) := by decide +kernel
theorem d_Fs_shape_27 : decode b_Fs_shape 27 = .ok (.aaload, 1) := by decide +kernel
theorem d_Fs_shape_28 : decode b_Fs_shape 28 = .ok (.astore_n 3, 1) := by decide +kernel
theorem d_Fs_shape_29 : decode b_Fs_shape 29 = .ok (.aload_n 3, 1) := by decide +kernel
theorem d_Fs_shape_30 : decode b_Fs_shape 30 = .ok (.getfield 69, 3) := by decide +kernel
theorem d_Fs_shape_33 : decode b_Fs_shape 33 = .ok (.iload_n 2, 1) := by decide +kernel
theorem d_Fs_shape_34 : decode b_Fs_shape 34 = .ok (.iaload, 1) := by decide +kernel
theorem d_Fs_shape_35 : decode b_Fs_shape 35 = .ok (.bipush 32, 2) := by decide +kernel
theorem d_Fs_shape_37 : decode b_Fs_shape 37 = .ok (.aload_n 3, 1) := by decide +kernel
theorem d_Fs_shape_38 : decode b_Fs_shape 38 = .ok (.getfield 72, 3) := by decide +kernel
theorem d_Fs_shape_41 : decode b_Fs_shape 41 = .ok (.iload_n 2, 1) := by decide +kernel
theorem d_Fs_shape_42 : decode b_Fs_shape 42 = .ok (.iaload, 1) := by decide +kernel
theorem d_Fs_shape_43 : decode b_Fs_shape 43 = .ok (.imul, 1) := by decide +kernel
theorem d_Fs_shape_44 : decode b_Fs_shape 44 = .ok (.iadd, 1) := by decide +kernel
theorem d_Fs_shape_45 : decode b_Fs_shape 45 = .ok (.sipush 8192, 3) := by decide +kernel
theorem d_Fs_shape_48 : decode b_Fs_shape 48 = .ok (.aload_n 3, 1) := by decide +kernel
theorem d_Fs_shape_49 : decode b_Fs_shape 49 = .ok (.getfield 75, 3) := by decide +kernel
theorem d_Fs_shape_52 : decode b_Fs_shape 52 = .ok (.iload_n 2, 1) := by decide +kernel
theorem d_Fs_shape_53 : decode b_Fs_shape 53 = .ok (.iaload, 1) := by decide +kernel
theorem d_Fs_shape_54 : decode b_Fs_shape 54 = .ok (.imul, 1) := by decide +kernel
theorem d_Fs_shape_55 : decode b_Fs_shape 55 = .ok (.iadd, 1) := by decide +kernel
theorem d_Fs_shape_56 : decode b_Fs_shape 56 = .ok (.ireturn, 1) := by decide +kernel
set_option maxHeartbeats 4000000 in
set_option maxRecDepth 100000 in
theorem c_Fs_shape (fs fa sa stk wd ru ck mc : Nat) (ff : Nat → Option Nat) (q o y n k : Nat) (fo fy fn fk : Nat → Int32) (L : fx_Prg) (j : Nat) (t : Nat) (sz : Nat) (hj : j < 4) (hff : ff j = some q) (hrep : fx_rep L fo fy fn fk) (hok : fx_ok L) (ht : t < L.length) : fs_I l y_Fs_shape (k_Fs_shape :: fs_T) { frames := 1, cells := 0, slots := 0, locals := 21 } (dC, dI) vwCl (fs_tys cI cZ cJ cF) [.ref fs, .int (nI j), .int (nI t)] [(fs, .inr (4, [.ref fa, .ref sa, .int (nI stk), .ref wd, .ref ru, .ref ck, .ref mc])), (fa, .inl (cF, 4, .inr (.inr (.inr (.inr ff))))), (q, .inr (1, [.ref o, .ref y, .ref n, .ref k, .int (nI L.length)])), (o, .inl (cI, 40, .inl fo)), (y, .inl (cI, 40, .inl fy)), (n, .inl (cI, 40, .inl fn)), (k, .inl (cI, 40, .inl fk))] sz (S := Unit) (fun r _ => r = nI (fx_O L t + 32 * (fx_Y L t) + 8192 * (fx_N L t))) (fun _ => [(fs, .inr (4, [.ref fa, .ref sa, .int (nI stk), .ref wd, .ref ru, .ref ck, .ref mc])), (fa, .inl (cF, 4, .inr (.inr (.inr (.inr ff))))), (q, .inr (1, [.ref o, .ref y, .ref n, .ref k, .int (nI L.length)])), (o, .inl (cI, 40, .inl fo)), (y, .inl (cI, 40, .inl fy)), (n, .inl (cI, 40, .inl fn)), (k, .inl (cI, 40, .inl fk))]) 0 0 := by
  refine fs_head (by decide) (Nat.le_of_ble_eq_true rfl) ?_
  intro p e s m below meth c A ls hx hb hr hts hown hlocks hin hml hK hP hD hS hA hAe hsz hl
  have hl : lv_has ls 4 [(0, .ref fs), (1, .int (nI j)), (2, .int (nI t))] := hl
  have hown : s.vm.findClass R_Fs = some m.cls := hown
  have hlen := hok.1
  have hO := (hok.2 t ht).1
  have hY := (hok.2 t ht).2.1
  have hN := (hok.2 t ht).2.2
  refine lv_iload_n hx hb d_Fs_shape_0 rfl (lv_at hl 1 rfl) ?_
  refine fs_calli (wc := []) (wr := [(fs, .inr (4, [.ref fa, .ref sa, .int (nI stk), .ref wd, .ref ru, .ref ck, .ref mc])), (fa, .inl (cF, 4, .inr (.inr (.inr (.inr ff))))), (q, .inr (1, [.ref o, .ref y, .ref n, .ref k, .int (nI L.length)])), (o, .inl (cI, 40, .inl fo)), (y, .inl (cI, 40, .inl fy)), (n, .inl (cI, 40, .inl fn)), (k, .inl (cI, 40, .inl fk))]) [] [0, 1, 2, 3, 4, 5, 6] hP hD hK hS hA rfl rfl rfl (by decide) (fun hPc hDc => va_runS (As := [.int (nI j)]) (rest := []) ⟨hx, hb, hml, hown, hts⟩ (c_Fs_isFilterT j _ (by omega)) (⟨callB_of 1 hts (fs_g kin_Fs_isFilter) rfl rfl rfl (hts _ wi_1) (hts _ wi_140) (by decide +kernel) ⟨Nat.le_of_ble_eq_true rfl, Nat.le_of_ble_eq_true rfl⟩, hts _ wi_141⟩) (fs_preS hPc hK hDc) rfl rfl hl.1 rfl (lv_room (Nat.le_of_ble_eq_true rfl)) d_Fs_shape_1 ⟨Nat.le_of_ble_eq_true rfl, Nat.le_of_ble_eq_true rfl⟩) rfl (fun r1 _ H locs hp1 hP hD hS => ?_)
  have hP : va_P (dC, dI) vwCl [(fs, .inr (4, [.ref fa, .ref sa, .int (nI stk), .ref wd, .ref ru, .ref ck, .ref mc])), (fa, .inl (cF, 4, .inr (.inr (.inr (.inr ff))))), (q, .inr (1, [.ref o, .ref y, .ref n, .ref k, .int (nI L.length)])), (o, .inl (cI, 40, .inl fo)), (y, .inl (cI, 40, .inl fy)), (n, .inl (cI, 40, .inl fn)), (k, .inl (cI, 40, .inl fk))] H := hP
  have hD : va_D A [(fs, .inr (4, [.ref fa, .ref sa, .int (nI stk), .ref wd, .ref ru, .ref ck, .ref mc])), (fa, .inl (cF, 4, .inr (.inr (.inr (.inr ff))))), (q, .inr (1, [.ref o, .ref y, .ref n, .ref k, .int (nI L.length)])), (o, .inl (cI, 40, .inl fo)), (y, .inl (cI, 40, .inl fy)), (n, .inl (cI, 40, .inl fn)), (k, .inl (cI, 40, .inl fk))] := hD
  subst hp1
  refine lv_if_eq (tgt := 20) hx hb d_Fs_shape_4 (by decide) (fun hc => absurd hc (by decide)) (fun _ => ?_)
  refine lv_aload_n hx hb d_Fs_shape_7 rfl (lv_at hl 0 rfl) ?_
  refine va_get (D := (dC, dI)) (ci := 4) (v := .ref fa) (C := R_Fs) (T := T_Fs) (N := 7) hx hb hts uin_Fs hown hK hP 0 rfl rfl 0 (by decide) (hts _ wi_114) (fun _ h9 => h9) rfl d_Fs_shape_8 ?_
  refine lv_iload_n hx hb d_Fs_shape_11 rfl (lv_at hl 1 rfl) ?_
  refine fs_aald (b := q) hx hb hK hP 1 3 rfl rfl j rfl (by decide) (by omega) hff d_Fs_shape_12 ?_
  refine lv_iload_n hx hb d_Fs_shape_13 rfl (lv_at hl 2 rfl) ?_
  refine fs_calli (wc := [(q, .inr (1, [.ref o, .ref y, .ref n, .ref k, .int (nI L.length)]))]) (wr := [(fs, .inr (4, [.ref fa, .ref sa, .int (nI stk), .ref wd, .ref ru, .ref ck, .ref mc])), (fa, .inl (cF, 4, .inr (.inr (.inr (.inr ff))))), (o, .inl (cI, 40, .inl fo)), (y, .inl (cI, 40, .inl fy)), (n, .inl (cI, 40, .inl fn)), (k, .inl (cI, 40, .inl fk))]) [2] [0, 1, 3, 4, 5, 6] hP hD hK hS hA rfl rfl rfl (by decide) (fun hPc hDc => va_runV (C := R_Fi) (As := [.int (nI t)]) (rest := []) ⟨hx, hb, hml, hown, hts⟩ (c_Fi_has q o y n k L.length (nI t) _ (by omega)) (⟨callB_of 1 hts (fs_g kin_Fi_has) rfl rfl rfl (hts _ wi_2) (hts _ wi_166) (by decide +kernel) ⟨Nat.le_of_ble_eq_true rfl, Nat.le_of_ble_eq_true rfl⟩, hts _ wi_167, hts _ wi_168⟩) (fs_preV (q0 := 0) rfl rfl hPc hK hDc) rfl rfl hl.1 rfl (lv_room (Nat.le_of_ble_eq_true rfl)) d_Fs_shape_14 ⟨Nat.le_of_ble_eq_true rfl, Nat.le_of_ble_eq_true rfl⟩) rfl (fun r14 _ H locs hp14 hP hD hS => ?_)
  have hP : va_P (dC, dI) vwCl [(fs, .inr (4, [.ref fa, .ref sa, .int (nI stk), .ref wd, .ref ru, .ref ck, .ref mc])), (fa, .inl (cF, 4, .inr (.inr (.inr (.inr ff))))), (q, .inr (1, [.ref o, .ref y, .ref n, .ref k, .int (nI L.length)])), (o, .inl (cI, 40, .inl fo)), (y, .inl (cI, 40, .inl fy)), (n, .inl (cI, 40, .inl fn)), (k, .inl (cI, 40, .inl fk))] H := hP.sub [0, 1, 6, 2, 3, 4, 5] rfl
  have hD : va_D A [(fs, .inr (4, [.ref fa, .ref sa, .int (nI stk), .ref wd, .ref ru, .ref ck, .ref mc])), (fa, .inl (cF, 4, .inr (.inr (.inr (.inr ff))))), (q, .inr (1, [.ref o, .ref y, .ref n, .ref k, .int (nI L.length)])), (o, .inl (cI, 40, .inl fo)), (y, .inl (cI, 40, .inl fy)), (n, .inl (cI, 40, .inl fn)), (k, .inl (cI, 40, .inl fk))] := hD.sub [0, 1, 6, 2, 3, 4, 5] (by decide) rfl
  rcases hp14 with ⟨_, rfl⟩ | ⟨hno, _⟩
  rotate_left
  · exact absurd rfl (hno t ht)
  refine lv_if_ne (tgt := 22) hx hb d_Fs_shape_17 (by decide) (fun _ => ?_) (fun hc => absurd hc (by decide))
  refine lv_aload_n hx hb d_Fs_shape_22 rfl (lv_at hl 0 rfl) ?_
  refine va_get (D := (dC, dI)) (ci := 4) (v := .ref fa) (C := R_Fs) (T := T_Fs) (N := 7) hx hb hts uin_Fs hown hK hP 0 rfl rfl 0 (by decide) (hts _ wi_114) (fun _ h9 => h9) rfl d_Fs_shape_23 ?_
  refine lv_iload_n hx hb d_Fs_shape_26 rfl (lv_at hl 1 rfl) ?_
  refine fs_aald (b := q) hx hb hK hP 1 3 rfl rfl j rfl (by decide) (by omega) hff d_Fs_shape_27 ?_
  refine lv_astore_n hx hb d_Fs_shape_28 rfl hl (by decide) (lv' := [(3, .ref q), (0, .ref fs), (1, .int (nI j)), (2, .int (nI t))]) rfl (fun ls hl => ?_)
  refine lv_aload_n hx hb d_Fs_shape_29 rfl (lv_at hl 0 rfl) ?_
  refine va_get (D := (dC, dI)) (ci := 1) (v := .ref o) (C := R_Fi) (T := T_Fi) (N := 5) hx hb hts uin_Fi hown hK hP 2 rfl rfl 0 (by decide) (hts _ wi_33) (fun _ h9 => h9) rfl d_Fs_shape_30 ?_
  refine lv_iload_n hx hb d_Fs_shape_33 rfl (lv_at hl 3 rfl) ?_
  refine fs_iald (v := nI (fx_O L t)) hx hb hK hP 3 0 rfl rfl t rfl (by decide) (by omega) ((hrep t (by omega)).1) d_Fs_shape_34 ?_
  refine lv_bipush (v := nI 32) hx hb d_Fs_shape_35 (by decide) ?_
  refine lv_aload_n hx hb d_Fs_shape_37 rfl (lv_at hl 0 rfl) ?_
  refine va_get (D := (dC, dI)) (ci := 1) (v := .ref y) (C := R_Fi) (T := T_Fi) (N := 5) hx hb hts uin_Fi hown hK hP 2 rfl rfl 1 (by decide) (hts _ wi_36) (fun _ h9 => h9) rfl d_Fs_shape_38 ?_
  refine lv_iload_n hx hb d_Fs_shape_41 rfl (lv_at hl 3 rfl) ?_
  refine fs_iald (v := nI (fx_Y L t)) hx hb hK hP 4 0 rfl rfl t rfl (by decide) (by omega) ((hrep t (by omega)).2.1) d_Fs_shape_42 ?_
  refine lv_imul hx hb d_Fs_shape_43 ?_
  refine fs_eqi (pk_mul _ _) ?_
  refine lv_iadd hx hb d_Fs_shape_44 ?_
  refine fs_eqi (nI_add _ _) ?_
  refine lv_sipush (v := nI 8192) hx hb d_Fs_shape_45 (by decide) ?_
  refine lv_aload_n hx hb d_Fs_shape_48 rfl (lv_at hl 0 rfl) ?_
  refine va_get (D := (dC, dI)) (ci := 1) (v := .ref n) (C := R_Fi) (T := T_Fi) (N := 5) hx hb hts uin_Fi hown hK hP 2 rfl rfl 2 (by decide) (hts _ wi_39) (fun _ h9 => h9) rfl d_Fs_shape_49 ?_
  refine lv_iload_n hx hb d_Fs_shape_52 rfl (lv_at hl 3 rfl) ?_
  refine fs_iald (v := nI (fx_N L t)) hx hb hK hP 5 0 rfl rfl t rfl (by decide) (by omega) ((hrep t (by omega)).2.2.1) d_Fs_shape_53 ?_
  refine lv_imul hx hb d_Fs_shape_54 ?_
  refine fs_eqi (pk_mul _ _) ?_
  refine lv_iadd hx hb d_Fs_shape_55 ?_
  refine fs_eqi (nI_add _ _) ?_
  exact fs_iret hx hb hr hlocks hAe hK hS d_Fs_shape_56 () (rfl) hP hD

theorem d_Fs_number_0 : decode b_Fs_number 0 = .ok (.iload_n 1, 1) := by decide +kernel
theorem d_Fs_number_1 : decode b_Fs_number 1 = .ok (.invokestatic 48, 3) := by decide +kernel
theorem d_Fs_number_4 : decode b_Fs_number 4 = .ok (.ifCond .eq 30, 3) := by decide +kernel
theorem d_Fs_number_7 : decode b_Fs_number 7 = .ok (.aload_n 0, 1) := by decide +kernel
theorem d_Fs_number_8 : decode b_Fs_number 8 = .ok (.getfield 11, 3) := by decide +kernel
theorem d_Fs_number_11 : decode b_Fs_number 11 = .ok (.iload_n 1, 1) := by decide +kernel
theorem d_Fs_number_12 : decode b_Fs_number 12 = .ok (.aaload, 1) := by decide +kernel
theorem d_Fs_number_13 : decode b_Fs_number 13 = .ok (.iload_n 2, 1) := by decide +kernel
theorem d_Fs_number_14 : decode b_Fs_number 14 = .ok (.invokevirtual 66, 3) := by decide +kernel
theorem d_Fs_number_17 : decode b_Fs_number 17 = .ok (.ifCond .eq 17, 3) := by decide +kernel
theorem d_Fs_number_20 : decode b_Fs_number 20 = .ok (.aload_n 0, 1) := by decide +kernel
theorem d_Fs_number_21 : decode b_Fs_number 21 = .ok (.getfield 11, 3) := by decide +kernel
theorem d_Fs_number_24 : decode b_Fs_number 24 = .ok (.iload_n 1, 1) := by decide +kernel
theorem d_Fs_number_25 : decode b_Fs_number 25 = .ok (.aaload, 1) := by decide +kernel
theorem d_Fs_number_26 : decode b_Fs_number 26 = .ok (.getfield 78, 3) := by decide +kernel
theorem d_Fs_number_29 : decode b_Fs_number 29 = .ok (.iload_n 2, 1) := by decide +kernel
theorem d_Fs_number_30 : decode b_Fs_number 30 = .ok (.iaload, 1) := by decide +kernel
theorem d_Fs_number_31 : decode b_Fs_number 31 = .ok (.goto 4, 3) := by decide +kernel
theorem d_Fs_number_34 : decode b_Fs_number 34 = .ok (.iconst 0, 1) := by decide +kernel
theorem d_Fs_number_35 : decode b_Fs_number 35 = .ok (.ireturn, 1) := by decide +kernel
set_option maxHeartbeats 4000000 in
set_option maxRecDepth 100000 in
theorem c_Fs_number (fs fa sa stk wd ru ck mc : Nat) (ff : Nat → Option Nat) (q o y n k : Nat) (fo fy fn fk : Nat → Int32) (L : fx_Prg) (j : Nat) (t : Nat) (sz : Nat) (hj : j < 4) (hff : ff j = some q) (hrep : fx_rep L fo fy fn fk) (hok : fx_ok L) (ht : t < L.length) : fs_I l y_Fs_number (k_Fs_number :: fs_T) { frames := 1, cells := 0, slots := 0, locals := 21 } (dC, dI) vwCl (fs_tys cI cZ cJ cF) [.ref fs, .int (nI j), .int (nI t)] [(fs, .inr (4, [.ref fa, .ref sa, .int (nI stk), .ref wd, .ref ru, .ref ck, .ref mc])), (fa, .inl (cF, 4, .inr (.inr (.inr (.inr ff))))), (q, .inr (1, [.ref o, .ref y, .ref n, .ref k, .int (nI L.length)])), (o, .inl (cI, 40, .inl fo)), (y, .inl (cI, 40, .inl fy)), (n, .inl (cI, 40, .inl fn)), (k, .inl (cI, 40, .inl fk))] sz (S := Unit) (fun r _ => r = fx_K L t) (fun _ => [(fs, .inr (4, [.ref fa, .ref sa, .int (nI stk), .ref wd, .ref ru, .ref ck, .ref mc])), (fa, .inl (cF, 4, .inr (.inr (.inr (.inr ff))))), (q, .inr (1, [.ref o, .ref y, .ref n, .ref k, .int (nI L.length)])), (o, .inl (cI, 40, .inl fo)), (y, .inl (cI, 40, .inl fy)), (n, .inl (cI, 40, .inl fn)), (k, .inl (cI, 40, .inl fk))]) 0 0 := by
  refine fs_head (by decide) (Nat.le_of_ble_eq_true rfl) ?_
  intro p e s m below meth c A ls hx hb hr hts hown hlocks hin hml hK hP hD hS hA hAe hsz hl
  have hl : lv_has ls 3 [(0, .ref fs), (1, .int (nI j)), (2, .int (nI t))] := hl
  have hown : s.vm.findClass R_Fs = some m.cls := hown
  have hlen := hok.1
  have hO := (hok.2 t ht).1
  have hY := (hok.2 t ht).2.1
  have hN := (hok.2 t ht).2.2
  refine lv_iload_n hx hb d_Fs_number_0 rfl (lv_at hl 1 rfl) ?_
  refine fs_calli (wc := []) (wr := [(fs, .inr (4, [.ref fa, .ref sa, .int (nI stk), .ref wd, .ref ru, .ref ck, .ref mc])), (fa, .inl (cF, 4, .inr (.inr (.inr (.inr ff))))), (q, .inr (1, [.ref o, .ref y, .ref n, .ref k, .int (nI L.length)])), (o, .inl (cI, 40, .inl fo)), (y, .inl (cI, 40, .inl fy)), (n, .inl (cI, 40, .inl fn)), (k, .inl (cI, 40, .inl fk))]) [] [0, 1, 2, 3, 4, 5, 6] hP hD hK hS hA rfl rfl rfl (by decide) (fun hPc hDc => va_runS (As := [.int (nI j)]) (rest := []) ⟨hx, hb, hml, hown, hts⟩ (c_Fs_isFilterT j _ (by omega)) (⟨callB_of 1 hts (fs_g kin_Fs_isFilter) rfl rfl rfl (hts _ wi_1) (hts _ wi_140) (by decide +kernel) ⟨Nat.le_of_ble_eq_true rfl, Nat.le_of_ble_eq_true rfl⟩, hts _ wi_141⟩) (fs_preS hPc hK hDc) rfl rfl hl.1 rfl (lv_room (Nat.le_of_ble_eq_true rfl)) d_Fs_number_1 ⟨Nat.le_of_ble_eq_true rfl, Nat.le_of_ble_eq_true rfl⟩) rfl (fun r1 _ H locs hp1 hP hD hS => ?_)
  have hP : va_P (dC, dI) vwCl [(fs, .inr (4, [.ref fa, .ref sa, .int (nI stk), .ref wd, .ref ru, .ref ck, .ref mc])), (fa, .inl (cF, 4, .inr (.inr (.inr (.inr ff))))), (q, .inr (1, [.ref o, .ref y, .ref n, .ref k, .int (nI L.length)])), (o, .inl (cI, 40, .inl fo)), (y, .inl (cI, 40, .inl fy)), (n, .inl (cI, 40, .inl fn)), (k, .inl (cI, 40, .inl fk))] H := hP
  have hD : va_D A [(fs, .inr (4, [.ref fa, .ref sa, .int (nI stk), .ref wd, .ref ru, .ref ck, .ref mc])), (fa, .inl (cF, 4, .inr (.inr (.inr (.inr ff))))), (q, .inr (1, [.ref o, .ref y, .ref n, .ref k, .int (nI L.length)])), (o, .inl (cI, 40, .inl fo)), (y, .inl (cI, 40, .inl fy)), (n, .inl (cI, 40, .inl fn)), (k, .inl (cI, 40, .inl fk))] := hD
  subst hp1
  refine lv_if_eq (tgt := 34) hx hb d_Fs_number_4 (by decide) (fun hc => absurd hc (by decide)) (fun _ => ?_)
  refine lv_aload_n hx hb d_Fs_number_7 rfl (lv_at hl 0 rfl) ?_
  refine va_get (D := (dC, dI)) (ci := 4) (v := .ref fa) (C := R_Fs) (T := T_Fs) (N := 7) hx hb hts uin_Fs hown hK hP 0 rfl rfl 0 (by decide) (hts _ wi_114) (fun _ h9 => h9) rfl d_Fs_number_8 ?_
  refine lv_iload_n hx hb d_Fs_number_11 rfl (lv_at hl 1 rfl) ?_
  refine fs_aald (b := q) hx hb hK hP 1 3 rfl rfl j rfl (by decide) (by omega) hff d_Fs_number_12 ?_
  refine lv_iload_n hx hb d_Fs_number_13 rfl (lv_at hl 2 rfl) ?_
  refine fs_calli (wc := [(q, .inr (1, [.ref o, .ref y, .ref n, .ref k, .int (nI L.length)]))]) (wr := [(fs, .inr (4, [.ref fa, .ref sa, .int (nI stk), .ref wd, .ref ru, .ref ck, .ref mc])), (fa, .inl (cF, 4, .inr (.inr (.inr (.inr ff))))), (o, .inl (cI, 40, .inl fo)), (y, .inl (cI, 40, .inl fy)), (n, .inl (cI, 40, .inl fn)), (k, .inl (cI, 40, .inl fk))]) [2] [0, 1, 3, 4, 5, 6] hP hD hK hS hA rfl rfl rfl (by decide) (fun hPc hDc => va_runV (C := R_Fi) (As := [.int (nI t)]) (rest := []) ⟨hx, hb, hml, hown, hts⟩ (c_Fi_has q o y n k L.length (nI t) _ (by omega)) (⟨callB_of 1 hts (fs_g kin_Fi_has) rfl rfl rfl (hts _ wi_2) (hts _ wi_166) (by decide +kernel) ⟨Nat.le_of_ble_eq_true rfl, Nat.le_of_ble_eq_true rfl⟩, hts _ wi_167, hts _ wi_168⟩) (fs_preV (q0 := 0) rfl rfl hPc hK hDc) rfl rfl hl.1 rfl (lv_room (Nat.le_of_ble_eq_true rfl)) d_Fs_number_14 ⟨Nat.le_of_ble_eq_true rfl, Nat.le_of_ble_eq_true rfl⟩) rfl (fun r14 _ H locs hp14 hP hD hS => ?_)
  have hP : va_P (dC, dI) vwCl [(fs, .inr (4, [.ref fa, .ref sa, .int (nI stk), .ref wd, .ref ru, .ref ck, .ref mc])), (fa, .inl (cF, 4, .inr (.inr (.inr (.inr ff))))), (q, .inr (1, [.ref o, .ref y, .ref n, .ref k, .int (nI L.length)])), (o, .inl (cI, 40, .inl fo)), (y, .inl (cI, 40, .inl fy)), (n, .inl (cI, 40, .inl fn)), (k, .inl (cI, 40, .inl fk))] H := hP.sub [0, 1, 6, 2, 3, 4, 5] rfl
  have hD : va_D A [(fs, .inr (4, [.ref fa, .ref sa, .int (nI stk), .ref wd, .ref ru, .ref ck, .ref mc])), (fa, .inl (cF, 4, .inr (.inr (.inr (.inr ff))))), (q, .inr (1, [.ref o, .ref y, .ref n, .ref k, .int (nI L.length)])), (o, .inl (cI, 40, .inl fo)), (y, .inl (cI, 40, .inl fy)), (n, .inl (cI, 40, .inl fn)), (k, .inl (cI, 40, .inl fk))] := hD.sub [0, 1, 6, 2, 3, 4, 5] (by decide) rfl
  rcases hp14 with ⟨_, rfl⟩ | ⟨hno, _⟩
  rotate_left
  · exact absurd rfl (hno t ht)
  refine lv_if_eq (tgt := 34) hx hb d_Fs_number_17 (by decide) (fun hc => absurd hc (by decide)) (fun _ => ?_)
  refine lv_aload_n hx hb d_Fs_number_20 rfl (lv_at hl 0 rfl) ?_
  refine va_get (D := (dC, dI)) (ci := 4) (v := .ref fa) (C := R_Fs) (T := T_Fs) (N := 7) hx hb hts uin_Fs hown hK hP 0 rfl rfl 0 (by decide) (hts _ wi_114) (fun _ h9 => h9) rfl d_Fs_number_21 ?_
  refine lv_iload_n hx hb d_Fs_number_24 rfl (lv_at hl 1 rfl) ?_
  refine fs_aald (b := q) hx hb hK hP 1 3 rfl rfl j rfl (by decide) (by omega) hff d_Fs_number_25 ?_
  refine va_get (D := (dC, dI)) (ci := 1) (v := .ref k) (C := R_Fi) (T := T_Fi) (N := 5) hx hb hts uin_Fi hown hK hP 2 rfl rfl 3 (by decide) (hts _ wi_45) (fun _ h9 => h9) rfl d_Fs_number_26 ?_
  refine lv_iload_n hx hb d_Fs_number_29 rfl (lv_at hl 2 rfl) ?_
  refine fs_iald (v := fx_K L t) hx hb hK hP 6 0 rfl rfl t rfl (by decide) (by omega) ((hrep t (by omega)).2.2.2) d_Fs_number_30 ?_
  refine lv_goto (tgt := 35) hx hb d_Fs_number_31 (by decide) ?_
  exact fs_iret hx hb hr hlocks hAe hK hS d_Fs_number_35 () (rfl) hP hD

set_option maxHeartbeats 4000000 in
set_option maxRecDepth 100000 in
theorem c_Fs_shapeY (fs fa sa stk wd ru ck mc : Nat) (ff : Nat → Option Nat) (q o y n k len : Nat) (j : Nat) (i : Int32) (sz : Nat) (hj : j < 4) (hff : ff j = some q) (hlen : len ≤ 40) (hi : ∀ t, t < len → i ≠ nI t) : fs_I l y_Fs_shape (k_Fs_shape :: fs_T) { frames := 1, cells := 0, slots := 0, locals := 21 } (dC, dI) vwCl (fs_tys cI cZ cJ cF) [.ref fs, .int (nI j), .int i] [(fs, .inr (4, [.ref fa, .ref sa, .int (nI stk), .ref wd, .ref ru, .ref ck, .ref mc])), (fa, .inl (cF, 4, .inr (.inr (.inr (.inr ff))))), (q, .inr (1, [.ref o, .ref y, .ref n, .ref k, .int (nI len)]))] sz (S := Unit) (fun r _ => r = (-1)) (fun _ => [(fs, .inr (4, [.ref fa, .ref sa, .int (nI stk), .ref wd, .ref ru, .ref ck, .ref mc])), (fa, .inl (cF, 4, .inr (.inr (.inr (.inr ff))))), (q, .inr (1, [.ref o, .ref y, .ref n, .ref k, .int (nI len)]))]) 0 0 := by
  refine fs_head (by decide) (Nat.le_of_ble_eq_true rfl) ?_
  intro p e s m below meth c A ls hx hb hr hts hown hlocks hin hml hK hP hD hS hA hAe hsz hl
  have hl : lv_has ls 4 [(0, .ref fs), (1, .int (nI j)), (2, .int i)] := hl
  have hown : s.vm.findClass R_Fs = some m.cls := hown
  refine lv_iload_n hx hb d_Fs_shape_0 rfl (lv_at hl 1 rfl) ?_
  refine fs_calli (wc := []) (wr := [(fs, .inr (4, [.ref fa, .ref sa, .int (nI stk), .ref wd, .ref ru, .ref ck, .ref mc])), (fa, .inl (cF, 4, .inr (.inr (.inr (.inr ff))))), (q, .inr (1, [.ref o, .ref y, .ref n, .ref k, .int (nI len)]))]) [] [0, 1, 2] hP hD hK hS hA rfl rfl rfl (by decide) (fun hPc hDc => va_runS (As := [.int (nI j)]) (rest := []) ⟨hx, hb, hml, hown, hts⟩ (c_Fs_isFilterT j _ (by omega)) (⟨callB_of 1 hts (fs_g kin_Fs_isFilter) rfl rfl rfl (hts _ wi_1) (hts _ wi_140) (by decide +kernel) ⟨Nat.le_of_ble_eq_true rfl, Nat.le_of_ble_eq_true rfl⟩, hts _ wi_141⟩) (fs_preS hPc hK hDc) rfl rfl hl.1 rfl (lv_room (Nat.le_of_ble_eq_true rfl)) d_Fs_shape_1 ⟨Nat.le_of_ble_eq_true rfl, Nat.le_of_ble_eq_true rfl⟩) rfl (fun r1 _ H locs hp1 hP hD hS => ?_)
  have hP : va_P (dC, dI) vwCl [(fs, .inr (4, [.ref fa, .ref sa, .int (nI stk), .ref wd, .ref ru, .ref ck, .ref mc])), (fa, .inl (cF, 4, .inr (.inr (.inr (.inr ff))))), (q, .inr (1, [.ref o, .ref y, .ref n, .ref k, .int (nI len)]))] H := hP
  have hD : va_D A [(fs, .inr (4, [.ref fa, .ref sa, .int (nI stk), .ref wd, .ref ru, .ref ck, .ref mc])), (fa, .inl (cF, 4, .inr (.inr (.inr (.inr ff))))), (q, .inr (1, [.ref o, .ref y, .ref n, .ref k, .int (nI len)]))] := hD
  subst hp1
  refine lv_if_eq (tgt := 20) hx hb d_Fs_shape_4 (by decide) (fun hc => absurd hc (by decide)) (fun _ => ?_)
  refine lv_aload_n hx hb d_Fs_shape_7 rfl (lv_at hl 0 rfl) ?_
  refine va_get (D := (dC, dI)) (ci := 4) (v := .ref fa) (C := R_Fs) (T := T_Fs) (N := 7) hx hb hts uin_Fs hown hK hP 0 rfl rfl 0 (by decide) (hts _ wi_114) (fun _ h9 => h9) rfl d_Fs_shape_8 ?_
  refine lv_iload_n hx hb d_Fs_shape_11 rfl (lv_at hl 1 rfl) ?_
  refine fs_aald (b := q) hx hb hK hP 1 3 rfl rfl j rfl (by decide) (by omega) hff d_Fs_shape_12 ?_
  refine lv_iload_n hx hb d_Fs_shape_13 rfl (lv_at hl 2 rfl) ?_
  refine fs_calli (wc := [(q, .inr (1, [.ref o, .ref y, .ref n, .ref k, .int (nI len)]))]) (wr := [(fs, .inr (4, [.ref fa, .ref sa, .int (nI stk), .ref wd, .ref ru, .ref ck, .ref mc])), (fa, .inl (cF, 4, .inr (.inr (.inr (.inr ff)))))]) [2] [0, 1] hP hD hK hS hA rfl rfl rfl (by decide) (fun hPc hDc => va_runV (C := R_Fi) (As := [.int i]) (rest := []) ⟨hx, hb, hml, hown, hts⟩ (c_Fi_has q o y n k len i _ (by omega)) (⟨callB_of 1 hts (fs_g kin_Fi_has) rfl rfl rfl (hts _ wi_2) (hts _ wi_166) (by decide +kernel) ⟨Nat.le_of_ble_eq_true rfl, Nat.le_of_ble_eq_true rfl⟩, hts _ wi_167, hts _ wi_168⟩) (fs_preV (q0 := 0) rfl rfl hPc hK hDc) rfl rfl hl.1 rfl (lv_room (Nat.le_of_ble_eq_true rfl)) d_Fs_shape_14 ⟨Nat.le_of_ble_eq_true rfl, Nat.le_of_ble_eq_true rfl⟩) rfl (fun r14 _ H locs hp14 hP hD hS => ?_)
  have hP : va_P (dC, dI) vwCl [(fs, .inr (4, [.ref fa, .ref sa, .int (nI stk), .ref wd, .ref ru, .ref ck, .ref mc])), (fa, .inl (cF, 4, .inr (.inr (.inr (.inr ff))))), (q, .inr (1, [.ref o, .ref y, .ref n, .ref k, .int (nI len)]))] H := hP
  have hD : va_D A [(fs, .inr (4, [.ref fa, .ref sa, .int (nI stk), .ref wd, .ref ru, .ref ck, .ref mc])), (fa, .inl (cF, 4, .inr (.inr (.inr (.inr ff))))), (q, .inr (1, [.ref o, .ref y, .ref n, .ref k, .int (nI len)]))] := hD
  rcases hp14 with ⟨⟨t, ht, e⟩, _⟩ | ⟨_, rfl⟩
  · exact absurd e (hi t ht)
  refine lv_if_ne (tgt := 22) hx hb d_Fs_shape_17 (by decide) (fun hc => absurd (by decide) hc) (fun _ => ?_)
  refine lv_iconst (v := (-1)) hx hb d_Fs_shape_20 (by decide) ?_
  exact fs_iret hx hb hr hlocks hAe hK hS d_Fs_shape_21 () (rfl) hP hD

set_option maxHeartbeats 4000000 in
set_option maxRecDepth 100000 in
theorem c_Fs_shapeX (fs fa sa stk wd ru ck mc : Nat) (f i : Int32) (sz : Nat) (hf : ∀ j, j < 4 → f ≠ nI j) : fs_I l y_Fs_shape (k_Fs_shape :: fs_T) { frames := 1, cells := 0, slots := 0, locals := 21 } (dC, dI) vwCl (fs_tys cI cZ cJ cF) [.ref fs, .int f, .int i] [(fs, .inr (4, [.ref fa, .ref sa, .int (nI stk), .ref wd, .ref ru, .ref ck, .ref mc]))] sz (S := Unit) (fun r _ => r = (-1)) (fun _ => [(fs, .inr (4, [.ref fa, .ref sa, .int (nI stk), .ref wd, .ref ru, .ref ck, .ref mc]))]) 0 0 := by
  refine fs_head (by decide) (Nat.le_of_ble_eq_true rfl) ?_
  intro p e s m below meth c A ls hx hb hr hts hown hlocks hin hml hK hP hD hS hA hAe hsz hl
  have hl : lv_has ls 4 [(0, .ref fs), (1, .int f), (2, .int i)] := hl
  have hown : s.vm.findClass R_Fs = some m.cls := hown
  refine lv_iload_n hx hb d_Fs_shape_0 rfl (lv_at hl 1 rfl) ?_
  refine fs_calli (wc := []) (wr := [(fs, .inr (4, [.ref fa, .ref sa, .int (nI stk), .ref wd, .ref ru, .ref ck, .ref mc]))]) [] [0] hP hD hK hS hA rfl rfl rfl (by decide) (fun hPc hDc => va_runS (As := [.int f]) (rest := []) ⟨hx, hb, hml, hown, hts⟩ (c_Fs_isFilter f _) (⟨callB_of 1 hts (fs_g kin_Fs_isFilter) rfl rfl rfl (hts _ wi_1) (hts _ wi_140) (by decide +kernel) ⟨Nat.le_of_ble_eq_true rfl, Nat.le_of_ble_eq_true rfl⟩, hts _ wi_141⟩) (fs_preS hPc hK hDc) rfl rfl hl.1 rfl (lv_room (Nat.le_of_ble_eq_true rfl)) d_Fs_shape_1 ⟨Nat.le_of_ble_eq_true rfl, Nat.le_of_ble_eq_true rfl⟩) rfl (fun r1 _ H locs hp1 hP hD hS => ?_)
  have hP : va_P (dC, dI) vwCl [(fs, .inr (4, [.ref fa, .ref sa, .int (nI stk), .ref wd, .ref ru, .ref ck, .ref mc]))] H := hP
  have hD : va_D A [(fs, .inr (4, [.ref fa, .ref sa, .int (nI stk), .ref wd, .ref ru, .ref ck, .ref mc]))] := hD
  rcases hp1 with ⟨⟨j, hj, e⟩, _⟩ | ⟨_, rfl⟩
  · exact absurd e (hf j hj)
  refine lv_if_eq (tgt := 20) hx hb d_Fs_shape_4 (by decide) (fun _ => ?_) (fun hc => absurd (by decide) hc)
  refine lv_iconst (v := (-1)) hx hb d_Fs_shape_20 (by decide) ?_
  exact fs_iret hx hb hr hlocks hAe hK hS d_Fs_shape_21 () (rfl) hP hD

set_option maxHeartbeats 4000000 in
set_option maxRecDepth 100000 in
theorem c_Fs_numberY (fs fa sa stk wd ru ck mc : Nat) (ff : Nat → Option Nat) (q o y n k len : Nat) (j : Nat) (i : Int32) (sz : Nat) (hj : j < 4) (hff : ff j = some q) (hlen : len ≤ 40) (hi : ∀ t, t < len → i ≠ nI t) : fs_I l y_Fs_number (k_Fs_number :: fs_T) { frames := 1, cells := 0, slots := 0, locals := 21 } (dC, dI) vwCl (fs_tys cI cZ cJ cF) [.ref fs, .int (nI j), .int i] [(fs, .inr (4, [.ref fa, .ref sa, .int (nI stk), .ref wd, .ref ru, .ref ck, .ref mc])), (fa, .inl (cF, 4, .inr (.inr (.inr (.inr ff))))), (q, .inr (1, [.ref o, .ref y, .ref n, .ref k, .int (nI len)]))] sz (S := Unit) (fun r _ => r = nI 0) (fun _ => [(fs, .inr (4, [.ref fa, .ref sa, .int (nI stk), .ref wd, .ref ru, .ref ck, .ref mc])), (fa, .inl (cF, 4, .inr (.inr (.inr (.inr ff))))), (q, .inr (1, [.ref o, .ref y, .ref n, .ref k, .int (nI len)]))]) 0 0 := by
  refine fs_head (by decide) (Nat.le_of_ble_eq_true rfl) ?_
  intro p e s m below meth c A ls hx hb hr hts hown hlocks hin hml hK hP hD hS hA hAe hsz hl
  have hl : lv_has ls 3 [(0, .ref fs), (1, .int (nI j)), (2, .int i)] := hl
  have hown : s.vm.findClass R_Fs = some m.cls := hown
  refine lv_iload_n hx hb d_Fs_number_0 rfl (lv_at hl 1 rfl) ?_
  refine fs_calli (wc := []) (wr := [(fs, .inr (4, [.ref fa, .ref sa, .int (nI stk), .ref wd, .ref ru, .ref ck, .ref mc])), (fa, .inl (cF, 4, .inr (.inr (.inr (.inr ff))))), (q, .inr (1, [.ref o, .ref y, .ref n, .ref k, .int (nI len)]))]) [] [0, 1, 2] hP hD hK hS hA rfl rfl rfl (by decide) (fun hPc hDc => va_runS (As := [.int (nI j)]) (rest := []) ⟨hx, hb, hml, hown, hts⟩ (c_Fs_isFilterT j _ (by omega)) (⟨callB_of 1 hts (fs_g kin_Fs_isFilter) rfl rfl rfl (hts _ wi_1) (hts _ wi_140) (by decide +kernel) ⟨Nat.le_of_ble_eq_true rfl, Nat.le_of_ble_eq_true rfl⟩, hts _ wi_141⟩) (fs_preS hPc hK hDc) rfl rfl hl.1 rfl (lv_room (Nat.le_of_ble_eq_true rfl)) d_Fs_number_1 ⟨Nat.le_of_ble_eq_true rfl, Nat.le_of_ble_eq_true rfl⟩) rfl (fun r1 _ H locs hp1 hP hD hS => ?_)
  have hP : va_P (dC, dI) vwCl [(fs, .inr (4, [.ref fa, .ref sa, .int (nI stk), .ref wd, .ref ru, .ref ck, .ref mc])), (fa, .inl (cF, 4, .inr (.inr (.inr (.inr ff))))), (q, .inr (1, [.ref o, .ref y, .ref n, .ref k, .int (nI len)]))] H := hP
  have hD : va_D A [(fs, .inr (4, [.ref fa, .ref sa, .int (nI stk), .ref wd, .ref ru, .ref ck, .ref mc])), (fa, .inl (cF, 4, .inr (.inr (.inr (.inr ff))))), (q, .inr (1, [.ref o, .ref y, .ref n, .ref k, .int (nI len)]))] := hD
  subst hp1
  refine lv_if_eq (tgt := 34) hx hb d_Fs_number_4 (by decide) (fun hc => absurd hc (by decide)) (fun _ => ?_)
  refine lv_aload_n hx hb d_Fs_number_7 rfl (lv_at hl 0 rfl) ?_
  refine va_get (D := (dC, dI)) (ci := 4) (v := .ref fa) (C := R_Fs) (T := T_Fs) (N := 7) hx hb hts uin_Fs hown hK hP 0 rfl rfl 0 (by decide) (hts _ wi_114) (fun _ h9 => h9) rfl d_Fs_number_8 ?_
  refine lv_iload_n hx hb d_Fs_number_11 rfl (lv_at hl 1 rfl) ?_
  refine fs_aald (b := q) hx hb hK hP 1 3 rfl rfl j rfl (by decide) (by omega) hff d_Fs_number_12 ?_
  refine lv_iload_n hx hb d_Fs_number_13 rfl (lv_at hl 2 rfl) ?_
  refine fs_calli (wc := [(q, .inr (1, [.ref o, .ref y, .ref n, .ref k, .int (nI len)]))]) (wr := [(fs, .inr (4, [.ref fa, .ref sa, .int (nI stk), .ref wd, .ref ru, .ref ck, .ref mc])), (fa, .inl (cF, 4, .inr (.inr (.inr (.inr ff)))))]) [2] [0, 1] hP hD hK hS hA rfl rfl rfl (by decide) (fun hPc hDc => va_runV (C := R_Fi) (As := [.int i]) (rest := []) ⟨hx, hb, hml, hown, hts⟩ (c_Fi_has q o y n k len i _ (by omega)) (⟨callB_of 1 hts (fs_g kin_Fi_has) rfl rfl rfl (hts _ wi_2) (hts _ wi_166) (by decide +kernel) ⟨Nat.le_of_ble_eq_true rfl, Nat.le_of_ble_eq_true rfl⟩, hts _ wi_167, hts _ wi_168⟩) (fs_preV (q0 := 0) rfl rfl hPc hK hDc) rfl rfl hl.1 rfl (lv_room (Nat.le_of_ble_eq_true rfl)) d_Fs_number_14 ⟨Nat.le_of_ble_eq_true rfl, Nat.le_of_ble_eq_true rfl⟩) rfl (fun r14 _ H locs hp14 hP hD hS => ?_)
  have hP : va_P (dC, dI) vwCl [(fs, .inr (4, [.ref fa, .ref sa, .int (nI stk), .ref wd, .ref ru, .ref ck, .ref mc])), (fa, .inl (cF, 4, .inr (.inr (.inr (.inr ff))))), (q, .inr (1, [.ref o, .ref y, .ref n, .ref k, .int (nI len)]))] H := hP
  have hD : va_D A [(fs, .inr (4, [.ref fa, .ref sa, .int (nI stk), .ref wd, .ref ru, .ref ck, .ref mc])), (fa, .inl (cF, 4, .inr (.inr (.inr (.inr ff))))), (q, .inr (1, [.ref o, .ref y, .ref n, .ref k, .int (nI len)]))] := hD
  rcases hp14 with ⟨⟨t, ht, e⟩, _⟩ | ⟨_, rfl⟩
  · exact absurd e (hi t ht)
  refine lv_if_eq (tgt := 34) hx hb d_Fs_number_17 (by decide) (fun _ => ?_) (fun hc => absurd (by decide) hc)
  refine lv_iconst (v := nI 0) hx hb d_Fs_number_34 (by decide) ?_
  exact fs_iret hx hb hr hlocks hAe hK hS d_Fs_number_35 () (rfl) hP hD

set_option maxHeartbeats 4000000 in
set_option maxRecDepth 100000 in
theorem c_Fs_numberX (fs fa sa stk wd ru ck mc : Nat) (f i : Int32) (sz : Nat) (hf : ∀ j, j < 4 → f ≠ nI j) : fs_I l y_Fs_number (k_Fs_number :: fs_T) { frames := 1, cells := 0, slots := 0, locals := 21 } (dC, dI) vwCl (fs_tys cI cZ cJ cF) [.ref fs, .int f, .int i] [(fs, .inr (4, [.ref fa, .ref sa, .int (nI stk), .ref wd, .ref ru, .ref ck, .ref mc]))] sz (S := Unit) (fun r _ => r = nI 0) (fun _ => [(fs, .inr (4, [.ref fa, .ref sa, .int (nI stk), .ref wd, .ref ru, .ref ck, .ref mc]))]) 0 0 := by
  refine fs_head (by decide) (Nat.le_of_ble_eq_true rfl) ?_
  intro p e s m below meth c A ls hx hb hr hts hown hlocks hin hml hK hP hD hS hA hAe hsz hl
  have hl : lv_has ls 3 [(0, .ref fs), (1, .int f), (2, .int i)] := hl
  have hown : s.vm.findClass R_Fs = some m.cls := hown
  refine lv_iload_n hx hb d_Fs_number_0 rfl (lv_at hl 1 rfl) ?_
  refine fs_calli (wc := []) (wr := [(fs, .inr (4, [.ref fa, .ref sa, .int (nI stk), .ref wd, .ref ru, .ref ck, .ref mc]))]) [] [0] hP hD hK hS hA rfl rfl rfl (by decide) (fun hPc hDc => va_runS (As := [.int f]) (rest := []) ⟨hx, hb, hml, hown, hts⟩ (c_Fs_isFilter f _) (⟨callB_of 1 hts (fs_g kin_Fs_isFilter) rfl rfl rfl (hts _ wi_1) (hts _ wi_140) (by decide +kernel) ⟨Nat.le_of_ble_eq_true rfl, Nat.le_of_ble_eq_true rfl⟩, hts _ wi_141⟩) (fs_preS hPc hK hDc) rfl rfl hl.1 rfl (lv_room (Nat.le_of_ble_eq_true rfl)) d_Fs_number_1 ⟨Nat.le_of_ble_eq_true rfl, Nat.le_of_ble_eq_true rfl⟩) rfl (fun r1 _ H locs hp1 hP hD hS => ?_)
  have hP : va_P (dC, dI) vwCl [(fs, .inr (4, [.ref fa, .ref sa, .int (nI stk), .ref wd, .ref ru, .ref ck, .ref mc]))] H := hP
  have hD : va_D A [(fs, .inr (4, [.ref fa, .ref sa, .int (nI stk), .ref wd, .ref ru, .ref ck, .ref mc]))] := hD
  rcases hp1 with ⟨⟨j, hj, e⟩, _⟩ | ⟨_, rfl⟩
  · exact absurd e (hf j hj)
  refine lv_if_eq (tgt := 34) hx hb d_Fs_number_4 (by decide) (fun _ => ?_) (fun hc => absurd (by decide) hc)
  refine lv_iconst (v := nI 0) hx hb d_Fs_number_34 (by decide) ?_
  exact fs_iret hx hb hr hlocks hAe hK hS d_Fs_number_35 () (rfl) hP hD

set_option maxHeartbeats 4000000 in
set_option maxRecDepth 100000 in
theorem c_Fs_fault (fs fa sa stk wd ru ck mc : Nat) (ff : Nat → Option Nat) (st : Nat) (g : Nat → Int32) (q o y n k : Nat) (fo fy fn fk : Nat → Int32) (L : fx_Prg) (j : Nat) (sz : Nat) (hj : j < 4) (hff : ff j = some q) (hrep : fx_rep L fo fy fn fk) (hok : fx_ok L) : fs_I l y_Fs_fault (k_Fs_fault :: fs_T) { frames := 5, cells := 0, slots := 0, locals := 115 } (dC, dI) vwCl (fs_tys cI cZ cJ cF) [.ref fs, .int (nI j)] [(fs, .inr (4, [.ref fa, .ref sa, .int (nI stk), .ref wd, .ref ru, .ref ck, .ref mc])), (fa, .inl (cF, 4, .inr (.inr (.inr (.inr ff))))), (ck, .inr (0, [.ref st])), (st, .inl (cI, 40, .inl g)), (q, .inr (1, [.ref o, .ref y, .ref n, .ref k, .int (nI L.length)])), (o, .inl (cI, 40, .inl fo)), (y, .inl (cI, 40, .inl fy)), (n, .inl (cI, 40, .inl fn)), (k, .inl (cI, 40, .inl fk))] sz (S := Nat → Int32) (fun r _ => r = nI (fx_chk L % 8)) (fun u => [(fs, .inr (4, [.ref fa, .ref sa, .int (nI stk), .ref wd, .ref ru, .ref ck, .ref mc])), (fa, .inl (cF, 4, .inr (.inr (.inr (.inr ff))))), (ck, .inr (0, [.ref st])), (st, .inl (cI, 40, .inl u)), (q, .inr (1, [.ref o, .ref y, .ref n, .ref k, .int (nI L.length)])), (o, .inl (cI, 40, .inl fo)), (y, .inl (cI, 40, .inl fy)), (n, .inl (cI, 40, .inl fn)), (k, .inl (cI, 40, .inl fk))]) 0 0 := by
  refine fs_head (by decide) (Nat.le_of_ble_eq_true rfl) ?_
  intro p e s m below meth c A ls hx hb hr hts hown hlocks hin hml hK hP hD hS hA hAe hsz hl
  have hl : lv_has ls 2 [(0, .ref fs), (1, .int (nI j))] := hl
  have hown : s.vm.findClass R_Fs = some m.cls := hown
  refine lv_iload_n hx hb d_Fs_fault_0 rfl (lv_at hl 1 rfl) ?_
  refine fs_calli (wc := []) (wr := [(fs, .inr (4, [.ref fa, .ref sa, .int (nI stk), .ref wd, .ref ru, .ref ck, .ref mc])), (fa, .inl (cF, 4, .inr (.inr (.inr (.inr ff))))), (ck, .inr (0, [.ref st])), (st, .inl (cI, 40, .inl g)), (q, .inr (1, [.ref o, .ref y, .ref n, .ref k, .int (nI L.length)])), (o, .inl (cI, 40, .inl fo)), (y, .inl (cI, 40, .inl fy)), (n, .inl (cI, 40, .inl fn)), (k, .inl (cI, 40, .inl fk))]) [] [0, 1, 2, 3, 4, 5, 6, 7, 8] hP hD hK hS hA rfl rfl rfl (by decide) (fun hPc hDc => va_runS (As := [.int (nI j)]) (rest := []) ⟨hx, hb, hml, hown, hts⟩ (c_Fs_isFilterT j _ (by omega)) (⟨callB_of 1 hts (fs_g kin_Fs_isFilter) rfl rfl rfl (hts _ wi_1) (hts _ wi_140) (by decide +kernel) ⟨Nat.le_of_ble_eq_true rfl, Nat.le_of_ble_eq_true rfl⟩, hts _ wi_141⟩) (fs_preS hPc hK hDc) rfl rfl hl.1 rfl (lv_room (Nat.le_of_ble_eq_true rfl)) d_Fs_fault_1 ⟨Nat.le_of_ble_eq_true rfl, Nat.le_of_ble_eq_true rfl⟩) rfl (fun r1 _ H locs hp1 hP hD hS => ?_)
  have hP : va_P (dC, dI) vwCl [(fs, .inr (4, [.ref fa, .ref sa, .int (nI stk), .ref wd, .ref ru, .ref ck, .ref mc])), (fa, .inl (cF, 4, .inr (.inr (.inr (.inr ff))))), (ck, .inr (0, [.ref st])), (st, .inl (cI, 40, .inl g)), (q, .inr (1, [.ref o, .ref y, .ref n, .ref k, .int (nI L.length)])), (o, .inl (cI, 40, .inl fo)), (y, .inl (cI, 40, .inl fy)), (n, .inl (cI, 40, .inl fn)), (k, .inl (cI, 40, .inl fk))] H := hP
  have hD : va_D A [(fs, .inr (4, [.ref fa, .ref sa, .int (nI stk), .ref wd, .ref ru, .ref ck, .ref mc])), (fa, .inl (cF, 4, .inr (.inr (.inr (.inr ff))))), (ck, .inr (0, [.ref st])), (st, .inl (cI, 40, .inl g)), (q, .inr (1, [.ref o, .ref y, .ref n, .ref k, .int (nI L.length)])), (o, .inl (cI, 40, .inl fo)), (y, .inl (cI, 40, .inl fy)), (n, .inl (cI, 40, .inl fn)), (k, .inl (cI, 40, .inl fk))] := hD
  subst hp1
  refine lv_if_eq (tgt := 23) hx hb d_Fs_fault_4 (by decide) (fun hc => absurd hc (by decide)) (fun _ => ?_)
  refine lv_aload_n hx hb d_Fs_fault_7 rfl (lv_at hl 0 rfl) ?_
  refine va_get (D := (dC, dI)) (ci := 4) (v := .ref ck) (C := R_Fs) (T := T_Fs) (N := 7) hx hb hts uin_Fs hown hK hP 0 rfl rfl 5 (by decide) (hts _ wi_119) (fun _ h9 => h9) rfl d_Fs_fault_8 ?_
  refine lv_aload_n hx hb d_Fs_fault_11 rfl (lv_at hl 0 rfl) ?_
  refine va_get (D := (dC, dI)) (ci := 4) (v := .ref fa) (C := R_Fs) (T := T_Fs) (N := 7) hx hb hts uin_Fs hown hK hP 0 rfl rfl 0 (by decide) (hts _ wi_114) (fun _ h9 => h9) rfl d_Fs_fault_12 ?_
  refine lv_iload_n hx hb d_Fs_fault_15 rfl (lv_at hl 1 rfl) ?_
  refine fs_aald (b := q) hx hb hK hP 1 3 rfl rfl j rfl (by decide) (by omega) hff d_Fs_fault_16 ?_
  refine fs_calli (wc := [(ck, .inr (0, [.ref st])), (st, .inl (cI, 40, .inl g)), (q, .inr (1, [.ref o, .ref y, .ref n, .ref k, .int (nI L.length)])), (o, .inl (cI, 40, .inl fo)), (y, .inl (cI, 40, .inl fy)), (n, .inl (cI, 40, .inl fn)), (k, .inl (cI, 40, .inl fk))]) (wr := [(fs, .inr (4, [.ref fa, .ref sa, .int (nI stk), .ref wd, .ref ru, .ref ck, .ref mc])), (fa, .inl (cF, 4, .inr (.inr (.inr (.inr ff)))))]) [2, 3, 4, 5, 6, 7, 8] [0, 1] hP hD hK hS hA rfl rfl rfl (by decide) (fun hPc hDc => va_runV (C := R_Ck) (As := [.ref q]) (rest := []) ⟨hx, hb, hml, hown, hts⟩ (c_Ck_faultOf ck st g q o y n k fo fy fn fk L _ hrep hok) (⟨callB_of 1 hts (fs_g kin_Ck_faultOf) rfl rfl rfl (hts _ wi_4) (hts _ wi_178) (by decide +kernel) ⟨Nat.le_of_ble_eq_true rfl, Nat.le_of_ble_eq_true rfl⟩, hts _ wi_179, hts _ wi_180⟩) (fs_preV (q0 := 0) rfl rfl hPc hK hDc) rfl rfl hl.1 rfl (lv_room (Nat.le_of_ble_eq_true rfl)) d_Fs_fault_17 ⟨Nat.le_of_ble_eq_true rfl, Nat.le_of_ble_eq_true rfl⟩) rfl (fun r17 u17 H locs hp17 hP hD hS => ?_)
  have hP : va_P (dC, dI) vwCl [(fs, .inr (4, [.ref fa, .ref sa, .int (nI stk), .ref wd, .ref ru, .ref ck, .ref mc])), (fa, .inl (cF, 4, .inr (.inr (.inr (.inr ff))))), (ck, .inr (0, [.ref st])), (st, .inl (cI, 40, .inl u17)), (q, .inr (1, [.ref o, .ref y, .ref n, .ref k, .int (nI L.length)])), (o, .inl (cI, 40, .inl fo)), (y, .inl (cI, 40, .inl fy)), (n, .inl (cI, 40, .inl fn)), (k, .inl (cI, 40, .inl fk))] H := hP
  have hD : va_D A [(fs, .inr (4, [.ref fa, .ref sa, .int (nI stk), .ref wd, .ref ru, .ref ck, .ref mc])), (fa, .inl (cF, 4, .inr (.inr (.inr (.inr ff))))), (ck, .inr (0, [.ref st])), (st, .inl (cI, 40, .inl u17)), (q, .inr (1, [.ref o, .ref y, .ref n, .ref k, .int (nI L.length)])), (o, .inl (cI, 40, .inl fo)), (y, .inl (cI, 40, .inl fy)), (n, .inl (cI, 40, .inl fn)), (k, .inl (cI, 40, .inl fk))] := hD
  subst hp17
  refine lv_goto (tgt := 24) hx hb d_Fs_fault_20 (by decide) ?_
  exact fs_iret hx hb hr hlocks hAe hK hS d_Fs_fault_24 u17 (rfl) hP hD

/-- where the filter is at fault, as an int -/
noncomputable def fx_plc (L : fx_Prg) : Int32 := if fx_chk L = 0 then (-1) else nI (fx_chk L / 8)
theorem fx_good_of7 {L : fx_Prg} (h : fx_chk L % 8 = 7) : fx_good L := by
  rcases fx_chk_cases L with ⟨h0, -⟩ | ⟨r, i, h1, h7, hs, hn, hc⟩
  · omega
  · exact fun t h2 h6 => fx_at_no h2 h6 (hn t (by omega) (by omega))
theorem fx_good_of0 {L : fx_Prg} (h : fx_chk L = 0) : fx_good L := by
  rcases fx_chk_cases L with ⟨h0, hn⟩ | ⟨r, i, h1, h7, hs, hn, hc⟩
  · exact fun t h2 h6 => fx_at_no h2 h6 (hn t (by omega) (by omega))
  · omega
theorem fx_pos_of0 {L : fx_Prg} (h : fx_chk L = 0) : 0 < L.length := by
  rcases fx_chk_cases L with ⟨h0, hn⟩ | ⟨r, i, h1, h7, hs, hn, hc⟩
  · have h1 := hn 1 (by decide) (by decide)
    unfold fx_at at h1
    rw [if_pos rfl] at h1
    by_cases e : L.length = 0
    · rw [if_pos e] at h1; cases h1
    · omega
  · omega
theorem fx_at0 (L : fx_Prg) : fx_at L 0 = none := by
  unfold fx_at
  rw [if_neg (by decide), if_neg (by decide)]
  exact fx_fst_none (fun j hj => fx_br_f.mpr (by simp [fx_brP]))
theorem fx_plc_of {L : fx_Prg} {z : Int32} (h : (fx_at L (fx_chk L % 8) = none ∧ z = (-1)) ∨ ∃ i, fx_at L (fx_chk L % 8) = some i ∧ z = nI i) : z = fx_plc L := by
  unfold fx_plc
  rcases fx_chk_cases L with ⟨h0, -⟩ | ⟨r, i, h1, h7, hs, hn, hc⟩
  · rw [if_pos h0]
    rw [h0, fx_at0] at h
    rcases h with ⟨-, h⟩ | ⟨i, h, -⟩
    · exact h
    · cases h
  · rw [if_neg (by omega)]
    rw [show fx_chk L % 8 = r from by omega, hs] at h
    rcases h with ⟨h, -⟩ | ⟨k, h, h2⟩
    · cases h
    · cases h
      rw [h2, show fx_chk L / 8 = i from by omega]
set_option maxHeartbeats 4000000 in
set_option maxRecDepth 100000 in
theorem c_Fs_place (fs fa sa stk wd ru ck mc : Nat) (ff : Nat → Option Nat) (st : Nat) (g : Nat → Int32) (q o y n k : Nat) (fo fy fn fk : Nat → Int32) (L : fx_Prg) (j : Nat) (sz : Nat) (hj : j < 4) (hff : ff j = some q) (hrep : fx_rep L fo fy fn fk) (hok : fx_ok L) : fs_I l y_Fs_place (k_Fs_place :: fs_T) { frames := 5, cells := 0, slots := 0, locals := 115 } (dC, dI) vwCl (fs_tys cI cZ cJ cF) [.ref fs, .int (nI j)] [(fs, .inr (4, [.ref fa, .ref sa, .int (nI stk), .ref wd, .ref ru, .ref ck, .ref mc])), (fa, .inl (cF, 4, .inr (.inr (.inr (.inr ff))))), (ck, .inr (0, [.ref st])), (st, .inl (cI, 40, .inl g)), (q, .inr (1, [.ref o, .ref y, .ref n, .ref k, .int (nI L.length)])), (o, .inl (cI, 40, .inl fo)), (y, .inl (cI, 40, .inl fy)), (n, .inl (cI, 40, .inl fn)), (k, .inl (cI, 40, .inl fk))] sz (S := Nat → Int32) (fun r _ => r = fx_plc L) (fun u => [(fs, .inr (4, [.ref fa, .ref sa, .int (nI stk), .ref wd, .ref ru, .ref ck, .ref mc])), (fa, .inl (cF, 4, .inr (.inr (.inr (.inr ff))))), (ck, .inr (0, [.ref st])), (st, .inl (cI, 40, .inl u)), (q, .inr (1, [.ref o, .ref y, .ref n, .ref k, .int (nI L.length)])), (o, .inl (cI, 40, .inl fo)), (y, .inl (cI, 40, .inl fy)), (n, .inl (cI, 40, .inl fn)), (k, .inl (cI, 40, .inl fk))]) 0 0 := by
  refine fs_head (by decide) (Nat.le_of_ble_eq_true rfl) ?_
  intro p e s m below meth c A ls hx hb hr hts hown hlocks hin hml hK hP hD hS hA hAe hsz hl
  have hl : lv_has ls 2 [(0, .ref fs), (1, .int (nI j))] := hl
  have hown : s.vm.findClass R_Fs = some m.cls := hown
  refine lv_iload_n hx hb d_Fs_place_0 rfl (lv_at hl 1 rfl) ?_
  refine fs_calli (wc := []) (wr := [(fs, .inr (4, [.ref fa, .ref sa, .int (nI stk), .ref wd, .ref ru, .ref ck, .ref mc])), (fa, .inl (cF, 4, .inr (.inr (.inr (.inr ff))))), (ck, .inr (0, [.ref st])), (st, .inl (cI, 40, .inl g)), (q, .inr (1, [.ref o, .ref y, .ref n, .ref k, .int (nI L.length)])), (o, .inl (cI, 40, .inl fo)), (y, .inl (cI, 40, .inl fy)), (n, .inl (cI, 40, .inl fn)), (k, .inl (cI, 40, .inl fk))]) [] [0, 1, 2, 3, 4, 5, 6, 7, 8] hP hD hK hS hA rfl rfl rfl (by decide) (fun hPc hDc => va_runS (As := [.int (nI j)]) (rest := []) ⟨hx, hb, hml, hown, hts⟩ (c_Fs_isFilterT j _ (by omega)) (⟨callB_of 1 hts (fs_g kin_Fs_isFilter) rfl rfl rfl (hts _ wi_1) (hts _ wi_140) (by decide +kernel) ⟨Nat.le_of_ble_eq_true rfl, Nat.le_of_ble_eq_true rfl⟩, hts _ wi_141⟩) (fs_preS hPc hK hDc) rfl rfl hl.1 rfl (lv_room (Nat.le_of_ble_eq_true rfl)) d_Fs_place_1 ⟨Nat.le_of_ble_eq_true rfl, Nat.le_of_ble_eq_true rfl⟩) rfl (fun r1 _ H locs hp1 hP hD hS => ?_)
  have hP : va_P (dC, dI) vwCl [(fs, .inr (4, [.ref fa, .ref sa, .int (nI stk), .ref wd, .ref ru, .ref ck, .ref mc])), (fa, .inl (cF, 4, .inr (.inr (.inr (.inr ff))))), (ck, .inr (0, [.ref st])), (st, .inl (cI, 40, .inl g)), (q, .inr (1, [.ref o, .ref y, .ref n, .ref k, .int (nI L.length)])), (o, .inl (cI, 40, .inl fo)), (y, .inl (cI, 40, .inl fy)), (n, .inl (cI, 40, .inl fn)), (k, .inl (cI, 40, .inl fk))] H := hP
  have hD : va_D A [(fs, .inr (4, [.ref fa, .ref sa, .int (nI stk), .ref wd, .ref ru, .ref ck, .ref mc])), (fa, .inl (cF, 4, .inr (.inr (.inr (.inr ff))))), (ck, .inr (0, [.ref st])), (st, .inl (cI, 40, .inl g)), (q, .inr (1, [.ref o, .ref y, .ref n, .ref k, .int (nI L.length)])), (o, .inl (cI, 40, .inl fo)), (y, .inl (cI, 40, .inl fy)), (n, .inl (cI, 40, .inl fn)), (k, .inl (cI, 40, .inl fk))] := hD
  subst hp1
  refine lv_if_ne (tgt := 9) hx hb d_Fs_place_4 (by decide) (fun _ => ?_) (fun hc => absurd hc (by decide))
  refine lv_aload_n hx hb d_Fs_place_9 rfl (lv_at hl 0 rfl) ?_
  refine va_get (D := (dC, dI)) (ci := 4) (v := .ref ck) (C := R_Fs) (T := T_Fs) (N := 7) hx hb hts uin_Fs hown hK hP 0 rfl rfl 5 (by decide) (hts _ wi_119) (fun _ h9 => h9) rfl d_Fs_place_10 ?_
  refine lv_aload_n hx hb d_Fs_place_13 rfl (lv_at hl 0 rfl) ?_
  refine va_get (D := (dC, dI)) (ci := 4) (v := .ref fa) (C := R_Fs) (T := T_Fs) (N := 7) hx hb hts uin_Fs hown hK hP 0 rfl rfl 0 (by decide) (hts _ wi_114) (fun _ h9 => h9) rfl d_Fs_place_14 ?_
  refine lv_iload_n hx hb d_Fs_place_17 rfl (lv_at hl 1 rfl) ?_
  refine fs_aald (b := q) hx hb hK hP 1 3 rfl rfl j rfl (by decide) (by omega) hff d_Fs_place_18 ?_
  refine lv_aload_n hx hb d_Fs_place_19 rfl (lv_at hl 0 rfl) ?_
  refine va_get (D := (dC, dI)) (ci := 4) (v := .ref ck) (C := R_Fs) (T := T_Fs) (N := 7) hx hb hts uin_Fs hown hK hP 0 rfl rfl 5 (by decide) (hts _ wi_119) (fun _ h9 => h9) rfl d_Fs_place_20 ?_
  refine lv_aload_n hx hb d_Fs_place_23 rfl (lv_at hl 0 rfl) ?_
  refine va_get (D := (dC, dI)) (ci := 4) (v := .ref fa) (C := R_Fs) (T := T_Fs) (N := 7) hx hb hts uin_Fs hown hK hP 0 rfl rfl 0 (by decide) (hts _ wi_114) (fun _ h9 => h9) rfl d_Fs_place_24 ?_
  refine lv_iload_n hx hb d_Fs_place_27 rfl (lv_at hl 1 rfl) ?_
  refine fs_aald (b := q) hx hb hK hP 1 3 rfl rfl j rfl (by decide) (by omega) hff d_Fs_place_28 ?_
  refine fs_calli (wc := [(ck, .inr (0, [.ref st])), (st, .inl (cI, 40, .inl g)), (q, .inr (1, [.ref o, .ref y, .ref n, .ref k, .int (nI L.length)])), (o, .inl (cI, 40, .inl fo)), (y, .inl (cI, 40, .inl fy)), (n, .inl (cI, 40, .inl fn)), (k, .inl (cI, 40, .inl fk))]) (wr := [(fs, .inr (4, [.ref fa, .ref sa, .int (nI stk), .ref wd, .ref ru, .ref ck, .ref mc])), (fa, .inl (cF, 4, .inr (.inr (.inr (.inr ff)))))]) [2, 3, 4, 5, 6, 7, 8] [0, 1] hP hD hK hS hA rfl rfl rfl (by decide) (fun hPc hDc => va_runV (C := R_Ck) (As := [.ref q]) (rest := [.ref q, .ref ck]) ⟨hx, hb, hml, hown, hts⟩ (c_Ck_faultOf ck st g q o y n k fo fy fn fk L _ hrep hok) (⟨callB_of 1 hts (fs_g kin_Ck_faultOf) rfl rfl rfl (hts _ wi_4) (hts _ wi_178) (by decide +kernel) ⟨Nat.le_of_ble_eq_true rfl, Nat.le_of_ble_eq_true rfl⟩, hts _ wi_179, hts _ wi_180⟩) (fs_preV (q0 := 0) rfl rfl hPc hK hDc) rfl rfl hl.1 rfl (lv_room (Nat.le_of_ble_eq_true rfl)) d_Fs_place_29 ⟨Nat.le_of_ble_eq_true rfl, Nat.le_of_ble_eq_true rfl⟩) rfl (fun r29 u29 H locs hp29 hP hD hS => ?_)
  have hP : va_P (dC, dI) vwCl [(fs, .inr (4, [.ref fa, .ref sa, .int (nI stk), .ref wd, .ref ru, .ref ck, .ref mc])), (fa, .inl (cF, 4, .inr (.inr (.inr (.inr ff))))), (ck, .inr (0, [.ref st])), (st, .inl (cI, 40, .inl u29)), (q, .inr (1, [.ref o, .ref y, .ref n, .ref k, .int (nI L.length)])), (o, .inl (cI, 40, .inl fo)), (y, .inl (cI, 40, .inl fy)), (n, .inl (cI, 40, .inl fn)), (k, .inl (cI, 40, .inl fk))] H := hP
  have hD : va_D A [(fs, .inr (4, [.ref fa, .ref sa, .int (nI stk), .ref wd, .ref ru, .ref ck, .ref mc])), (fa, .inl (cF, 4, .inr (.inr (.inr (.inr ff))))), (ck, .inr (0, [.ref st])), (st, .inl (cI, 40, .inl u29)), (q, .inr (1, [.ref o, .ref y, .ref n, .ref k, .int (nI L.length)])), (o, .inl (cI, 40, .inl fo)), (y, .inl (cI, 40, .inl fy)), (n, .inl (cI, 40, .inl fn)), (k, .inl (cI, 40, .inl fk))] := hD
  subst hp29
  refine fs_calli (wc := [(ck, .inr (0, [.ref st])), (st, .inl (cI, 40, .inl u29)), (q, .inr (1, [.ref o, .ref y, .ref n, .ref k, .int (nI L.length)])), (o, .inl (cI, 40, .inl fo)), (y, .inl (cI, 40, .inl fy)), (n, .inl (cI, 40, .inl fn)), (k, .inl (cI, 40, .inl fk))]) (wr := [(fs, .inr (4, [.ref fa, .ref sa, .int (nI stk), .ref wd, .ref ru, .ref ck, .ref mc])), (fa, .inl (cF, 4, .inr (.inr (.inr (.inr ff)))))]) [2, 3, 4, 5, 6, 7, 8] [0, 1] hP hD hK hS hA rfl rfl rfl (by decide) (fun hPc hDc => va_runV (C := R_Ck) (As := [.ref q, .int (nI (fx_chk L % 8))]) (rest := []) ⟨hx, hb, hml, hown, hts⟩ (c_Ck_firstBreach ck st u29 q o y n k fo fy fn fk L (fx_chk L % 8) _ hrep hok (by omega) (fun h => fx_good_of7 h)) (⟨callB_of 2 hts (fs_g kin_Ck_firstBreach) rfl rfl rfl (hts _ wi_4) (hts _ wi_221) (by decide +kernel) ⟨Nat.le_of_ble_eq_true rfl, Nat.le_of_ble_eq_true rfl⟩, hts _ wi_183, hts _ wi_184⟩) (fs_preV (q0 := 0) rfl rfl hPc hK hDc) rfl rfl hl.1 rfl (lv_room (Nat.le_of_ble_eq_true rfl)) d_Fs_place_32 ⟨Nat.le_of_ble_eq_true rfl, Nat.le_of_ble_eq_true rfl⟩) rfl (fun r32 u H locs hp32 hP hD hS => ?_)
  have hP : va_P (dC, dI) vwCl [(fs, .inr (4, [.ref fa, .ref sa, .int (nI stk), .ref wd, .ref ru, .ref ck, .ref mc])), (fa, .inl (cF, 4, .inr (.inr (.inr (.inr ff))))), (ck, .inr (0, [.ref st])), (st, .inl (cI, 40, .inl u)), (q, .inr (1, [.ref o, .ref y, .ref n, .ref k, .int (nI L.length)])), (o, .inl (cI, 40, .inl fo)), (y, .inl (cI, 40, .inl fy)), (n, .inl (cI, 40, .inl fn)), (k, .inl (cI, 40, .inl fk))] H := hP
  have hD : va_D A [(fs, .inr (4, [.ref fa, .ref sa, .int (nI stk), .ref wd, .ref ru, .ref ck, .ref mc])), (fa, .inl (cF, 4, .inr (.inr (.inr (.inr ff))))), (ck, .inr (0, [.ref st])), (st, .inl (cI, 40, .inl u)), (q, .inr (1, [.ref o, .ref y, .ref n, .ref k, .int (nI L.length)])), (o, .inl (cI, 40, .inl fo)), (y, .inl (cI, 40, .inl fy)), (n, .inl (cI, 40, .inl fn)), (k, .inl (cI, 40, .inl fk))] := hD
  exact fs_iret hx hb hr hlocks hAe hK hS d_Fs_place_35 u (fx_plc_of hp32) hP hD

theorem d_Fs_set_0 : decode b_Fs_set 0 = .ok (.iload_n 1, 1) := by decide +kernel
theorem d_Fs_set_1 : decode b_Fs_set 1 = .ok (.ifCond .lt 9, 3) := by decide +kernel
theorem d_Fs_set_4 : decode b_Fs_set 4 = .ok (.iload_n 1, 1) := by decide +kernel
theorem d_Fs_set_5 : decode b_Fs_set 5 = .ok (.bipush 16, 2) := by decide +kernel
theorem d_Fs_set_7 : decode b_Fs_set 7 = .ok (.if_icmp .lt 5, 3) := by decide +kernel
theorem d_Fs_set_10 : decode b_Fs_set 10 = .ok (.iconst 0, 1) := by decide +kernel
theorem d_Fs_set_11 : decode b_Fs_set 11 = .ok (.ireturn, 1) := by decide +kernel
theorem d_Fs_set_12 : decode b_Fs_set 12 = .ok (.aload_n 0, 1) := by decide +kernel
theorem d_Fs_set_13 : decode b_Fs_set 13 = .ok (.getfield 23, 3) := by decide +kernel
theorem d_Fs_set_16 : decode b_Fs_set 16 = .ok (.iload_n 1, 1) := by decide +kernel
theorem d_Fs_set_17 : decode b_Fs_set 17 = .ok (.iaload, 1) := by decide +kernel
theorem d_Fs_set_18 : decode b_Fs_set 18 = .ok (.istore_n 3, 1) := by decide +kernel
theorem d_Fs_set_19 : decode b_Fs_set 19 = .ok (.aload_n 0, 1) := by decide +kernel
theorem d_Fs_set_20 : decode b_Fs_set 20 = .ok (.getfield 23, 3) := by decide +kernel
theorem d_Fs_set_23 : decode b_Fs_set 23 = .ok (.iload_n 1, 1) := by decide +kernel
theorem d_Fs_set_24 : decode b_Fs_set 24 = .ok (.iload_n 2, 1) := by decide +kernel
theorem d_Fs_set_25 : decode b_Fs_set 25 = .ok (.iastore, 1) := by decide +kernel
theorem d_Fs_set_26 : decode b_Fs_set 26 = .ok (.iload_n 3, 1) := by decide +kernel
theorem d_Fs_set_27 : decode b_Fs_set 27 = .ok (.ireturn, 1) := by decide +kernel
set_option maxHeartbeats 4000000 in
set_option maxRecDepth 100000 in
theorem c_Fs_set (fs fa sa stk wd ru ck mc : Nat) (w : Nat → Int32) (i : Nat) (v : Int32) (sz : Nat) (hi : i < 16) : fs_I l y_Fs_set (k_Fs_set :: fs_T) { frames := 0, cells := 0, slots := 0, locals := 0 } (dC, dI) vwCl (fs_tys cI cZ cJ cF) [.ref fs, .int (nI i), .int v] [(fs, .inr (4, [.ref fa, .ref sa, .int (nI stk), .ref wd, .ref ru, .ref ck, .ref mc])), (wd, .inl (cI, 16, .inl w))] sz (S := Unit) (fun r _ => r = w i) (fun _ => [(fs, .inr (4, [.ref fa, .ref sa, .int (nI stk), .ref wd, .ref ru, .ref ck, .ref mc])), (wd, .inl (cI, 16, .inl (upd w i v)))]) 0 0 := by
  refine fs_head (by decide) (Nat.le_of_ble_eq_true rfl) ?_
  intro p e s m below meth c A ls hx hb hr hts hown hlocks hin hml hK hP hD hS hA hAe hsz hl
  have hl : lv_has ls 4 [(0, .ref fs), (1, .int (nI i)), (2, .int v)] := hl
  have hown : s.vm.findClass R_Fs = some m.cls := hown
  refine lv_iload_n hx hb d_Fs_set_0 rfl (lv_at hl 1 rfl) ?_
  refine lv_if_lt (tgt := 10) hx hb d_Fs_set_1 (by decide) (fun hc => absurd hc (nI_pos (by omega))) (fun _ => ?_)
  refine lv_iload_n hx hb d_Fs_set_4 rfl (lv_at hl 1 rfl) ?_
  refine lv_bipush (v := nI 16) hx hb d_Fs_set_5 (by decide) ?_
  refine lv_icmp_lt (tgt := 12) hx hb d_Fs_set_7 (by decide) (fun hc7 => ?_) (fun hc7 => absurd (nI_lt hi (by decide)) hc7)
  rw [nI_ltI (by omega) (by omega)] at hc7
  refine lv_aload_n hx hb d_Fs_set_12 rfl (lv_at hl 0 rfl) ?_
  refine va_get (D := (dC, dI)) (ci := 4) (v := .ref wd) (C := R_Fs) (T := T_Fs) (N := 7) hx hb hts uin_Fs hown hK hP 0 rfl rfl 3 (by decide) (hts _ wi_117) (fun _ h9 => h9) rfl d_Fs_set_13 ?_
  refine lv_iload_n hx hb d_Fs_set_16 rfl (lv_at hl 1 rfl) ?_
  refine fs_iald (v := w i) hx hb hK hP 1 0 rfl rfl i rfl (by decide) (by omega) rfl d_Fs_set_17 ?_
  refine lv_istore_n hx hb d_Fs_set_18 rfl hl (by decide) (lv' := [(3, .int (w i)), (0, .ref fs), (1, .int (nI i)), (2, .int v)]) rfl (fun ls hl => ?_)
  refine lv_aload_n hx hb d_Fs_set_19 rfl (lv_at hl 1 rfl) ?_
  refine va_get (D := (dC, dI)) (ci := 4) (v := .ref wd) (C := R_Fs) (T := T_Fs) (N := 7) hx hb hts uin_Fs hown hK hP 0 rfl rfl 3 (by decide) (hts _ wi_117) (fun _ h9 => h9) rfl d_Fs_set_20 ?_
  refine lv_iload_n hx hb d_Fs_set_23 rfl (lv_at hl 2 rfl) ?_
  refine lv_iload_n hx hb d_Fs_set_24 rfl (lv_at hl 3 rfl) ?_
  refine fs_iast hx hb hK hP hD hS 1 0 rfl rfl i rfl (by decide) (by omega) d_Fs_set_25 (fun H locs hP hD hS => ?_)
  have hP : va_P (dC, dI) vwCl [(fs, .inr (4, [.ref fa, .ref sa, .int (nI stk), .ref wd, .ref ru, .ref ck, .ref mc])), (wd, .inl (cI, 16, .inl (upd w i v)))] H := hP
  have hD : va_D A [(fs, .inr (4, [.ref fa, .ref sa, .int (nI stk), .ref wd, .ref ru, .ref ck, .ref mc])), (wd, .inl (cI, 16, .inl (upd w i v)))] := hD
  refine lv_iload_n hx hb d_Fs_set_26 rfl (lv_at hl 0 rfl) ?_
  exact fs_iret hx hb hr hlocks hAe hK hS d_Fs_set_27 () (rfl) hP hD

set_option maxHeartbeats 4000000 in
set_option maxRecDepth 100000 in
theorem c_Fs_setX (fs fa sa stk wd ru ck mc : Nat) (i v : Int32) (sz : Nat) (hi : ∀ t, t < 16 → i ≠ nI t) : fs_I l y_Fs_set (k_Fs_set :: fs_T) { frames := 0, cells := 0, slots := 0, locals := 0 } (dC, dI) vwCl (fs_tys cI cZ cJ cF) [.ref fs, .int i, .int v] [(fs, .inr (4, [.ref fa, .ref sa, .int (nI stk), .ref wd, .ref ru, .ref ck, .ref mc]))] sz (S := Unit) (fun r _ => r = nI 0) (fun _ => [(fs, .inr (4, [.ref fa, .ref sa, .int (nI stk), .ref wd, .ref ru, .ref ck, .ref mc]))]) 0 0 := by
  refine fs_head (by decide) (Nat.le_of_ble_eq_true rfl) ?_
  intro p e s m below meth c A ls hx hb hr hts hown hlocks hin hml hK hP hD hS hA hAe hsz hl
  have hl : lv_has ls 4 [(0, .ref fs), (1, .int i), (2, .int v)] := hl
  have hown : s.vm.findClass R_Fs = some m.cls := hown
  refine lv_iload_n hx hb d_Fs_set_0 rfl (lv_at hl 1 rfl) ?_
  refine lv_if_lt (tgt := 10) hx hb d_Fs_set_1 (by decide) (fun hc1 => ?_) (fun hc1 => ?_)
  · rw [fs_lt0] at hc1
    refine lv_iconst (v := nI 0) hx hb d_Fs_set_10 (by decide) ?_
    exact fs_iret hx hb hr hlocks hAe hK hS d_Fs_set_11 () (rfl) hP hD
  rw [fs_lt0] at hc1
  refine lv_iload_n hx hb d_Fs_set_4 rfl (lv_at hl 1 rfl) ?_
  refine lv_bipush (v := nI 16) hx hb d_Fs_set_5 (by decide) ?_
  refine lv_icmp_lt (tgt := 12) hx hb d_Fs_set_7 (by decide) (fun hc7 => ?_) (fun hc7 => ?_)
  · rw [fs_ltN (by omega)] at hc7
    obtain ⟨t, ht, e⟩ := fs_of (x := i) (n := 16) (by decide) (by omega) (by omega)
    exact absurd e (hi t ht)
  rw [fs_ltN (by omega)] at hc7
  refine lv_iconst (v := nI 0) hx hb d_Fs_set_10 (by decide) ?_
  exact fs_iret hx hb hr hlocks hAe hK hS d_Fs_set_11 () (rfl) hP hD

theorem d_Fs_steps_0 : decode b_Fs_steps 0 = .ok (.aload_n 0, 1) := by decide +kernel
theorem d_Fs_steps_1 : decode b_Fs_steps 1 = .ok (.getfield 44, 3) := by decide +kernel
theorem d_Fs_steps_4 : decode b_Fs_steps 4 = .ok (.getfield 97, 3) := by decide +kernel
theorem d_Fs_steps_7 : decode b_Fs_steps 7 = .ok (.ireturn, 1) := by decide +kernel
set_option maxHeartbeats 4000000 in
set_option maxRecDepth 100000 in
theorem c_Fs_steps (fs fa sa stk wd ru ck mc : Nat) (cl : Nat) (ma mx dn : Int32) (sz : Nat)  : fs_I l y_Fs_steps (k_Fs_steps :: fs_T) { frames := 0, cells := 0, slots := 0, locals := 0 } (dC, dI) vwCl (fs_tys cI cZ cJ cF) [.ref fs] [(fs, .inr (4, [.ref fa, .ref sa, .int (nI stk), .ref wd, .ref ru, .ref ck, .ref mc])), (mc, .inr (2, [.ref cl, .int ma, .int mx, .int dn]))] sz (S := Unit) (fun r _ => r = dn) (fun _ => [(fs, .inr (4, [.ref fa, .ref sa, .int (nI stk), .ref wd, .ref ru, .ref ck, .ref mc])), (mc, .inr (2, [.ref cl, .int ma, .int mx, .int dn]))]) 0 0 := by
  refine fs_head (by decide) (Nat.le_of_ble_eq_true rfl) ?_
  intro p e s m below meth c A ls hx hb hr hts hown hlocks hin hml hK hP hD hS hA hAe hsz hl
  have hl : lv_has ls 1 [(0, .ref fs)] := hl
  have hown : s.vm.findClass R_Fs = some m.cls := hown
  refine lv_aload_n hx hb d_Fs_steps_0 rfl (lv_at hl 0 rfl) ?_
  refine va_get (D := (dC, dI)) (ci := 4) (v := .ref mc) (C := R_Fs) (T := T_Fs) (N := 7) hx hb hts uin_Fs hown hK hP 0 rfl rfl 6 (by decide) (hts _ wi_120) (fun _ h9 => h9) rfl d_Fs_steps_1 ?_
  refine va_get (D := (dC, dI)) (ci := 2) (v := .int dn) (C := R_Mc) (T := T_Mc) (N := 4) hx hb hts uin_Mc hown hK hP 1 rfl rfl 3 (by decide) (hts _ wi_104) (fun _ h9 => h9) rfl d_Fs_steps_4 ?_
  exact fs_iret hx hb hr hlocks hAe hK hS d_Fs_steps_7 () (rfl) hP hD

theorem d_Fs_rule_0 : decode b_Fs_rule 0 = .ok (.iload_n 2, 1) := by decide +kernel
theorem d_Fs_rule_1 : decode b_Fs_rule 1 = .ok (.iconst (-1), 1) := by decide +kernel
theorem d_Fs_rule_2 : decode b_Fs_rule 2 = .ok (.if_icmp .eq 15, 3) := by decide +kernel
theorem d_Fs_rule_5 : decode b_Fs_rule 5 = .ok (.iload_n 2, 1) := by decide +kernel
theorem d_Fs_rule_6 : decode b_Fs_rule 6 = .ok (.ifCond .lt 9, 3) := by decide +kernel
theorem d_Fs_rule_9 : decode b_Fs_rule 9 = .ok (.iload_n 2, 1) := by decide +kernel
theorem d_Fs_rule_10 : decode b_Fs_rule 10 = .ok (.bipush 12, 2) := by decide +kernel
theorem d_Fs_rule_12 : decode b_Fs_rule 12 = .ok (.if_icmp .lt 5, 3) := by decide +kernel
theorem d_Fs_rule_15 : decode b_Fs_rule 15 = .ok (.iconst (-1), 1) := by decide +kernel
theorem d_Fs_rule_16 : decode b_Fs_rule 16 = .ok (.ireturn, 1) := by decide +kernel
theorem d_Fs_rule_17 : decode b_Fs_rule 17 = .ok (.aload_n 0, 1) := by decide +kernel
theorem d_Fs_rule_18 : decode b_Fs_rule 18 = .ok (.getfield 30, 3) := by decide +kernel
theorem d_Fs_rule_21 : decode b_Fs_rule 21 = .ok (.iload_n 1, 1) := by decide +kernel
theorem d_Fs_rule_22 : decode b_Fs_rule 22 = .ok (.iload_n 2, 1) := by decide +kernel
theorem d_Fs_rule_23 : decode b_Fs_rule 23 = .ok (.iload_n 3, 1) := by decide +kernel
theorem d_Fs_rule_24 : decode b_Fs_rule 24 = .ok (.iload 4, 2) := by decide +kernel
theorem d_Fs_rule_26 : decode b_Fs_rule 26 = .ok (.invokevirtual 100, 3) := by decide +kernel
theorem d_Fs_rule_29 : decode b_Fs_rule 29 = .ok (.ireturn, 1) := by decide +kernel
set_option maxHeartbeats 4000000 in
set_option maxRecDepth 100000 in
theorem c_Fs_rule (fs fa sa stk wd ck mc : Nat) (ru rc ra rm rv cnt : Nat) (gc ga gm gv : Nat → Int32) (v1 v2 v3 v4 : Int32) (sz : Nat) (harg : -1 ≤ v2.toInt ∧ v2.toInt < 12) (hcnt : cnt < 8) : fs_I l y_Fs_rule (k_Fs_rule :: fs_T) { frames := 1, cells := 0, slots := 0, locals := 24 } (dC, dI) vwCl (fs_tys cI cZ cJ cF) [.ref fs, .int v1, .int v2, .int v3, .int v4] [(fs, .inr (4, [.ref fa, .ref sa, .int (nI stk), .ref wd, .ref ru, .ref ck, .ref mc])), (ru, .inr (3, [.ref rc, .ref ra, .ref rm, .ref rv, .int (nI cnt)])), (rc, .inl (cI, 8, .inl gc)), (ra, .inl (cI, 8, .inl ga)), (rm, .inl (cI, 8, .inl gm)), (rv, .inl (cI, 8, .inl gv))] sz (S := Unit) (fun r _ => r = nI (cnt + 1)) (fun _ => [(fs, .inr (4, [.ref fa, .ref sa, .int (nI stk), .ref wd, .ref ru, .ref ck, .ref mc])), (ru, .inr (3, [.ref rc, .ref ra, .ref rm, .ref rv, .int (nI (cnt + 1))])), (rc, .inl (cI, 8, .inl (upd gc cnt v1))), (ra, .inl (cI, 8, .inl (upd ga cnt v2))), (rm, .inl (cI, 8, .inl (upd gm cnt v3))), (rv, .inl (cI, 8, .inl (upd gv cnt v4)))]) 0 0 := by
  refine fs_head (by decide) (Nat.le_of_ble_eq_true rfl) ?_
  intro p e s m below meth c A ls hx hb hr hts hown hlocks hin hml hK hP hD hS hA hAe hsz hl
  have hl : lv_has ls 5 [(0, .ref fs), (1, .int v1), (2, .int v2), (3, .int v3), (4, .int v4)] := hl
  have hown : s.vm.findClass R_Fs = some m.cls := hown
  refine lv_iload_n hx hb d_Fs_rule_0 rfl (lv_at hl 2 rfl) ?_
  refine lv_iconst (v := (-1)) hx hb d_Fs_rule_1 (by decide) ?_
  refine lv_icmp_eq (tgt := 17) hx hb d_Fs_rule_2 (by decide) (fun hc2 => ?_) (fun hc2 => ?_)
  · refine lv_aload_n hx hb d_Fs_rule_17 rfl (lv_at hl 0 rfl) ?_
    refine va_get (D := (dC, dI)) (ci := 4) (v := .ref ru) (C := R_Fs) (T := T_Fs) (N := 7) hx hb hts uin_Fs hown hK hP 0 rfl rfl 4 (by decide) (hts _ wi_118) (fun _ h9 => h9) rfl d_Fs_rule_18 ?_
    refine lv_iload_n hx hb d_Fs_rule_21 rfl (lv_at hl 1 rfl) ?_
    refine lv_iload_n hx hb d_Fs_rule_22 rfl (lv_at hl 2 rfl) ?_
    refine lv_iload_n hx hb d_Fs_rule_23 rfl (lv_at hl 3 rfl) ?_
    refine lv_iload hx hb d_Fs_rule_24 (lv_at hl 4 rfl) ?_
    refine fs_calli (wc := [(ru, .inr (3, [.ref rc, .ref ra, .ref rm, .ref rv, .int (nI cnt)])), (rc, .inl (cI, 8, .inl gc)), (ra, .inl (cI, 8, .inl ga)), (rm, .inl (cI, 8, .inl gm)), (rv, .inl (cI, 8, .inl gv))]) (wr := [(fs, .inr (4, [.ref fa, .ref sa, .int (nI stk), .ref wd, .ref ru, .ref ck, .ref mc]))]) [1, 2, 3, 4, 5] [0] hP hD hK hS hA rfl rfl rfl (by decide) (fun hPc hDc => va_runV (C := R_Ru) (As := [.int v1, .int v2, .int v3, .int v4]) (rest := []) ⟨hx, hb, hml, hown, hts⟩ (c_Ru_append ru rc ra rm rv cnt gc ga gm gv v1 v2 v3 v4 _ (by omega)) (⟨callB_of 4 hts (fs_g kin_Ru_append) rfl rfl rfl (hts _ wi_3) (hts _ wi_234) (by decide +kernel) ⟨Nat.le_of_ble_eq_true rfl, Nat.le_of_ble_eq_true rfl⟩, hts _ wi_235, hts _ wi_236⟩) (fs_preV (q0 := 0) rfl rfl hPc hK hDc) rfl rfl hl.1 rfl (lv_room (Nat.le_of_ble_eq_true rfl)) d_Fs_rule_26 ⟨Nat.le_of_ble_eq_true rfl, Nat.le_of_ble_eq_true rfl⟩) rfl (fun r26 _ H locs hp26 hP hD hS => ?_)
    have hP : va_P (dC, dI) vwCl [(fs, .inr (4, [.ref fa, .ref sa, .int (nI stk), .ref wd, .ref ru, .ref ck, .ref mc])), (ru, .inr (3, [.ref rc, .ref ra, .ref rm, .ref rv, .int (nI (cnt + 1))])), (rc, .inl (cI, 8, .inl (upd gc cnt v1))), (ra, .inl (cI, 8, .inl (upd ga cnt v2))), (rm, .inl (cI, 8, .inl (upd gm cnt v3))), (rv, .inl (cI, 8, .inl (upd gv cnt v4)))] H := hP
    have hD : va_D A [(fs, .inr (4, [.ref fa, .ref sa, .int (nI stk), .ref wd, .ref ru, .ref ck, .ref mc])), (ru, .inr (3, [.ref rc, .ref ra, .ref rm, .ref rv, .int (nI (cnt + 1))])), (rc, .inl (cI, 8, .inl (upd gc cnt v1))), (ra, .inl (cI, 8, .inl (upd ga cnt v2))), (rm, .inl (cI, 8, .inl (upd gm cnt v3))), (rv, .inl (cI, 8, .inl (upd gv cnt v4)))] := hD
    subst hp26
    exact fs_iret hx hb hr hlocks hAe hK hS d_Fs_rule_29 () (rfl) hP hD
  rw [← Int32.toInt_inj, show ((-1) : Int32).toInt = -1 from by decide] at hc2
  refine lv_iload_n hx hb d_Fs_rule_5 rfl (lv_at hl 2 rfl) ?_
  refine lv_if_lt (tgt := 15) hx hb d_Fs_rule_6 (by decide) (fun hc6 => ?_) (fun hc6 => ?_)
  · rw [fs_lt0] at hc6
    exact absurd harg (by omega)
  rw [fs_lt0] at hc6
  refine lv_iload_n hx hb d_Fs_rule_9 rfl (lv_at hl 2 rfl) ?_
  refine lv_bipush (v := nI 12) hx hb d_Fs_rule_10 (by decide) ?_
  refine lv_icmp_lt (tgt := 17) hx hb d_Fs_rule_12 (by decide) (fun hc12 => ?_) (fun hc12 => ?_)
  · rw [fs_ltN (by omega)] at hc12
    refine lv_aload_n hx hb d_Fs_rule_17 rfl (lv_at hl 0 rfl) ?_
    refine va_get (D := (dC, dI)) (ci := 4) (v := .ref ru) (C := R_Fs) (T := T_Fs) (N := 7) hx hb hts uin_Fs hown hK hP 0 rfl rfl 4 (by decide) (hts _ wi_118) (fun _ h9 => h9) rfl d_Fs_rule_18 ?_
    refine lv_iload_n hx hb d_Fs_rule_21 rfl (lv_at hl 1 rfl) ?_
    refine lv_iload_n hx hb d_Fs_rule_22 rfl (lv_at hl 2 rfl) ?_
    refine lv_iload_n hx hb d_Fs_rule_23 rfl (lv_at hl 3 rfl) ?_
    refine lv_iload hx hb d_Fs_rule_24 (lv_at hl 4 rfl) ?_
    refine fs_calli (wc := [(ru, .inr (3, [.ref rc, .ref ra, .ref rm, .ref rv, .int (nI cnt)])), (rc, .inl (cI, 8, .inl gc)), (ra, .inl (cI, 8, .inl ga)), (rm, .inl (cI, 8, .inl gm)), (rv, .inl (cI, 8, .inl gv))]) (wr := [(fs, .inr (4, [.ref fa, .ref sa, .int (nI stk), .ref wd, .ref ru, .ref ck, .ref mc]))]) [1, 2, 3, 4, 5] [0] hP hD hK hS hA rfl rfl rfl (by decide) (fun hPc hDc => va_runV (C := R_Ru) (As := [.int v1, .int v2, .int v3, .int v4]) (rest := []) ⟨hx, hb, hml, hown, hts⟩ (c_Ru_append ru rc ra rm rv cnt gc ga gm gv v1 v2 v3 v4 _ (by omega)) (⟨callB_of 4 hts (fs_g kin_Ru_append) rfl rfl rfl (hts _ wi_3) (hts _ wi_234) (by decide +kernel) ⟨Nat.le_of_ble_eq_true rfl, Nat.le_of_ble_eq_true rfl⟩, hts _ wi_235, hts _ wi_236⟩) (fs_preV (q0 := 0) rfl rfl hPc hK hDc) rfl rfl hl.1 rfl (lv_room (Nat.le_of_ble_eq_true rfl)) d_Fs_rule_26 ⟨Nat.le_of_ble_eq_true rfl, Nat.le_of_ble_eq_true rfl⟩) rfl (fun r26 _ H locs hp26 hP hD hS => ?_)
    have hP : va_P (dC, dI) vwCl [(fs, .inr (4, [.ref fa, .ref sa, .int (nI stk), .ref wd, .ref ru, .ref ck, .ref mc])), (ru, .inr (3, [.ref rc, .ref ra, .ref rm, .ref rv, .int (nI (cnt + 1))])), (rc, .inl (cI, 8, .inl (upd gc cnt v1))), (ra, .inl (cI, 8, .inl (upd ga cnt v2))), (rm, .inl (cI, 8, .inl (upd gm cnt v3))), (rv, .inl (cI, 8, .inl (upd gv cnt v4)))] H := hP
    have hD : va_D A [(fs, .inr (4, [.ref fa, .ref sa, .int (nI stk), .ref wd, .ref ru, .ref ck, .ref mc])), (ru, .inr (3, [.ref rc, .ref ra, .ref rm, .ref rv, .int (nI (cnt + 1))])), (rc, .inl (cI, 8, .inl (upd gc cnt v1))), (ra, .inl (cI, 8, .inl (upd ga cnt v2))), (rm, .inl (cI, 8, .inl (upd gm cnt v3))), (rv, .inl (cI, 8, .inl (upd gv cnt v4)))] := hD
    subst hp26
    exact fs_iret hx hb hr hlocks hAe hK hS d_Fs_rule_29 () (rfl) hP hD
  rw [fs_ltN (by omega)] at hc12
  exact absurd harg (by omega)

set_option maxHeartbeats 4000000 in
set_option maxRecDepth 100000 in
theorem c_Fs_ruleF (fs fa sa stk wd ck mc : Nat) (ru rc ra rm rv : Nat) (gc ga gm gv : Nat → Int32) (v1 v2 v3 v4 : Int32) (sz : Nat) (harg : -1 ≤ v2.toInt ∧ v2.toInt < 12) : fs_I l y_Fs_rule (k_Fs_rule :: fs_T) { frames := 1, cells := 0, slots := 0, locals := 24 } (dC, dI) vwCl (fs_tys cI cZ cJ cF) [.ref fs, .int v1, .int v2, .int v3, .int v4] [(fs, .inr (4, [.ref fa, .ref sa, .int (nI stk), .ref wd, .ref ru, .ref ck, .ref mc])), (ru, .inr (3, [.ref rc, .ref ra, .ref rm, .ref rv, .int (nI 8)])), (rc, .inl (cI, 8, .inl gc)), (ra, .inl (cI, 8, .inl ga)), (rm, .inl (cI, 8, .inl gm)), (rv, .inl (cI, 8, .inl gv))] sz (S := Unit) (fun r _ => r = (-2)) (fun _ => [(fs, .inr (4, [.ref fa, .ref sa, .int (nI stk), .ref wd, .ref ru, .ref ck, .ref mc])), (ru, .inr (3, [.ref rc, .ref ra, .ref rm, .ref rv, .int (nI 8)])), (rc, .inl (cI, 8, .inl gc)), (ra, .inl (cI, 8, .inl ga)), (rm, .inl (cI, 8, .inl gm)), (rv, .inl (cI, 8, .inl gv))]) 0 0 := by
  refine fs_head (by decide) (Nat.le_of_ble_eq_true rfl) ?_
  intro p e s m below meth c A ls hx hb hr hts hown hlocks hin hml hK hP hD hS hA hAe hsz hl
  have hl : lv_has ls 5 [(0, .ref fs), (1, .int v1), (2, .int v2), (3, .int v3), (4, .int v4)] := hl
  have hown : s.vm.findClass R_Fs = some m.cls := hown
  refine lv_iload_n hx hb d_Fs_rule_0 rfl (lv_at hl 2 rfl) ?_
  refine lv_iconst (v := (-1)) hx hb d_Fs_rule_1 (by decide) ?_
  refine lv_icmp_eq (tgt := 17) hx hb d_Fs_rule_2 (by decide) (fun hc2 => ?_) (fun hc2 => ?_)
  · refine lv_aload_n hx hb d_Fs_rule_17 rfl (lv_at hl 0 rfl) ?_
    refine va_get (D := (dC, dI)) (ci := 4) (v := .ref ru) (C := R_Fs) (T := T_Fs) (N := 7) hx hb hts uin_Fs hown hK hP 0 rfl rfl 4 (by decide) (hts _ wi_118) (fun _ h9 => h9) rfl d_Fs_rule_18 ?_
    refine lv_iload_n hx hb d_Fs_rule_21 rfl (lv_at hl 1 rfl) ?_
    refine lv_iload_n hx hb d_Fs_rule_22 rfl (lv_at hl 2 rfl) ?_
    refine lv_iload_n hx hb d_Fs_rule_23 rfl (lv_at hl 3 rfl) ?_
    refine lv_iload hx hb d_Fs_rule_24 (lv_at hl 4 rfl) ?_
    refine fs_calli (wc := [(ru, .inr (3, [.ref rc, .ref ra, .ref rm, .ref rv, .int (nI 8)])), (rc, .inl (cI, 8, .inl gc)), (ra, .inl (cI, 8, .inl ga)), (rm, .inl (cI, 8, .inl gm)), (rv, .inl (cI, 8, .inl gv))]) (wr := [(fs, .inr (4, [.ref fa, .ref sa, .int (nI stk), .ref wd, .ref ru, .ref ck, .ref mc]))]) [1, 2, 3, 4, 5] [0] hP hD hK hS hA rfl rfl rfl (by decide) (fun hPc hDc => va_runV (C := R_Ru) (As := [.int v1, .int v2, .int v3, .int v4]) (rest := []) ⟨hx, hb, hml, hown, hts⟩ (c_Ru_appendF ru rc ra rm rv gc ga gm gv v1 v2 v3 v4 _) (⟨callB_of 4 hts (fs_g kin_Ru_append) rfl rfl rfl (hts _ wi_3) (hts _ wi_234) (by decide +kernel) ⟨Nat.le_of_ble_eq_true rfl, Nat.le_of_ble_eq_true rfl⟩, hts _ wi_235, hts _ wi_236⟩) (fs_preV (q0 := 0) rfl rfl hPc hK hDc) rfl rfl hl.1 rfl (lv_room (Nat.le_of_ble_eq_true rfl)) d_Fs_rule_26 ⟨Nat.le_of_ble_eq_true rfl, Nat.le_of_ble_eq_true rfl⟩) rfl (fun r26 _ H locs hp26 hP hD hS => ?_)
    have hP : va_P (dC, dI) vwCl [(fs, .inr (4, [.ref fa, .ref sa, .int (nI stk), .ref wd, .ref ru, .ref ck, .ref mc])), (ru, .inr (3, [.ref rc, .ref ra, .ref rm, .ref rv, .int (nI 8)])), (rc, .inl (cI, 8, .inl gc)), (ra, .inl (cI, 8, .inl ga)), (rm, .inl (cI, 8, .inl gm)), (rv, .inl (cI, 8, .inl gv))] H := hP
    have hD : va_D A [(fs, .inr (4, [.ref fa, .ref sa, .int (nI stk), .ref wd, .ref ru, .ref ck, .ref mc])), (ru, .inr (3, [.ref rc, .ref ra, .ref rm, .ref rv, .int (nI 8)])), (rc, .inl (cI, 8, .inl gc)), (ra, .inl (cI, 8, .inl ga)), (rm, .inl (cI, 8, .inl gm)), (rv, .inl (cI, 8, .inl gv))] := hD
    subst hp26
    exact fs_iret hx hb hr hlocks hAe hK hS d_Fs_rule_29 () (rfl) hP hD
  rw [← Int32.toInt_inj, show ((-1) : Int32).toInt = -1 from by decide] at hc2
  refine lv_iload_n hx hb d_Fs_rule_5 rfl (lv_at hl 2 rfl) ?_
  refine lv_if_lt (tgt := 15) hx hb d_Fs_rule_6 (by decide) (fun hc6 => ?_) (fun hc6 => ?_)
  · rw [fs_lt0] at hc6
    exact absurd harg (by omega)
  rw [fs_lt0] at hc6
  refine lv_iload_n hx hb d_Fs_rule_9 rfl (lv_at hl 2 rfl) ?_
  refine lv_bipush (v := nI 12) hx hb d_Fs_rule_10 (by decide) ?_
  refine lv_icmp_lt (tgt := 17) hx hb d_Fs_rule_12 (by decide) (fun hc12 => ?_) (fun hc12 => ?_)
  · rw [fs_ltN (by omega)] at hc12
    refine lv_aload_n hx hb d_Fs_rule_17 rfl (lv_at hl 0 rfl) ?_
    refine va_get (D := (dC, dI)) (ci := 4) (v := .ref ru) (C := R_Fs) (T := T_Fs) (N := 7) hx hb hts uin_Fs hown hK hP 0 rfl rfl 4 (by decide) (hts _ wi_118) (fun _ h9 => h9) rfl d_Fs_rule_18 ?_
    refine lv_iload_n hx hb d_Fs_rule_21 rfl (lv_at hl 1 rfl) ?_
    refine lv_iload_n hx hb d_Fs_rule_22 rfl (lv_at hl 2 rfl) ?_
    refine lv_iload_n hx hb d_Fs_rule_23 rfl (lv_at hl 3 rfl) ?_
    refine lv_iload hx hb d_Fs_rule_24 (lv_at hl 4 rfl) ?_
    refine fs_calli (wc := [(ru, .inr (3, [.ref rc, .ref ra, .ref rm, .ref rv, .int (nI 8)])), (rc, .inl (cI, 8, .inl gc)), (ra, .inl (cI, 8, .inl ga)), (rm, .inl (cI, 8, .inl gm)), (rv, .inl (cI, 8, .inl gv))]) (wr := [(fs, .inr (4, [.ref fa, .ref sa, .int (nI stk), .ref wd, .ref ru, .ref ck, .ref mc]))]) [1, 2, 3, 4, 5] [0] hP hD hK hS hA rfl rfl rfl (by decide) (fun hPc hDc => va_runV (C := R_Ru) (As := [.int v1, .int v2, .int v3, .int v4]) (rest := []) ⟨hx, hb, hml, hown, hts⟩ (c_Ru_appendF ru rc ra rm rv gc ga gm gv v1 v2 v3 v4 _) (⟨callB_of 4 hts (fs_g kin_Ru_append) rfl rfl rfl (hts _ wi_3) (hts _ wi_234) (by decide +kernel) ⟨Nat.le_of_ble_eq_true rfl, Nat.le_of_ble_eq_true rfl⟩, hts _ wi_235, hts _ wi_236⟩) (fs_preV (q0 := 0) rfl rfl hPc hK hDc) rfl rfl hl.1 rfl (lv_room (Nat.le_of_ble_eq_true rfl)) d_Fs_rule_26 ⟨Nat.le_of_ble_eq_true rfl, Nat.le_of_ble_eq_true rfl⟩) rfl (fun r26 _ H locs hp26 hP hD hS => ?_)
    have hP : va_P (dC, dI) vwCl [(fs, .inr (4, [.ref fa, .ref sa, .int (nI stk), .ref wd, .ref ru, .ref ck, .ref mc])), (ru, .inr (3, [.ref rc, .ref ra, .ref rm, .ref rv, .int (nI 8)])), (rc, .inl (cI, 8, .inl gc)), (ra, .inl (cI, 8, .inl ga)), (rm, .inl (cI, 8, .inl gm)), (rv, .inl (cI, 8, .inl gv))] H := hP
    have hD : va_D A [(fs, .inr (4, [.ref fa, .ref sa, .int (nI stk), .ref wd, .ref ru, .ref ck, .ref mc])), (ru, .inr (3, [.ref rc, .ref ra, .ref rm, .ref rv, .int (nI 8)])), (rc, .inl (cI, 8, .inl gc)), (ra, .inl (cI, 8, .inl ga)), (rm, .inl (cI, 8, .inl gm)), (rv, .inl (cI, 8, .inl gv))] := hD
    subst hp26
    exact fs_iret hx hb hr hlocks hAe hK hS d_Fs_rule_29 () (rfl) hP hD
  rw [fs_ltN (by omega)] at hc12
  exact absurd harg (by omega)

set_option maxHeartbeats 4000000 in
set_option maxRecDepth 100000 in
theorem c_Fs_ruleX (fs fa sa stk wd ru ck mc : Nat) (v1 v2 v3 v4 : Int32) (sz : Nat) (harg : ¬ (-1 ≤ v2.toInt ∧ v2.toInt < 12)) : fs_I l y_Fs_rule (k_Fs_rule :: fs_T) { frames := 1, cells := 0, slots := 0, locals := 24 } (dC, dI) vwCl (fs_tys cI cZ cJ cF) [.ref fs, .int v1, .int v2, .int v3, .int v4] [(fs, .inr (4, [.ref fa, .ref sa, .int (nI stk), .ref wd, .ref ru, .ref ck, .ref mc]))] sz (S := Unit) (fun r _ => r = (-1)) (fun _ => [(fs, .inr (4, [.ref fa, .ref sa, .int (nI stk), .ref wd, .ref ru, .ref ck, .ref mc]))]) 0 0 := by
  refine fs_head (by decide) (Nat.le_of_ble_eq_true rfl) ?_
  intro p e s m below meth c A ls hx hb hr hts hown hlocks hin hml hK hP hD hS hA hAe hsz hl
  have hl : lv_has ls 5 [(0, .ref fs), (1, .int v1), (2, .int v2), (3, .int v3), (4, .int v4)] := hl
  have hown : s.vm.findClass R_Fs = some m.cls := hown
  refine lv_iload_n hx hb d_Fs_rule_0 rfl (lv_at hl 2 rfl) ?_
  refine lv_iconst (v := (-1)) hx hb d_Fs_rule_1 (by decide) ?_
  refine lv_icmp_eq (tgt := 17) hx hb d_Fs_rule_2 (by decide) (fun hc2 => ?_) (fun hc2 => ?_)
  · rw [← Int32.toInt_inj, show ((-1) : Int32).toInt = -1 from by decide] at hc2
    exact absurd harg (by omega)
  rw [← Int32.toInt_inj, show ((-1) : Int32).toInt = -1 from by decide] at hc2
  refine lv_iload_n hx hb d_Fs_rule_5 rfl (lv_at hl 2 rfl) ?_
  refine lv_if_lt (tgt := 15) hx hb d_Fs_rule_6 (by decide) (fun hc6 => ?_) (fun hc6 => ?_)
  · rw [fs_lt0] at hc6
    refine lv_iconst (v := (-1)) hx hb d_Fs_rule_15 (by decide) ?_
    exact fs_iret hx hb hr hlocks hAe hK hS d_Fs_rule_16 () (rfl) hP hD
  rw [fs_lt0] at hc6
  refine lv_iload_n hx hb d_Fs_rule_9 rfl (lv_at hl 2 rfl) ?_
  refine lv_bipush (v := nI 12) hx hb d_Fs_rule_10 (by decide) ?_
  refine lv_icmp_lt (tgt := 17) hx hb d_Fs_rule_12 (by decide) (fun hc12 => ?_) (fun hc12 => ?_)
  · rw [fs_ltN (by omega)] at hc12
    exact absurd harg (by omega)
  rw [fs_ltN (by omega)] at hc12
  refine lv_iconst (v := (-1)) hx hb d_Fs_rule_15 (by decide) ?_
  exact fs_iret hx hb hr hlocks hAe hK hS d_Fs_rule_16 () (rfl) hP hD

theorem d_Fs_forget_0 : decode b_Fs_forget 0 = .ok (.aload_n 0, 1) := by decide +kernel
theorem d_Fs_forget_1 : decode b_Fs_forget 1 = .ok (.getfield 30, 3) := by decide +kernel
theorem d_Fs_forget_4 : decode b_Fs_forget 4 = .ok (.invokevirtual 101, 3) := by decide +kernel
theorem d_Fs_forget_7 : decode b_Fs_forget 7 = .ok (.ireturn, 1) := by decide +kernel
set_option maxHeartbeats 4000000 in
set_option maxRecDepth 100000 in
theorem c_Fs_forget (fs fa sa stk wd ru ck mc rc ra rm rv cnt : Nat) (sz : Nat)  : fs_I l y_Fs_forget (k_Fs_forget :: fs_T) { frames := 1, cells := 0, slots := 0, locals := 21 } (dC, dI) vwCl (fs_tys cI cZ cJ cF) [.ref fs] [(fs, .inr (4, [.ref fa, .ref sa, .int (nI stk), .ref wd, .ref ru, .ref ck, .ref mc])), (ru, .inr (3, [.ref rc, .ref ra, .ref rm, .ref rv, .int (nI cnt)]))] sz (S := Unit) (fun r _ => r = nI cnt) (fun _ => [(fs, .inr (4, [.ref fa, .ref sa, .int (nI stk), .ref wd, .ref ru, .ref ck, .ref mc])), (ru, .inr (3, [.ref rc, .ref ra, .ref rm, .ref rv, .int (nI 0)]))]) 0 0 := by
  refine fs_head (by decide) (Nat.le_of_ble_eq_true rfl) ?_
  intro p e s m below meth c A ls hx hb hr hts hown hlocks hin hml hK hP hD hS hA hAe hsz hl
  have hl : lv_has ls 1 [(0, .ref fs)] := hl
  have hown : s.vm.findClass R_Fs = some m.cls := hown
  refine lv_aload_n hx hb d_Fs_forget_0 rfl (lv_at hl 0 rfl) ?_
  refine va_get (D := (dC, dI)) (ci := 4) (v := .ref ru) (C := R_Fs) (T := T_Fs) (N := 7) hx hb hts uin_Fs hown hK hP 0 rfl rfl 4 (by decide) (hts _ wi_118) (fun _ h9 => h9) rfl d_Fs_forget_1 ?_
  refine fs_calli (wc := [(ru, .inr (3, [.ref rc, .ref ra, .ref rm, .ref rv, .int (nI cnt)]))]) (wr := [(fs, .inr (4, [.ref fa, .ref sa, .int (nI stk), .ref wd, .ref ru, .ref ck, .ref mc]))]) [1] [0] hP hD hK hS hA rfl rfl rfl (by decide) (fun hPc hDc => va_runV (C := R_Ru) (As := []) (rest := []) ⟨hx, hb, hml, hown, hts⟩ (c_Ru_empty ru rc ra rm rv cnt _) (⟨callB_of 0 hts (fs_g kin_Ru_empty) rfl rfl rfl (hts _ wi_3) (hts _ wi_242) (by decide +kernel) ⟨Nat.le_of_ble_eq_true rfl, Nat.le_of_ble_eq_true rfl⟩, hts _ wi_243, hts _ wi_244⟩) (fs_preV (q0 := 0) rfl rfl hPc hK hDc) rfl rfl hl.1 rfl (lv_room (Nat.le_of_ble_eq_true rfl)) d_Fs_forget_4 ⟨Nat.le_of_ble_eq_true rfl, Nat.le_of_ble_eq_true rfl⟩) rfl (fun r4 _ H locs hp4 hP hD hS => ?_)
  have hP : va_P (dC, dI) vwCl [(fs, .inr (4, [.ref fa, .ref sa, .int (nI stk), .ref wd, .ref ru, .ref ck, .ref mc])), (ru, .inr (3, [.ref rc, .ref ra, .ref rm, .ref rv, .int (nI 0)]))] H := hP
  have hD : va_D A [(fs, .inr (4, [.ref fa, .ref sa, .int (nI stk), .ref wd, .ref ru, .ref ck, .ref mc])), (ru, .inr (3, [.ref rc, .ref ra, .ref rm, .ref rv, .int (nI 0)]))] := hD
  subst hp4
  exact fs_iret hx hb hr hlocks hAe hK hS d_Fs_forget_7 () (rfl) hP hD

theorem d_Fs_compile_0 : decode b_Fs_compile 0 = .ok (.iload_n 1, 1) := by decide +kernel
theorem d_Fs_compile_1 : decode b_Fs_compile 1 = .ok (.invokestatic 48, 3) := by decide +kernel
theorem d_Fs_compile_4 : decode b_Fs_compile 4 = .ok (.ifCond .ne 5, 3) := by decide +kernel
theorem d_Fs_compile_7 : decode b_Fs_compile 7 = .ok (.iconst (-1), 1) := by decide +kernel
theorem d_Fs_compile_8 : decode b_Fs_compile 8 = .ok (.ireturn, 1) := by decide +kernel
theorem d_Fs_compile_9 : decode b_Fs_compile 9 = .ok (.aload_n 0, 1) := by decide +kernel
theorem d_Fs_compile_10 : decode b_Fs_compile 10 = .ok (.getfield 30, 3) := by decide +kernel
theorem d_Fs_compile_13 : decode b_Fs_compile 13 = .ok (.invokevirtual 102, 3) := by decide +kernel
theorem d_Fs_compile_16 : decode b_Fs_compile 16 = .ok (.bipush 40, 2) := by decide +kernel
theorem d_Fs_compile_18 : decode b_Fs_compile 18 = .ok (.if_icmp .le 6, 3) := by decide +kernel
theorem d_Fs_compile_21 : decode b_Fs_compile 21 = .ok (.bipush (-2), 2) := by decide +kernel
theorem d_Fs_compile_23 : decode b_Fs_compile 23 = .ok (.ireturn, 1) := by decide +kernel
theorem d_Fs_compile_24 : decode b_Fs_compile 24 = .ok (.aload_n 0, 1) := by decide +kernel
theorem d_Fs_compile_25 : decode b_Fs_compile 25 = .ok (.getfield 30, 3) := by decide +kernel
theorem d_Fs_compile_28 : decode b_Fs_compile 28 = .ok (.aload_n 0, 1) := by decide +kernel
theorem d_Fs_compile_29 : decode b_Fs_compile 29 = .ok (.getfield 11, 3) := by decide +kernel
theorem d_Fs_compile_32 : decode b_Fs_compile 32 = .ok (.iload_n 1, 1) := by decide +kernel
theorem d_Fs_compile_33 : decode b_Fs_compile 33 = .ok (.aaload, 1) := by decide +kernel
theorem d_Fs_compile_34 : decode b_Fs_compile 34 = .ok (.iload_n 2, 1) := by decide +kernel
theorem d_Fs_compile_35 : decode b_Fs_compile 35 = .ok (.invokevirtual 105, 3) := by decide +kernel
theorem d_Fs_compile_38 : decode b_Fs_compile 38 = .ok (.aload_n 0, 1) := by decide +kernel
theorem d_Fs_compile_39 : decode b_Fs_compile 39 = .ok (.getfield 11, 3) := by decide +kernel
theorem d_Fs_compile_42 : decode b_Fs_compile 42 = .ok (.iload_n 1, 1) := by decide +kernel
theorem d_Fs_compile_43 : decode b_Fs_compile 43 = .ok (.aaload, 1) := by decide +kernel
theorem d_Fs_compile_44 : decode b_Fs_compile 44 = .ok (.getfield 63, 3) := by decide +kernel
theorem d_Fs_compile_47 : decode b_Fs_compile 47 = .ok (.ireturn, 1) := by decide +kernel
set_option maxHeartbeats 4000000 in
set_option maxRecDepth 100000 in
theorem c_Fs_compile (fs fa sa stk wd ck mc : Nat) (ff : Nat → Option Nat) (ru rc ra rm rv cnt : Nat) (gc ga gm gv : Nat → Int32) (q o y n k len : Nat) (fo fy fn fk : Nat → Int32) (rs : List fx_Rule) (v : Int32) (j : Nat) (sz : Nat) (hj : j < 4) (hff : ff j = some q) (hcnt : cnt = rs.length) (hc8 : cnt ≤ 8) (hrr : fx_rrep rs gc ga gm gv) (htot : (rs.flatMap fx_one).length ≤ 39) : fs_I l y_Fs_compile (k_Fs_compile :: fs_T) { frames := 3, cells := 0, slots := 0, locals := 69 } (dC, dI) vwCl (fs_tys cI cZ cJ cF) [.ref fs, .int (nI j), .int v] [(fs, .inr (4, [.ref fa, .ref sa, .int (nI stk), .ref wd, .ref ru, .ref ck, .ref mc])), (fa, .inl (cF, 4, .inr (.inr (.inr (.inr ff))))), (ru, .inr (3, [.ref rc, .ref ra, .ref rm, .ref rv, .int (nI cnt)])), (rc, .inl (cI, 8, .inl gc)), (ra, .inl (cI, 8, .inl ga)), (rm, .inl (cI, 8, .inl gm)), (rv, .inl (cI, 8, .inl gv)), (q, .inr (1, [.ref o, .ref y, .ref n, .ref k, .int (nI len)])), (o, .inl (cI, 40, .inl fo)), (y, .inl (cI, 40, .inl fy)), (n, .inl (cI, 40, .inl fn)), (k, .inl (cI, 40, .inl fk))] sz (S := (Nat → Int32) × (Nat → Int32) × (Nat → Int32) × (Nat → Int32)) (fun r u => r = nI (fx_cmp rs v).length ∧ fx_rep (fx_cmp rs v) u.1 u.2.1 u.2.2.1 u.2.2.2) (fun u => [(fs, .inr (4, [.ref fa, .ref sa, .int (nI stk), .ref wd, .ref ru, .ref ck, .ref mc])), (fa, .inl (cF, 4, .inr (.inr (.inr (.inr ff))))), (ru, .inr (3, [.ref rc, .ref ra, .ref rm, .ref rv, .int (nI cnt)])), (rc, .inl (cI, 8, .inl gc)), (ra, .inl (cI, 8, .inl ga)), (rm, .inl (cI, 8, .inl gm)), (rv, .inl (cI, 8, .inl gv)), (q, .inr (1, [.ref o, .ref y, .ref n, .ref k, .int (nI ((fx_cmp rs v).length))])), (o, .inl (cI, 40, .inl u.1)), (y, .inl (cI, 40, .inl u.2.1)), (n, .inl (cI, 40, .inl u.2.2.1)), (k, .inl (cI, 40, .inl u.2.2.2))]) 0 0 := by
  refine fs_head (by decide) (Nat.le_of_ble_eq_true rfl) ?_
  intro p e s m below meth c A ls hx hb hr hts hown hlocks hin hml hK hP hD hS hA hAe hsz hl
  have hl : lv_has ls 3 [(0, .ref fs), (1, .int (nI j)), (2, .int v)] := hl
  have hown : s.vm.findClass R_Fs = some m.cls := hown
  refine lv_iload_n hx hb d_Fs_compile_0 rfl (lv_at hl 1 rfl) ?_
  refine fs_calli (wc := []) (wr := [(fs, .inr (4, [.ref fa, .ref sa, .int (nI stk), .ref wd, .ref ru, .ref ck, .ref mc])), (fa, .inl (cF, 4, .inr (.inr (.inr (.inr ff))))), (ru, .inr (3, [.ref rc, .ref ra, .ref rm, .ref rv, .int (nI cnt)])), (rc, .inl (cI, 8, .inl gc)), (ra, .inl (cI, 8, .inl ga)), (rm, .inl (cI, 8, .inl gm)), (rv, .inl (cI, 8, .inl gv)), (q, .inr (1, [.ref o, .ref y, .ref n, .ref k, .int (nI len)])), (o, .inl (cI, 40, .inl fo)), (y, .inl (cI, 40, .inl fy)), (n, .inl (cI, 40, .inl fn)), (k, .inl (cI, 40, .inl fk))]) [] [0, 1, 2, 3, 4, 5, 6, 7, 8, 9, 10, 11] hP hD hK hS hA rfl rfl rfl (by decide) (fun hPc hDc => va_runS (As := [.int (nI j)]) (rest := []) ⟨hx, hb, hml, hown, hts⟩ (c_Fs_isFilterT j _ (by omega)) (⟨callB_of 1 hts (fs_g kin_Fs_isFilter) rfl rfl rfl (hts _ wi_1) (hts _ wi_140) (by decide +kernel) ⟨Nat.le_of_ble_eq_true rfl, Nat.le_of_ble_eq_true rfl⟩, hts _ wi_141⟩) (fs_preS hPc hK hDc) rfl rfl hl.1 rfl (lv_room (Nat.le_of_ble_eq_true rfl)) d_Fs_compile_1 ⟨Nat.le_of_ble_eq_true rfl, Nat.le_of_ble_eq_true rfl⟩) rfl (fun r1 _ H locs hp1 hP hD hS => ?_)
  have hP : va_P (dC, dI) vwCl [(fs, .inr (4, [.ref fa, .ref sa, .int (nI stk), .ref wd, .ref ru, .ref ck, .ref mc])), (fa, .inl (cF, 4, .inr (.inr (.inr (.inr ff))))), (ru, .inr (3, [.ref rc, .ref ra, .ref rm, .ref rv, .int (nI cnt)])), (rc, .inl (cI, 8, .inl gc)), (ra, .inl (cI, 8, .inl ga)), (rm, .inl (cI, 8, .inl gm)), (rv, .inl (cI, 8, .inl gv)), (q, .inr (1, [.ref o, .ref y, .ref n, .ref k, .int (nI len)])), (o, .inl (cI, 40, .inl fo)), (y, .inl (cI, 40, .inl fy)), (n, .inl (cI, 40, .inl fn)), (k, .inl (cI, 40, .inl fk))] H := hP
  have hD : va_D A [(fs, .inr (4, [.ref fa, .ref sa, .int (nI stk), .ref wd, .ref ru, .ref ck, .ref mc])), (fa, .inl (cF, 4, .inr (.inr (.inr (.inr ff))))), (ru, .inr (3, [.ref rc, .ref ra, .ref rm, .ref rv, .int (nI cnt)])), (rc, .inl (cI, 8, .inl gc)), (ra, .inl (cI, 8, .inl ga)), (rm, .inl (cI, 8, .inl gm)), (rv, .inl (cI, 8, .inl gv)), (q, .inr (1, [.ref o, .ref y, .ref n, .ref k, .int (nI len)])), (o, .inl (cI, 40, .inl fo)), (y, .inl (cI, 40, .inl fy)), (n, .inl (cI, 40, .inl fn)), (k, .inl (cI, 40, .inl fk))] := hD
  subst hp1
  refine lv_if_ne (tgt := 9) hx hb d_Fs_compile_4 (by decide) (fun _ => ?_) (fun hc => absurd hc (by decide))
  refine lv_aload_n hx hb d_Fs_compile_9 rfl (lv_at hl 0 rfl) ?_
  refine va_get (D := (dC, dI)) (ci := 4) (v := .ref ru) (C := R_Fs) (T := T_Fs) (N := 7) hx hb hts uin_Fs hown hK hP 0 rfl rfl 4 (by decide) (hts _ wi_118) (fun _ h9 => h9) rfl d_Fs_compile_10 ?_
  refine fs_calli (wc := [(ru, .inr (3, [.ref rc, .ref ra, .ref rm, .ref rv, .int (nI cnt)])), (rc, .inl (cI, 8, .inl gc)), (ra, .inl (cI, 8, .inl ga)), (rm, .inl (cI, 8, .inl gm)), (rv, .inl (cI, 8, .inl gv))]) (wr := [(fs, .inr (4, [.ref fa, .ref sa, .int (nI stk), .ref wd, .ref ru, .ref ck, .ref mc])), (fa, .inl (cF, 4, .inr (.inr (.inr (.inr ff))))), (q, .inr (1, [.ref o, .ref y, .ref n, .ref k, .int (nI len)])), (o, .inl (cI, 40, .inl fo)), (y, .inl (cI, 40, .inl fy)), (n, .inl (cI, 40, .inl fn)), (k, .inl (cI, 40, .inl fk))]) [2, 3, 4, 5, 6] [0, 1, 7, 8, 9, 10, 11] hP hD hK hS hA rfl rfl rfl (by decide) (fun hPc hDc => va_runV (C := R_Ru) (As := []) (rest := []) ⟨hx, hb, hml, hown, hts⟩ (c_Ru_translatedLength ru rc ra rm rv cnt gc ga gm gv rs _ hcnt hc8 hrr) (⟨callB_of 0 hts (fs_g kin_Ru_translatedLength) rfl rfl rfl (hts _ wi_3) (hts _ wi_250) (by decide +kernel) ⟨Nat.le_of_ble_eq_true rfl, Nat.le_of_ble_eq_true rfl⟩, hts _ wi_251, hts _ wi_252⟩) (fs_preV (q0 := 0) rfl rfl hPc hK hDc) rfl rfl hl.1 rfl (lv_room (Nat.le_of_ble_eq_true rfl)) d_Fs_compile_13 ⟨Nat.le_of_ble_eq_true rfl, Nat.le_of_ble_eq_true rfl⟩) rfl (fun r13 _ H locs hp13 hP hD hS => ?_)
  have hP : va_P (dC, dI) vwCl [(fs, .inr (4, [.ref fa, .ref sa, .int (nI stk), .ref wd, .ref ru, .ref ck, .ref mc])), (fa, .inl (cF, 4, .inr (.inr (.inr (.inr ff))))), (ru, .inr (3, [.ref rc, .ref ra, .ref rm, .ref rv, .int (nI cnt)])), (rc, .inl (cI, 8, .inl gc)), (ra, .inl (cI, 8, .inl ga)), (rm, .inl (cI, 8, .inl gm)), (rv, .inl (cI, 8, .inl gv)), (q, .inr (1, [.ref o, .ref y, .ref n, .ref k, .int (nI len)])), (o, .inl (cI, 40, .inl fo)), (y, .inl (cI, 40, .inl fy)), (n, .inl (cI, 40, .inl fn)), (k, .inl (cI, 40, .inl fk))] H := hP.sub [0, 1, 7, 8, 9, 10, 11, 2, 3, 4, 5, 6] rfl
  have hD : va_D A [(fs, .inr (4, [.ref fa, .ref sa, .int (nI stk), .ref wd, .ref ru, .ref ck, .ref mc])), (fa, .inl (cF, 4, .inr (.inr (.inr (.inr ff))))), (ru, .inr (3, [.ref rc, .ref ra, .ref rm, .ref rv, .int (nI cnt)])), (rc, .inl (cI, 8, .inl gc)), (ra, .inl (cI, 8, .inl ga)), (rm, .inl (cI, 8, .inl gm)), (rv, .inl (cI, 8, .inl gv)), (q, .inr (1, [.ref o, .ref y, .ref n, .ref k, .int (nI len)])), (o, .inl (cI, 40, .inl fo)), (y, .inl (cI, 40, .inl fy)), (n, .inl (cI, 40, .inl fn)), (k, .inl (cI, 40, .inl fk))] := hD.sub [0, 1, 7, 8, 9, 10, 11, 2, 3, 4, 5, 6] (by decide) rfl
  subst hp13
  have hfl := fx_flat_le rs
  refine lv_bipush (v := nI 40) hx hb d_Fs_compile_16 (by decide) ?_
  refine lv_icmp_le (tgt := 24) hx hb d_Fs_compile_18 (by decide) (fun hc18 => ?_) (fun hc18 => absurd (by have hfl := fx_flat_le rs; rw [nI_leI (by omega) (by omega)]; omega) hc18)
  rw [nI_leI (by omega) (by omega)] at hc18
  refine lv_aload_n hx hb d_Fs_compile_24 rfl (lv_at hl 0 rfl) ?_
  refine va_get (D := (dC, dI)) (ci := 4) (v := .ref ru) (C := R_Fs) (T := T_Fs) (N := 7) hx hb hts uin_Fs hown hK hP 0 rfl rfl 4 (by decide) (hts _ wi_118) (fun _ h9 => h9) rfl d_Fs_compile_25 ?_
  refine lv_aload_n hx hb d_Fs_compile_28 rfl (lv_at hl 0 rfl) ?_
  refine va_get (D := (dC, dI)) (ci := 4) (v := .ref fa) (C := R_Fs) (T := T_Fs) (N := 7) hx hb hts uin_Fs hown hK hP 0 rfl rfl 0 (by decide) (hts _ wi_114) (fun _ h9 => h9) rfl d_Fs_compile_29 ?_
  refine lv_iload_n hx hb d_Fs_compile_32 rfl (lv_at hl 1 rfl) ?_
  refine fs_aald (b := q) hx hb hK hP 1 3 rfl rfl j rfl (by decide) (by omega) hff d_Fs_compile_33 ?_
  refine lv_iload_n hx hb d_Fs_compile_34 rfl (lv_at hl 2 rfl) ?_
  refine fs_callv (wc := [(ru, .inr (3, [.ref rc, .ref ra, .ref rm, .ref rv, .int (nI cnt)])), (rc, .inl (cI, 8, .inl gc)), (ra, .inl (cI, 8, .inl ga)), (rm, .inl (cI, 8, .inl gm)), (rv, .inl (cI, 8, .inl gv)), (q, .inr (1, [.ref o, .ref y, .ref n, .ref k, .int (nI len)])), (o, .inl (cI, 40, .inl fo)), (y, .inl (cI, 40, .inl fy)), (n, .inl (cI, 40, .inl fn)), (k, .inl (cI, 40, .inl fk))]) (wr := [(fs, .inr (4, [.ref fa, .ref sa, .int (nI stk), .ref wd, .ref ru, .ref ck, .ref mc])), (fa, .inl (cF, 4, .inr (.inr (.inr (.inr ff)))))]) [2, 3, 4, 5, 6, 7, 8, 9, 10, 11] [0, 1] hP hD hK hS hA rfl rfl rfl (by decide) (fun hPc hDc => va_runV (C := R_Ru) (As := [.ref q, .int v]) (rest := []) ⟨hx, hb, hml, hown, hts⟩ (c_Ru_translate ru rc ra rm rv cnt gc ga gm gv q o y n k len fo fy fn fk rs v _ hcnt hc8 hrr (by omega)) (⟨callB_of 2 hts (fs_g kin_Ru_translate) rfl rfl rfl (hts _ wi_3) (hts _ wi_258) (by decide +kernel) ⟨Nat.le_of_ble_eq_true rfl, Nat.le_of_ble_eq_true rfl⟩, hts _ wi_259, hts _ wi_260⟩) (fs_preV (q0 := 0) rfl rfl hPc hK hDc) rfl rfl hl.1 rfl (lv_room (Nat.le_of_ble_eq_true rfl)) d_Fs_compile_35 ⟨Nat.le_of_ble_eq_true rfl, Nat.le_of_ble_eq_true rfl⟩) rfl (fun u H locs hp35 hP hD hS => ?_)
  have hP : va_P (dC, dI) vwCl [(fs, .inr (4, [.ref fa, .ref sa, .int (nI stk), .ref wd, .ref ru, .ref ck, .ref mc])), (fa, .inl (cF, 4, .inr (.inr (.inr (.inr ff))))), (ru, .inr (3, [.ref rc, .ref ra, .ref rm, .ref rv, .int (nI cnt)])), (rc, .inl (cI, 8, .inl gc)), (ra, .inl (cI, 8, .inl ga)), (rm, .inl (cI, 8, .inl gm)), (rv, .inl (cI, 8, .inl gv)), (q, .inr (1, [.ref o, .ref y, .ref n, .ref k, .int (nI ((fx_cmp rs v).length))])), (o, .inl (cI, 40, .inl u.1)), (y, .inl (cI, 40, .inl u.2.1)), (n, .inl (cI, 40, .inl u.2.2.1)), (k, .inl (cI, 40, .inl u.2.2.2))] H := hP
  have hD : va_D A [(fs, .inr (4, [.ref fa, .ref sa, .int (nI stk), .ref wd, .ref ru, .ref ck, .ref mc])), (fa, .inl (cF, 4, .inr (.inr (.inr (.inr ff))))), (ru, .inr (3, [.ref rc, .ref ra, .ref rm, .ref rv, .int (nI cnt)])), (rc, .inl (cI, 8, .inl gc)), (ra, .inl (cI, 8, .inl ga)), (rm, .inl (cI, 8, .inl gm)), (rv, .inl (cI, 8, .inl gv)), (q, .inr (1, [.ref o, .ref y, .ref n, .ref k, .int (nI ((fx_cmp rs v).length))])), (o, .inl (cI, 40, .inl u.1)), (y, .inl (cI, 40, .inl u.2.1)), (n, .inl (cI, 40, .inl u.2.2.1)), (k, .inl (cI, 40, .inl u.2.2.2))] := hD
  refine lv_aload_n hx hb d_Fs_compile_38 rfl (lv_at hl 0 rfl) ?_
  refine va_get (D := (dC, dI)) (ci := 4) (v := .ref fa) (C := R_Fs) (T := T_Fs) (N := 7) hx hb hts uin_Fs hown hK hP 0 rfl rfl 0 (by decide) (hts _ wi_114) (fun _ h9 => h9) rfl d_Fs_compile_39 ?_
  refine lv_iload_n hx hb d_Fs_compile_42 rfl (lv_at hl 1 rfl) ?_
  refine fs_aald (b := q) hx hb hK hP 1 3 rfl rfl j rfl (by decide) (by omega) hff d_Fs_compile_43 ?_
  refine va_get (D := (dC, dI)) (ci := 1) (v := .int (nI ((fx_cmp rs v).length))) (C := R_Fi) (T := T_Fi) (N := 5) hx hb hts uin_Fi hown hK hP 7 rfl rfl 4 (by decide) (hts _ wi_49) (fun _ h9 => h9) rfl d_Fs_compile_44 ?_
  exact fs_iret hx hb hr hlocks hAe hK hS d_Fs_compile_47 u (⟨rfl, hp35⟩) hP hD

set_option maxHeartbeats 4000000 in
set_option maxRecDepth 100000 in
theorem c_Fs_compileF (fs fa sa stk wd ck mc : Nat) (ru rc ra rm rv cnt : Nat) (gc ga gm gv : Nat → Int32) (rs : List fx_Rule) (v : Int32) (j : Nat) (sz : Nat) (hj : j < 4) (hcnt : cnt = rs.length) (hc8 : cnt ≤ 8) (hrr : fx_rrep rs gc ga gm gv) (htot : ¬ (rs.flatMap fx_one).length ≤ 39) : fs_I l y_Fs_compile (k_Fs_compile :: fs_T) { frames := 3, cells := 0, slots := 0, locals := 69 } (dC, dI) vwCl (fs_tys cI cZ cJ cF) [.ref fs, .int (nI j), .int v] [(fs, .inr (4, [.ref fa, .ref sa, .int (nI stk), .ref wd, .ref ru, .ref ck, .ref mc])), (ru, .inr (3, [.ref rc, .ref ra, .ref rm, .ref rv, .int (nI cnt)])), (rc, .inl (cI, 8, .inl gc)), (ra, .inl (cI, 8, .inl ga)), (rm, .inl (cI, 8, .inl gm)), (rv, .inl (cI, 8, .inl gv))] sz (S := Unit) (fun r _ => r = (-2)) (fun _ => [(fs, .inr (4, [.ref fa, .ref sa, .int (nI stk), .ref wd, .ref ru, .ref ck, .ref mc])), (ru, .inr (3, [.ref rc, .ref ra, .ref rm, .ref rv, .int (nI cnt)])), (rc, .inl (cI, 8, .inl gc)), (ra, .inl (cI, 8, .inl ga)), (rm, .inl (cI, 8, .inl gm)), (rv, .inl (cI, 8, .inl gv))]) 0 0 := by
  refine fs_head (by decide) (Nat.le_of_ble_eq_true rfl) ?_
  intro p e s m below meth c A ls hx hb hr hts hown hlocks hin hml hK hP hD hS hA hAe hsz hl
  have hl : lv_has ls 3 [(0, .ref fs), (1, .int (nI j)), (2, .int v)] := hl
  have hown : s.vm.findClass R_Fs = some m.cls := hown
  refine lv_iload_n hx hb d_Fs_compile_0 rfl (lv_at hl 1 rfl) ?_
  refine fs_calli (wc := []) (wr := [(fs, .inr (4, [.ref fa, .ref sa, .int (nI stk), .ref wd, .ref ru, .ref ck, .ref mc])), (ru, .inr (3, [.ref rc, .ref ra, .ref rm, .ref rv, .int (nI cnt)])), (rc, .inl (cI, 8, .inl gc)), (ra, .inl (cI, 8, .inl ga)), (rm, .inl (cI, 8, .inl gm)), (rv, .inl (cI, 8, .inl gv))]) [] [0, 1, 2, 3, 4, 5] hP hD hK hS hA rfl rfl rfl (by decide) (fun hPc hDc => va_runS (As := [.int (nI j)]) (rest := []) ⟨hx, hb, hml, hown, hts⟩ (c_Fs_isFilterT j _ (by omega)) (⟨callB_of 1 hts (fs_g kin_Fs_isFilter) rfl rfl rfl (hts _ wi_1) (hts _ wi_140) (by decide +kernel) ⟨Nat.le_of_ble_eq_true rfl, Nat.le_of_ble_eq_true rfl⟩, hts _ wi_141⟩) (fs_preS hPc hK hDc) rfl rfl hl.1 rfl (lv_room (Nat.le_of_ble_eq_true rfl)) d_Fs_compile_1 ⟨Nat.le_of_ble_eq_true rfl, Nat.le_of_ble_eq_true rfl⟩) rfl (fun r1 _ H locs hp1 hP hD hS => ?_)
  have hP : va_P (dC, dI) vwCl [(fs, .inr (4, [.ref fa, .ref sa, .int (nI stk), .ref wd, .ref ru, .ref ck, .ref mc])), (ru, .inr (3, [.ref rc, .ref ra, .ref rm, .ref rv, .int (nI cnt)])), (rc, .inl (cI, 8, .inl gc)), (ra, .inl (cI, 8, .inl ga)), (rm, .inl (cI, 8, .inl gm)), (rv, .inl (cI, 8, .inl gv))] H := hP
  have hD : va_D A [(fs, .inr (4, [.ref fa, .ref sa, .int (nI stk), .ref wd, .ref ru, .ref ck, .ref mc])), (ru, .inr (3, [.ref rc, .ref ra, .ref rm, .ref rv, .int (nI cnt)])), (rc, .inl (cI, 8, .inl gc)), (ra, .inl (cI, 8, .inl ga)), (rm, .inl (cI, 8, .inl gm)), (rv, .inl (cI, 8, .inl gv))] := hD
  subst hp1
  refine lv_if_ne (tgt := 9) hx hb d_Fs_compile_4 (by decide) (fun _ => ?_) (fun hc => absurd hc (by decide))
  refine lv_aload_n hx hb d_Fs_compile_9 rfl (lv_at hl 0 rfl) ?_
  refine va_get (D := (dC, dI)) (ci := 4) (v := .ref ru) (C := R_Fs) (T := T_Fs) (N := 7) hx hb hts uin_Fs hown hK hP 0 rfl rfl 4 (by decide) (hts _ wi_118) (fun _ h9 => h9) rfl d_Fs_compile_10 ?_
  refine fs_calli (wc := [(ru, .inr (3, [.ref rc, .ref ra, .ref rm, .ref rv, .int (nI cnt)])), (rc, .inl (cI, 8, .inl gc)), (ra, .inl (cI, 8, .inl ga)), (rm, .inl (cI, 8, .inl gm)), (rv, .inl (cI, 8, .inl gv))]) (wr := [(fs, .inr (4, [.ref fa, .ref sa, .int (nI stk), .ref wd, .ref ru, .ref ck, .ref mc]))]) [1, 2, 3, 4, 5] [0] hP hD hK hS hA rfl rfl rfl (by decide) (fun hPc hDc => va_runV (C := R_Ru) (As := []) (rest := []) ⟨hx, hb, hml, hown, hts⟩ (c_Ru_translatedLength ru rc ra rm rv cnt gc ga gm gv rs _ hcnt hc8 hrr) (⟨callB_of 0 hts (fs_g kin_Ru_translatedLength) rfl rfl rfl (hts _ wi_3) (hts _ wi_250) (by decide +kernel) ⟨Nat.le_of_ble_eq_true rfl, Nat.le_of_ble_eq_true rfl⟩, hts _ wi_251, hts _ wi_252⟩) (fs_preV (q0 := 0) rfl rfl hPc hK hDc) rfl rfl hl.1 rfl (lv_room (Nat.le_of_ble_eq_true rfl)) d_Fs_compile_13 ⟨Nat.le_of_ble_eq_true rfl, Nat.le_of_ble_eq_true rfl⟩) rfl (fun r13 _ H locs hp13 hP hD hS => ?_)
  have hP : va_P (dC, dI) vwCl [(fs, .inr (4, [.ref fa, .ref sa, .int (nI stk), .ref wd, .ref ru, .ref ck, .ref mc])), (ru, .inr (3, [.ref rc, .ref ra, .ref rm, .ref rv, .int (nI cnt)])), (rc, .inl (cI, 8, .inl gc)), (ra, .inl (cI, 8, .inl ga)), (rm, .inl (cI, 8, .inl gm)), (rv, .inl (cI, 8, .inl gv))] H := hP
  have hD : va_D A [(fs, .inr (4, [.ref fa, .ref sa, .int (nI stk), .ref wd, .ref ru, .ref ck, .ref mc])), (ru, .inr (3, [.ref rc, .ref ra, .ref rm, .ref rv, .int (nI cnt)])), (rc, .inl (cI, 8, .inl gc)), (ra, .inl (cI, 8, .inl ga)), (rm, .inl (cI, 8, .inl gm)), (rv, .inl (cI, 8, .inl gv))] := hD
  subst hp13
  have hfl := fx_flat_le rs
  refine lv_bipush (v := nI 40) hx hb d_Fs_compile_16 (by decide) ?_
  refine lv_icmp_le (tgt := 24) hx hb d_Fs_compile_18 (by decide) (fun hc18 => absurd hc18 (by have hfl := fx_flat_le rs; rw [nI_leI (by omega) (by omega)]; omega)) (fun hc18 => ?_)
  rw [nI_leI (by omega) (by omega)] at hc18
  refine lv_bipush (v := (-2)) hx hb d_Fs_compile_21 (by decide) ?_
  exact fs_iret hx hb hr hlocks hAe hK hS d_Fs_compile_23 () (rfl) hP hD

set_option maxHeartbeats 4000000 in
set_option maxRecDepth 100000 in
theorem c_Fs_compileX (fs fa sa stk wd ru ck mc : Nat) (f v : Int32) (sz : Nat) (hf : ∀ j, j < 4 → f ≠ nI j) : fs_I l y_Fs_compile (k_Fs_compile :: fs_T) { frames := 3, cells := 0, slots := 0, locals := 69 } (dC, dI) vwCl (fs_tys cI cZ cJ cF) [.ref fs, .int f, .int v] [(fs, .inr (4, [.ref fa, .ref sa, .int (nI stk), .ref wd, .ref ru, .ref ck, .ref mc]))] sz (S := Unit) (fun r _ => r = (-1)) (fun _ => [(fs, .inr (4, [.ref fa, .ref sa, .int (nI stk), .ref wd, .ref ru, .ref ck, .ref mc]))]) 0 0 := by
  refine fs_head (by decide) (Nat.le_of_ble_eq_true rfl) ?_
  intro p e s m below meth c A ls hx hb hr hts hown hlocks hin hml hK hP hD hS hA hAe hsz hl
  have hl : lv_has ls 3 [(0, .ref fs), (1, .int f), (2, .int v)] := hl
  have hown : s.vm.findClass R_Fs = some m.cls := hown
  refine lv_iload_n hx hb d_Fs_compile_0 rfl (lv_at hl 1 rfl) ?_
  refine fs_calli (wc := []) (wr := [(fs, .inr (4, [.ref fa, .ref sa, .int (nI stk), .ref wd, .ref ru, .ref ck, .ref mc]))]) [] [0] hP hD hK hS hA rfl rfl rfl (by decide) (fun hPc hDc => va_runS (As := [.int f]) (rest := []) ⟨hx, hb, hml, hown, hts⟩ (c_Fs_isFilter f _) (⟨callB_of 1 hts (fs_g kin_Fs_isFilter) rfl rfl rfl (hts _ wi_1) (hts _ wi_140) (by decide +kernel) ⟨Nat.le_of_ble_eq_true rfl, Nat.le_of_ble_eq_true rfl⟩, hts _ wi_141⟩) (fs_preS hPc hK hDc) rfl rfl hl.1 rfl (lv_room (Nat.le_of_ble_eq_true rfl)) d_Fs_compile_1 ⟨Nat.le_of_ble_eq_true rfl, Nat.le_of_ble_eq_true rfl⟩) rfl (fun r1 _ H locs hp1 hP hD hS => ?_)
  have hP : va_P (dC, dI) vwCl [(fs, .inr (4, [.ref fa, .ref sa, .int (nI stk), .ref wd, .ref ru, .ref ck, .ref mc]))] H := hP
  have hD : va_D A [(fs, .inr (4, [.ref fa, .ref sa, .int (nI stk), .ref wd, .ref ru, .ref ck, .ref mc]))] := hD
  rcases hp1 with ⟨⟨j, hj, e⟩, _⟩ | ⟨_, rfl⟩
  · exact absurd e (hf j hj)
  refine lv_if_ne (tgt := 9) hx hb d_Fs_compile_4 (by decide) (fun hc => absurd (by decide) hc) (fun _ => ?_)
  refine lv_iconst (v := (-1)) hx hb d_Fs_compile_7 (by decide) ?_
  exact fs_iret hx hb hr hlocks hAe hK hS d_Fs_compile_8 () (rfl) hP hD

theorem d_Fs_strictness_0 : decode b_Fs_strictness 0 = .ok (.iload_n 0, 1) := by decide +kernel
theorem d_Fs_strictness_1 : decode b_Fs_strictness 1 = .ok (.bipush 8, 2) := by decide +kernel
theorem d_Fs_strictness_3 : decode b_Fs_strictness 3 = .ok (.ishr, 1) := by decide +kernel
theorem d_Fs_strictness_4 : decode b_Fs_strictness 4 = .ok (.ireturn, 1) := by decide +kernel
set_option maxHeartbeats 4000000 in
set_option maxRecDepth 100000 in
theorem c_Fs_strictness (v : Int32) (sz : Nat)  : fs_I l y_Fs_strictness (k_Fs_strictness :: fs_T) { frames := 0, cells := 0, slots := 0, locals := 0 } (dC, dI) vwCl (fs_tys cI cZ cJ cF) [.int v] [] sz (S := Unit) (fun r _ => r = v >>> (nI 8 &&& 31)) (fun _ => []) 0 0 := by
  refine fs_head (by decide) (Nat.le_of_ble_eq_true rfl) ?_
  intro p e s m below meth c A ls hx hb hr hts hown hlocks hin hml hK hP hD hS hA hAe hsz hl
  have hl : lv_has ls 1 [(0, .int v)] := hl
  have hown : s.vm.findClass R_Fs = some m.cls := hown
  refine lv_iload_n hx hb d_Fs_strictness_0 rfl (lv_at hl 0 rfl) ?_
  refine lv_bipush (v := nI 8) hx hb d_Fs_strictness_1 (by decide) ?_
  refine lv_ishr hx hb d_Fs_strictness_3 ?_
  exact fs_iret hx hb hr hlocks hAe hK hS d_Fs_strictness_4 () (rfl) hP hD

end FS
