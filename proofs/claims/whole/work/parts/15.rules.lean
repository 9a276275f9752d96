section RU
variable {l : Launch} {dC : Nat → ClassId} {dI : Nat → Nat → Nat} {cI cZ cJ cF : ClassId}
/-- rules as four rows hold them -/
def fx_rrep (rs : List fx_Rule) (gc ga gm gv : Nat → Int32) : Prop := ∀ i, i < rs.length → rs[i]? = some (gc i, ga i, gm i, gv i)
def fx_len (v : Int32) : Nat := if v = -1 then 3 else 6
theorem fx_one_len (q : fx_Rule) : (fx_one q).length = fx_len q.2.1 := by
  unfold fx_one fx_len
  split <;> rfl
theorem fx_len_le (v : Int32) : fx_len v ≤ 6 ∧ 3 ≤ fx_len v := by
  unfold fx_len
  split <;> omega
theorem fx_take {rs : List fx_Rule} {gc ga gm gv : Nat → Int32} (h : fx_rrep rs gc ga gm gv) {r : Nat} (hr : r < rs.length) : (rs.take (r + 1)).flatMap fx_one = (rs.take r).flatMap fx_one ++ fx_one (gc r, ga r, gm r, gv r) := by
  rw [List.take_succ, h r hr]
  simp
theorem fx_take_len (rs : List fx_Rule) (r : Nat) : ((rs.take r).flatMap fx_one).length ≤ (rs.flatMap fx_one).length := by
  conv => rhs; rw [← List.take_append_drop r rs]
  rw [List.flatMap_append, List.length_append]
  omega
theorem fx_flat_le : ∀ (rs : List fx_Rule), (rs.flatMap fx_one).length ≤ 6 * rs.length
  | [] => by simp
  | q :: t => by
    rw [List.flatMap_cons, List.length_append, fx_one_len, List.length_cons]
    have h1 := fx_flat_le t
    have h2 := (fx_len_le q.2.1).1
    omega
theorem fx_getD_app {L : fx_Prg} {x : fx_Ins} {i : Nat} (h : i < L.length) : (L ++ [x]).getD i (0, 0, 0, 0) = L.getD i (0, 0, 0, 0) := by
  simp [List.getD_eq_getElem?_getD, List.getElem?_append_left h]
theorem fx_getD_last {L : fx_Prg} {x : fx_Ins} : (L ++ [x]).getD L.length (0, 0, 0, 0) = x := by
  simp [List.getD_eq_getElem?_getD]
theorem fx_rep_app {L : fx_Prg} {fo fy fn fk : Nat → Int32} {m o y n : Nat} {k vo vy vn : Int32} (hm : m = L.length) (ho : vo = nI o) (hy : vy = nI y) (hn : vn = nI n) (h : fx_rep L fo fy fn fk) : fx_rep (L ++ [(o, y, n, k)]) (upd fo m vo) (upd fy m vy) (upd fn m vn) (upd fk m k) := by
  subst hm ho hy hn
  intro i hi
  rw [List.length_append, List.length_singleton] at hi
  unfold fx_O fx_Y fx_N fx_K upd
  by_cases e : i = L.length
  · subst e
    rw [fx_getD_last]
    simp
  · rw [fx_getD_app (by omega)]
    simp only [if_neg e]
    exact h i (by omega)
theorem fx_ok_app {L : fx_Prg} {x : fx_Ins} (h : fx_ok L) (hl : L.length < 40) (ho : x.1 < 32) (hy : x.2.1 < 256) (hn : x.2.2.1 < 256) : fx_ok (L ++ [x]) := by
  refine ⟨by rw [List.length_append, List.length_singleton]; omega, fun i hi => ?_⟩
  rw [List.length_append, List.length_singleton] at hi
  unfold fx_O fx_Y fx_N
  by_cases e : i = L.length
  · subst e
    rw [fx_getD_last]
    exact ⟨ho, hy, hn⟩
  · rw [fx_getD_app (by omega)]
    exact h.2 i (by omega)
theorem fx_rep_nil (fo fy fn fk : Nat → Int32) : fx_rep [] fo fy fn fk := fun i hi => absurd hi (by simp)
theorem d_Ru_append_0 : decode b_Ru_append 0 = .ok (.aload_n 0, 1) := by decide +kernel
theorem d_Ru_append_1 : decode b_Ru_append 1 = .ok (.getfield 24, 3) := by decide +kernel
theorem d_Ru_append_4 : decode b_Ru_append 4 = .ok (.bipush 8, 2) := by decide +kernel
theorem d_Ru_append_6 : decode b_Ru_append 6 = .ok (.if_icmp .lt 6, 3) := by decide +kernel
theorem d_Ru_append_9 : decode b_Ru_append 9 = .ok (.bipush (-2), 2) := by decide +kernel
theorem d_Ru_append_11 : decode b_Ru_append 11 = .ok (.ireturn, 1) := by decide +kernel
theorem d_Ru_append_12 : decode b_Ru_append 12 = .ok (.aload_n 0, 1) := by decide +kernel
theorem d_Ru_append_13 : decode b_Ru_append 13 = .ok (.getfield 9, 3) := by decide +kernel
theorem d_Ru_append_16 : decode b_Ru_append 16 = .ok (.aload_n 0, 1) := by decide +kernel
theorem d_Ru_append_17 : decode b_Ru_append 17 = .ok (.getfield 24, 3) := by decide +kernel
theorem d_Ru_append_20 : decode b_Ru_append 20 = .ok (.iload_n 1, 1) := by decide +kernel
theorem d_Ru_append_21 : decode b_Ru_append 21 = .ok (.iastore, 1) := by decide +kernel
theorem d_Ru_append_22 : decode b_Ru_append 22 = .ok (.aload_n 0, 1) := by decide +kernel
theorem d_Ru_append_23 : decode b_Ru_append 23 = .ok (.getfield 15, 3) := by decide +kernel
theorem d_Ru_append_26 : decode b_Ru_append 26 = .ok (.aload_n 0, 1) := by decide +kernel
theorem d_Ru_append_27 : decode b_Ru_append 27 = .ok (.getfield 24, 3) := by decide +kernel
theorem d_Ru_append_30 : decode b_Ru_append 30 = .ok (.iload_n 2, 1) := by decide +kernel
theorem d_Ru_append_31 : decode b_Ru_append 31 = .ok (.iastore, 1) := by decide +kernel
theorem d_Ru_append_32 : decode b_Ru_append 32 = .ok (.aload_n 0, 1) := by decide +kernel
theorem d_Ru_append_33 : decode b_Ru_append 33 = .ok (.getfield 18, 3) := by decide +kernel
theorem d_Ru_append_36 : decode b_Ru_append 36 = .ok (.aload_n 0, 1) := by decide +kernel
theorem d_Ru_append_37 : decode b_Ru_append 37 = .ok (.getfield 24, 3) := by decide +kernel
theorem d_Ru_append_40 : decode b_Ru_append 40 = .ok (.iload_n 3, 1) := by decide +kernel
theorem d_Ru_append_41 : decode b_Ru_append 41 = .ok (.iastore, 1) := by decide +kernel
theorem d_Ru_append_42 : decode b_Ru_append 42 = .ok (.aload_n 0, 1) := by decide +kernel
theorem d_Ru_append_43 : decode b_Ru_append 43 = .ok (.getfield 21, 3) := by decide +kernel
theorem d_Ru_append_46 : decode b_Ru_append 46 = .ok (.aload_n 0, 1) := by decide +kernel
theorem d_Ru_append_47 : decode b_Ru_append 47 = .ok (.getfield 24, 3) := by decide +kernel
theorem d_Ru_append_50 : decode b_Ru_append 50 = .ok (.iload 4, 2) := by decide +kernel
theorem d_Ru_append_52 : decode b_Ru_append 52 = .ok (.iastore, 1) := by decide +kernel
theorem d_Ru_append_53 : decode b_Ru_append 53 = .ok (.aload_n 0, 1) := by decide +kernel
theorem d_Ru_append_54 : decode b_Ru_append 54 = .ok (.dup, 1) := by decide +kernel
theorem d_Ru_append_55 : decode b_Ru_append 55 = .ok (.getfield 24, 3) := by decide +kernel
theorem d_Ru_append_58 : decode b_Ru_append 58 = .ok (.iconst 1, 1) := by decide +kernel
theorem d_Ru_append_59 : decode b_Ru_append 59 = .ok (.iadd, 1) := by decide +kernel
theorem d_Ru_append_60 : decode b_Ru_append 60 = .ok (.putfield 24, 3) := by decide +kernel
theorem d_Ru_append_63 : decode b_Ru_append 63 = .ok (.aload_n 0, 1) := by decide +kernel
theorem d_Ru_append_64 : decode b_Ru_append 64 = .ok (.getfield 24, 3) := by decide +kernel
theorem d_Ru_append_67 : decode b_Ru_append 67 = .ok (.ireturn, 1) := by decide +kernel
set_option maxHeartbeats 4000000 in
set_option maxRecDepth 100000 in
theorem c_Ru_append (ru rc ra rm rv cnt : Nat) (gc ga gm gv : Nat → Int32) (v1 v2 v3 v4 : Int32) (sz : Nat) (hcnt : cnt < 8) : fs_I l y_Ru_append (k_Ru_append :: fs_T) { frames := 0, cells := 0, slots := 0, locals := 0 } (dC, dI) vwCl (fs_tys cI cZ cJ cF) [.ref ru, .int v1, .int v2, .int v3, .int v4] [(ru, .inr (3, [.ref rc, .ref ra, .ref rm, .ref rv, .int (nI cnt)])), (rc, .inl (cI, 8, .inl gc)), (ra, .inl (cI, 8, .inl ga)), (rm, .inl (cI, 8, .inl gm)), (rv, .inl (cI, 8, .inl gv))] sz (S := Unit) (fun r _ => r = nI (cnt + 1)) (fun _ => [(ru, .inr (3, [.ref rc, .ref ra, .ref rm, .ref rv, .int (nI (cnt + 1))])), (rc, .inl (cI, 8, .inl (upd gc cnt v1))), (ra, .inl (cI, 8, .inl (upd ga cnt v2))), (rm, .inl (cI, 8, .inl (upd gm cnt v3))), (rv, .inl (cI, 8, .inl (upd gv cnt v4)))]) 0 0 := by
  refine fs_head (by decide) (Nat.le_of_ble_eq_true rfl) ?_
  intro p e s m below meth c A ls hx hb hr hts hown hlocks hin hml hK hP hD hS hA hAe hsz hl
  have hl : lv_has ls 5 [(0, .ref ru), (1, .int v1), (2, .int v2), (3, .int v3), (4, .int v4)] := hl
  have hown : s.vm.findClass R_Ru = some m.cls := hown
  refine lv_aload_n hx hb d_Ru_append_0 rfl (lv_at hl 0 rfl) ?_
  refine va_get (D := (dC, dI)) (ci := 3) (v := .int (nI cnt)) (C := R_Ru) (T := T_Ru) (N := 5) hx hb hts uin_Ru hown hK hP 0 rfl rfl 4 (by decide) (hts _ wi_72) (fun _ h9 => h9) rfl d_Ru_append_1 ?_
  refine lv_bipush (v := nI 8) hx hb d_Ru_append_4 (by decide) ?_
  refine lv_icmp_lt (tgt := 12) hx hb d_Ru_append_6 (by decide) (fun hc6 => ?_) (fun hc6 => absurd (nI_lt hcnt (by decide)) hc6)
  rw [nI_ltI (by omega) (by omega)] at hc6
  refine lv_aload_n hx hb d_Ru_append_12 rfl (lv_at hl 0 rfl) ?_
  refine va_get (D := (dC, dI)) (ci := 3) (v := .ref rc) (C := R_Ru) (T := T_Ru) (N := 5) hx hb hts uin_Ru hown hK hP 0 rfl rfl 0 (by decide) (hts _ wi_68) (fun _ h9 => h9) rfl d_Ru_append_13 ?_
  refine lv_aload_n hx hb d_Ru_append_16 rfl (lv_at hl 0 rfl) ?_
  refine va_get (D := (dC, dI)) (ci := 3) (v := .int (nI cnt)) (C := R_Ru) (T := T_Ru) (N := 5) hx hb hts uin_Ru hown hK hP 0 rfl rfl 4 (by decide) (hts _ wi_72) (fun _ h9 => h9) rfl d_Ru_append_17 ?_
  refine lv_iload_n hx hb d_Ru_append_20 rfl (lv_at hl 1 rfl) ?_
  refine fs_iast hx hb hK hP hD hS 1 0 rfl rfl cnt rfl (by decide) (by omega) d_Ru_append_21 (fun H locs hP hD hS => ?_)
  have hP : va_P (dC, dI) vwCl [(ru, .inr (3, [.ref rc, .ref ra, .ref rm, .ref rv, .int (nI cnt)])), (rc, .inl (cI, 8, .inl (upd gc cnt v1))), (ra, .inl (cI, 8, .inl ga)), (rm, .inl (cI, 8, .inl gm)), (rv, .inl (cI, 8, .inl gv))] H := hP
  have hD : va_D A [(ru, .inr (3, [.ref rc, .ref ra, .ref rm, .ref rv, .int (nI cnt)])), (rc, .inl (cI, 8, .inl (upd gc cnt v1))), (ra, .inl (cI, 8, .inl ga)), (rm, .inl (cI, 8, .inl gm)), (rv, .inl (cI, 8, .inl gv))] := hD
  refine lv_aload_n hx hb d_Ru_append_22 rfl (lv_at hl 0 rfl) ?_
  refine va_get (D := (dC, dI)) (ci := 3) (v := .ref ra) (C := R_Ru) (T := T_Ru) (N := 5) hx hb hts uin_Ru hown hK hP 0 rfl rfl 1 (by decide) (hts _ wi_69) (fun _ h9 => h9) rfl d_Ru_append_23 ?_
  refine lv_aload_n hx hb d_Ru_append_26 rfl (lv_at hl 0 rfl) ?_
  refine va_get (D := (dC, dI)) (ci := 3) (v := .int (nI cnt)) (C := R_Ru) (T := T_Ru) (N := 5) hx hb hts uin_Ru hown hK hP 0 rfl rfl 4 (by decide) (hts _ wi_72) (fun _ h9 => h9) rfl d_Ru_append_27 ?_
  refine lv_iload_n hx hb d_Ru_append_30 rfl (lv_at hl 2 rfl) ?_
  refine fs_iast hx hb hK hP hD hS 2 0 rfl rfl cnt rfl (by decide) (by omega) d_Ru_append_31 (fun H locs hP hD hS => ?_)
  have hP : va_P (dC, dI) vwCl [(ru, .inr (3, [.ref rc, .ref ra, .ref rm, .ref rv, .int (nI cnt)])), (rc, .inl (cI, 8, .inl (upd gc cnt v1))), (ra, .inl (cI, 8, .inl (upd ga cnt v2))), (rm, .inl (cI, 8, .inl gm)), (rv, .inl (cI, 8, .inl gv))] H := hP
  have hD : va_D A [(ru, .inr (3, [.ref rc, .ref ra, .ref rm, .ref rv, .int (nI cnt)])), (rc, .inl (cI, 8, .inl (upd gc cnt v1))), (ra, .inl (cI, 8, .inl (upd ga cnt v2))), (rm, .inl (cI, 8, .inl gm)), (rv, .inl (cI, 8, .inl gv))] := hD
  refine lv_aload_n hx hb d_Ru_append_32 rfl (lv_at hl 0 rfl) ?_
  refine va_get (D := (dC, dI)) (ci := 3) (v := .ref rm) (C := R_Ru) (T := T_Ru) (N := 5) hx hb hts uin_Ru hown hK hP 0 rfl rfl 2 (by decide) (hts _ wi_70) (fun _ h9 => h9) rfl d_Ru_append_33 ?_
  refine lv_aload_n hx hb d_Ru_append_36 rfl (lv_at hl 0 rfl) ?_
  refine va_get (D := (dC, dI)) (ci := 3) (v := .int (nI cnt)) (C := R_Ru) (T := T_Ru) (N := 5) hx hb hts uin_Ru hown hK hP 0 rfl rfl 4 (by decide) (hts _ wi_72) (fun _ h9 => h9) rfl d_Ru_append_37 ?_
  refine lv_iload_n hx hb d_Ru_append_40 rfl (lv_at hl 3 rfl) ?_
  refine fs_iast hx hb hK hP hD hS 3 0 rfl rfl cnt rfl (by decide) (by omega) d_Ru_append_41 (fun H locs hP hD hS => ?_)
  have hP : va_P (dC, dI) vwCl [(ru, .inr (3, [.ref rc, .ref ra, .ref rm, .ref rv, .int (nI cnt)])), (rc, .inl (cI, 8, .inl (upd gc cnt v1))), (ra, .inl (cI, 8, .inl (upd ga cnt v2))), (rm, .inl (cI, 8, .inl (upd gm cnt v3))), (rv, .inl (cI, 8, .inl gv))] H := hP
  have hD : va_D A [(ru, .inr (3, [.ref rc, .ref ra, .ref rm, .ref rv, .int (nI cnt)])), (rc, .inl (cI, 8, .inl (upd gc cnt v1))), (ra, .inl (cI, 8, .inl (upd ga cnt v2))), (rm, .inl (cI, 8, .inl (upd gm cnt v3))), (rv, .inl (cI, 8, .inl gv))] := hD
  refine lv_aload_n hx hb d_Ru_append_42 rfl (lv_at hl 0 rfl) ?_
  refine va_get (D := (dC, dI)) (ci := 3) (v := .ref rv) (C := R_Ru) (T := T_Ru) (N := 5) hx hb hts uin_Ru hown hK hP 0 rfl rfl 3 (by decide) (hts _ wi_71) (fun _ h9 => h9) rfl d_Ru_append_43 ?_
  refine lv_aload_n hx hb d_Ru_append_46 rfl (lv_at hl 0 rfl) ?_
  refine va_get (D := (dC, dI)) (ci := 3) (v := .int (nI cnt)) (C := R_Ru) (T := T_Ru) (N := 5) hx hb hts uin_Ru hown hK hP 0 rfl rfl 4 (by decide) (hts _ wi_72) (fun _ h9 => h9) rfl d_Ru_append_47 ?_
  refine lv_iload hx hb d_Ru_append_50 (lv_at hl 4 rfl) ?_
  refine fs_iast hx hb hK hP hD hS 4 0 rfl rfl cnt rfl (by decide) (by omega) d_Ru_append_52 (fun H locs hP hD hS => ?_)
  have hP : va_P (dC, dI) vwCl [(ru, .inr (3, [.ref rc, .ref ra, .ref rm, .ref rv, .int (nI cnt)])), (rc, .inl (cI, 8, .inl (upd gc cnt v1))), (ra, .inl (cI, 8, .inl (upd ga cnt v2))), (rm, .inl (cI, 8, .inl (upd gm cnt v3))), (rv, .inl (cI, 8, .inl (upd gv cnt v4)))] H := hP
  have hD : va_D A [(ru, .inr (3, [.ref rc, .ref ra, .ref rm, .ref rv, .int (nI cnt)])), (rc, .inl (cI, 8, .inl (upd gc cnt v1))), (ra, .inl (cI, 8, .inl (upd ga cnt v2))), (rm, .inl (cI, 8, .inl (upd gm cnt v3))), (rv, .inl (cI, 8, .inl (upd gv cnt v4)))] := hD
  refine lv_aload_n hx hb d_Ru_append_53 rfl (lv_at hl 0 rfl) ?_
  refine lv_dup hx hb d_Ru_append_54 rfl ?_
  refine va_get (D := (dC, dI)) (ci := 3) (v := .int (nI cnt)) (C := R_Ru) (T := T_Ru) (N := 5) hx hb hts uin_Ru hown hK hP 0 rfl rfl 4 (by decide) (hts _ wi_72) (fun _ h9 => h9) rfl d_Ru_append_55 ?_
  refine lv_iconst (v := nI 1) hx hb d_Ru_append_58 (by decide) ?_
  refine lv_iadd hx hb d_Ru_append_59 ?_
  refine fs_eqi (nI_add _ _) ?_
  refine va_put (D := (dC, dI)) (ci := 3) (v := .int (nI (cnt + 1))) (ty := (.int)) (C := R_Ru) (T := T_Ru) (N := 5) hx hb hts uin_Ru t_Ru ok_Ru n_Ru hown hK hP hD hS 0 rfl rfl 4 (by decide) (hts _ wi_72) (fun _ h9 => h9) rfl (by decide +kernel) rfl rfl (Nat.le_of_ble_eq_true rfl) d_Ru_append_60 (fun H locs hP hD hS => ?_)
  have hP : va_P (dC, dI) vwCl [(ru, .inr (3, [.ref rc, .ref ra, .ref rm, .ref rv, .int (nI (cnt + 1))])), (rc, .inl (cI, 8, .inl (upd gc cnt v1))), (ra, .inl (cI, 8, .inl (upd ga cnt v2))), (rm, .inl (cI, 8, .inl (upd gm cnt v3))), (rv, .inl (cI, 8, .inl (upd gv cnt v4)))] H := hP
  have hD : va_D A [(ru, .inr (3, [.ref rc, .ref ra, .ref rm, .ref rv, .int (nI (cnt + 1))])), (rc, .inl (cI, 8, .inl (upd gc cnt v1))), (ra, .inl (cI, 8, .inl (upd ga cnt v2))), (rm, .inl (cI, 8, .inl (upd gm cnt v3))), (rv, .inl (cI, 8, .inl (upd gv cnt v4)))] := hD
  refine lv_aload_n hx hb d_Ru_append_63 rfl (lv_at hl 0 rfl) ?_
  refine va_get (D := (dC, dI)) (ci := 3) (v := .int (nI (cnt + 1))) (C := R_Ru) (T := T_Ru) (N := 5) hx hb hts uin_Ru hown hK hP 0 rfl rfl 4 (by decide) (hts _ wi_72) (fun _ h9 => h9) rfl d_Ru_append_64 ?_
  exact fs_iret hx hb hr hlocks hAe hK hS d_Ru_append_67 () (rfl) hP hD

set_option maxHeartbeats 4000000 in
set_option maxRecDepth 100000 in
theorem c_Ru_appendF (ru rc ra rm rv : Nat) (gc ga gm gv : Nat → Int32) (v1 v2 v3 v4 : Int32) (sz : Nat)  : fs_I l y_Ru_append (k_Ru_append :: fs_T) { frames := 0, cells := 0, slots := 0, locals := 0 } (dC, dI) vwCl (fs_tys cI cZ cJ cF) [.ref ru, .int v1, .int v2, .int v3, .int v4] [(ru, .inr (3, [.ref rc, .ref ra, .ref rm, .ref rv, .int (nI 8)])), (rc, .inl (cI, 8, .inl gc)), (ra, .inl (cI, 8, .inl ga)), (rm, .inl (cI, 8, .inl gm)), (rv, .inl (cI, 8, .inl gv))] sz (S := Unit) (fun r _ => r = (-2)) (fun _ => [(ru, .inr (3, [.ref rc, .ref ra, .ref rm, .ref rv, .int (nI 8)])), (rc, .inl (cI, 8, .inl gc)), (ra, .inl (cI, 8, .inl ga)), (rm, .inl (cI, 8, .inl gm)), (rv, .inl (cI, 8, .inl gv))]) 0 0 := by
  refine fs_head (by decide) (Nat.le_of_ble_eq_true rfl) ?_
  intro p e s m below meth c A ls hx hb hr hts hown hlocks hin hml hK hP hD hS hA hAe hsz hl
  have hl : lv_has ls 5 [(0, .ref ru), (1, .int v1), (2, .int v2), (3, .int v3), (4, .int v4)] := hl
  have hown : s.vm.findClass R_Ru = some m.cls := hown
  refine lv_aload_n hx hb d_Ru_append_0 rfl (lv_at hl 0 rfl) ?_
  refine va_get (D := (dC, dI)) (ci := 3) (v := .int (nI 8)) (C := R_Ru) (T := T_Ru) (N := 5) hx hb hts uin_Ru hown hK hP 0 rfl rfl 4 (by decide) (hts _ wi_72) (fun _ h9 => h9) rfl d_Ru_append_1 ?_
  refine lv_bipush (v := nI 8) hx hb d_Ru_append_4 (by decide) ?_
  refine lv_icmp_lt (tgt := 12) hx hb d_Ru_append_6 (by decide) (fun hc => absurd hc (by decide)) (fun _ => ?_)
  refine lv_bipush (v := (-2)) hx hb d_Ru_append_9 (by decide) ?_
  exact fs_iret hx hb hr hlocks hAe hK hS d_Ru_append_11 () (rfl) hP hD

theorem d_Ru_empty_0 : decode b_Ru_empty 0 = .ok (.aload_n 0, 1) := by decide +kernel
theorem d_Ru_empty_1 : decode b_Ru_empty 1 = .ok (.getfield 24, 3) := by decide +kernel
theorem d_Ru_empty_4 : decode b_Ru_empty 4 = .ok (.istore_n 1, 1) := by decide +kernel
theorem d_Ru_empty_5 : decode b_Ru_empty 5 = .ok (.aload_n 0, 1) := by decide +kernel
theorem d_Ru_empty_6 : decode b_Ru_empty 6 = .ok (.iconst 0, 1) := by decide +kernel
theorem d_Ru_empty_7 : decode b_Ru_empty 7 = .ok (.putfield 24, 3) := by decide +kernel
theorem d_Ru_empty_10 : decode b_Ru_empty 10 = .ok (.iload_n 1, 1) := by decide +kernel
theorem d_Ru_empty_11 : decode b_Ru_empty 11 = .ok (.ireturn, 1) := by decide +kernel
set_option maxHeartbeats 4000000 in
set_option maxRecDepth 100000 in
theorem c_Ru_empty (ru rc ra rm rv cnt : Nat) (sz : Nat)  : fs_I l y_Ru_empty (k_Ru_empty :: fs_T) { frames := 0, cells := 0, slots := 0, locals := 0 } (dC, dI) vwCl (fs_tys cI cZ cJ cF) [.ref ru] [(ru, .inr (3, [.ref rc, .ref ra, .ref rm, .ref rv, .int (nI cnt)]))] sz (S := Unit) (fun r _ => r = nI cnt) (fun _ => [(ru, .inr (3, [.ref rc, .ref ra, .ref rm, .ref rv, .int (nI 0)]))]) 0 0 := by
  refine fs_head (by decide) (Nat.le_of_ble_eq_true rfl) ?_
  intro p e s m below meth c A ls hx hb hr hts hown hlocks hin hml hK hP hD hS hA hAe hsz hl
  have hl : lv_has ls 2 [(0, .ref ru)] := hl
  have hown : s.vm.findClass R_Ru = some m.cls := hown
  refine lv_aload_n hx hb d_Ru_empty_0 rfl (lv_at hl 0 rfl) ?_
  refine va_get (D := (dC, dI)) (ci := 3) (v := .int (nI cnt)) (C := R_Ru) (T := T_Ru) (N := 5) hx hb hts uin_Ru hown hK hP 0 rfl rfl 4 (by decide) (hts _ wi_72) (fun _ h9 => h9) rfl d_Ru_empty_1 ?_
  refine lv_istore_n hx hb d_Ru_empty_4 rfl hl (by decide) (lv' := [(1, .int (nI cnt)), (0, .ref ru)]) rfl (fun ls hl => ?_)
  refine lv_aload_n hx hb d_Ru_empty_5 rfl (lv_at hl 1 rfl) ?_
  refine lv_iconst (v := nI 0) hx hb d_Ru_empty_6 (by decide) ?_
  refine va_put (D := (dC, dI)) (ci := 3) (v := .int (nI 0)) (ty := (.int)) (C := R_Ru) (T := T_Ru) (N := 5) hx hb hts uin_Ru t_Ru ok_Ru n_Ru hown hK hP hD hS 0 rfl rfl 4 (by decide) (hts _ wi_72) (fun _ h9 => h9) rfl (by decide +kernel) rfl rfl (Nat.le_of_ble_eq_true rfl) d_Ru_empty_7 (fun H locs hP hD hS => ?_)
  have hP : va_P (dC, dI) vwCl [(ru, .inr (3, [.ref rc, .ref ra, .ref rm, .ref rv, .int (nI 0)]))] H := hP
  have hD : va_D A [(ru, .inr (3, [.ref rc, .ref ra, .ref rm, .ref rv, .int (nI 0)]))] := hD
  refine lv_iload_n hx hb d_Ru_empty_10 rfl (lv_at hl 0 rfl) ?_
  exact fs_iret hx hb hr hlocks hAe hK hS d_Ru_empty_11 () (rfl) hP hD

theorem d_Ru_lengthOf_0 : decode b_Ru_lengthOf 0 = .ok (.aload_n 0, 1) := by decide +kernel
theorem d_Ru_lengthOf_1 : decode b_Ru_lengthOf 1 = .ok (.getfield 15, 3) := by decide +kernel
theorem d_Ru_lengthOf_4 : decode b_Ru_lengthOf 4 = .ok (.iload_n 1, 1) := by decide +kernel
theorem d_Ru_lengthOf_5 : decode b_Ru_lengthOf 5 = .ok (.iaload, 1) := by decide +kernel
theorem d_Ru_lengthOf_6 : decode b_Ru_lengthOf 6 = .ok (.iconst (-1), 1) := by decide +kernel
theorem d_Ru_lengthOf_7 : decode b_Ru_lengthOf 7 = .ok (.if_icmp .ne 7, 3) := by decide +kernel
theorem d_Ru_lengthOf_10 : decode b_Ru_lengthOf 10 = .ok (.iconst 3, 1) := by decide +kernel
theorem d_Ru_lengthOf_11 : decode b_Ru_lengthOf 11 = .ok (.goto 5, 3) := by decide +kernel
theorem d_Ru_lengthOf_14 : decode b_Ru_lengthOf 14 = .ok (.bipush 6, 2) := by decide +kernel
theorem d_Ru_lengthOf_16 : decode b_Ru_lengthOf 16 = .ok (.ireturn, 1) := by decide +kernel
set_option maxHeartbeats 4000000 in
set_option maxRecDepth 100000 in
theorem c_Ru_lengthOf (ru rc ra rm rv cnt r : Nat) (ga : Nat → Int32) (sz : Nat) (hr8 : r < 8) : fs_I l y_Ru_lengthOf (k_Ru_lengthOf :: fs_T) { frames := 0, cells := 0, slots := 0, locals := 0 } (dC, dI) vwCl (fs_tys cI cZ cJ cF) [.ref ru, .int (nI r)] [(ru, .inr (3, [.ref rc, .ref ra, .ref rm, .ref rv, .int (nI cnt)])), (ra, .inl (cI, 8, .inl ga))] sz (S := Unit) (fun z _ => z = nI (fx_len (ga r))) (fun _ => [(ru, .inr (3, [.ref rc, .ref ra, .ref rm, .ref rv, .int (nI cnt)])), (ra, .inl (cI, 8, .inl ga))]) 0 0 := by
  refine fs_head (by decide) (Nat.le_of_ble_eq_true rfl) ?_
  intro p e s m below meth c A ls hx hb hr hts hown hlocks hin hml hK hP hD hS hA hAe hsz hl
  have hl : lv_has ls 2 [(0, .ref ru), (1, .int (nI r))] := hl
  have hown : s.vm.findClass R_Ru = some m.cls := hown
  refine lv_aload_n hx hb d_Ru_lengthOf_0 rfl (lv_at hl 0 rfl) ?_
  refine va_get (D := (dC, dI)) (ci := 3) (v := .ref ra) (C := R_Ru) (T := T_Ru) (N := 5) hx hb hts uin_Ru hown hK hP 0 rfl rfl 1 (by decide) (hts _ wi_69) (fun _ h9 => h9) rfl d_Ru_lengthOf_1 ?_
  refine lv_iload_n hx hb d_Ru_lengthOf_4 rfl (lv_at hl 1 rfl) ?_
  refine fs_iald (v := ga r) hx hb hK hP 1 0 rfl rfl r rfl (by decide) (by omega) rfl d_Ru_lengthOf_5 ?_
  refine lv_iconst (v := (-1)) hx hb d_Ru_lengthOf_6 (by decide) ?_
  refine lv_icmp_ne (tgt := 14) hx hb d_Ru_lengthOf_7 (by decide) (fun hc7 => ?_) (fun hc7 => ?_)
  · refine lv_bipush (v := nI 6) hx hb d_Ru_lengthOf_14 (by decide) ?_
    exact fs_iret hx hb hr hlocks hAe hK hS d_Ru_lengthOf_16 () (by rw [fx_len, if_neg hc7]) hP hD
  refine lv_iconst (v := nI 3) hx hb d_Ru_lengthOf_10 (by decide) ?_
  refine lv_goto (tgt := 16) hx hb d_Ru_lengthOf_11 (by decide) ?_
  exact fs_iret hx hb hr hlocks hAe hK hS d_Ru_lengthOf_16 () (by rw [fx_len, if_pos hc7]) hP hD

theorem d_Ru_translatedLength_0 : decode b_Ru_translatedLength 0 = .ok (.iconst 1, 1) := by decide +kernel
theorem d_Ru_translatedLength_1 : decode b_Ru_translatedLength 1 = .ok (.istore_n 1, 1) := by decide +kernel
theorem d_Ru_translatedLength_2 : decode b_Ru_translatedLength 2 = .ok (.iconst 0, 1) := by decide +kernel
theorem d_Ru_translatedLength_3 : decode b_Ru_translatedLength 3 = .ok (.istore_n 2, 1) := by decide +kernel
theorem d_Ru_translatedLength_4 : decode b_Ru_translatedLength 4 = .ok (.iload_n 2, 1) := by decide +kernel
theorem d_Ru_translatedLength_5 : decode b_Ru_translatedLength 5 = .ok (.aload_n 0, 1) := by decide +kernel
theorem d_Ru_translatedLength_6 : decode b_Ru_translatedLength 6 = .ok (.getfield 24, 3) := by decide +kernel
theorem d_Ru_translatedLength_9 : decode b_Ru_translatedLength 9 = .ok (.if_icmp .ge 17, 3) := by decide +kernel
theorem d_Ru_translatedLength_12 : decode b_Ru_translatedLength 12 = .ok (.iload_n 1, 1) := by decide +kernel
theorem d_Ru_translatedLength_13 : decode b_Ru_translatedLength 13 = .ok (.aload_n 0, 1) := by decide +kernel
theorem d_Ru_translatedLength_14 : decode b_Ru_translatedLength 14 = .ok (.iload_n 2, 1) := by decide +kernel
theorem d_Ru_translatedLength_15 : decode b_Ru_translatedLength 15 = .ok (.invokevirtual 28, 3) := by decide +kernel
theorem d_Ru_translatedLength_18 : decode b_Ru_translatedLength 18 = .ok (.iadd, 1) := by decide +kernel
theorem d_Ru_translatedLength_19 : decode b_Ru_translatedLength 19 = .ok (.istore_n 1, 1) := by decide +kernel
theorem d_Ru_translatedLength_20 : decode b_Ru_translatedLength 20 = .ok (.iinc 2 1, 3) := by decide +kernel
theorem d_Ru_translatedLength_23 : decode b_Ru_translatedLength 23 = .ok (.goto (-19), 3) := by decide +kernel
theorem d_Ru_translatedLength_26 : decode b_Ru_translatedLength 26 = .ok (.iload_n 1, 1) := by decide +kernel
theorem d_Ru_translatedLength_27 : decode b_Ru_translatedLength 27 = .ok (.ireturn, 1) := by decide +kernel
set_option maxHeartbeats 4000000 in
set_option maxRecDepth 100000 in
theorem c_Ru_translatedLength (ru rc ra rm rv cnt : Nat) (gc ga gm gv : Nat → Int32) (rs : List fx_Rule) (sz : Nat) (hcnt : cnt = rs.length) (hc8 : cnt ≤ 8) (hrr : fx_rrep rs gc ga gm gv) : fs_I l y_Ru_translatedLength (k_Ru_translatedLength :: fs_T) { frames := 1, cells := 0, slots := 0, locals := 21 } (dC, dI) vwCl (fs_tys cI cZ cJ cF) [.ref ru] [(ru, .inr (3, [.ref rc, .ref ra, .ref rm, .ref rv, .int (nI cnt)])), (rc, .inl (cI, 8, .inl gc)), (ra, .inl (cI, 8, .inl ga)), (rm, .inl (cI, 8, .inl gm)), (rv, .inl (cI, 8, .inl gv))] sz (S := Unit) (fun z _ => z = nI (1 + (rs.flatMap fx_one).length)) (fun _ => [(ru, .inr (3, [.ref rc, .ref ra, .ref rm, .ref rv, .int (nI cnt)])), (rc, .inl (cI, 8, .inl gc)), (ra, .inl (cI, 8, .inl ga)), (rm, .inl (cI, 8, .inl gm)), (rv, .inl (cI, 8, .inl gv))]) 0 0 := by
  refine fs_head (by decide) (Nat.le_of_ble_eq_true rfl) ?_
  intro p e s m below meth c A ls hx hb hr hts hown hlocks hin hml hK hP hD hS hA hAe hsz hl
  have hl : lv_has ls 3 [(0, .ref ru)] := hl
  have hown : s.vm.findClass R_Ru = some m.cls := hown
  refine lv_iconst (v := nI 1) hx hb d_Ru_translatedLength_0 (by decide) ?_
  refine lv_istore_n hx hb d_Ru_translatedLength_1 rfl hl (by decide) (lv' := [(1, .int (nI 1)), (0, .ref ru)]) rfl (fun ls hl => ?_)
  refine lv_iconst (v := nI 0) hx hb d_Ru_translatedLength_2 (by decide) ?_
  refine lv_istore_n hx hb d_Ru_translatedLength_3 rfl hl (by decide) (lv' := [(2, .int (nI 0)), (1, .int (nI 1)), (0, .ref ru)]) rfl (fun ls hl => ?_)
  refine fs_loop2 (α1 := Nat) (α2 := Nat) (fun r acc => cnt - r) (fun r acc H locs ls => (r ≤ cnt) ∧ (acc = 1 + ((rs.take r).flatMap fx_one).length) ∧ va_P (dC, dI) vwCl [(ru, .inr (3, [.ref rc, .ref ra, .ref rm, .ref rv, .int (nI cnt)])), (rc, .inl (cI, 8, .inl gc)), (ra, .inl (cI, 8, .inl ga)), (rm, .inl (cI, 8, .inl gm)), (rv, .inl (cI, 8, .inl gv))] H ∧ va_D A [(ru, .inr (3, [.ref rc, .ref ra, .ref rm, .ref rv, .int (nI cnt)])), (rc, .inl (cI, 8, .inl gc)), (ra, .inl (cI, 8, .inl ga)), (rm, .inl (cI, 8, .inl gm)), (rv, .inl (cI, 8, .inl gv))] ∧ va_S A s.heap H locs ∧ lv_has ls 3 [(0, .ref ru), (1, .int (nI acc)), (2, .int (nI r))]) ?_ 0 1 ⟨by omega, by simp, hP, hD, hS, lv_sub hl [2, 1, 0] rfl⟩
  intro r acc H locs ls hI ih4
  obtain ⟨hrc, hacc, hP, hD, hS, hl⟩ := hI
  have hfl := fx_flat_le (rs.take r)
  have htl : (rs.take r).length ≤ rs.length := (by rw [List.length_take]; omega)
  refine lv_iload_n hx hb d_Ru_translatedLength_4 rfl (lv_at hl 2 rfl) ?_
  refine lv_aload_n hx hb d_Ru_translatedLength_5 rfl (lv_at hl 0 rfl) ?_
  refine va_get (D := (dC, dI)) (ci := 3) (v := .int (nI cnt)) (C := R_Ru) (T := T_Ru) (N := 5) hx hb hts uin_Ru hown hK hP 0 rfl rfl 4 (by decide) (hts _ wi_72) (fun _ h9 => h9) rfl d_Ru_translatedLength_6 ?_
  refine lv_icmp_ge (tgt := 26) hx hb d_Ru_translatedLength_9 (by decide) (fun hc9 => ?_) (fun hc9 => ?_)
  · rw [nI_leI (by omega) (by omega)] at hc9
    refine lv_iload_n hx hb d_Ru_translatedLength_26 rfl (lv_at hl 1 rfl) ?_
    exact fs_iret hx hb hr hlocks hAe hK hS d_Ru_translatedLength_27 () (by rw [hacc, List.take_of_length_le (by omega)]) hP hD
  rw [nI_leI (by omega) (by omega)] at hc9
  refine lv_iload_n hx hb d_Ru_translatedLength_12 rfl (lv_at hl 1 rfl) ?_
  refine lv_aload_n hx hb d_Ru_translatedLength_13 rfl (lv_at hl 0 rfl) ?_
  refine lv_iload_n hx hb d_Ru_translatedLength_14 rfl (lv_at hl 2 rfl) ?_
  refine fs_calli (wc := [(ru, .inr (3, [.ref rc, .ref ra, .ref rm, .ref rv, .int (nI cnt)])), (ra, .inl (cI, 8, .inl ga))]) (wr := [(rc, .inl (cI, 8, .inl gc)), (rm, .inl (cI, 8, .inl gm)), (rv, .inl (cI, 8, .inl gv))]) [0, 2] [1, 3, 4] hP hD hK hS hA rfl rfl rfl (by decide) (fun hPc hDc => va_runV (C := R_Ru) (As := [.int (nI r)]) (rest := [.int (nI acc)]) ⟨hx, hb, hml, hown, hts⟩ (c_Ru_lengthOf ru rc ra rm rv cnt r ga _ (by omega)) (⟨callB_of 1 hts (fs_g kin_Ru_lengthOf) rfl rfl rfl (hts _ wi_3) (hts _ wi_254) (by decide +kernel) ⟨Nat.le_of_ble_eq_true rfl, Nat.le_of_ble_eq_true rfl⟩, hts _ wi_256, hts _ sel_Ru_lengthOf⟩) (fs_preV (q0 := 0) rfl rfl hPc hK hDc) rfl rfl hl.1 rfl (lv_room (Nat.le_of_ble_eq_true rfl)) d_Ru_translatedLength_15 ⟨Nat.le_of_ble_eq_true rfl, Nat.le_of_ble_eq_true rfl⟩) rfl (fun r15 _ H locs hp15 hP hD hS => ?_)
  have hP : va_P (dC, dI) vwCl [(ru, .inr (3, [.ref rc, .ref ra, .ref rm, .ref rv, .int (nI cnt)])), (rc, .inl (cI, 8, .inl gc)), (ra, .inl (cI, 8, .inl ga)), (rm, .inl (cI, 8, .inl gm)), (rv, .inl (cI, 8, .inl gv))] H := hP.sub [3, 0, 4, 1, 2] rfl
  have hD : va_D A [(ru, .inr (3, [.ref rc, .ref ra, .ref rm, .ref rv, .int (nI cnt)])), (rc, .inl (cI, 8, .inl gc)), (ra, .inl (cI, 8, .inl ga)), (rm, .inl (cI, 8, .inl gm)), (rv, .inl (cI, 8, .inl gv))] := hD.sub [3, 0, 4, 1, 2] (by decide) rfl
  subst hp15
  have hl6 := fx_len_le (ga r)
  refine lv_iadd hx hb d_Ru_translatedLength_18 ?_
  refine fs_eqi (nI_add _ _) ?_
  refine lv_istore_n hx hb d_Ru_translatedLength_19 rfl hl (by decide) (lv' := [(1, .int (nI (acc + fx_len (ga r)))), (0, .ref ru), (2, .int (nI r))]) rfl (fun ls hl => ?_)
  refine lv_iinc (v := nI (r + 1)) (k := 2) hx hb d_Ru_translatedLength_20 hl rfl (fs_incN r 1) (by decide) (lv' := [(2, .int (nI (r + 1))), (1, .int (nI (acc + fx_len (ga r)))), (0, .ref ru)]) rfl (fun ls hl => ?_)
  refine lv_goto (tgt := 4) hx hb d_Ru_translatedLength_23 (by decide) ?_
  exact ih4 (r + 1) (acc + fx_len (ga r)) _ _ _ (by omega) ⟨by omega, by rw [fx_take hrr (by omega), List.length_append, fx_one_len, hacc]; dsimp only; omega, hP, hD, hS, lv_sub hl [2, 1, 0] rfl⟩

theorem d_Ru_translateOne_0 : decode b_Ru_translateOne 0 = .ok (.aload_n 1, 1) := by decide +kernel
theorem d_Ru_translateOne_1 : decode b_Ru_translateOne 1 = .ok (.iconst 0, 1) := by decide +kernel
theorem d_Ru_translateOne_2 : decode b_Ru_translateOne 2 = .ok (.iconst 0, 1) := by decide +kernel
theorem d_Ru_translateOne_3 : decode b_Ru_translateOne 3 = .ok (.iconst 0, 1) := by decide +kernel
theorem d_Ru_translateOne_4 : decode b_Ru_translateOne 4 = .ok (.iconst 0, 1) := by decide +kernel
theorem d_Ru_translateOne_5 : decode b_Ru_translateOne 5 = .ok (.invokevirtual 42, 3) := by decide +kernel
theorem d_Ru_translateOne_8 : decode b_Ru_translateOne 8 = .ok (.pop, 1) := by decide +kernel
theorem d_Ru_translateOne_9 : decode b_Ru_translateOne 9 = .ok (.aload_n 1, 1) := by decide +kernel
theorem d_Ru_translateOne_10 : decode b_Ru_translateOne 10 = .ok (.bipush 26, 2) := by decide +kernel
theorem d_Ru_translateOne_12 : decode b_Ru_translateOne 12 = .ok (.iconst 0, 1) := by decide +kernel
theorem d_Ru_translateOne_13 : decode b_Ru_translateOne 13 = .ok (.aload_n 0, 1) := by decide +kernel
theorem d_Ru_translateOne_14 : decode b_Ru_translateOne 14 = .ok (.iload_n 2, 1) := by decide +kernel
theorem d_Ru_translateOne_15 : decode b_Ru_translateOne 15 = .ok (.invokevirtual 28, 3) := by decide +kernel
theorem d_Ru_translateOne_18 : decode b_Ru_translateOne 18 = .ok (.iconst 2, 1) := by decide +kernel
theorem d_Ru_translateOne_19 : decode b_Ru_translateOne 19 = .ok (.isub, 1) := by decide +kernel
theorem d_Ru_translateOne_20 : decode b_Ru_translateOne 20 = .ok (.aload_n 0, 1) := by decide +kernel
theorem d_Ru_translateOne_21 : decode b_Ru_translateOne 21 = .ok (.getfield 9, 3) := by decide +kernel
theorem d_Ru_translateOne_24 : decode b_Ru_translateOne 24 = .ok (.iload_n 2, 1) := by decide +kernel
theorem d_Ru_translateOne_25 : decode b_Ru_translateOne 25 = .ok (.iaload, 1) := by decide +kernel
theorem d_Ru_translateOne_26 : decode b_Ru_translateOne 26 = .ok (.invokevirtual 42, 3) := by decide +kernel
theorem d_Ru_translateOne_29 : decode b_Ru_translateOne 29 = .ok (.pop, 1) := by decide +kernel
theorem d_Ru_translateOne_30 : decode b_Ru_translateOne 30 = .ok (.aload_n 0, 1) := by decide +kernel
theorem d_Ru_translateOne_31 : decode b_Ru_translateOne 31 = .ok (.getfield 15, 3) := by decide +kernel
theorem d_Ru_translateOne_34 : decode b_Ru_translateOne 34 = .ok (.iload_n 2, 1) := by decide +kernel
theorem d_Ru_translateOne_35 : decode b_Ru_translateOne 35 = .ok (.iaload, 1) := by decide +kernel
theorem d_Ru_translateOne_36 : decode b_Ru_translateOne 36 = .ok (.iconst (-1), 1) := by decide +kernel
theorem d_Ru_translateOne_37 : decode b_Ru_translateOne 37 = .ok (.if_icmp .eq 49, 3) := by decide +kernel
theorem d_Ru_translateOne_40 : decode b_Ru_translateOne 40 = .ok (.aload_n 1, 1) := by decide +kernel
theorem d_Ru_translateOne_41 : decode b_Ru_translateOne 41 = .ok (.iconst 0, 1) := by decide +kernel
theorem d_Ru_translateOne_42 : decode b_Ru_translateOne 42 = .ok (.iconst 0, 1) := by decide +kernel
theorem d_Ru_translateOne_43 : decode b_Ru_translateOne 43 = .ok (.iconst 0, 1) := by decide +kernel
theorem d_Ru_translateOne_44 : decode b_Ru_translateOne 44 = .ok (.iconst 4, 1) := by decide +kernel
theorem d_Ru_translateOne_45 : decode b_Ru_translateOne 45 = .ok (.aload_n 0, 1) := by decide +kernel
theorem d_Ru_translateOne_46 : decode b_Ru_translateOne 46 = .ok (.getfield 15, 3) := by decide +kernel
theorem d_Ru_translateOne_49 : decode b_Ru_translateOne 49 = .ok (.iload_n 2, 1) := by decide +kernel
theorem d_Ru_translateOne_50 : decode b_Ru_translateOne 50 = .ok (.iaload, 1) := by decide +kernel
theorem d_Ru_translateOne_51 : decode b_Ru_translateOne 51 = .ok (.iadd, 1) := by decide +kernel
theorem d_Ru_translateOne_52 : decode b_Ru_translateOne 52 = .ok (.invokevirtual 42, 3) := by decide +kernel
theorem d_Ru_translateOne_55 : decode b_Ru_translateOne 55 = .ok (.pop, 1) := by decide +kernel
theorem d_Ru_translateOne_56 : decode b_Ru_translateOne 56 = .ok (.aload_n 1, 1) := by decide +kernel
theorem d_Ru_translateOne_57 : decode b_Ru_translateOne 57 = .ok (.bipush 14, 2) := by decide +kernel
theorem d_Ru_translateOne_59 : decode b_Ru_translateOne 59 = .ok (.iconst 0, 1) := by decide +kernel
theorem d_Ru_translateOne_60 : decode b_Ru_translateOne 60 = .ok (.iconst 0, 1) := by decide +kernel
theorem d_Ru_translateOne_61 : decode b_Ru_translateOne 61 = .ok (.aload_n 0, 1) := by decide +kernel
theorem d_Ru_translateOne_62 : decode b_Ru_translateOne 62 = .ok (.getfield 18, 3) := by decide +kernel
theorem d_Ru_translateOne_65 : decode b_Ru_translateOne 65 = .ok (.iload_n 2, 1) := by decide +kernel
theorem d_Ru_translateOne_66 : decode b_Ru_translateOne 66 = .ok (.iaload, 1) := by decide +kernel
theorem d_Ru_translateOne_67 : decode b_Ru_translateOne 67 = .ok (.invokevirtual 42, 3) := by decide +kernel
theorem d_Ru_translateOne_70 : decode b_Ru_translateOne 70 = .ok (.pop, 1) := by decide +kernel
theorem d_Ru_translateOne_71 : decode b_Ru_translateOne 71 = .ok (.aload_n 1, 1) := by decide +kernel
theorem d_Ru_translateOne_72 : decode b_Ru_translateOne 72 = .ok (.bipush 26, 2) := by decide +kernel
theorem d_Ru_translateOne_74 : decode b_Ru_translateOne 74 = .ok (.iconst 0, 1) := by decide +kernel
theorem d_Ru_translateOne_75 : decode b_Ru_translateOne 75 = .ok (.iconst 1, 1) := by decide +kernel
theorem d_Ru_translateOne_76 : decode b_Ru_translateOne 76 = .ok (.aload_n 0, 1) := by decide +kernel
theorem d_Ru_translateOne_77 : decode b_Ru_translateOne 77 = .ok (.getfield 21, 3) := by decide +kernel
theorem d_Ru_translateOne_80 : decode b_Ru_translateOne 80 = .ok (.iload_n 2, 1) := by decide +kernel
theorem d_Ru_translateOne_81 : decode b_Ru_translateOne 81 = .ok (.iaload, 1) := by decide +kernel
theorem d_Ru_translateOne_82 : decode b_Ru_translateOne 82 = .ok (.invokevirtual 42, 3) := by decide +kernel
theorem d_Ru_translateOne_85 : decode b_Ru_translateOne 85 = .ok (.pop, 1) := by decide +kernel
theorem d_Ru_translateOne_86 : decode b_Ru_translateOne 86 = .ok (.aload_n 1, 1) := by decide +kernel
theorem d_Ru_translateOne_87 : decode b_Ru_translateOne 87 = .ok (.bipush 31, 2) := by decide +kernel
theorem d_Ru_translateOne_89 : decode b_Ru_translateOne 89 = .ok (.iconst 0, 1) := by decide +kernel
theorem d_Ru_translateOne_90 : decode b_Ru_translateOne 90 = .ok (.iconst 0, 1) := by decide +kernel
theorem d_Ru_translateOne_91 : decode b_Ru_translateOne 91 = .ok (.ldc 46, 2) := by decide +kernel
theorem d_Ru_translateOne_93 : decode b_Ru_translateOne 93 = .ok (.invokevirtual 42, 3) := by decide +kernel
theorem d_Ru_translateOne_96 : decode b_Ru_translateOne 96 = .ok (.pop, 1) := by decide +kernel
theorem d_Ru_translateOne_97 : decode b_Ru_translateOne 97 = .ok (.return_, 1) := by decide +kernel
set_option maxHeartbeats 4000000 in
set_option maxRecDepth 100000 in
theorem c_Ru_translateOneP (ru rc ra rm rv cnt : Nat) (gc ga gm gv : Nat → Int32) (q o y n k : Nat) (fo fy fn fk : Nat → Int32) (L : fx_Prg) (r : Nat) (sz : Nat) (hrep : fx_rep L fo fy fn fk) (hr8 : r < 8) (hv : ga r = -1) (hl0 : L.length + fx_len (ga r) ≤ 39) : fs_V l y_Ru_translateOne (k_Ru_translateOne :: fs_T) { frames := 1, cells := 0, slots := 0, locals := 24 } (dC, dI) vwCl (fs_tys cI cZ cJ cF) [.ref ru, .ref q, .int (nI r)] [(ru, .inr (3, [.ref rc, .ref ra, .ref rm, .ref rv, .int (nI cnt)])), (rc, .inl (cI, 8, .inl gc)), (ra, .inl (cI, 8, .inl ga)), (rm, .inl (cI, 8, .inl gm)), (rv, .inl (cI, 8, .inl gv)), (q, .inr (1, [.ref o, .ref y, .ref n, .ref k, .int (nI L.length)])), (o, .inl (cI, 40, .inl fo)), (y, .inl (cI, 40, .inl fy)), (n, .inl (cI, 40, .inl fn)), (k, .inl (cI, 40, .inl fk))] sz (S := (Nat → Int32) × (Nat → Int32) × (Nat → Int32) × (Nat → Int32)) (fun u => fx_rep (L ++ fx_one (gc r, ga r, gm r, gv r)) u.1 u.2.1 u.2.2.1 u.2.2.2) (fun u => [(ru, .inr (3, [.ref rc, .ref ra, .ref rm, .ref rv, .int (nI cnt)])), (rc, .inl (cI, 8, .inl gc)), (ra, .inl (cI, 8, .inl ga)), (rm, .inl (cI, 8, .inl gm)), (rv, .inl (cI, 8, .inl gv)), (q, .inr (1, [.ref o, .ref y, .ref n, .ref k, .int (nI ((L ++ fx_one (gc r, ga r, gm r, gv r)).length))])), (o, .inl (cI, 40, .inl u.1)), (y, .inl (cI, 40, .inl u.2.1)), (n, .inl (cI, 40, .inl u.2.2.1)), (k, .inl (cI, 40, .inl u.2.2.2))]) 0 0 := by
  refine fs_head (by decide) (Nat.le_of_ble_eq_true rfl) ?_
  intro p e s m below meth c A ls hx hb hr hts hown hlocks hin hml hK hP hD hS hA hAe hsz hl
  have hl : lv_has ls 3 [(0, .ref ru), (1, .ref q), (2, .int (nI r))] := hl
  have hown : s.vm.findClass R_Ru = some m.cls := hown
  have hl9 : L.length + 3 ≤ 39 := by rw [fx_len, if_pos hv] at hl0; exact hl0
  refine lv_aload_n hx hb d_Ru_translateOne_0 rfl (lv_at hl 1 rfl) ?_
  refine lv_iconst (v := nI 0) hx hb d_Ru_translateOne_1 (by decide) ?_
  refine lv_iconst (v := nI 0) hx hb d_Ru_translateOne_2 (by decide) ?_
  refine lv_iconst (v := nI 0) hx hb d_Ru_translateOne_3 (by decide) ?_
  refine lv_iconst (v := nI 0) hx hb d_Ru_translateOne_4 (by decide) ?_
  refine fs_calli (wc := [(q, .inr (1, [.ref o, .ref y, .ref n, .ref k, .int (nI L.length)])), (o, .inl (cI, 40, .inl fo)), (y, .inl (cI, 40, .inl fy)), (n, .inl (cI, 40, .inl fn)), (k, .inl (cI, 40, .inl fk))]) (wr := [(ru, .inr (3, [.ref rc, .ref ra, .ref rm, .ref rv, .int (nI cnt)])), (rc, .inl (cI, 8, .inl gc)), (ra, .inl (cI, 8, .inl ga)), (rm, .inl (cI, 8, .inl gm)), (rv, .inl (cI, 8, .inl gv))]) [5, 6, 7, 8, 9] [0, 1, 2, 3, 4] hP hD hK hS hA rfl rfl rfl (by decide) (fun hPc hDc => va_runV (C := R_Fi) (As := [.int (nI 0), .int (nI 0), .int (nI 0), .int (nI 0)]) (rest := []) ⟨hx, hb, hml, hown, hts⟩ (c_Fi_append q o y n k L.length fo fy fn fk (nI 0) (nI 0) (nI 0) (nI 0) _ (by omega)) (⟨callB_of 4 hts (fs_g kin_Fi_append) rfl rfl rfl (hts _ wi_2) (hts _ wi_267) (by decide +kernel) ⟨Nat.le_of_ble_eq_true rfl, Nat.le_of_ble_eq_true rfl⟩, hts _ wi_147, hts _ wi_148⟩) (fs_preV (q0 := 0) rfl rfl hPc hK hDc) rfl rfl hl.1 rfl (lv_room (Nat.le_of_ble_eq_true rfl)) d_Ru_translateOne_5 ⟨Nat.le_of_ble_eq_true rfl, Nat.le_of_ble_eq_true rfl⟩) rfl (fun r5 _ H locs hp5 hP hD hS => ?_)
  have hP : va_P (dC, dI) vwCl [(ru, .inr (3, [.ref rc, .ref ra, .ref rm, .ref rv, .int (nI cnt)])), (rc, .inl (cI, 8, .inl gc)), (ra, .inl (cI, 8, .inl ga)), (rm, .inl (cI, 8, .inl gm)), (rv, .inl (cI, 8, .inl gv)), (q, .inr (1, [.ref o, .ref y, .ref n, .ref k, .int (nI (L.length + 1))])), (o, .inl (cI, 40, .inl (upd fo L.length (nI 0)))), (y, .inl (cI, 40, .inl (upd fy L.length (nI 0)))), (n, .inl (cI, 40, .inl (upd fn L.length (nI 0)))), (k, .inl (cI, 40, .inl (upd fk L.length (nI 0))))] H := hP
  have hD : va_D A [(ru, .inr (3, [.ref rc, .ref ra, .ref rm, .ref rv, .int (nI cnt)])), (rc, .inl (cI, 8, .inl gc)), (ra, .inl (cI, 8, .inl ga)), (rm, .inl (cI, 8, .inl gm)), (rv, .inl (cI, 8, .inl gv)), (q, .inr (1, [.ref o, .ref y, .ref n, .ref k, .int (nI (L.length + 1))])), (o, .inl (cI, 40, .inl (upd fo L.length (nI 0)))), (y, .inl (cI, 40, .inl (upd fy L.length (nI 0)))), (n, .inl (cI, 40, .inl (upd fn L.length (nI 0)))), (k, .inl (cI, 40, .inl (upd fk L.length (nI 0))))] := hD
  subst hp5
  refine lv_pop hx hb d_Ru_translateOne_8 rfl ?_
  refine lv_aload_n hx hb d_Ru_translateOne_9 rfl (lv_at hl 1 rfl) ?_
  refine lv_bipush (v := nI 26) hx hb d_Ru_translateOne_10 (by decide) ?_
  refine lv_iconst (v := nI 0) hx hb d_Ru_translateOne_12 (by decide) ?_
  refine lv_aload_n hx hb d_Ru_translateOne_13 rfl (lv_at hl 0 rfl) ?_
  refine lv_iload_n hx hb d_Ru_translateOne_14 rfl (lv_at hl 2 rfl) ?_
  refine fs_calli (wc := [(ru, .inr (3, [.ref rc, .ref ra, .ref rm, .ref rv, .int (nI cnt)])), (ra, .inl (cI, 8, .inl ga))]) (wr := [(rc, .inl (cI, 8, .inl gc)), (rm, .inl (cI, 8, .inl gm)), (rv, .inl (cI, 8, .inl gv)), (q, .inr (1, [.ref o, .ref y, .ref n, .ref k, .int (nI (L.length + 1))])), (o, .inl (cI, 40, .inl (upd fo L.length (nI 0)))), (y, .inl (cI, 40, .inl (upd fy L.length (nI 0)))), (n, .inl (cI, 40, .inl (upd fn L.length (nI 0)))), (k, .inl (cI, 40, .inl (upd fk L.length (nI 0))))]) [0, 2] [1, 3, 4, 5, 6, 7, 8, 9] hP hD hK hS hA rfl rfl rfl (by decide) (fun hPc hDc => va_runV (C := R_Ru) (As := [.int (nI r)]) (rest := [.int (nI 0), .int (nI 26), .ref q]) ⟨hx, hb, hml, hown, hts⟩ (c_Ru_lengthOf ru rc ra rm rv cnt r ga _ (by omega)) (⟨callB_of 1 hts (fs_g kin_Ru_lengthOf) rfl rfl rfl (hts _ wi_3) (hts _ wi_254) (by decide +kernel) ⟨Nat.le_of_ble_eq_true rfl, Nat.le_of_ble_eq_true rfl⟩, hts _ wi_256, hts _ sel_Ru_lengthOf⟩) (fs_preV (q0 := 0) rfl rfl hPc hK hDc) rfl rfl hl.1 rfl (lv_room (Nat.le_of_ble_eq_true rfl)) d_Ru_translateOne_15 ⟨Nat.le_of_ble_eq_true rfl, Nat.le_of_ble_eq_true rfl⟩) rfl (fun r15 _ H locs hp15 hP hD hS => ?_)
  have hP : va_P (dC, dI) vwCl [(ru, .inr (3, [.ref rc, .ref ra, .ref rm, .ref rv, .int (nI cnt)])), (rc, .inl (cI, 8, .inl gc)), (ra, .inl (cI, 8, .inl ga)), (rm, .inl (cI, 8, .inl gm)), (rv, .inl (cI, 8, .inl gv)), (q, .inr (1, [.ref o, .ref y, .ref n, .ref k, .int (nI (L.length + 1))])), (o, .inl (cI, 40, .inl (upd fo L.length (nI 0)))), (y, .inl (cI, 40, .inl (upd fy L.length (nI 0)))), (n, .inl (cI, 40, .inl (upd fn L.length (nI 0)))), (k, .inl (cI, 40, .inl (upd fk L.length (nI 0))))] H := hP.sub [8, 0, 9, 1, 2, 3, 4, 5, 6, 7] rfl
  have hD : va_D A [(ru, .inr (3, [.ref rc, .ref ra, .ref rm, .ref rv, .int (nI cnt)])), (rc, .inl (cI, 8, .inl gc)), (ra, .inl (cI, 8, .inl ga)), (rm, .inl (cI, 8, .inl gm)), (rv, .inl (cI, 8, .inl gv)), (q, .inr (1, [.ref o, .ref y, .ref n, .ref k, .int (nI (L.length + 1))])), (o, .inl (cI, 40, .inl (upd fo L.length (nI 0)))), (y, .inl (cI, 40, .inl (upd fy L.length (nI 0)))), (n, .inl (cI, 40, .inl (upd fn L.length (nI 0)))), (k, .inl (cI, 40, .inl (upd fk L.length (nI 0))))] := hD.sub [8, 0, 9, 1, 2, 3, 4, 5, 6, 7] (by decide) rfl
  subst hp15
  refine fs_eqi (v := nI 3) (by rw [fx_len, if_pos hv]) ?_
  refine lv_iconst (v := nI 2) hx hb d_Ru_translateOne_18 (by decide) ?_
  refine lv_isub hx hb d_Ru_translateOne_19 ?_
  refine fs_eqi (pk_sub (by omega)) ?_
  refine fs_eqi (v := nI 1) rfl ?_
  refine lv_aload_n hx hb d_Ru_translateOne_20 rfl (lv_at hl 0 rfl) ?_
  refine va_get (D := (dC, dI)) (ci := 3) (v := .ref rc) (C := R_Ru) (T := T_Ru) (N := 5) hx hb hts uin_Ru hown hK hP 0 rfl rfl 0 (by decide) (hts _ wi_68) (fun _ h9 => h9) rfl d_Ru_translateOne_21 ?_
  refine lv_iload_n hx hb d_Ru_translateOne_24 rfl (lv_at hl 2 rfl) ?_
  refine fs_iald (v := gc r) hx hb hK hP 1 0 rfl rfl r rfl (by decide) (by omega) rfl d_Ru_translateOne_25 ?_
  refine fs_calli (wc := [(q, .inr (1, [.ref o, .ref y, .ref n, .ref k, .int (nI (L.length + 1))])), (o, .inl (cI, 40, .inl (upd fo L.length (nI 0)))), (y, .inl (cI, 40, .inl (upd fy L.length (nI 0)))), (n, .inl (cI, 40, .inl (upd fn L.length (nI 0)))), (k, .inl (cI, 40, .inl (upd fk L.length (nI 0))))]) (wr := [(ru, .inr (3, [.ref rc, .ref ra, .ref rm, .ref rv, .int (nI cnt)])), (rc, .inl (cI, 8, .inl gc)), (ra, .inl (cI, 8, .inl ga)), (rm, .inl (cI, 8, .inl gm)), (rv, .inl (cI, 8, .inl gv))]) [5, 6, 7, 8, 9] [0, 1, 2, 3, 4] hP hD hK hS hA rfl rfl rfl (by decide) (fun hPc hDc => va_runV (C := R_Fi) (As := [.int (nI 26), .int (nI 0), .int (nI 1), .int (gc r)]) (rest := []) ⟨hx, hb, hml, hown, hts⟩ (c_Fi_append q o y n k (L.length + 1) (upd fo L.length (nI 0)) (upd fy L.length (nI 0)) (upd fn L.length (nI 0)) (upd fk L.length (nI 0)) (nI 26) (nI 0) (nI 1) (gc r) _ (by omega)) (⟨callB_of 4 hts (fs_g kin_Fi_append) rfl rfl rfl (hts _ wi_2) (hts _ wi_267) (by decide +kernel) ⟨Nat.le_of_ble_eq_true rfl, Nat.le_of_ble_eq_true rfl⟩, hts _ wi_147, hts _ wi_148⟩) (fs_preV (q0 := 0) rfl rfl hPc hK hDc) rfl rfl hl.1 rfl (lv_room (Nat.le_of_ble_eq_true rfl)) d_Ru_translateOne_26 ⟨Nat.le_of_ble_eq_true rfl, Nat.le_of_ble_eq_true rfl⟩) rfl (fun r26 _ H locs hp26 hP hD hS => ?_)
  have hP : va_P (dC, dI) vwCl [(ru, .inr (3, [.ref rc, .ref ra, .ref rm, .ref rv, .int (nI cnt)])), (rc, .inl (cI, 8, .inl gc)), (ra, .inl (cI, 8, .inl ga)), (rm, .inl (cI, 8, .inl gm)), (rv, .inl (cI, 8, .inl gv)), (q, .inr (1, [.ref o, .ref y, .ref n, .ref k, .int (nI (L.length + 1 + 1))])), (o, .inl (cI, 40, .inl (upd (upd fo L.length (nI 0)) (L.length + 1) (nI 26)))), (y, .inl (cI, 40, .inl (upd (upd fy L.length (nI 0)) (L.length + 1) (nI 0)))), (n, .inl (cI, 40, .inl (upd (upd fn L.length (nI 0)) (L.length + 1) (nI 1)))), (k, .inl (cI, 40, .inl (upd (upd fk L.length (nI 0)) (L.length + 1) (gc r))))] H := hP
  have hD : va_D A [(ru, .inr (3, [.ref rc, .ref ra, .ref rm, .ref rv, .int (nI cnt)])), (rc, .inl (cI, 8, .inl gc)), (ra, .inl (cI, 8, .inl ga)), (rm, .inl (cI, 8, .inl gm)), (rv, .inl (cI, 8, .inl gv)), (q, .inr (1, [.ref o, .ref y, .ref n, .ref k, .int (nI (L.length + 1 + 1))])), (o, .inl (cI, 40, .inl (upd (upd fo L.length (nI 0)) (L.length + 1) (nI 26)))), (y, .inl (cI, 40, .inl (upd (upd fy L.length (nI 0)) (L.length + 1) (nI 0)))), (n, .inl (cI, 40, .inl (upd (upd fn L.length (nI 0)) (L.length + 1) (nI 1)))), (k, .inl (cI, 40, .inl (upd (upd fk L.length (nI 0)) (L.length + 1) (gc r))))] := hD
  subst hp26
  refine lv_pop hx hb d_Ru_translateOne_29 rfl ?_
  refine lv_aload_n hx hb d_Ru_translateOne_30 rfl (lv_at hl 0 rfl) ?_
  refine va_get (D := (dC, dI)) (ci := 3) (v := .ref ra) (C := R_Ru) (T := T_Ru) (N := 5) hx hb hts uin_Ru hown hK hP 0 rfl rfl 1 (by decide) (hts _ wi_69) (fun _ h9 => h9) rfl d_Ru_translateOne_31 ?_
  refine lv_iload_n hx hb d_Ru_translateOne_34 rfl (lv_at hl 2 rfl) ?_
  refine fs_iald (v := ga r) hx hb hK hP 2 0 rfl rfl r rfl (by decide) (by omega) rfl d_Ru_translateOne_35 ?_
  refine lv_iconst (v := (-1)) hx hb d_Ru_translateOne_36 (by decide) ?_
  refine lv_icmp_eq (tgt := 86) hx hb d_Ru_translateOne_37 (by decide) (fun hc37 => ?_) (fun hc37 => absurd hv hc37)
  refine lv_aload_n hx hb d_Ru_translateOne_86 rfl (lv_at hl 1 rfl) ?_
  refine lv_bipush (v := nI 31) hx hb d_Ru_translateOne_87 (by decide) ?_
  refine lv_iconst (v := nI 0) hx hb d_Ru_translateOne_89 (by decide) ?_
  refine lv_iconst (v := nI 0) hx hb d_Ru_translateOne_90 (by decide) ?_
  refine lv_ldc (v := nI 1006632960) hx hb hown (hts _ wi_268) d_Ru_translateOne_91 ?_
  refine fs_calli (wc := [(q, .inr (1, [.ref o, .ref y, .ref n, .ref k, .int (nI (L.length + 1 + 1))])), (o, .inl (cI, 40, .inl (upd (upd fo L.length (nI 0)) (L.length + 1) (nI 26)))), (y, .inl (cI, 40, .inl (upd (upd fy L.length (nI 0)) (L.length + 1) (nI 0)))), (n, .inl (cI, 40, .inl (upd (upd fn L.length (nI 0)) (L.length + 1) (nI 1)))), (k, .inl (cI, 40, .inl (upd (upd fk L.length (nI 0)) (L.length + 1) (gc r))))]) (wr := [(ru, .inr (3, [.ref rc, .ref ra, .ref rm, .ref rv, .int (nI cnt)])), (rc, .inl (cI, 8, .inl gc)), (ra, .inl (cI, 8, .inl ga)), (rm, .inl (cI, 8, .inl gm)), (rv, .inl (cI, 8, .inl gv))]) [5, 6, 7, 8, 9] [0, 1, 2, 3, 4] hP hD hK hS hA rfl rfl rfl (by decide) (fun hPc hDc => va_runV (C := R_Fi) (As := [.int (nI 31), .int (nI 0), .int (nI 0), .int (nI 1006632960)]) (rest := []) ⟨hx, hb, hml, hown, hts⟩ (c_Fi_append q o y n k (L.length + 1 + 1) (upd (upd fo L.length (nI 0)) (L.length + 1) (nI 26)) (upd (upd fy L.length (nI 0)) (L.length + 1) (nI 0)) (upd (upd fn L.length (nI 0)) (L.length + 1) (nI 1)) (upd (upd fk L.length (nI 0)) (L.length + 1) (gc r)) (nI 31) (nI 0) (nI 0) (nI 1006632960) _ (by omega)) (⟨callB_of 4 hts (fs_g kin_Fi_append) rfl rfl rfl (hts _ wi_2) (hts _ wi_267) (by decide +kernel) ⟨Nat.le_of_ble_eq_true rfl, Nat.le_of_ble_eq_true rfl⟩, hts _ wi_147, hts _ wi_148⟩) (fs_preV (q0 := 0) rfl rfl hPc hK hDc) rfl rfl hl.1 rfl (lv_room (Nat.le_of_ble_eq_true rfl)) d_Ru_translateOne_93 ⟨Nat.le_of_ble_eq_true rfl, Nat.le_of_ble_eq_true rfl⟩) rfl (fun r93 _ H locs hp93 hP hD hS => ?_)
  have hP : va_P (dC, dI) vwCl [(ru, .inr (3, [.ref rc, .ref ra, .ref rm, .ref rv, .int (nI cnt)])), (rc, .inl (cI, 8, .inl gc)), (ra, .inl (cI, 8, .inl ga)), (rm, .inl (cI, 8, .inl gm)), (rv, .inl (cI, 8, .inl gv)), (q, .inr (1, [.ref o, .ref y, .ref n, .ref k, .int (nI (L.length + 1 + 1 + 1))])), (o, .inl (cI, 40, .inl (upd (upd (upd fo L.length (nI 0)) (L.length + 1) (nI 26)) (L.length + 1 + 1) (nI 31)))), (y, .inl (cI, 40, .inl (upd (upd (upd fy L.length (nI 0)) (L.length + 1) (nI 0)) (L.length + 1 + 1) (nI 0)))), (n, .inl (cI, 40, .inl (upd (upd (upd fn L.length (nI 0)) (L.length + 1) (nI 1)) (L.length + 1 + 1) (nI 0)))), (k, .inl (cI, 40, .inl (upd (upd (upd fk L.length (nI 0)) (L.length + 1) (gc r)) (L.length + 1 + 1) (nI 1006632960))))] H := hP
  have hD : va_D A [(ru, .inr (3, [.ref rc, .ref ra, .ref rm, .ref rv, .int (nI cnt)])), (rc, .inl (cI, 8, .inl gc)), (ra, .inl (cI, 8, .inl ga)), (rm, .inl (cI, 8, .inl gm)), (rv, .inl (cI, 8, .inl gv)), (q, .inr (1, [.ref o, .ref y, .ref n, .ref k, .int (nI (L.length + 1 + 1 + 1))])), (o, .inl (cI, 40, .inl (upd (upd (upd fo L.length (nI 0)) (L.length + 1) (nI 26)) (L.length + 1 + 1) (nI 31)))), (y, .inl (cI, 40, .inl (upd (upd (upd fy L.length (nI 0)) (L.length + 1) (nI 0)) (L.length + 1 + 1) (nI 0)))), (n, .inl (cI, 40, .inl (upd (upd (upd fn L.length (nI 0)) (L.length + 1) (nI 1)) (L.length + 1 + 1) (nI 0)))), (k, .inl (cI, 40, .inl (upd (upd (upd fk L.length (nI 0)) (L.length + 1) (gc r)) (L.length + 1 + 1) (nI 1006632960))))] := hD
  subst hp93
  refine lv_pop hx hb d_Ru_translateOne_96 rfl ?_
  have hr0 := hrep
  have hr0 := fx_rep_app (m := L.length) (o := 0) (y := 0) (n := 0) (k := 0) (by simp) rfl rfl rfl hr0
  have hr0 := fx_rep_app (m := L.length + 1) (o := 26) (y := 0) (n := 1) (k := gc r) (by simp) rfl rfl rfl hr0
  have hr0 := fx_rep_app (m := L.length + 1 + 1) (o := 31) (y := 0) (n := 0) (k := 1006632960) (by simp) rfl rfl rfl hr0
  have hone : L ++ fx_one (gc r, ga r, gm r, gv r) = (((L ++ [(0, 0, 0, 0)]) ++ [(26, 0, 1, gc r)]) ++ [(31, 0, 0, 1006632960)]) := by rw [fx_one, if_pos hv]; simp
  have hln : L.length + 1 + 1 + 1 = (L ++ fx_one (gc r, ga r, gm r, gv r)).length := by rw [hone]; simp
  rw [hln] at hP hD
  rw [← hone] at hr0
  exact fs_vret hx hb hr hlocks hAe hK hS d_Ru_translateOne_97 (upd (upd (upd fo L.length (nI 0)) (L.length + 1) (nI 26)) (L.length + 1 + 1) (nI 31), upd (upd (upd fy L.length (nI 0)) (L.length + 1) (nI 0)) (L.length + 1 + 1) (nI 0), upd (upd (upd fn L.length (nI 0)) (L.length + 1) (nI 1)) (L.length + 1 + 1) (nI 0), upd (upd (upd fk L.length (nI 0)) (L.length + 1) (gc r)) (L.length + 1 + 1) (nI 1006632960)) (hr0) hP hD

set_option maxHeartbeats 4000000 in
set_option maxRecDepth 100000 in
theorem c_Ru_translateOneA (ru rc ra rm rv cnt : Nat) (gc ga gm gv : Nat → Int32) (q o y n k : Nat) (fo fy fn fk : Nat → Int32) (L : fx_Prg) (r : Nat) (sz : Nat) (hrep : fx_rep L fo fy fn fk) (hr8 : r < 8) (hv : ¬ ga r = -1) (hl0 : L.length + fx_len (ga r) ≤ 39) : fs_V l y_Ru_translateOne (k_Ru_translateOne :: fs_T) { frames := 1, cells := 0, slots := 0, locals := 24 } (dC, dI) vwCl (fs_tys cI cZ cJ cF) [.ref ru, .ref q, .int (nI r)] [(ru, .inr (3, [.ref rc, .ref ra, .ref rm, .ref rv, .int (nI cnt)])), (rc, .inl (cI, 8, .inl gc)), (ra, .inl (cI, 8, .inl ga)), (rm, .inl (cI, 8, .inl gm)), (rv, .inl (cI, 8, .inl gv)), (q, .inr (1, [.ref o, .ref y, .ref n, .ref k, .int (nI L.length)])), (o, .inl (cI, 40, .inl fo)), (y, .inl (cI, 40, .inl fy)), (n, .inl (cI, 40, .inl fn)), (k, .inl (cI, 40, .inl fk))] sz (S := (Nat → Int32) × (Nat → Int32) × (Nat → Int32) × (Nat → Int32)) (fun u => fx_rep (L ++ fx_one (gc r, ga r, gm r, gv r)) u.1 u.2.1 u.2.2.1 u.2.2.2) (fun u => [(ru, .inr (3, [.ref rc, .ref ra, .ref rm, .ref rv, .int (nI cnt)])), (rc, .inl (cI, 8, .inl gc)), (ra, .inl (cI, 8, .inl ga)), (rm, .inl (cI, 8, .inl gm)), (rv, .inl (cI, 8, .inl gv)), (q, .inr (1, [.ref o, .ref y, .ref n, .ref k, .int (nI ((L ++ fx_one (gc r, ga r, gm r, gv r)).length))])), (o, .inl (cI, 40, .inl u.1)), (y, .inl (cI, 40, .inl u.2.1)), (n, .inl (cI, 40, .inl u.2.2.1)), (k, .inl (cI, 40, .inl u.2.2.2))]) 0 0 := by
  refine fs_head (by decide) (Nat.le_of_ble_eq_true rfl) ?_
  intro p e s m below meth c A ls hx hb hr hts hown hlocks hin hml hK hP hD hS hA hAe hsz hl
  have hl : lv_has ls 3 [(0, .ref ru), (1, .ref q), (2, .int (nI r))] := hl
  have hown : s.vm.findClass R_Ru = some m.cls := hown
  have hl9 : L.length + 6 ≤ 39 := by rw [fx_len, if_neg hv] at hl0; exact hl0
  refine lv_aload_n hx hb d_Ru_translateOne_0 rfl (lv_at hl 1 rfl) ?_
  refine lv_iconst (v := nI 0) hx hb d_Ru_translateOne_1 (by decide) ?_
  refine lv_iconst (v := nI 0) hx hb d_Ru_translateOne_2 (by decide) ?_
  refine lv_iconst (v := nI 0) hx hb d_Ru_translateOne_3 (by decide) ?_
  refine lv_iconst (v := nI 0) hx hb d_Ru_translateOne_4 (by decide) ?_
  refine fs_calli (wc := [(q, .inr (1, [.ref o, .ref y, .ref n, .ref k, .int (nI L.length)])), (o, .inl (cI, 40, .inl fo)), (y, .inl (cI, 40, .inl fy)), (n, .inl (cI, 40, .inl fn)), (k, .inl (cI, 40, .inl fk))]) (wr := [(ru, .inr (3, [.ref rc, .ref ra, .ref rm, .ref rv, .int (nI cnt)])), (rc, .inl (cI, 8, .inl gc)), (ra, .inl (cI, 8, .inl ga)), (rm, .inl (cI, 8, .inl gm)), (rv, .inl (cI, 8, .inl gv))]) [5, 6, 7, 8, 9] [0, 1, 2, 3, 4] hP hD hK hS hA rfl rfl rfl (by decide) (fun hPc hDc => va_runV (C := R_Fi) (As := [.int (nI 0), .int (nI 0), .int (nI 0), .int (nI 0)]) (rest := []) ⟨hx, hb, hml, hown, hts⟩ (c_Fi_append q o y n k L.length fo fy fn fk (nI 0) (nI 0) (nI 0) (nI 0) _ (by omega)) (⟨callB_of 4 hts (fs_g kin_Fi_append) rfl rfl rfl (hts _ wi_2) (hts _ wi_267) (by decide +kernel) ⟨Nat.le_of_ble_eq_true rfl, Nat.le_of_ble_eq_true rfl⟩, hts _ wi_147, hts _ wi_148⟩) (fs_preV (q0 := 0) rfl rfl hPc hK hDc) rfl rfl hl.1 rfl (lv_room (Nat.le_of_ble_eq_true rfl)) d_Ru_translateOne_5 ⟨Nat.le_of_ble_eq_true rfl, Nat.le_of_ble_eq_true rfl⟩) rfl (fun r5 _ H locs hp5 hP hD hS => ?_)
  have hP : va_P (dC, dI) vwCl [(ru, .inr (3, [.ref rc, .ref ra, .ref rm, .ref rv, .int (nI cnt)])), (rc, .inl (cI, 8, .inl gc)), (ra, .inl (cI, 8, .inl ga)), (rm, .inl (cI, 8, .inl gm)), (rv, .inl (cI, 8, .inl gv)), (q, .inr (1, [.ref o, .ref y, .ref n, .ref k, .int (nI (L.length + 1))])), (o, .inl (cI, 40, .inl (upd fo L.length (nI 0)))), (y, .inl (cI, 40, .inl (upd fy L.length (nI 0)))), (n, .inl (cI, 40, .inl (upd fn L.length (nI 0)))), (k, .inl (cI, 40, .inl (upd fk L.length (nI 0))))] H := hP
  have hD : va_D A [(ru, .inr (3, [.ref rc, .ref ra, .ref rm, .ref rv, .int (nI cnt)])), (rc, .inl (cI, 8, .inl gc)), (ra, .inl (cI, 8, .inl ga)), (rm, .inl (cI, 8, .inl gm)), (rv, .inl (cI, 8, .inl gv)), (q, .inr (1, [.ref o, .ref y, .ref n, .ref k, .int (nI (L.length + 1))])), (o, .inl (cI, 40, .inl (upd fo L.length (nI 0)))), (y, .inl (cI, 40, .inl (upd fy L.length (nI 0)))), (n, .inl (cI, 40, .inl (upd fn L.length (nI 0)))), (k, .inl (cI, 40, .inl (upd fk L.length (nI 0))))] := hD
  subst hp5
  refine lv_pop hx hb d_Ru_translateOne_8 rfl ?_
  refine lv_aload_n hx hb d_Ru_translateOne_9 rfl (lv_at hl 1 rfl) ?_
  refine lv_bipush (v := nI 26) hx hb d_Ru_translateOne_10 (by decide) ?_
  refine lv_iconst (v := nI 0) hx hb d_Ru_translateOne_12 (by decide) ?_
  refine lv_aload_n hx hb d_Ru_translateOne_13 rfl (lv_at hl 0 rfl) ?_
  refine lv_iload_n hx hb d_Ru_translateOne_14 rfl (lv_at hl 2 rfl) ?_
  refine fs_calli (wc := [(ru, .inr (3, [.ref rc, .ref ra, .ref rm, .ref rv, .int (nI cnt)])), (ra, .inl (cI, 8, .inl ga))]) (wr := [(rc, .inl (cI, 8, .inl gc)), (rm, .inl (cI, 8, .inl gm)), (rv, .inl (cI, 8, .inl gv)), (q, .inr (1, [.ref o, .ref y, .ref n, .ref k, .int (nI (L.length + 1))])), (o, .inl (cI, 40, .inl (upd fo L.length (nI 0)))), (y, .inl (cI, 40, .inl (upd fy L.length (nI 0)))), (n, .inl (cI, 40, .inl (upd fn L.length (nI 0)))), (k, .inl (cI, 40, .inl (upd fk L.length (nI 0))))]) [0, 2] [1, 3, 4, 5, 6, 7, 8, 9] hP hD hK hS hA rfl rfl rfl (by decide) (fun hPc hDc => va_runV (C := R_Ru) (As := [.int (nI r)]) (rest := [.int (nI 0), .int (nI 26), .ref q]) ⟨hx, hb, hml, hown, hts⟩ (c_Ru_lengthOf ru rc ra rm rv cnt r ga _ (by omega)) (⟨callB_of 1 hts (fs_g kin_Ru_lengthOf) rfl rfl rfl (hts _ wi_3) (hts _ wi_254) (by decide +kernel) ⟨Nat.le_of_ble_eq_true rfl, Nat.le_of_ble_eq_true rfl⟩, hts _ wi_256, hts _ sel_Ru_lengthOf⟩) (fs_preV (q0 := 0) rfl rfl hPc hK hDc) rfl rfl hl.1 rfl (lv_room (Nat.le_of_ble_eq_true rfl)) d_Ru_translateOne_15 ⟨Nat.le_of_ble_eq_true rfl, Nat.le_of_ble_eq_true rfl⟩) rfl (fun r15 _ H locs hp15 hP hD hS => ?_)
  have hP : va_P (dC, dI) vwCl [(ru, .inr (3, [.ref rc, .ref ra, .ref rm, .ref rv, .int (nI cnt)])), (rc, .inl (cI, 8, .inl gc)), (ra, .inl (cI, 8, .inl ga)), (rm, .inl (cI, 8, .inl gm)), (rv, .inl (cI, 8, .inl gv)), (q, .inr (1, [.ref o, .ref y, .ref n, .ref k, .int (nI (L.length + 1))])), (o, .inl (cI, 40, .inl (upd fo L.length (nI 0)))), (y, .inl (cI, 40, .inl (upd fy L.length (nI 0)))), (n, .inl (cI, 40, .inl (upd fn L.length (nI 0)))), (k, .inl (cI, 40, .inl (upd fk L.length (nI 0))))] H := hP.sub [8, 0, 9, 1, 2, 3, 4, 5, 6, 7] rfl
  have hD : va_D A [(ru, .inr (3, [.ref rc, .ref ra, .ref rm, .ref rv, .int (nI cnt)])), (rc, .inl (cI, 8, .inl gc)), (ra, .inl (cI, 8, .inl ga)), (rm, .inl (cI, 8, .inl gm)), (rv, .inl (cI, 8, .inl gv)), (q, .inr (1, [.ref o, .ref y, .ref n, .ref k, .int (nI (L.length + 1))])), (o, .inl (cI, 40, .inl (upd fo L.length (nI 0)))), (y, .inl (cI, 40, .inl (upd fy L.length (nI 0)))), (n, .inl (cI, 40, .inl (upd fn L.length (nI 0)))), (k, .inl (cI, 40, .inl (upd fk L.length (nI 0))))] := hD.sub [8, 0, 9, 1, 2, 3, 4, 5, 6, 7] (by decide) rfl
  subst hp15
  refine fs_eqi (v := nI 6) (by rw [fx_len, if_neg hv]) ?_
  refine lv_iconst (v := nI 2) hx hb d_Ru_translateOne_18 (by decide) ?_
  refine lv_isub hx hb d_Ru_translateOne_19 ?_
  refine fs_eqi (pk_sub (by omega)) ?_
  refine fs_eqi (v := nI 4) rfl ?_
  refine lv_aload_n hx hb d_Ru_translateOne_20 rfl (lv_at hl 0 rfl) ?_
  refine va_get (D := (dC, dI)) (ci := 3) (v := .ref rc) (C := R_Ru) (T := T_Ru) (N := 5) hx hb hts uin_Ru hown hK hP 0 rfl rfl 0 (by decide) (hts _ wi_68) (fun _ h9 => h9) rfl d_Ru_translateOne_21 ?_
  refine lv_iload_n hx hb d_Ru_translateOne_24 rfl (lv_at hl 2 rfl) ?_
  refine fs_iald (v := gc r) hx hb hK hP 1 0 rfl rfl r rfl (by decide) (by omega) rfl d_Ru_translateOne_25 ?_
  refine fs_calli (wc := [(q, .inr (1, [.ref o, .ref y, .ref n, .ref k, .int (nI (L.length + 1))])), (o, .inl (cI, 40, .inl (upd fo L.length (nI 0)))), (y, .inl (cI, 40, .inl (upd fy L.length (nI 0)))), (n, .inl (cI, 40, .inl (upd fn L.length (nI 0)))), (k, .inl (cI, 40, .inl (upd fk L.length (nI 0))))]) (wr := [(ru, .inr (3, [.ref rc, .ref ra, .ref rm, .ref rv, .int (nI cnt)])), (rc, .inl (cI, 8, .inl gc)), (ra, .inl (cI, 8, .inl ga)), (rm, .inl (cI, 8, .inl gm)), (rv, .inl (cI, 8, .inl gv))]) [5, 6, 7, 8, 9] [0, 1, 2, 3, 4] hP hD hK hS hA rfl rfl rfl (by decide) (fun hPc hDc => va_runV (C := R_Fi) (As := [.int (nI 26), .int (nI 0), .int (nI 4), .int (gc r)]) (rest := []) ⟨hx, hb, hml, hown, hts⟩ (c_Fi_append q o y n k (L.length + 1) (upd fo L.length (nI 0)) (upd fy L.length (nI 0)) (upd fn L.length (nI 0)) (upd fk L.length (nI 0)) (nI 26) (nI 0) (nI 4) (gc r) _ (by omega)) (⟨callB_of 4 hts (fs_g kin_Fi_append) rfl rfl rfl (hts _ wi_2) (hts _ wi_267) (by decide +kernel) ⟨Nat.le_of_ble_eq_true rfl, Nat.le_of_ble_eq_true rfl⟩, hts _ wi_147, hts _ wi_148⟩) (fs_preV (q0 := 0) rfl rfl hPc hK hDc) rfl rfl hl.1 rfl (lv_room (Nat.le_of_ble_eq_true rfl)) d_Ru_translateOne_26 ⟨Nat.le_of_ble_eq_true rfl, Nat.le_of_ble_eq_true rfl⟩) rfl (fun r26 _ H locs hp26 hP hD hS => ?_)
  have hP : va_P (dC, dI) vwCl [(ru, .inr (3, [.ref rc, .ref ra, .ref rm, .ref rv, .int (nI cnt)])), (rc, .inl (cI, 8, .inl gc)), (ra, .inl (cI, 8, .inl ga)), (rm, .inl (cI, 8, .inl gm)), (rv, .inl (cI, 8, .inl gv)), (q, .inr (1, [.ref o, .ref y, .ref n, .ref k, .int (nI (L.length + 1 + 1))])), (o, .inl (cI, 40, .inl (upd (upd fo L.length (nI 0)) (L.length + 1) (nI 26)))), (y, .inl (cI, 40, .inl (upd (upd fy L.length (nI 0)) (L.length + 1) (nI 0)))), (n, .inl (cI, 40, .inl (upd (upd fn L.length (nI 0)) (L.length + 1) (nI 4)))), (k, .inl (cI, 40, .inl (upd (upd fk L.length (nI 0)) (L.length + 1) (gc r))))] H := hP
  have hD : va_D A [(ru, .inr (3, [.ref rc, .ref ra, .ref rm, .ref rv, .int (nI cnt)])), (rc, .inl (cI, 8, .inl gc)), (ra, .inl (cI, 8, .inl ga)), (rm, .inl (cI, 8, .inl gm)), (rv, .inl (cI, 8, .inl gv)), (q, .inr (1, [.ref o, .ref y, .ref n, .ref k, .int (nI (L.length + 1 + 1))])), (o, .inl (cI, 40, .inl (upd (upd fo L.length (nI 0)) (L.length + 1) (nI 26)))), (y, .inl (cI, 40, .inl (upd (upd fy L.length (nI 0)) (L.length + 1) (nI 0)))), (n, .inl (cI, 40, .inl (upd (upd fn L.length (nI 0)) (L.length + 1) (nI 4)))), (k, .inl (cI, 40, .inl (upd (upd fk L.length (nI 0)) (L.length + 1) (gc r))))] := hD
  subst hp26
  refine lv_pop hx hb d_Ru_translateOne_29 rfl ?_
  refine lv_aload_n hx hb d_Ru_translateOne_30 rfl (lv_at hl 0 rfl) ?_
  refine va_get (D := (dC, dI)) (ci := 3) (v := .ref ra) (C := R_Ru) (T := T_Ru) (N := 5) hx hb hts uin_Ru hown hK hP 0 rfl rfl 1 (by decide) (hts _ wi_69) (fun _ h9 => h9) rfl d_Ru_translateOne_31 ?_
  refine lv_iload_n hx hb d_Ru_translateOne_34 rfl (lv_at hl 2 rfl) ?_
  refine fs_iald (v := ga r) hx hb hK hP 2 0 rfl rfl r rfl (by decide) (by omega) rfl d_Ru_translateOne_35 ?_
  refine lv_iconst (v := (-1)) hx hb d_Ru_translateOne_36 (by decide) ?_
  refine lv_icmp_eq (tgt := 86) hx hb d_Ru_translateOne_37 (by decide) (fun hc37 => absurd hc37 hv) (fun hc37 => ?_)
  refine lv_aload_n hx hb d_Ru_translateOne_40 rfl (lv_at hl 1 rfl) ?_
  refine lv_iconst (v := nI 0) hx hb d_Ru_translateOne_41 (by decide) ?_
  refine lv_iconst (v := nI 0) hx hb d_Ru_translateOne_42 (by decide) ?_
  refine lv_iconst (v := nI 0) hx hb d_Ru_translateOne_43 (by decide) ?_
  refine lv_iconst (v := nI 4) hx hb d_Ru_translateOne_44 (by decide) ?_
  refine lv_aload_n hx hb d_Ru_translateOne_45 rfl (lv_at hl 0 rfl) ?_
  refine va_get (D := (dC, dI)) (ci := 3) (v := .ref ra) (C := R_Ru) (T := T_Ru) (N := 5) hx hb hts uin_Ru hown hK hP 0 rfl rfl 1 (by decide) (hts _ wi_69) (fun _ h9 => h9) rfl d_Ru_translateOne_46 ?_
  refine lv_iload_n hx hb d_Ru_translateOne_49 rfl (lv_at hl 2 rfl) ?_
  refine fs_iald (v := ga r) hx hb hK hP 2 0 rfl rfl r rfl (by decide) (by omega) rfl d_Ru_translateOne_50 ?_
  refine lv_iadd hx hb d_Ru_translateOne_51 ?_
  refine fs_calli (wc := [(q, .inr (1, [.ref o, .ref y, .ref n, .ref k, .int (nI (L.length + 1 + 1))])), (o, .inl (cI, 40, .inl (upd (upd fo L.length (nI 0)) (L.length + 1) (nI 26)))), (y, .inl (cI, 40, .inl (upd (upd fy L.length (nI 0)) (L.length + 1) (nI 0)))), (n, .inl (cI, 40, .inl (upd (upd fn L.length (nI 0)) (L.length + 1) (nI 4)))), (k, .inl (cI, 40, .inl (upd (upd fk L.length (nI 0)) (L.length + 1) (gc r))))]) (wr := [(ru, .inr (3, [.ref rc, .ref ra, .ref rm, .ref rv, .int (nI cnt)])), (rc, .inl (cI, 8, .inl gc)), (ra, .inl (cI, 8, .inl ga)), (rm, .inl (cI, 8, .inl gm)), (rv, .inl (cI, 8, .inl gv))]) [5, 6, 7, 8, 9] [0, 1, 2, 3, 4] hP hD hK hS hA rfl rfl rfl (by decide) (fun hPc hDc => va_runV (C := R_Fi) (As := [.int (nI 0), .int (nI 0), .int (nI 0), .int ((nI 4) + (ga r))]) (rest := []) ⟨hx, hb, hml, hown, hts⟩ (c_Fi_append q o y n k (L.length + 1 + 1) (upd (upd fo L.length (nI 0)) (L.length + 1) (nI 26)) (upd (upd fy L.length (nI 0)) (L.length + 1) (nI 0)) (upd (upd fn L.length (nI 0)) (L.length + 1) (nI 4)) (upd (upd fk L.length (nI 0)) (L.length + 1) (gc r)) (nI 0) (nI 0) (nI 0) ((nI 4) + (ga r)) _ (by omega)) (⟨callB_of 4 hts (fs_g kin_Fi_append) rfl rfl rfl (hts _ wi_2) (hts _ wi_267) (by decide +kernel) ⟨Nat.le_of_ble_eq_true rfl, Nat.le_of_ble_eq_true rfl⟩, hts _ wi_147, hts _ wi_148⟩) (fs_preV (q0 := 0) rfl rfl hPc hK hDc) rfl rfl hl.1 rfl (lv_room (Nat.le_of_ble_eq_true rfl)) d_Ru_translateOne_52 ⟨Nat.le_of_ble_eq_true rfl, Nat.le_of_ble_eq_true rfl⟩) rfl (fun r52 _ H locs hp52 hP hD hS => ?_)
  have hP : va_P (dC, dI) vwCl [(ru, .inr (3, [.ref rc, .ref ra, .ref rm, .ref rv, .int (nI cnt)])), (rc, .inl (cI, 8, .inl gc)), (ra, .inl (cI, 8, .inl ga)), (rm, .inl (cI, 8, .inl gm)), (rv, .inl (cI, 8, .inl gv)), (q, .inr (1, [.ref o, .ref y, .ref n, .ref k, .int (nI (L.length + 1 + 1 + 1))])), (o, .inl (cI, 40, .inl (upd (upd (upd fo L.length (nI 0)) (L.length + 1) (nI 26)) (L.length + 1 + 1) (nI 0)))), (y, .inl (cI, 40, .inl (upd (upd (upd fy L.length (nI 0)) (L.length + 1) (nI 0)) (L.length + 1 + 1) (nI 0)))), (n, .inl (cI, 40, .inl (upd (upd (upd fn L.length (nI 0)) (L.length + 1) (nI 4)) (L.length + 1 + 1) (nI 0)))), (k, .inl (cI, 40, .inl (upd (upd (upd fk L.length (nI 0)) (L.length + 1) (gc r)) (L.length + 1 + 1) ((nI 4) + (ga r)))))] H := hP
  have hD : va_D A [(ru, .inr (3, [.ref rc, .ref ra, .ref rm, .ref rv, .int (nI cnt)])), (rc, .inl (cI, 8, .inl gc)), (ra, .inl (cI, 8, .inl ga)), (rm, .inl (cI, 8, .inl gm)), (rv, .inl (cI, 8, .inl gv)), (q, .inr (1, [.ref o, .ref y, .ref n, .ref k, .int (nI (L.length + 1 + 1 + 1))])), (o, .inl (cI, 40, .inl (upd (upd (upd fo L.length (nI 0)) (L.length + 1) (nI 26)) (L.length + 1 + 1) (nI 0)))), (y, .inl (cI, 40, .inl (upd (upd (upd fy L.length (nI 0)) (L.length + 1) (nI 0)) (L.length + 1 + 1) (nI 0)))), (n, .inl (cI, 40, .inl (upd (upd (upd fn L.length (nI 0)) (L.length + 1) (nI 4)) (L.length + 1 + 1) (nI 0)))), (k, .inl (cI, 40, .inl (upd (upd (upd fk L.length (nI 0)) (L.length + 1) (gc r)) (L.length + 1 + 1) ((nI 4) + (ga r)))))] := hD
  subst hp52
  refine lv_pop hx hb d_Ru_translateOne_55 rfl ?_
  refine lv_aload_n hx hb d_Ru_translateOne_56 rfl (lv_at hl 1 rfl) ?_
  refine lv_bipush (v := nI 14) hx hb d_Ru_translateOne_57 (by decide) ?_
  refine lv_iconst (v := nI 0) hx hb d_Ru_translateOne_59 (by decide) ?_
  refine lv_iconst (v := nI 0) hx hb d_Ru_translateOne_60 (by decide) ?_
  refine lv_aload_n hx hb d_Ru_translateOne_61 rfl (lv_at hl 0 rfl) ?_
  refine va_get (D := (dC, dI)) (ci := 3) (v := .ref rm) (C := R_Ru) (T := T_Ru) (N := 5) hx hb hts uin_Ru hown hK hP 0 rfl rfl 2 (by decide) (hts _ wi_70) (fun _ h9 => h9) rfl d_Ru_translateOne_62 ?_
  refine lv_iload_n hx hb d_Ru_translateOne_65 rfl (lv_at hl 2 rfl) ?_
  refine fs_iald (v := gm r) hx hb hK hP 3 0 rfl rfl r rfl (by decide) (by omega) rfl d_Ru_translateOne_66 ?_
  refine fs_calli (wc := [(q, .inr (1, [.ref o, .ref y, .ref n, .ref k, .int (nI (L.length + 1 + 1 + 1))])), (o, .inl (cI, 40, .inl (upd (upd (upd fo L.length (nI 0)) (L.length + 1) (nI 26)) (L.length + 1 + 1) (nI 0)))), (y, .inl (cI, 40, .inl (upd (upd (upd fy L.length (nI 0)) (L.length + 1) (nI 0)) (L.length + 1 + 1) (nI 0)))), (n, .inl (cI, 40, .inl (upd (upd (upd fn L.length (nI 0)) (L.length + 1) (nI 4)) (L.length + 1 + 1) (nI 0)))), (k, .inl (cI, 40, .inl (upd (upd (upd fk L.length (nI 0)) (L.length + 1) (gc r)) (L.length + 1 + 1) ((nI 4) + (ga r)))))]) (wr := [(ru, .inr (3, [.ref rc, .ref ra, .ref rm, .ref rv, .int (nI cnt)])), (rc, .inl (cI, 8, .inl gc)), (ra, .inl (cI, 8, .inl ga)), (rm, .inl (cI, 8, .inl gm)), (rv, .inl (cI, 8, .inl gv))]) [5, 6, 7, 8, 9] [0, 1, 2, 3, 4] hP hD hK hS hA rfl rfl rfl (by decide) (fun hPc hDc => va_runV (C := R_Fi) (As := [.int (nI 14), .int (nI 0), .int (nI 0), .int (gm r)]) (rest := []) ⟨hx, hb, hml, hown, hts⟩ (c_Fi_append q o y n k (L.length + 1 + 1 + 1) (upd (upd (upd fo L.length (nI 0)) (L.length + 1) (nI 26)) (L.length + 1 + 1) (nI 0)) (upd (upd (upd fy L.length (nI 0)) (L.length + 1) (nI 0)) (L.length + 1 + 1) (nI 0)) (upd (upd (upd fn L.length (nI 0)) (L.length + 1) (nI 4)) (L.length + 1 + 1) (nI 0)) (upd (upd (upd fk L.length (nI 0)) (L.length + 1) (gc r)) (L.length + 1 + 1) ((nI 4) + (ga r))) (nI 14) (nI 0) (nI 0) (gm r) _ (by omega)) (⟨callB_of 4 hts (fs_g kin_Fi_append) rfl rfl rfl (hts _ wi_2) (hts _ wi_267) (by decide +kernel) ⟨Nat.le_of_ble_eq_true rfl, Nat.le_of_ble_eq_true rfl⟩, hts _ wi_147, hts _ wi_148⟩) (fs_preV (q0 := 0) rfl rfl hPc hK hDc) rfl rfl hl.1 rfl (lv_room (Nat.le_of_ble_eq_true rfl)) d_Ru_translateOne_67 ⟨Nat.le_of_ble_eq_true rfl, Nat.le_of_ble_eq_true rfl⟩) rfl (fun r67 _ H locs hp67 hP hD hS => ?_)
  have hP : va_P (dC, dI) vwCl [(ru, .inr (3, [.ref rc, .ref ra, .ref rm, .ref rv, .int (nI cnt)])), (rc, .inl (cI, 8, .inl gc)), (ra, .inl (cI, 8, .inl ga)), (rm, .inl (cI, 8, .inl gm)), (rv, .inl (cI, 8, .inl gv)), (q, .inr (1, [.ref o, .ref y, .ref n, .ref k, .int (nI (L.length + 1 + 1 + 1 + 1))])), (o, .inl (cI, 40, .inl (upd (upd (upd (upd fo L.length (nI 0)) (L.length + 1) (nI 26)) (L.length + 1 + 1) (nI 0)) (L.length + 1 + 1 + 1) (nI 14)))), (y, .inl (cI, 40, .inl (upd (upd (upd (upd fy L.length (nI 0)) (L.length + 1) (nI 0)) (L.length + 1 + 1) (nI 0)) (L.length + 1 + 1 + 1) (nI 0)))), (n, .inl (cI, 40, .inl (upd (upd (upd (upd fn L.length (nI 0)) (L.length + 1) (nI 4)) (L.length + 1 + 1) (nI 0)) (L.length + 1 + 1 + 1) (nI 0)))), (k, .inl (cI, 40, .inl (upd (upd (upd (upd fk L.length (nI 0)) (L.length + 1) (gc r)) (L.length + 1 + 1) ((nI 4) + (ga r))) (L.length + 1 + 1 + 1) (gm r))))] H := hP
  have hD : va_D A [(ru, .inr (3, [.ref rc, .ref ra, .ref rm, .ref rv, .int (nI cnt)])), (rc, .inl (cI, 8, .inl gc)), (ra, .inl (cI, 8, .inl ga)), (rm, .inl (cI, 8, .inl gm)), (rv, .inl (cI, 8, .inl gv)), (q, .inr (1, [.ref o, .ref y, .ref n, .ref k, .int (nI (L.length + 1 + 1 + 1 + 1))])), (o, .inl (cI, 40, .inl (upd (upd (upd (upd fo L.length (nI 0)) (L.length + 1) (nI 26)) (L.length + 1 + 1) (nI 0)) (L.length + 1 + 1 + 1) (nI 14)))), (y, .inl (cI, 40, .inl (upd (upd (upd (upd fy L.length (nI 0)) (L.length + 1) (nI 0)) (L.length + 1 + 1) (nI 0)) (L.length + 1 + 1 + 1) (nI 0)))), (n, .inl (cI, 40, .inl (upd (upd (upd (upd fn L.length (nI 0)) (L.length + 1) (nI 4)) (L.length + 1 + 1) (nI 0)) (L.length + 1 + 1 + 1) (nI 0)))), (k, .inl (cI, 40, .inl (upd (upd (upd (upd fk L.length (nI 0)) (L.length + 1) (gc r)) (L.length + 1 + 1) ((nI 4) + (ga r))) (L.length + 1 + 1 + 1) (gm r))))] := hD
  subst hp67
  refine lv_pop hx hb d_Ru_translateOne_70 rfl ?_
  refine lv_aload_n hx hb d_Ru_translateOne_71 rfl (lv_at hl 1 rfl) ?_
  refine lv_bipush (v := nI 26) hx hb d_Ru_translateOne_72 (by decide) ?_
  refine lv_iconst (v := nI 0) hx hb d_Ru_translateOne_74 (by decide) ?_
  refine lv_iconst (v := nI 1) hx hb d_Ru_translateOne_75 (by decide) ?_
  refine lv_aload_n hx hb d_Ru_translateOne_76 rfl (lv_at hl 0 rfl) ?_
  refine va_get (D := (dC, dI)) (ci := 3) (v := .ref rv) (C := R_Ru) (T := T_Ru) (N := 5) hx hb hts uin_Ru hown hK hP 0 rfl rfl 3 (by decide) (hts _ wi_71) (fun _ h9 => h9) rfl d_Ru_translateOne_77 ?_
  refine lv_iload_n hx hb d_Ru_translateOne_80 rfl (lv_at hl 2 rfl) ?_
  refine fs_iald (v := gv r) hx hb hK hP 4 0 rfl rfl r rfl (by decide) (by omega) rfl d_Ru_translateOne_81 ?_
  refine fs_calli (wc := [(q, .inr (1, [.ref o, .ref y, .ref n, .ref k, .int (nI (L.length + 1 + 1 + 1 + 1))])), (o, .inl (cI, 40, .inl (upd (upd (upd (upd fo L.length (nI 0)) (L.length + 1) (nI 26)) (L.length + 1 + 1) (nI 0)) (L.length + 1 + 1 + 1) (nI 14)))), (y, .inl (cI, 40, .inl (upd (upd (upd (upd fy L.length (nI 0)) (L.length + 1) (nI 0)) (L.length + 1 + 1) (nI 0)) (L.length + 1 + 1 + 1) (nI 0)))), (n, .inl (cI, 40, .inl (upd (upd (upd (upd fn L.length (nI 0)) (L.length + 1) (nI 4)) (L.length + 1 + 1) (nI 0)) (L.length + 1 + 1 + 1) (nI 0)))), (k, .inl (cI, 40, .inl (upd (upd (upd (upd fk L.length (nI 0)) (L.length + 1) (gc r)) (L.length + 1 + 1) ((nI 4) + (ga r))) (L.length + 1 + 1 + 1) (gm r))))]) (wr := [(ru, .inr (3, [.ref rc, .ref ra, .ref rm, .ref rv, .int (nI cnt)])), (rc, .inl (cI, 8, .inl gc)), (ra, .inl (cI, 8, .inl ga)), (rm, .inl (cI, 8, .inl gm)), (rv, .inl (cI, 8, .inl gv))]) [5, 6, 7, 8, 9] [0, 1, 2, 3, 4] hP hD hK hS hA rfl rfl rfl (by decide) (fun hPc hDc => va_runV (C := R_Fi) (As := [.int (nI 26), .int (nI 0), .int (nI 1), .int (gv r)]) (rest := []) ⟨hx, hb, hml, hown, hts⟩ (c_Fi_append q o y n k (L.length + 1 + 1 + 1 + 1) (upd (upd (upd (upd fo L.length (nI 0)) (L.length + 1) (nI 26)) (L.length + 1 + 1) (nI 0)) (L.length + 1 + 1 + 1) (nI 14)) (upd (upd (upd (upd fy L.length (nI 0)) (L.length + 1) (nI 0)) (L.length + 1 + 1) (nI 0)) (L.length + 1 + 1 + 1) (nI 0)) (upd (upd (upd (upd fn L.length (nI 0)) (L.length + 1) (nI 4)) (L.length + 1 + 1) (nI 0)) (L.length + 1 + 1 + 1) (nI 0)) (upd (upd (upd (upd fk L.length (nI 0)) (L.length + 1) (gc r)) (L.length + 1 + 1) ((nI 4) + (ga r))) (L.length + 1 + 1 + 1) (gm r)) (nI 26) (nI 0) (nI 1) (gv r) _ (by omega)) (⟨callB_of 4 hts (fs_g kin_Fi_append) rfl rfl rfl (hts _ wi_2) (hts _ wi_267) (by decide +kernel) ⟨Nat.le_of_ble_eq_true rfl, Nat.le_of_ble_eq_true rfl⟩, hts _ wi_147, hts _ wi_148⟩) (fs_preV (q0 := 0) rfl rfl hPc hK hDc) rfl rfl hl.1 rfl (lv_room (Nat.le_of_ble_eq_true rfl)) d_Ru_translateOne_82 ⟨Nat.le_of_ble_eq_true rfl, Nat.le_of_ble_eq_true rfl⟩) rfl (fun r82 _ H locs hp82 hP hD hS => ?_)
  have hP : va_P (dC, dI) vwCl [(ru, .inr (3, [.ref rc, .ref ra, .ref rm, .ref rv, .int (nI cnt)])), (rc, .inl (cI, 8, .inl gc)), (ra, .inl (cI, 8, .inl ga)), (rm, .inl (cI, 8, .inl gm)), (rv, .inl (cI, 8, .inl gv)), (q, .inr (1, [.ref o, .ref y, .ref n, .ref k, .int (nI (L.length + 1 + 1 + 1 + 1 + 1))])), (o, .inl (cI, 40, .inl (upd (upd (upd (upd (upd fo L.length (nI 0)) (L.length + 1) (nI 26)) (L.length + 1 + 1) (nI 0)) (L.length + 1 + 1 + 1) (nI 14)) (L.length + 1 + 1 + 1 + 1) (nI 26)))), (y, .inl (cI, 40, .inl (upd (upd (upd (upd (upd fy L.length (nI 0)) (L.length + 1) (nI 0)) (L.length + 1 + 1) (nI 0)) (L.length + 1 + 1 + 1) (nI 0)) (L.length + 1 + 1 + 1 + 1) (nI 0)))), (n, .inl (cI, 40, .inl (upd (upd (upd (upd (upd fn L.length (nI 0)) (L.length + 1) (nI 4)) (L.length + 1 + 1) (nI 0)) (L.length + 1 + 1 + 1) (nI 0)) (L.length + 1 + 1 + 1 + 1) (nI 1)))), (k, .inl (cI, 40, .inl (upd (upd (upd (upd (upd fk L.length (nI 0)) (L.length + 1) (gc r)) (L.length + 1 + 1) ((nI 4) + (ga r))) (L.length + 1 + 1 + 1) (gm r)) (L.length + 1 + 1 + 1 + 1) (gv r))))] H := hP
  have hD : va_D A [(ru, .inr (3, [.ref rc, .ref ra, .ref rm, .ref rv, .int (nI cnt)])), (rc, .inl (cI, 8, .inl gc)), (ra, .inl (cI, 8, .inl ga)), (rm, .inl (cI, 8, .inl gm)), (rv, .inl (cI, 8, .inl gv)), (q, .inr (1, [.ref o, .ref y, .ref n, .ref k, .int (nI (L.length + 1 + 1 + 1 + 1 + 1))])), (o, .inl (cI, 40, .inl (upd (upd (upd (upd (upd fo L.length (nI 0)) (L.length + 1) (nI 26)) (L.length + 1 + 1) (nI 0)) (L.length + 1 + 1 + 1) (nI 14)) (L.length + 1 + 1 + 1 + 1) (nI 26)))), (y, .inl (cI, 40, .inl (upd (upd (upd (upd (upd fy L.length (nI 0)) (L.length + 1) (nI 0)) (L.length + 1 + 1) (nI 0)) (L.length + 1 + 1 + 1) (nI 0)) (L.length + 1 + 1 + 1 + 1) (nI 0)))), (n, .inl (cI, 40, .inl (upd (upd (upd (upd (upd fn L.length (nI 0)) (L.length + 1) (nI 4)) (L.length + 1 + 1) (nI 0)) (L.length + 1 + 1 + 1) (nI 0)) (L.length + 1 + 1 + 1 + 1) (nI 1)))), (k, .inl (cI, 40, .inl (upd (upd (upd (upd (upd fk L.length (nI 0)) (L.length + 1) (gc r)) (L.length + 1 + 1) ((nI 4) + (ga r))) (L.length + 1 + 1 + 1) (gm r)) (L.length + 1 + 1 + 1 + 1) (gv r))))] := hD
  subst hp82
  refine lv_pop hx hb d_Ru_translateOne_85 rfl ?_
  refine lv_aload_n hx hb d_Ru_translateOne_86 rfl (lv_at hl 1 rfl) ?_
  refine lv_bipush (v := nI 31) hx hb d_Ru_translateOne_87 (by decide) ?_
  refine lv_iconst (v := nI 0) hx hb d_Ru_translateOne_89 (by decide) ?_
  refine lv_iconst (v := nI 0) hx hb d_Ru_translateOne_90 (by decide) ?_
  refine lv_ldc (v := nI 1006632960) hx hb hown (hts _ wi_268) d_Ru_translateOne_91 ?_
  refine fs_calli (wc := [(q, .inr (1, [.ref o, .ref y, .ref n, .ref k, .int (nI (L.length + 1 + 1 + 1 + 1 + 1))])), (o, .inl (cI, 40, .inl (upd (upd (upd (upd (upd fo L.length (nI 0)) (L.length + 1) (nI 26)) (L.length + 1 + 1) (nI 0)) (L.length + 1 + 1 + 1) (nI 14)) (L.length + 1 + 1 + 1 + 1) (nI 26)))), (y, .inl (cI, 40, .inl (upd (upd (upd (upd (upd fy L.length (nI 0)) (L.length + 1) (nI 0)) (L.length + 1 + 1) (nI 0)) (L.length + 1 + 1 + 1) (nI 0)) (L.length + 1 + 1 + 1 + 1) (nI 0)))), (n, .inl (cI, 40, .inl (upd (upd (upd (upd (upd fn L.length (nI 0)) (L.length + 1) (nI 4)) (L.length + 1 + 1) (nI 0)) (L.length + 1 + 1 + 1) (nI 0)) (L.length + 1 + 1 + 1 + 1) (nI 1)))), (k, .inl (cI, 40, .inl (upd (upd (upd (upd (upd fk L.length (nI 0)) (L.length + 1) (gc r)) (L.length + 1 + 1) ((nI 4) + (ga r))) (L.length + 1 + 1 + 1) (gm r)) (L.length + 1 + 1 + 1 + 1) (gv r))))]) (wr := [(ru, .inr (3, [.ref rc, .ref ra, .ref rm, .ref rv, .int (nI cnt)])), (rc, .inl (cI, 8, .inl gc)), (ra, .inl (cI, 8, .inl ga)), (rm, .inl (cI, 8, .inl gm)), (rv, .inl (cI, 8, .inl gv))]) [5, 6, 7, 8, 9] [0, 1, 2, 3, 4] hP hD hK hS hA rfl rfl rfl (by decide) (fun hPc hDc => va_runV (C := R_Fi) (As := [.int (nI 31), .int (nI 0), .int (nI 0), .int (nI 1006632960)]) (rest := []) ⟨hx, hb, hml, hown, hts⟩ (c_Fi_append q o y n k (L.length + 1 + 1 + 1 + 1 + 1) (upd (upd (upd (upd (upd fo L.length (nI 0)) (L.length + 1) (nI 26)) (L.length + 1 + 1) (nI 0)) (L.length + 1 + 1 + 1) (nI 14)) (L.length + 1 + 1 + 1 + 1) (nI 26)) (upd (upd (upd (upd (upd fy L.length (nI 0)) (L.length + 1) (nI 0)) (L.length + 1 + 1) (nI 0)) (L.length + 1 + 1 + 1) (nI 0)) (L.length + 1 + 1 + 1 + 1) (nI 0)) (upd (upd (upd (upd (upd fn L.length (nI 0)) (L.length + 1) (nI 4)) (L.length + 1 + 1) (nI 0)) (L.length + 1 + 1 + 1) (nI 0)) (L.length + 1 + 1 + 1 + 1) (nI 1)) (upd (upd (upd (upd (upd fk L.length (nI 0)) (L.length + 1) (gc r)) (L.length + 1 + 1) ((nI 4) + (ga r))) (L.length + 1 + 1 + 1) (gm r)) (L.length + 1 + 1 + 1 + 1) (gv r)) (nI 31) (nI 0) (nI 0) (nI 1006632960) _ (by omega)) (⟨callB_of 4 hts (fs_g kin_Fi_append) rfl rfl rfl (hts _ wi_2) (hts _ wi_267) (by decide +kernel) ⟨Nat.le_of_ble_eq_true rfl, Nat.le_of_ble_eq_true rfl⟩, hts _ wi_147, hts _ wi_148⟩) (fs_preV (q0 := 0) rfl rfl hPc hK hDc) rfl rfl hl.1 rfl (lv_room (Nat.le_of_ble_eq_true rfl)) d_Ru_translateOne_93 ⟨Nat.le_of_ble_eq_true rfl, Nat.le_of_ble_eq_true rfl⟩) rfl (fun r93 _ H locs hp93 hP hD hS => ?_)
  have hP : va_P (dC, dI) vwCl [(ru, .inr (3, [.ref rc, .ref ra, .ref rm, .ref rv, .int (nI cnt)])), (rc, .inl (cI, 8, .inl gc)), (ra, .inl (cI, 8, .inl ga)), (rm, .inl (cI, 8, .inl gm)), (rv, .inl (cI, 8, .inl gv)), (q, .inr (1, [.ref o, .ref y, .ref n, .ref k, .int (nI (L.length + 1 + 1 + 1 + 1 + 1 + 1))])), (o, .inl (cI, 40, .inl (upd (upd (upd (upd (upd (upd fo L.length (nI 0)) (L.length + 1) (nI 26)) (L.length + 1 + 1) (nI 0)) (L.length + 1 + 1 + 1) (nI 14)) (L.length + 1 + 1 + 1 + 1) (nI 26)) (L.length + 1 + 1 + 1 + 1 + 1) (nI 31)))), (y, .inl (cI, 40, .inl (upd (upd (upd (upd (upd (upd fy L.length (nI 0)) (L.length + 1) (nI 0)) (L.length + 1 + 1) (nI 0)) (L.length + 1 + 1 + 1) (nI 0)) (L.length + 1 + 1 + 1 + 1) (nI 0)) (L.length + 1 + 1 + 1 + 1 + 1) (nI 0)))), (n, .inl (cI, 40, .inl (upd (upd (upd (upd (upd (upd fn L.length (nI 0)) (L.length + 1) (nI 4)) (L.length + 1 + 1) (nI 0)) (L.length + 1 + 1 + 1) (nI 0)) (L.length + 1 + 1 + 1 + 1) (nI 1)) (L.length + 1 + 1 + 1 + 1 + 1) (nI 0)))), (k, .inl (cI, 40, .inl (upd (upd (upd (upd (upd (upd fk L.length (nI 0)) (L.length + 1) (gc r)) (L.length + 1 + 1) ((nI 4) + (ga r))) (L.length + 1 + 1 + 1) (gm r)) (L.length + 1 + 1 + 1 + 1) (gv r)) (L.length + 1 + 1 + 1 + 1 + 1) (nI 1006632960))))] H := hP
  have hD : va_D A [(ru, .inr (3, [.ref rc, .ref ra, .ref rm, .ref rv, .int (nI cnt)])), (rc, .inl (cI, 8, .inl gc)), (ra, .inl (cI, 8, .inl ga)), (rm, .inl (cI, 8, .inl gm)), (rv, .inl (cI, 8, .inl gv)), (q, .inr (1, [.ref o, .ref y, .ref n, .ref k, .int (nI (L.length + 1 + 1 + 1 + 1 + 1 + 1))])), (o, .inl (cI, 40, .inl (upd (upd (upd (upd (upd (upd fo L.length (nI 0)) (L.length + 1) (nI 26)) (L.length + 1 + 1) (nI 0)) (L.length + 1 + 1 + 1) (nI 14)) (L.length + 1 + 1 + 1 + 1) (nI 26)) (L.length + 1 + 1 + 1 + 1 + 1) (nI 31)))), (y, .inl (cI, 40, .inl (upd (upd (upd (upd (upd (upd fy L.length (nI 0)) (L.length + 1) (nI 0)) (L.length + 1 + 1) (nI 0)) (L.length + 1 + 1 + 1) (nI 0)) (L.length + 1 + 1 + 1 + 1) (nI 0)) (L.length + 1 + 1 + 1 + 1 + 1) (nI 0)))), (n, .inl (cI, 40, .inl (upd (upd (upd (upd (upd (upd fn L.length (nI 0)) (L.length + 1) (nI 4)) (L.length + 1 + 1) (nI 0)) (L.length + 1 + 1 + 1) (nI 0)) (L.length + 1 + 1 + 1 + 1) (nI 1)) (L.length + 1 + 1 + 1 + 1 + 1) (nI 0)))), (k, .inl (cI, 40, .inl (upd (upd (upd (upd (upd (upd fk L.length (nI 0)) (L.length + 1) (gc r)) (L.length + 1 + 1) ((nI 4) + (ga r))) (L.length + 1 + 1 + 1) (gm r)) (L.length + 1 + 1 + 1 + 1) (gv r)) (L.length + 1 + 1 + 1 + 1 + 1) (nI 1006632960))))] := hD
  subst hp93
  refine lv_pop hx hb d_Ru_translateOne_96 rfl ?_
  have hr0 := hrep
  have hr0 := fx_rep_app (m := L.length) (o := 0) (y := 0) (n := 0) (k := 0) (by simp) rfl rfl rfl hr0
  have hr0 := fx_rep_app (m := L.length + 1) (o := 26) (y := 0) (n := 4) (k := gc r) (by simp) rfl rfl rfl hr0
  have hr0 := fx_rep_app (m := L.length + 1 + 1) (o := 0) (y := 0) (n := 0) (k := 4 + ga r) (by simp) rfl rfl rfl hr0
  have hr0 := fx_rep_app (m := L.length + 1 + 1 + 1) (o := 14) (y := 0) (n := 0) (k := gm r) (by simp) rfl rfl rfl hr0
  have hr0 := fx_rep_app (m := L.length + 1 + 1 + 1 + 1) (o := 26) (y := 0) (n := 1) (k := gv r) (by simp) rfl rfl rfl hr0
  have hr0 := fx_rep_app (m := L.length + 1 + 1 + 1 + 1 + 1) (o := 31) (y := 0) (n := 0) (k := 1006632960) (by simp) rfl rfl rfl hr0
  have hone : L ++ fx_one (gc r, ga r, gm r, gv r) = ((((((L ++ [(0, 0, 0, 0)]) ++ [(26, 0, 4, gc r)]) ++ [(0, 0, 0, 4 + ga r)]) ++ [(14, 0, 0, gm r)]) ++ [(26, 0, 1, gv r)]) ++ [(31, 0, 0, 1006632960)]) := by rw [fx_one, if_neg hv]; simp
  have hln : L.length + 1 + 1 + 1 + 1 + 1 + 1 = (L ++ fx_one (gc r, ga r, gm r, gv r)).length := by rw [hone]; simp
  rw [hln] at hP hD
  rw [← hone] at hr0
  exact fs_vret hx hb hr hlocks hAe hK hS d_Ru_translateOne_97 (upd (upd (upd (upd (upd (upd fo L.length (nI 0)) (L.length + 1) (nI 26)) (L.length + 1 + 1) (nI 0)) (L.length + 1 + 1 + 1) (nI 14)) (L.length + 1 + 1 + 1 + 1) (nI 26)) (L.length + 1 + 1 + 1 + 1 + 1) (nI 31), upd (upd (upd (upd (upd (upd fy L.length (nI 0)) (L.length + 1) (nI 0)) (L.length + 1 + 1) (nI 0)) (L.length + 1 + 1 + 1) (nI 0)) (L.length + 1 + 1 + 1 + 1) (nI 0)) (L.length + 1 + 1 + 1 + 1 + 1) (nI 0), upd (upd (upd (upd (upd (upd fn L.length (nI 0)) (L.length + 1) (nI 4)) (L.length + 1 + 1) (nI 0)) (L.length + 1 + 1 + 1) (nI 0)) (L.length + 1 + 1 + 1 + 1) (nI 1)) (L.length + 1 + 1 + 1 + 1 + 1) (nI 0), upd (upd (upd (upd (upd (upd fk L.length (nI 0)) (L.length + 1) (gc r)) (L.length + 1 + 1) ((nI 4) + (ga r))) (L.length + 1 + 1 + 1) (gm r)) (L.length + 1 + 1 + 1 + 1) (gv r)) (L.length + 1 + 1 + 1 + 1 + 1) (nI 1006632960)) (hr0) hP hD

theorem c_Ru_translateOne (ru rc ra rm rv cnt : Nat) (gc ga gm gv : Nat → Int32) (q o y n k : Nat) (fo fy fn fk : Nat → Int32) (L : fx_Prg) (r : Nat) (sz : Nat) (hrep : fx_rep L fo fy fn fk) (hr8 : r < 8) (hl0 : L.length + fx_len (ga r) ≤ 39) : fs_V l y_Ru_translateOne (k_Ru_translateOne :: fs_T) { frames := 1, cells := 0, slots := 0, locals := 24 } (dC, dI) vwCl (fs_tys cI cZ cJ cF) [.ref ru, .ref q, .int (nI r)] [(ru, .inr (3, [.ref rc, .ref ra, .ref rm, .ref rv, .int (nI cnt)])), (rc, .inl (cI, 8, .inl gc)), (ra, .inl (cI, 8, .inl ga)), (rm, .inl (cI, 8, .inl gm)), (rv, .inl (cI, 8, .inl gv)), (q, .inr (1, [.ref o, .ref y, .ref n, .ref k, .int (nI L.length)])), (o, .inl (cI, 40, .inl fo)), (y, .inl (cI, 40, .inl fy)), (n, .inl (cI, 40, .inl fn)), (k, .inl (cI, 40, .inl fk))] sz (S := (Nat → Int32) × (Nat → Int32) × (Nat → Int32) × (Nat → Int32)) (fun u => fx_rep (L ++ fx_one (gc r, ga r, gm r, gv r)) u.1 u.2.1 u.2.2.1 u.2.2.2) (fun u => [(ru, .inr (3, [.ref rc, .ref ra, .ref rm, .ref rv, .int (nI cnt)])), (rc, .inl (cI, 8, .inl gc)), (ra, .inl (cI, 8, .inl ga)), (rm, .inl (cI, 8, .inl gm)), (rv, .inl (cI, 8, .inl gv)), (q, .inr (1, [.ref o, .ref y, .ref n, .ref k, .int (nI ((L ++ fx_one (gc r, ga r, gm r, gv r)).length))])), (o, .inl (cI, 40, .inl u.1)), (y, .inl (cI, 40, .inl u.2.1)), (n, .inl (cI, 40, .inl u.2.2.1)), (k, .inl (cI, 40, .inl u.2.2.2))]) 0 0 := by
  by_cases hv : ga r = -1
  · exact c_Ru_translateOneP ru rc ra rm rv cnt gc ga gm gv q o y n k fo fy fn fk L r sz hrep hr8 hv hl0
  · exact c_Ru_translateOneA ru rc ra rm rv cnt gc ga gm gv q o y n k fo fy fn fk L r sz hrep hr8 hv hl0
theorem d_Ru_translate_0 : decode b_Ru_translate 0 = .ok (.aload_n 1, 1) := by decide +kernel
theorem d_Ru_translate_1 : decode b_Ru_translate 1 = .ok (.invokevirtual 32, 3) := by decide +kernel
theorem d_Ru_translate_4 : decode b_Ru_translate 4 = .ok (.pop, 1) := by decide +kernel
theorem d_Ru_translate_5 : decode b_Ru_translate 5 = .ok (.iconst 0, 1) := by decide +kernel
theorem d_Ru_translate_6 : decode b_Ru_translate 6 = .ok (.istore_n 3, 1) := by decide +kernel
theorem d_Ru_translate_7 : decode b_Ru_translate 7 = .ok (.iload_n 3, 1) := by decide +kernel
theorem d_Ru_translate_8 : decode b_Ru_translate 8 = .ok (.aload_n 0, 1) := by decide +kernel
theorem d_Ru_translate_9 : decode b_Ru_translate 9 = .ok (.getfield 24, 3) := by decide +kernel
theorem d_Ru_translate_12 : decode b_Ru_translate 12 = .ok (.if_icmp .ge 15, 3) := by decide +kernel
theorem d_Ru_translate_15 : decode b_Ru_translate 15 = .ok (.aload_n 0, 1) := by decide +kernel
theorem d_Ru_translate_16 : decode b_Ru_translate 16 = .ok (.aload_n 1, 1) := by decide +kernel
theorem d_Ru_translate_17 : decode b_Ru_translate 17 = .ok (.iload_n 3, 1) := by decide +kernel
theorem d_Ru_translate_18 : decode b_Ru_translate 18 = .ok (.invokevirtual 38, 3) := by decide +kernel
theorem d_Ru_translate_21 : decode b_Ru_translate 21 = .ok (.iinc 3 1, 3) := by decide +kernel
theorem d_Ru_translate_24 : decode b_Ru_translate 24 = .ok (.goto (-17), 3) := by decide +kernel
theorem d_Ru_translate_27 : decode b_Ru_translate 27 = .ok (.aload_n 1, 1) := by decide +kernel
theorem d_Ru_translate_28 : decode b_Ru_translate 28 = .ok (.bipush 31, 2) := by decide +kernel
theorem d_Ru_translate_30 : decode b_Ru_translate 30 = .ok (.iconst 0, 1) := by decide +kernel
theorem d_Ru_translate_31 : decode b_Ru_translate 31 = .ok (.iconst 0, 1) := by decide +kernel
theorem d_Ru_translate_32 : decode b_Ru_translate 32 = .ok (.iload_n 2, 1) := by decide +kernel
theorem d_Ru_translate_33 : decode b_Ru_translate 33 = .ok (.invokevirtual 42, 3) := by decide +kernel
theorem d_Ru_translate_36 : decode b_Ru_translate 36 = .ok (.pop, 1) := by decide +kernel
theorem d_Ru_translate_37 : decode b_Ru_translate 37 = .ok (.return_, 1) := by decide +kernel
set_option maxHeartbeats 4000000 in
set_option maxRecDepth 100000 in
theorem c_Ru_translate (ru rc ra rm rv cnt : Nat) (gc ga gm gv : Nat → Int32) (q o y n k len : Nat) (fo fy fn fk : Nat → Int32) (rs : List fx_Rule) (v : Int32) (sz : Nat) (hcnt : cnt = rs.length) (hc8 : cnt ≤ 8) (hrr : fx_rrep rs gc ga gm gv) (htot : (rs.flatMap fx_one).length ≤ 39) : fs_V l y_Ru_translate (k_Ru_translate :: fs_T) { frames := 2, cells := 0, slots := 0, locals := 46 } (dC, dI) vwCl (fs_tys cI cZ cJ cF) [.ref ru, .ref q, .int v] [(ru, .inr (3, [.ref rc, .ref ra, .ref rm, .ref rv, .int (nI cnt)])), (rc, .inl (cI, 8, .inl gc)), (ra, .inl (cI, 8, .inl ga)), (rm, .inl (cI, 8, .inl gm)), (rv, .inl (cI, 8, .inl gv)), (q, .inr (1, [.ref o, .ref y, .ref n, .ref k, .int (nI len)])), (o, .inl (cI, 40, .inl fo)), (y, .inl (cI, 40, .inl fy)), (n, .inl (cI, 40, .inl fn)), (k, .inl (cI, 40, .inl fk))] sz (S := (Nat → Int32) × (Nat → Int32) × (Nat → Int32) × (Nat → Int32)) (fun u => fx_rep (fx_cmp rs v) u.1 u.2.1 u.2.2.1 u.2.2.2) (fun u => [(ru, .inr (3, [.ref rc, .ref ra, .ref rm, .ref rv, .int (nI cnt)])), (rc, .inl (cI, 8, .inl gc)), (ra, .inl (cI, 8, .inl ga)), (rm, .inl (cI, 8, .inl gm)), (rv, .inl (cI, 8, .inl gv)), (q, .inr (1, [.ref o, .ref y, .ref n, .ref k, .int (nI ((fx_cmp rs v).length))])), (o, .inl (cI, 40, .inl u.1)), (y, .inl (cI, 40, .inl u.2.1)), (n, .inl (cI, 40, .inl u.2.2.1)), (k, .inl (cI, 40, .inl u.2.2.2))]) 0 0 := by
  refine fs_head (by decide) (Nat.le_of_ble_eq_true rfl) ?_
  intro p e s m below meth c A ls hx hb hr hts hown hlocks hin hml hK hP hD hS hA hAe hsz hl
  have hl : lv_has ls 4 [(0, .ref ru), (1, .ref q), (2, .int v)] := hl
  have hown : s.vm.findClass R_Ru = some m.cls := hown
  refine lv_aload_n hx hb d_Ru_translate_0 rfl (lv_at hl 1 rfl) ?_
  refine fs_calli (wc := [(q, .inr (1, [.ref o, .ref y, .ref n, .ref k, .int (nI len)]))]) (wr := [(ru, .inr (3, [.ref rc, .ref ra, .ref rm, .ref rv, .int (nI cnt)])), (rc, .inl (cI, 8, .inl gc)), (ra, .inl (cI, 8, .inl ga)), (rm, .inl (cI, 8, .inl gm)), (rv, .inl (cI, 8, .inl gv)), (o, .inl (cI, 40, .inl fo)), (y, .inl (cI, 40, .inl fy)), (n, .inl (cI, 40, .inl fn)), (k, .inl (cI, 40, .inl fk))]) [5] [0, 1, 2, 3, 4, 6, 7, 8, 9] hP hD hK hS hA rfl rfl rfl (by decide) (fun hPc hDc => va_runV (C := R_Fi) (As := []) (rest := []) ⟨hx, hb, hml, hown, hts⟩ (c_Fi_empty q o y n k len _) (⟨callB_of 0 hts (fs_g kin_Fi_empty) rfl rfl rfl (hts _ wi_2) (hts _ wi_262) (by decide +kernel) ⟨Nat.le_of_ble_eq_true rfl, Nat.le_of_ble_eq_true rfl⟩, hts _ wi_155, hts _ wi_156⟩) (fs_preV (q0 := 0) rfl rfl hPc hK hDc) rfl rfl hl.1 rfl (lv_room (Nat.le_of_ble_eq_true rfl)) d_Ru_translate_1 ⟨Nat.le_of_ble_eq_true rfl, Nat.le_of_ble_eq_true rfl⟩) rfl (fun r1 _ H locs hp1 hP hD hS => ?_)
  have hP : va_P (dC, dI) vwCl [(ru, .inr (3, [.ref rc, .ref ra, .ref rm, .ref rv, .int (nI cnt)])), (rc, .inl (cI, 8, .inl gc)), (ra, .inl (cI, 8, .inl ga)), (rm, .inl (cI, 8, .inl gm)), (rv, .inl (cI, 8, .inl gv)), (q, .inr (1, [.ref o, .ref y, .ref n, .ref k, .int (nI 0)])), (o, .inl (cI, 40, .inl fo)), (y, .inl (cI, 40, .inl fy)), (n, .inl (cI, 40, .inl fn)), (k, .inl (cI, 40, .inl fk))] H := hP.sub [0, 1, 2, 3, 4, 9, 5, 6, 7, 8] rfl
  have hD : va_D A [(ru, .inr (3, [.ref rc, .ref ra, .ref rm, .ref rv, .int (nI cnt)])), (rc, .inl (cI, 8, .inl gc)), (ra, .inl (cI, 8, .inl ga)), (rm, .inl (cI, 8, .inl gm)), (rv, .inl (cI, 8, .inl gv)), (q, .inr (1, [.ref o, .ref y, .ref n, .ref k, .int (nI 0)])), (o, .inl (cI, 40, .inl fo)), (y, .inl (cI, 40, .inl fy)), (n, .inl (cI, 40, .inl fn)), (k, .inl (cI, 40, .inl fk))] := hD.sub [0, 1, 2, 3, 4, 9, 5, 6, 7, 8] (by decide) rfl
  subst hp1
  refine lv_pop hx hb d_Ru_translate_4 rfl ?_
  refine lv_iconst (v := nI 0) hx hb d_Ru_translate_5 (by decide) ?_
  refine lv_istore_n hx hb d_Ru_translate_6 rfl hl (by decide) (lv' := [(3, .int (nI 0)), (0, .ref ru), (1, .ref q), (2, .int v)]) rfl (fun ls hl => ?_)
  refine fs_loop5 (α1 := Nat) (α2 := Nat → Int32) (α3 := Nat → Int32) (α4 := Nat → Int32) (α5 := Nat → Int32) (fun r fo fy fn fk => cnt - r) (fun r fo fy fn fk H locs ls => (r ≤ cnt) ∧ (fx_rep ((rs.take r).flatMap fx_one) fo fy fn fk) ∧ va_P (dC, dI) vwCl [(ru, .inr (3, [.ref rc, .ref ra, .ref rm, .ref rv, .int (nI cnt)])), (rc, .inl (cI, 8, .inl gc)), (ra, .inl (cI, 8, .inl ga)), (rm, .inl (cI, 8, .inl gm)), (rv, .inl (cI, 8, .inl gv)), (q, .inr (1, [.ref o, .ref y, .ref n, .ref k, .int (nI (((rs.take r).flatMap fx_one).length))])), (o, .inl (cI, 40, .inl fo)), (y, .inl (cI, 40, .inl fy)), (n, .inl (cI, 40, .inl fn)), (k, .inl (cI, 40, .inl fk))] H ∧ va_D A [(ru, .inr (3, [.ref rc, .ref ra, .ref rm, .ref rv, .int (nI cnt)])), (rc, .inl (cI, 8, .inl gc)), (ra, .inl (cI, 8, .inl ga)), (rm, .inl (cI, 8, .inl gm)), (rv, .inl (cI, 8, .inl gv)), (q, .inr (1, [.ref o, .ref y, .ref n, .ref k, .int (nI (((rs.take r).flatMap fx_one).length))])), (o, .inl (cI, 40, .inl fo)), (y, .inl (cI, 40, .inl fy)), (n, .inl (cI, 40, .inl fn)), (k, .inl (cI, 40, .inl fk))] ∧ va_S A s.heap H locs ∧ lv_has ls 4 [(0, .ref ru), (1, .ref q), (2, .int v), (3, .int (nI r))]) ?_ 0 fo fy fn fk ⟨by omega, fx_rep_nil _ _ _ _, hP, hD, hS, lv_sub hl [1, 2, 3, 0] rfl⟩
  intro r fo fy fn fk H locs ls hI ih7
  obtain ⟨hrc, hrep, hP, hD, hS, hl⟩ := hI
  refine lv_iload_n hx hb d_Ru_translate_7 rfl (lv_at hl 3 rfl) ?_
  refine lv_aload_n hx hb d_Ru_translate_8 rfl (lv_at hl 0 rfl) ?_
  refine va_get (D := (dC, dI)) (ci := 3) (v := .int (nI cnt)) (C := R_Ru) (T := T_Ru) (N := 5) hx hb hts uin_Ru hown hK hP 0 rfl rfl 4 (by decide) (hts _ wi_72) (fun _ h9 => h9) rfl d_Ru_translate_9 ?_
  refine lv_icmp_ge (tgt := 27) hx hb d_Ru_translate_12 (by decide) (fun hc12 => ?_) (fun hc12 => ?_)
  · rw [nI_leI (by omega) (by omega)] at hc12
    refine lv_aload_n hx hb d_Ru_translate_27 rfl (lv_at hl 1 rfl) ?_
    refine lv_bipush (v := nI 31) hx hb d_Ru_translate_28 (by decide) ?_
    refine lv_iconst (v := nI 0) hx hb d_Ru_translate_30 (by decide) ?_
    refine lv_iconst (v := nI 0) hx hb d_Ru_translate_31 (by decide) ?_
    refine lv_iload_n hx hb d_Ru_translate_32 rfl (lv_at hl 2 rfl) ?_
    refine fs_calli (wc := [(q, .inr (1, [.ref o, .ref y, .ref n, .ref k, .int (nI (((rs.take r).flatMap fx_one).length))])), (o, .inl (cI, 40, .inl fo)), (y, .inl (cI, 40, .inl fy)), (n, .inl (cI, 40, .inl fn)), (k, .inl (cI, 40, .inl fk))]) (wr := [(ru, .inr (3, [.ref rc, .ref ra, .ref rm, .ref rv, .int (nI cnt)])), (rc, .inl (cI, 8, .inl gc)), (ra, .inl (cI, 8, .inl ga)), (rm, .inl (cI, 8, .inl gm)), (rv, .inl (cI, 8, .inl gv))]) [5, 6, 7, 8, 9] [0, 1, 2, 3, 4] hP hD hK hS hA rfl rfl rfl (by decide) (fun hPc hDc => va_runV (C := R_Fi) (As := [.int (nI 31), .int (nI 0), .int (nI 0), .int v]) (rest := []) ⟨hx, hb, hml, hown, hts⟩ (c_Fi_append q o y n k (((rs.take r).flatMap fx_one).length) fo fy fn fk (nI 31) (nI 0) (nI 0) v _ (by have h1 := fx_take_len rs r; omega)) (⟨callB_of 4 hts (fs_g kin_Fi_append) rfl rfl rfl (hts _ wi_2) (hts _ wi_267) (by decide +kernel) ⟨Nat.le_of_ble_eq_true rfl, Nat.le_of_ble_eq_true rfl⟩, hts _ wi_147, hts _ wi_148⟩) (fs_preV (q0 := 0) rfl rfl hPc hK hDc) rfl rfl hl.1 rfl (lv_room (Nat.le_of_ble_eq_true rfl)) d_Ru_translate_33 ⟨Nat.le_of_ble_eq_true rfl, Nat.le_of_ble_eq_true rfl⟩) rfl (fun r33 _ H locs hp33 hP hD hS => ?_)
    have hP : va_P (dC, dI) vwCl [(ru, .inr (3, [.ref rc, .ref ra, .ref rm, .ref rv, .int (nI cnt)])), (rc, .inl (cI, 8, .inl gc)), (ra, .inl (cI, 8, .inl ga)), (rm, .inl (cI, 8, .inl gm)), (rv, .inl (cI, 8, .inl gv)), (q, .inr (1, [.ref o, .ref y, .ref n, .ref k, .int (nI (((rs.take r).flatMap fx_one).length + 1))])), (o, .inl (cI, 40, .inl (upd fo (((rs.take r).flatMap fx_one).length) (nI 31)))), (y, .inl (cI, 40, .inl (upd fy (((rs.take r).flatMap fx_one).length) (nI 0)))), (n, .inl (cI, 40, .inl (upd fn (((rs.take r).flatMap fx_one).length) (nI 0)))), (k, .inl (cI, 40, .inl (upd fk (((rs.take r).flatMap fx_one).length) v)))] H := hP
    have hD : va_D A [(ru, .inr (3, [.ref rc, .ref ra, .ref rm, .ref rv, .int (nI cnt)])), (rc, .inl (cI, 8, .inl gc)), (ra, .inl (cI, 8, .inl ga)), (rm, .inl (cI, 8, .inl gm)), (rv, .inl (cI, 8, .inl gv)), (q, .inr (1, [.ref o, .ref y, .ref n, .ref k, .int (nI (((rs.take r).flatMap fx_one).length + 1))])), (o, .inl (cI, 40, .inl (upd fo (((rs.take r).flatMap fx_one).length) (nI 31)))), (y, .inl (cI, 40, .inl (upd fy (((rs.take r).flatMap fx_one).length) (nI 0)))), (n, .inl (cI, 40, .inl (upd fn (((rs.take r).flatMap fx_one).length) (nI 0)))), (k, .inl (cI, 40, .inl (upd fk (((rs.take r).flatMap fx_one).length) v)))] := hD
    subst hp33
    refine lv_pop hx hb d_Ru_translate_36 rfl ?_
    have hall : rs.take r = rs := List.take_of_length_le (by omega)
    have hr0 := fx_rep_app (m := ((rs.take r).flatMap fx_one).length) (o := 31) (y := 0) (n := 0) (k := v) rfl rfl rfl rfl hrep
    have hcm : fx_cmp rs v = ((rs.take r).flatMap fx_one) ++ [(31, 0, 0, v)] := by rw [hall]; rfl
    rw [← hcm] at hr0
    have hln : ((rs.take r).flatMap fx_one).length + 1 = (fx_cmp rs v).length := by rw [hcm, List.length_append]; rfl
    rw [hln] at hP hD
    exact fs_vret hx hb hr hlocks hAe hK hS d_Ru_translate_37 (upd fo (((rs.take r).flatMap fx_one).length) (nI 31), upd fy (((rs.take r).flatMap fx_one).length) (nI 0), upd fn (((rs.take r).flatMap fx_one).length) (nI 0), upd fk (((rs.take r).flatMap fx_one).length) v) (hr0) hP hD
  rw [nI_leI (by omega) (by omega)] at hc12
  refine lv_aload_n hx hb d_Ru_translate_15 rfl (lv_at hl 0 rfl) ?_
  refine lv_aload_n hx hb d_Ru_translate_16 rfl (lv_at hl 1 rfl) ?_
  refine lv_iload_n hx hb d_Ru_translate_17 rfl (lv_at hl 3 rfl) ?_
  refine fs_callv (wc := [(ru, .inr (3, [.ref rc, .ref ra, .ref rm, .ref rv, .int (nI cnt)])), (rc, .inl (cI, 8, .inl gc)), (ra, .inl (cI, 8, .inl ga)), (rm, .inl (cI, 8, .inl gm)), (rv, .inl (cI, 8, .inl gv)), (q, .inr (1, [.ref o, .ref y, .ref n, .ref k, .int (nI (((rs.take r).flatMap fx_one).length))])), (o, .inl (cI, 40, .inl fo)), (y, .inl (cI, 40, .inl fy)), (n, .inl (cI, 40, .inl fn)), (k, .inl (cI, 40, .inl fk))]) (wr := []) [0, 1, 2, 3, 4, 5, 6, 7, 8, 9] [] hP hD hK hS hA rfl rfl rfl (by decide) (fun hPc hDc => va_runV (C := R_Ru) (As := [.ref q, .int (nI r)]) (rest := []) ⟨hx, hb, hml, hown, hts⟩ (c_Ru_translateOne ru rc ra rm rv cnt gc ga gm gv q o y n k fo fy fn fk ((rs.take r).flatMap fx_one) r _ hrep (by omega) (by have h1 := fx_take_len rs (r + 1); rw [fx_take hrr (by omega), List.length_append, fx_one_len] at h1; dsimp only at h1; omega)) (⟨callB_of 2 hts (fs_g kin_Ru_translateOne) rfl rfl rfl (hts _ wi_3) (hts _ wi_263) (by decide +kernel) ⟨Nat.le_of_ble_eq_true rfl, Nat.le_of_ble_eq_true rfl⟩, hts _ wi_265, hts _ sel_Ru_translateOne⟩) (fs_preV (q0 := 0) rfl rfl hPc hK hDc) rfl rfl hl.1 rfl (lv_room (Nat.le_of_ble_eq_true rfl)) d_Ru_translate_18 ⟨Nat.le_of_ble_eq_true rfl, Nat.le_of_ble_eq_true rfl⟩) rfl (fun u H locs hp18 hP hD hS => ?_)
  have hP : va_P (dC, dI) vwCl [(ru, .inr (3, [.ref rc, .ref ra, .ref rm, .ref rv, .int (nI cnt)])), (rc, .inl (cI, 8, .inl gc)), (ra, .inl (cI, 8, .inl ga)), (rm, .inl (cI, 8, .inl gm)), (rv, .inl (cI, 8, .inl gv)), (q, .inr (1, [.ref o, .ref y, .ref n, .ref k, .int (nI (((rs.take r).flatMap fx_one ++ fx_one (gc r, ga r, gm r, gv r)).length))])), (o, .inl (cI, 40, .inl u.1)), (y, .inl (cI, 40, .inl u.2.1)), (n, .inl (cI, 40, .inl u.2.2.1)), (k, .inl (cI, 40, .inl u.2.2.2))] H := hP
  have hD : va_D A [(ru, .inr (3, [.ref rc, .ref ra, .ref rm, .ref rv, .int (nI cnt)])), (rc, .inl (cI, 8, .inl gc)), (ra, .inl (cI, 8, .inl ga)), (rm, .inl (cI, 8, .inl gm)), (rv, .inl (cI, 8, .inl gv)), (q, .inr (1, [.ref o, .ref y, .ref n, .ref k, .int (nI (((rs.take r).flatMap fx_one ++ fx_one (gc r, ga r, gm r, gv r)).length))])), (o, .inl (cI, 40, .inl u.1)), (y, .inl (cI, 40, .inl u.2.1)), (n, .inl (cI, 40, .inl u.2.2.1)), (k, .inl (cI, 40, .inl u.2.2.2))] := hD
  rw [← fx_take hrr (by omega)] at hP hD
  refine lv_iinc (v := nI (r + 1)) (k := 3) hx hb d_Ru_translate_21 hl rfl (fs_incN r 1) (by decide) (lv' := [(3, .int (nI (r + 1))), (0, .ref ru), (1, .ref q), (2, .int v)]) rfl (fun ls hl => ?_)
  refine lv_goto (tgt := 7) hx hb d_Ru_translate_24 (by decide) ?_
  exact ih7 (r + 1) u.1 u.2.1 u.2.2.1 u.2.2.2 _ _ _ (by omega) ⟨by omega, by rw [fx_take hrr (by omega)]; exact hp18, hP, hD, hS, lv_sub hl [1, 2, 3, 0] rfl⟩

end RU
