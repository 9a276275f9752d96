section MO
variable {l : Launch} {dC : Nat → ClassId} {dI : Nat → Nat → Nat} {cI cZ cJ cF : ClassId}
theorem d_Mo_within_0 : decode b_Mo_within 0 = .ok (.iload_n 0, 1) := by decide +kernel
theorem d_Mo_within_1 : decode b_Mo_within 1 = .ok (.iload_n 1, 1) := by decide +kernel
theorem d_Mo_within_2 : decode b_Mo_within 2 = .ok (.if_icmp .lt 12, 3) := by decide +kernel
theorem d_Mo_within_5 : decode b_Mo_within 5 = .ok (.iload_n 0, 1) := by decide +kernel
theorem d_Mo_within_6 : decode b_Mo_within 6 = .ok (.iload_n 2, 1) := by decide +kernel
theorem d_Mo_within_7 : decode b_Mo_within 7 = .ok (.if_icmp .gt 7, 3) := by decide +kernel
theorem d_Mo_within_10 : decode b_Mo_within 10 = .ok (.iconst 1, 1) := by decide +kernel
theorem d_Mo_within_11 : decode b_Mo_within 11 = .ok (.goto 4, 3) := by decide +kernel
theorem d_Mo_within_14 : decode b_Mo_within 14 = .ok (.iconst 0, 1) := by decide +kernel
theorem d_Mo_within_15 : decode b_Mo_within 15 = .ok (.ireturn, 1) := by decide +kernel
set_option maxHeartbeats 4000000 in
set_option maxRecDepth 100000 in
theorem c_Mo_within (x lo hi : Int32) (zx zl zh : Int) (sz : Nat) (hzx : x.toInt = zx) (hzl : lo.toInt = zl) (hzh : hi.toInt = zh) : fs_I l y_Mo_within (k_Mo_within :: fs_T) { frames := 0, cells := 0, slots := 0, locals := 0 } (dC, dI) vwCl (fs_tys cI cZ cJ cF) [.int x, .int lo, .int hi] [] sz (S := Unit) (fun r _ => ((zl ≤ zx ∧ zx ≤ zh) ∧ r = nI 1) ∨ (¬ (zl ≤ zx ∧ zx ≤ zh) ∧ r = nI 0)) (fun _ => []) 0 0 := by
  refine fs_head (by decide) (Nat.le_of_ble_eq_true rfl) ?_
  intro p e s m below meth c A ls hx hb hr hts hown hlocks hin hml hK hP hD hS hA hAe hsz hl
  have hl : lv_has ls 3 [(0, .int x), (1, .int lo), (2, .int hi)] := hl
  have hown : s.vm.findClass R_Mo = some m.cls := hown
  refine lv_iload_n hx hb d_Mo_within_0 rfl (lv_at hl 0 rfl) ?_
  refine lv_iload_n hx hb d_Mo_within_1 rfl (lv_at hl 1 rfl) ?_
  refine lv_icmp_lt (tgt := 14) hx hb d_Mo_within_2 (by decide) (fun hc2 => ?_) (fun hc2 => ?_)
  · rw [Int32.lt_iff_toInt_lt] at hc2
    refine lv_iconst (v := nI 0) hx hb d_Mo_within_14 (by decide) ?_
    exact fs_zret hx hb hr hlocks hAe hK hS d_Mo_within_15 (by decide) () (by first | exact Or.inl ⟨by omega, rfl⟩ | exact Or.inr ⟨by omega, rfl⟩) hP hD
  rw [Int32.lt_iff_toInt_lt] at hc2
  refine lv_iload_n hx hb d_Mo_within_5 rfl (lv_at hl 0 rfl) ?_
  refine lv_iload_n hx hb d_Mo_within_6 rfl (lv_at hl 2 rfl) ?_
  refine lv_icmp_gt (tgt := 14) hx hb d_Mo_within_7 (by decide) (fun hc7 => ?_) (fun hc7 => ?_)
  · rw [Int32.lt_iff_toInt_lt] at hc7
    refine lv_iconst (v := nI 0) hx hb d_Mo_within_14 (by decide) ?_
    exact fs_zret hx hb hr hlocks hAe hK hS d_Mo_within_15 (by decide) () (by first | exact Or.inl ⟨by omega, rfl⟩ | exact Or.inr ⟨by omega, rfl⟩) hP hD
  rw [Int32.lt_iff_toInt_lt] at hc7
  refine lv_iconst (v := nI 1) hx hb d_Mo_within_10 (by decide) ?_
  refine lv_goto (tgt := 15) hx hb d_Mo_within_11 (by decide) ?_
  exact fs_zret hx hb hr hlocks hAe hK hS d_Mo_within_15 (by decide) () (by first | exact Or.inl ⟨by omega, rfl⟩ | exact Or.inr ⟨by omega, rfl⟩) hP hD

theorem d_Mo_thrown_0 : decode b_Mo_thrown 0 = .ok (.aload_n 0, 1) := by decide +kernel
theorem d_Mo_thrown_1 : decode b_Mo_thrown 1 = .ok (.getfield 47, 3) := by decide +kernel
theorem d_Mo_thrown_4 : decode b_Mo_thrown 4 = .ok (.ireturn, 1) := by decide +kernel
set_option maxHeartbeats 4000000 in
set_option maxRecDepth 100000 in
theorem c_Mo_thrown (mo mop mye mno mnu msz stk mre mce mco xc xa xm xv cnt : Nat) (stp thr : Int32) (sz : Nat)  : fs_I l y_Mo_thrown (k_Mo_thrown :: fs_T) { frames := 0, cells := 0, slots := 0, locals := 0 } (dC, dI) vwCl (fs_tys cI cZ cJ cF) [.ref mo] [(mo, .inr (5, [.ref mop, .ref mye, .ref mno, .ref mnu, .ref msz, .int (nI stk), .ref mre, .ref mce, .ref mco, .ref xc, .ref xa, .ref xm, .ref xv, .int (nI cnt), .int stp, .int thr]))] sz (S := Unit) (fun r _ => r = thr) (fun _ => [(mo, .inr (5, [.ref mop, .ref mye, .ref mno, .ref mnu, .ref msz, .int (nI stk), .ref mre, .ref mce, .ref mco, .ref xc, .ref xa, .ref xm, .ref xv, .int (nI cnt), .int stp, .int thr]))]) 0 0 := by
  refine fs_head (by decide) (Nat.le_of_ble_eq_true rfl) ?_
  intro p e s m below meth c A ls hx hb hr hts hown hlocks hin hml hK hP hD hS hA hAe hsz hl
  have hl : lv_has ls 1 [(0, .ref mo)] := hl
  have hown : s.vm.findClass R_Mo = some m.cls := hown
  refine lv_aload_n hx hb d_Mo_thrown_0 rfl (lv_at hl 0 rfl) ?_
  refine va_get (D := (dC, dI)) (ci := 5) (v := .int thr) (C := R_Mo) (T := T_Mo) (N := 16) hx hb hts uin_Mo hown hK hP 0 rfl rfl 15 (by decide) (hts _ wi_445) (fun _ h9 => h9) rfl d_Mo_thrown_1 ?_
  exact fs_iret hx hb hr hlocks hAe hK hS d_Mo_thrown_4 () (rfl) hP hD

theorem d_Mo_put_0 : decode b_Mo_put 0 = .ok (.bipush 40, 2) := by decide +kernel
theorem d_Mo_put_2 : decode b_Mo_put 2 = .ok (.iload_n 1, 1) := by decide +kernel
theorem d_Mo_put_3 : decode b_Mo_put 3 = .ok (.imul, 1) := by decide +kernel
theorem d_Mo_put_4 : decode b_Mo_put 4 = .ok (.aload_n 0, 1) := by decide +kernel
theorem d_Mo_put_5 : decode b_Mo_put 5 = .ok (.getfield 22, 3) := by decide +kernel
theorem d_Mo_put_8 : decode b_Mo_put 8 = .ok (.iload_n 1, 1) := by decide +kernel
theorem d_Mo_put_9 : decode b_Mo_put 9 = .ok (.iaload, 1) := by decide +kernel
theorem d_Mo_put_10 : decode b_Mo_put 10 = .ok (.iadd, 1) := by decide +kernel
theorem d_Mo_put_11 : decode b_Mo_put 11 = .ok (.istore 6, 2) := by decide +kernel
theorem d_Mo_put_13 : decode b_Mo_put 13 = .ok (.aload_n 0, 1) := by decide +kernel
theorem d_Mo_put_14 : decode b_Mo_put 14 = .ok (.getfield 7, 3) := by decide +kernel
theorem d_Mo_put_17 : decode b_Mo_put 17 = .ok (.iload 6, 2) := by decide +kernel
theorem d_Mo_put_19 : decode b_Mo_put 19 = .ok (.iload_n 2, 1) := by decide +kernel
theorem d_Mo_put_20 : decode b_Mo_put 20 = .ok (.iastore, 1) := by decide +kernel
theorem d_Mo_put_21 : decode b_Mo_put 21 = .ok (.aload_n 0, 1) := by decide +kernel
theorem d_Mo_put_22 : decode b_Mo_put 22 = .ok (.getfield 13, 3) := by decide +kernel
theorem d_Mo_put_25 : decode b_Mo_put 25 = .ok (.iload 6, 2) := by decide +kernel
theorem d_Mo_put_27 : decode b_Mo_put 27 = .ok (.iload_n 3, 1) := by decide +kernel
theorem d_Mo_put_28 : decode b_Mo_put 28 = .ok (.iastore, 1) := by decide +kernel
theorem d_Mo_put_29 : decode b_Mo_put 29 = .ok (.aload_n 0, 1) := by decide +kernel
theorem d_Mo_put_30 : decode b_Mo_put 30 = .ok (.getfield 16, 3) := by decide +kernel
theorem d_Mo_put_33 : decode b_Mo_put 33 = .ok (.iload 6, 2) := by decide +kernel
theorem d_Mo_put_35 : decode b_Mo_put 35 = .ok (.iload 4, 2) := by decide +kernel
theorem d_Mo_put_37 : decode b_Mo_put 37 = .ok (.iastore, 1) := by decide +kernel
theorem d_Mo_put_38 : decode b_Mo_put 38 = .ok (.aload_n 0, 1) := by decide +kernel
theorem d_Mo_put_39 : decode b_Mo_put 39 = .ok (.getfield 19, 3) := by decide +kernel
theorem d_Mo_put_42 : decode b_Mo_put 42 = .ok (.iload 6, 2) := by decide +kernel
theorem d_Mo_put_44 : decode b_Mo_put 44 = .ok (.iload 5, 2) := by decide +kernel
theorem d_Mo_put_46 : decode b_Mo_put 46 = .ok (.iastore, 1) := by decide +kernel
theorem d_Mo_put_47 : decode b_Mo_put 47 = .ok (.aload_n 0, 1) := by decide +kernel
theorem d_Mo_put_48 : decode b_Mo_put 48 = .ok (.getfield 22, 3) := by decide +kernel
theorem d_Mo_put_51 : decode b_Mo_put 51 = .ok (.iload_n 1, 1) := by decide +kernel
theorem d_Mo_put_52 : decode b_Mo_put 52 = .ok (.dup2, 1) := by decide +kernel
theorem d_Mo_put_53 : decode b_Mo_put 53 = .ok (.iaload, 1) := by decide +kernel
theorem d_Mo_put_54 : decode b_Mo_put 54 = .ok (.iconst 1, 1) := by decide +kernel
theorem d_Mo_put_55 : decode b_Mo_put 55 = .ok (.iadd, 1) := by decide +kernel
theorem d_Mo_put_56 : decode b_Mo_put 56 = .ok (.iastore, 1) := by decide +kernel
theorem d_Mo_put_57 : decode b_Mo_put 57 = .ok (.return_, 1) := by decide +kernel
set_option maxHeartbeats 4000000 in
set_option maxRecDepth 100000 in
theorem c_Mo_put (mo mop mye mno mnu msz stk mre mce mco xc xa xm xv cnt : Nat) (stp thr : Int32) (fo fy fn fk zs : Nat → Int32) (f n : Nat) (v1 v2 v3 v4 : Int32) (sz : Nat) (hf : f < 8) (hn : n < 40) (hzs : zs f = nI n) : fs_V l y_Mo_put (k_Mo_put :: fs_T) { frames := 0, cells := 0, slots := 0, locals := 0 } (dC, dI) vwCl (fs_tys cI cZ cJ cF) [.ref mo, .int (nI f), .int v1, .int v2, .int v3, .int v4] [(mo, .inr (5, [.ref mop, .ref mye, .ref mno, .ref mnu, .ref msz, .int (nI stk), .ref mre, .ref mce, .ref mco, .ref xc, .ref xa, .ref xm, .ref xv, .int (nI cnt), .int stp, .int thr])), (mop, .inl (cI, 320, .inl fo)), (mye, .inl (cI, 320, .inl fy)), (mno, .inl (cI, 320, .inl fn)), (mnu, .inl (cI, 320, .inl fk)), (msz, .inl (cI, 8, .inl zs))] sz (S := Unit) (fun _ => True) (fun _ => [(mo, .inr (5, [.ref mop, .ref mye, .ref mno, .ref mnu, .ref msz, .int (nI stk), .ref mre, .ref mce, .ref mco, .ref xc, .ref xa, .ref xm, .ref xv, .int (nI cnt), .int stp, .int thr])), (mop, .inl (cI, 320, .inl (upd fo (40 * f + n) v1))), (mye, .inl (cI, 320, .inl (upd fy (40 * f + n) v2))), (mno, .inl (cI, 320, .inl (upd fn (40 * f + n) v3))), (mnu, .inl (cI, 320, .inl (upd fk (40 * f + n) v4))), (msz, .inl (cI, 8, .inl (upd zs f (nI (n + 1)))))]) 0 0 := by
  refine fs_head (by decide) (Nat.le_of_ble_eq_true rfl) ?_
  intro p e s m below meth c A ls hx hb hr hts hown hlocks hin hml hK hP hD hS hA hAe hsz hl
  have hl : lv_has ls 7 [(0, .ref mo), (1, .int (nI f)), (2, .int v1), (3, .int v2), (4, .int v3), (5, .int v4)] := hl
  have hown : s.vm.findClass R_Mo = some m.cls := hown
  refine lv_bipush (v := nI 40) hx hb d_Mo_put_0 (by decide) ?_
  refine lv_iload_n hx hb d_Mo_put_2 rfl (lv_at hl 1 rfl) ?_
  refine lv_imul hx hb d_Mo_put_3 ?_
  refine fs_eqi (pk_mul _ _) ?_
  refine lv_aload_n hx hb d_Mo_put_4 rfl (lv_at hl 0 rfl) ?_
  refine va_get (D := (dC, dI)) (ci := 5) (v := .ref msz) (C := R_Mo) (T := T_Mo) (N := 16) hx hb hts uin_Mo hown hK hP 0 rfl rfl 4 (by decide) (hts _ wi_434) (fun _ h9 => h9) rfl d_Mo_put_5 ?_
  refine lv_iload_n hx hb d_Mo_put_8 rfl (lv_at hl 1 rfl) ?_
  refine fs_iald (v := nI n) hx hb hK hP 5 0 rfl rfl f rfl (by decide) (by omega) hzs d_Mo_put_9 ?_
  refine lv_iadd hx hb d_Mo_put_10 ?_
  refine fs_eqi (nI_add _ _) ?_
  refine lv_istore hx hb d_Mo_put_11 hl (by decide) (lv' := [(6, .int (nI (40 * f + n))), (0, .ref mo), (1, .int (nI f)), (2, .int v1), (3, .int v2), (4, .int v3), (5, .int v4)]) rfl (fun ls hl => ?_)
  refine lv_aload_n hx hb d_Mo_put_13 rfl (lv_at hl 1 rfl) ?_
  refine va_get (D := (dC, dI)) (ci := 5) (v := .ref mop) (C := R_Mo) (T := T_Mo) (N := 16) hx hb hts uin_Mo hown hK hP 0 rfl rfl 0 (by decide) (hts _ wi_430) (fun _ h9 => h9) rfl d_Mo_put_14 ?_
  refine lv_iload hx hb d_Mo_put_17 (lv_at hl 0 rfl) ?_
  refine lv_iload_n hx hb d_Mo_put_19 rfl (lv_at hl 3 rfl) ?_
  refine fs_iast hx hb hK hP hD hS 1 0 rfl rfl (40 * f + n) rfl (by decide) (by omega) d_Mo_put_20 (fun H locs hP hD hS => ?_)
  have hP : va_P (dC, dI) vwCl [(mo, .inr (5, [.ref mop, .ref mye, .ref mno, .ref mnu, .ref msz, .int (nI stk), .ref mre, .ref mce, .ref mco, .ref xc, .ref xa, .ref xm, .ref xv, .int (nI cnt), .int stp, .int thr])), (mop, .inl (cI, 320, .inl (upd fo (40 * f + n) v1))), (mye, .inl (cI, 320, .inl fy)), (mno, .inl (cI, 320, .inl fn)), (mnu, .inl (cI, 320, .inl fk)), (msz, .inl (cI, 8, .inl zs))] H := hP
  have hD : va_D A [(mo, .inr (5, [.ref mop, .ref mye, .ref mno, .ref mnu, .ref msz, .int (nI stk), .ref mre, .ref mce, .ref mco, .ref xc, .ref xa, .ref xm, .ref xv, .int (nI cnt), .int stp, .int thr])), (mop, .inl (cI, 320, .inl (upd fo (40 * f + n) v1))), (mye, .inl (cI, 320, .inl fy)), (mno, .inl (cI, 320, .inl fn)), (mnu, .inl (cI, 320, .inl fk)), (msz, .inl (cI, 8, .inl zs))] := hD
  refine lv_aload_n hx hb d_Mo_put_21 rfl (lv_at hl 1 rfl) ?_
  refine va_get (D := (dC, dI)) (ci := 5) (v := .ref mye) (C := R_Mo) (T := T_Mo) (N := 16) hx hb hts uin_Mo hown hK hP 0 rfl rfl 1 (by decide) (hts _ wi_431) (fun _ h9 => h9) rfl d_Mo_put_22 ?_
  refine lv_iload hx hb d_Mo_put_25 (lv_at hl 0 rfl) ?_
  refine lv_iload_n hx hb d_Mo_put_27 rfl (lv_at hl 4 rfl) ?_
  refine fs_iast hx hb hK hP hD hS 2 0 rfl rfl (40 * f + n) rfl (by decide) (by omega) d_Mo_put_28 (fun H locs hP hD hS => ?_)
  have hP : va_P (dC, dI) vwCl [(mo, .inr (5, [.ref mop, .ref mye, .ref mno, .ref mnu, .ref msz, .int (nI stk), .ref mre, .ref mce, .ref mco, .ref xc, .ref xa, .ref xm, .ref xv, .int (nI cnt), .int stp, .int thr])), (mop, .inl (cI, 320, .inl (upd fo (40 * f + n) v1))), (mye, .inl (cI, 320, .inl (upd fy (40 * f + n) v2))), (mno, .inl (cI, 320, .inl fn)), (mnu, .inl (cI, 320, .inl fk)), (msz, .inl (cI, 8, .inl zs))] H := hP
  have hD : va_D A [(mo, .inr (5, [.ref mop, .ref mye, .ref mno, .ref mnu, .ref msz, .int (nI stk), .ref mre, .ref mce, .ref mco, .ref xc, .ref xa, .ref xm, .ref xv, .int (nI cnt), .int stp, .int thr])), (mop, .inl (cI, 320, .inl (upd fo (40 * f + n) v1))), (mye, .inl (cI, 320, .inl (upd fy (40 * f + n) v2))), (mno, .inl (cI, 320, .inl fn)), (mnu, .inl (cI, 320, .inl fk)), (msz, .inl (cI, 8, .inl zs))] := hD
  refine lv_aload_n hx hb d_Mo_put_29 rfl (lv_at hl 1 rfl) ?_
  refine va_get (D := (dC, dI)) (ci := 5) (v := .ref mno) (C := R_Mo) (T := T_Mo) (N := 16) hx hb hts uin_Mo hown hK hP 0 rfl rfl 2 (by decide) (hts _ wi_432) (fun _ h9 => h9) rfl d_Mo_put_30 ?_
  refine lv_iload hx hb d_Mo_put_33 (lv_at hl 0 rfl) ?_
  refine lv_iload hx hb d_Mo_put_35 (lv_at hl 5 rfl) ?_
  refine fs_iast hx hb hK hP hD hS 3 0 rfl rfl (40 * f + n) rfl (by decide) (by omega) d_Mo_put_37 (fun H locs hP hD hS => ?_)
  have hP : va_P (dC, dI) vwCl [(mo, .inr (5, [.ref mop, .ref mye, .ref mno, .ref mnu, .ref msz, .int (nI stk), .ref mre, .ref mce, .ref mco, .ref xc, .ref xa, .ref xm, .ref xv, .int (nI cnt), .int stp, .int thr])), (mop, .inl (cI, 320, .inl (upd fo (40 * f + n) v1))), (mye, .inl (cI, 320, .inl (upd fy (40 * f + n) v2))), (mno, .inl (cI, 320, .inl (upd fn (40 * f + n) v3))), (mnu, .inl (cI, 320, .inl fk)), (msz, .inl (cI, 8, .inl zs))] H := hP
  have hD : va_D A [(mo, .inr (5, [.ref mop, .ref mye, .ref mno, .ref mnu, .ref msz, .int (nI stk), .ref mre, .ref mce, .ref mco, .ref xc, .ref xa, .ref xm, .ref xv, .int (nI cnt), .int stp, .int thr])), (mop, .inl (cI, 320, .inl (upd fo (40 * f + n) v1))), (mye, .inl (cI, 320, .inl (upd fy (40 * f + n) v2))), (mno, .inl (cI, 320, .inl (upd fn (40 * f + n) v3))), (mnu, .inl (cI, 320, .inl fk)), (msz, .inl (cI, 8, .inl zs))] := hD
  refine lv_aload_n hx hb d_Mo_put_38 rfl (lv_at hl 1 rfl) ?_
  refine va_get (D := (dC, dI)) (ci := 5) (v := .ref mnu) (C := R_Mo) (T := T_Mo) (N := 16) hx hb hts uin_Mo hown hK hP 0 rfl rfl 3 (by decide) (hts _ wi_433) (fun _ h9 => h9) rfl d_Mo_put_39 ?_
  refine lv_iload hx hb d_Mo_put_42 (lv_at hl 0 rfl) ?_
  refine lv_iload hx hb d_Mo_put_44 (lv_at hl 6 rfl) ?_
  refine fs_iast hx hb hK hP hD hS 4 0 rfl rfl (40 * f + n) rfl (by decide) (by omega) d_Mo_put_46 (fun H locs hP hD hS => ?_)
  have hP : va_P (dC, dI) vwCl [(mo, .inr (5, [.ref mop, .ref mye, .ref mno, .ref mnu, .ref msz, .int (nI stk), .ref mre, .ref mce, .ref mco, .ref xc, .ref xa, .ref xm, .ref xv, .int (nI cnt), .int stp, .int thr])), (mop, .inl (cI, 320, .inl (upd fo (40 * f + n) v1))), (mye, .inl (cI, 320, .inl (upd fy (40 * f + n) v2))), (mno, .inl (cI, 320, .inl (upd fn (40 * f + n) v3))), (mnu, .inl (cI, 320, .inl (upd fk (40 * f + n) v4))), (msz, .inl (cI, 8, .inl zs))] H := hP
  have hD : va_D A [(mo, .inr (5, [.ref mop, .ref mye, .ref mno, .ref mnu, .ref msz, .int (nI stk), .ref mre, .ref mce, .ref mco, .ref xc, .ref xa, .ref xm, .ref xv, .int (nI cnt), .int stp, .int thr])), (mop, .inl (cI, 320, .inl (upd fo (40 * f + n) v1))), (mye, .inl (cI, 320, .inl (upd fy (40 * f + n) v2))), (mno, .inl (cI, 320, .inl (upd fn (40 * f + n) v3))), (mnu, .inl (cI, 320, .inl (upd fk (40 * f + n) v4))), (msz, .inl (cI, 8, .inl zs))] := hD
  refine lv_aload_n hx hb d_Mo_put_47 rfl (lv_at hl 1 rfl) ?_
  refine va_get (D := (dC, dI)) (ci := 5) (v := .ref msz) (C := R_Mo) (T := T_Mo) (N := 16) hx hb hts uin_Mo hown hK hP 0 rfl rfl 4 (by decide) (hts _ wi_434) (fun _ h9 => h9) rfl d_Mo_put_48 ?_
  refine lv_iload_n hx hb d_Mo_put_51 rfl (lv_at hl 2 rfl) ?_
  refine lv_dup2_11 hx hb d_Mo_put_52 rfl rfl ?_
  refine fs_iald (v := nI n) hx hb hK hP 5 0 rfl rfl f rfl (by decide) (by omega) hzs d_Mo_put_53 ?_
  refine lv_iconst (v := nI 1) hx hb d_Mo_put_54 (by decide) ?_
  refine lv_iadd hx hb d_Mo_put_55 ?_
  refine fs_eqi (nI_add _ _) ?_
  refine fs_iast hx hb hK hP hD hS 5 0 rfl rfl f rfl (by decide) (by omega) d_Mo_put_56 (fun H locs hP hD hS => ?_)
  have hP : va_P (dC, dI) vwCl [(mo, .inr (5, [.ref mop, .ref mye, .ref mno, .ref mnu, .ref msz, .int (nI stk), .ref mre, .ref mce, .ref mco, .ref xc, .ref xa, .ref xm, .ref xv, .int (nI cnt), .int stp, .int thr])), (mop, .inl (cI, 320, .inl (upd fo (40 * f + n) v1))), (mye, .inl (cI, 320, .inl (upd fy (40 * f + n) v2))), (mno, .inl (cI, 320, .inl (upd fn (40 * f + n) v3))), (mnu, .inl (cI, 320, .inl (upd fk (40 * f + n) v4))), (msz, .inl (cI, 8, .inl (upd zs f (nI (n + 1)))))] H := hP
  have hD : va_D A [(mo, .inr (5, [.ref mop, .ref mye, .ref mno, .ref mnu, .ref msz, .int (nI stk), .ref mre, .ref mce, .ref mco, .ref xc, .ref xa, .ref xm, .ref xv, .int (nI cnt), .int stp, .int thr])), (mop, .inl (cI, 320, .inl (upd fo (40 * f + n) v1))), (mye, .inl (cI, 320, .inl (upd fy (40 * f + n) v2))), (mno, .inl (cI, 320, .inl (upd fn (40 * f + n) v3))), (mnu, .inl (cI, 320, .inl (upd fk (40 * f + n) v4))), (msz, .inl (cI, 8, .inl (upd zs f (nI (n + 1)))))] := hD
  exact fs_vret hx hb hr hlocks hAe hK hS d_Mo_put_57 () (trivial) hP hD

theorem d_Mo_add_0 : decode b_Mo_add 0 = .ok (.aload_n 0, 1) := by decide +kernel
theorem d_Mo_add_1 : decode b_Mo_add 1 = .ok (.iconst 0, 1) := by decide +kernel
theorem d_Mo_add_2 : decode b_Mo_add 2 = .ok (.putfield 47, 3) := by decide +kernel
theorem d_Mo_add_5 : decode b_Mo_add 5 = .ok (.iload_n 1, 1) := by decide +kernel
theorem d_Mo_add_6 : decode b_Mo_add 6 = .ok (.iconst 0, 1) := by decide +kernel
theorem d_Mo_add_7 : decode b_Mo_add 7 = .ok (.iconst 3, 1) := by decide +kernel
theorem d_Mo_add_8 : decode b_Mo_add 8 = .ok (.invokestatic 51, 3) := by decide +kernel
theorem d_Mo_add_11 : decode b_Mo_add 11 = .ok (.ifCond .eq 36, 3) := by decide +kernel
theorem d_Mo_add_14 : decode b_Mo_add 14 = .ok (.iload_n 2, 1) := by decide +kernel
theorem d_Mo_add_15 : decode b_Mo_add 15 = .ok (.iconst 0, 1) := by decide +kernel
theorem d_Mo_add_16 : decode b_Mo_add 16 = .ok (.bipush 31, 2) := by decide +kernel
theorem d_Mo_add_18 : decode b_Mo_add 18 = .ok (.invokestatic 51, 3) := by decide +kernel
theorem d_Mo_add_21 : decode b_Mo_add 21 = .ok (.ifCond .eq 26, 3) := by decide +kernel
theorem d_Mo_add_24 : decode b_Mo_add 24 = .ok (.iload_n 3, 1) := by decide +kernel
theorem d_Mo_add_25 : decode b_Mo_add 25 = .ok (.iconst 0, 1) := by decide +kernel
theorem d_Mo_add_26 : decode b_Mo_add 26 = .ok (.sipush 255, 3) := by decide +kernel
theorem d_Mo_add_29 : decode b_Mo_add 29 = .ok (.invokestatic 51, 3) := by decide +kernel
theorem d_Mo_add_32 : decode b_Mo_add 32 = .ok (.ifCond .eq 15, 3) := by decide +kernel
theorem d_Mo_add_35 : decode b_Mo_add 35 = .ok (.iload 4, 2) := by decide +kernel
theorem d_Mo_add_37 : decode b_Mo_add 37 = .ok (.iconst 0, 1) := by decide +kernel
theorem d_Mo_add_38 : decode b_Mo_add 38 = .ok (.sipush 255, 3) := by decide +kernel
theorem d_Mo_add_41 : decode b_Mo_add 41 = .ok (.invokestatic 51, 3) := by decide +kernel
theorem d_Mo_add_44 : decode b_Mo_add 44 = .ok (.ifCond .ne 5, 3) := by decide +kernel
theorem d_Mo_add_47 : decode b_Mo_add 47 = .ok (.iconst (-1), 1) := by decide +kernel
theorem d_Mo_add_48 : decode b_Mo_add 48 = .ok (.ireturn, 1) := by decide +kernel
theorem d_Mo_add_49 : decode b_Mo_add 49 = .ok (.aload_n 0, 1) := by decide +kernel
theorem d_Mo_add_50 : decode b_Mo_add 50 = .ok (.getfield 22, 3) := by decide +kernel
theorem d_Mo_add_53 : decode b_Mo_add 53 = .ok (.iload_n 1, 1) := by decide +kernel
theorem d_Mo_add_54 : decode b_Mo_add 54 = .ok (.iaload, 1) := by decide +kernel
theorem d_Mo_add_55 : decode b_Mo_add 55 = .ok (.bipush 40, 2) := by decide +kernel
theorem d_Mo_add_57 : decode b_Mo_add 57 = .ok (.if_icmp .ne 6, 3) := by decide +kernel
theorem d_Mo_add_60 : decode b_Mo_add 60 = .ok (.bipush (-2), 2) := by decide +kernel
theorem d_Mo_add_62 : decode b_Mo_add 62 = .ok (.ireturn, 1) := by decide +kernel
theorem d_Mo_add_63 : decode b_Mo_add 63 = .ok (.aload_n 0, 1) := by decide +kernel
theorem d_Mo_add_64 : decode b_Mo_add 64 = .ok (.iload_n 1, 1) := by decide +kernel
theorem d_Mo_add_65 : decode b_Mo_add 65 = .ok (.iload_n 2, 1) := by decide +kernel
theorem d_Mo_add_66 : decode b_Mo_add 66 = .ok (.iload_n 3, 1) := by decide +kernel
theorem d_Mo_add_67 : decode b_Mo_add 67 = .ok (.iload 4, 2) := by decide +kernel
theorem d_Mo_add_69 : decode b_Mo_add 69 = .ok (.iload 5, 2) := by decide +kernel
theorem d_Mo_add_71 : decode b_Mo_add 71 = .ok (.invokevirtual 55, 3) := by decide +kernel
theorem d_Mo_add_74 : decode b_Mo_add 74 = .ok (.aload_n 0, 1) := by decide +kernel
theorem d_Mo_add_75 : decode b_Mo_add 75 = .ok (.getfield 22, 3) := by decide +kernel
theorem d_Mo_add_78 : decode b_Mo_add 78 = .ok (.iload_n 1, 1) := by decide +kernel
theorem d_Mo_add_79 : decode b_Mo_add 79 = .ok (.iaload, 1) := by decide +kernel
theorem d_Mo_add_80 : decode b_Mo_add 80 = .ok (.iconst 1, 1) := by decide +kernel
theorem d_Mo_add_81 : decode b_Mo_add 81 = .ok (.isub, 1) := by decide +kernel
theorem d_Mo_add_82 : decode b_Mo_add 82 = .ok (.ireturn, 1) := by decide +kernel
set_option maxHeartbeats 4000000 in
set_option maxRecDepth 100000 in
theorem c_Mo_add (mo mop mye mno mnu msz stk mre mce mco xc xa xm xv cnt : Nat) (stp thr : Int32) (fo fy fn fk zs : Nat → Int32) (j len vo vy vn : Nat) (vk : Int32) (sz : Nat) (hj : j < 4) (hvo : vo < 32) (hvy : vy < 256) (hvn : vn < 256) (hlen : len < 40) (hzs : zs j = nI len) : fs_I l y_Mo_add (k_Mo_add :: fs_T) { frames := 1, cells := 0, slots := 0, locals := 26 } (dC, dI) vwCl (fs_tys cI cZ cJ cF) [.ref mo, .int (nI j), .int (nI vo), .int (nI vy), .int (nI vn), .int vk] [(mo, .inr (5, [.ref mop, .ref mye, .ref mno, .ref mnu, .ref msz, .int (nI stk), .ref mre, .ref mce, .ref mco, .ref xc, .ref xa, .ref xm, .ref xv, .int (nI cnt), .int stp, .int thr])), (mop, .inl (cI, 320, .inl fo)), (mye, .inl (cI, 320, .inl fy)), (mno, .inl (cI, 320, .inl fn)), (mnu, .inl (cI, 320, .inl fk)), (msz, .inl (cI, 8, .inl zs))] sz (S := Unit) (fun r _ => r = nI len) (fun _ => [(mo, .inr (5, [.ref mop, .ref mye, .ref mno, .ref mnu, .ref msz, .int (nI stk), .ref mre, .ref mce, .ref mco, .ref xc, .ref xa, .ref xm, .ref xv, .int (nI cnt), .int stp, .int (nI 0)])), (mop, .inl (cI, 320, .inl (upd fo (40 * j + len) (nI vo)))), (mye, .inl (cI, 320, .inl (upd fy (40 * j + len) (nI vy)))), (mno, .inl (cI, 320, .inl (upd fn (40 * j + len) (nI vn)))), (mnu, .inl (cI, 320, .inl (upd fk (40 * j + len) vk))), (msz, .inl (cI, 8, .inl (upd zs j (nI (len + 1)))))]) 0 0 := by
  refine fs_head (by decide) (Nat.le_of_ble_eq_true rfl) ?_
  intro p e s m below meth c A ls hx hb hr hts hown hlocks hin hml hK hP hD hS hA hAe hsz hl
  have hl : lv_has ls 6 [(0, .ref mo), (1, .int (nI j)), (2, .int (nI vo)), (3, .int (nI vy)), (4, .int (nI vn)), (5, .int vk)] := hl
  have hown : s.vm.findClass R_Mo = some m.cls := hown
  refine lv_aload_n hx hb d_Mo_add_0 rfl (lv_at hl 0 rfl) ?_
  refine lv_iconst (v := nI 0) hx hb d_Mo_add_1 (by decide) ?_
  refine va_put (D := (dC, dI)) (ci := 5) (v := .int (nI 0)) (ty := (.int)) (C := R_Mo) (T := T_Mo) (N := 16) hx hb hts uin_Mo t_Mo ok_Mo n_Mo hown hK hP hD hS 0 rfl rfl 15 (by decide) (hts _ wi_445) (fun _ h9 => h9) rfl (by decide +kernel) rfl rfl (Nat.le_of_ble_eq_true rfl) d_Mo_add_2 (fun H locs hP hD hS => ?_)
  have hP : va_P (dC, dI) vwCl [(mo, .inr (5, [.ref mop, .ref mye, .ref mno, .ref mnu, .ref msz, .int (nI stk), .ref mre, .ref mce, .ref mco, .ref xc, .ref xa, .ref xm, .ref xv, .int (nI cnt), .int stp, .int (nI 0)])), (mop, .inl (cI, 320, .inl fo)), (mye, .inl (cI, 320, .inl fy)), (mno, .inl (cI, 320, .inl fn)), (mnu, .inl (cI, 320, .inl fk)), (msz, .inl (cI, 8, .inl zs))] H := hP
  have hD : va_D A [(mo, .inr (5, [.ref mop, .ref mye, .ref mno, .ref mnu, .ref msz, .int (nI stk), .ref mre, .ref mce, .ref mco, .ref xc, .ref xa, .ref xm, .ref xv, .int (nI cnt), .int stp, .int (nI 0)])), (mop, .inl (cI, 320, .inl fo)), (mye, .inl (cI, 320, .inl fy)), (mno, .inl (cI, 320, .inl fn)), (mnu, .inl (cI, 320, .inl fk)), (msz, .inl (cI, 8, .inl zs))] := hD
  refine lv_iload_n hx hb d_Mo_add_5 rfl (lv_at hl 1 rfl) ?_
  refine lv_iconst (v := nI 0) hx hb d_Mo_add_6 (by decide) ?_
  refine lv_iconst (v := nI 3) hx hb d_Mo_add_7 (by decide) ?_
  refine fs_calli (wc := []) (wr := [(mo, .inr (5, [.ref mop, .ref mye, .ref mno, .ref mnu, .ref msz, .int (nI stk), .ref mre, .ref mce, .ref mco, .ref xc, .ref xa, .ref xm, .ref xv, .int (nI cnt), .int stp, .int (nI 0)])), (mop, .inl (cI, 320, .inl fo)), (mye, .inl (cI, 320, .inl fy)), (mno, .inl (cI, 320, .inl fn)), (mnu, .inl (cI, 320, .inl fk)), (msz, .inl (cI, 8, .inl zs))]) [] [0, 1, 2, 3, 4, 5] hP hD hK hS hA rfl rfl rfl (by decide) (fun hPc hDc => va_runS (As := [.int (nI j), .int (nI 0), .int (nI 3)]) (rest := []) ⟨hx, hb, hml, hown, hts⟩ (c_Mo_within (nI j) (nI 0) (nI 3) (((j : Nat) : Int)) (((0 : Nat) : Int)) (((3 : Nat) : Int)) _ (nI_toInt (by omega)) (nI_toInt (by omega)) (nI_toInt (by omega))) (⟨callB_of 3 hts (fs_g kin_Mo_within) rfl rfl rfl (hts _ wi_6) (hts _ wi_488) (by decide +kernel) ⟨Nat.le_of_ble_eq_true rfl, Nat.le_of_ble_eq_true rfl⟩, hts _ wi_489⟩) (fs_preS hPc hK hDc) rfl rfl hl.1 rfl (lv_room (Nat.le_of_ble_eq_true rfl)) d_Mo_add_8 ⟨Nat.le_of_ble_eq_true rfl, Nat.le_of_ble_eq_true rfl⟩) rfl (fun r8 _ H locs hp8 hP hD hS => ?_)
  have hP : va_P (dC, dI) vwCl [(mo, .inr (5, [.ref mop, .ref mye, .ref mno, .ref mnu, .ref msz, .int (nI stk), .ref mre, .ref mce, .ref mco, .ref xc, .ref xa, .ref xm, .ref xv, .int (nI cnt), .int stp, .int (nI 0)])), (mop, .inl (cI, 320, .inl fo)), (mye, .inl (cI, 320, .inl fy)), (mno, .inl (cI, 320, .inl fn)), (mnu, .inl (cI, 320, .inl fk)), (msz, .inl (cI, 8, .inl zs))] H := hP
  have hD : va_D A [(mo, .inr (5, [.ref mop, .ref mye, .ref mno, .ref mnu, .ref msz, .int (nI stk), .ref mre, .ref mce, .ref mco, .ref xc, .ref xa, .ref xm, .ref xv, .int (nI cnt), .int stp, .int (nI 0)])), (mop, .inl (cI, 320, .inl fo)), (mye, .inl (cI, 320, .inl fy)), (mno, .inl (cI, 320, .inl fn)), (mnu, .inl (cI, 320, .inl fk)), (msz, .inl (cI, 8, .inl zs))] := hD
  rcases hp8 with ⟨hc8, rfl⟩ | ⟨hc8, _⟩
  rotate_left
  · exact absurd (by omega) hc8
  refine lv_if_eq (tgt := 47) hx hb d_Mo_add_11 (by decide) (fun hc => absurd hc (by decide)) (fun _ => ?_)
  refine lv_iload_n hx hb d_Mo_add_14 rfl (lv_at hl 2 rfl) ?_
  refine lv_iconst (v := nI 0) hx hb d_Mo_add_15 (by decide) ?_
  refine lv_bipush (v := nI 31) hx hb d_Mo_add_16 (by decide) ?_
  refine fs_calli (wc := []) (wr := [(mo, .inr (5, [.ref mop, .ref mye, .ref mno, .ref mnu, .ref msz, .int (nI stk), .ref mre, .ref mce, .ref mco, .ref xc, .ref xa, .ref xm, .ref xv, .int (nI cnt), .int stp, .int (nI 0)])), (mop, .inl (cI, 320, .inl fo)), (mye, .inl (cI, 320, .inl fy)), (mno, .inl (cI, 320, .inl fn)), (mnu, .inl (cI, 320, .inl fk)), (msz, .inl (cI, 8, .inl zs))]) [] [0, 1, 2, 3, 4, 5] hP hD hK hS hA rfl rfl rfl (by decide) (fun hPc hDc => va_runS (As := [.int (nI vo), .int (nI 0), .int (nI 31)]) (rest := []) ⟨hx, hb, hml, hown, hts⟩ (c_Mo_within (nI vo) (nI 0) (nI 31) (((vo : Nat) : Int)) (((0 : Nat) : Int)) (((31 : Nat) : Int)) _ (nI_toInt (by omega)) (nI_toInt (by omega)) (nI_toInt (by omega))) (⟨callB_of 3 hts (fs_g kin_Mo_within) rfl rfl rfl (hts _ wi_6) (hts _ wi_488) (by decide +kernel) ⟨Nat.le_of_ble_eq_true rfl, Nat.le_of_ble_eq_true rfl⟩, hts _ wi_489⟩) (fs_preS hPc hK hDc) rfl rfl hl.1 rfl (lv_room (Nat.le_of_ble_eq_true rfl)) d_Mo_add_18 ⟨Nat.le_of_ble_eq_true rfl, Nat.le_of_ble_eq_true rfl⟩) rfl (fun r18 _ H locs hp18 hP hD hS => ?_)
  have hP : va_P (dC, dI) vwCl [(mo, .inr (5, [.ref mop, .ref mye, .ref mno, .ref mnu, .ref msz, .int (nI stk), .ref mre, .ref mce, .ref mco, .ref xc, .ref xa, .ref xm, .ref xv, .int (nI cnt), .int stp, .int (nI 0)])), (mop, .inl (cI, 320, .inl fo)), (mye, .inl (cI, 320, .inl fy)), (mno, .inl (cI, 320, .inl fn)), (mnu, .inl (cI, 320, .inl fk)), (msz, .inl (cI, 8, .inl zs))] H := hP
  have hD : va_D A [(mo, .inr (5, [.ref mop, .ref mye, .ref mno, .ref mnu, .ref msz, .int (nI stk), .ref mre, .ref mce, .ref mco, .ref xc, .ref xa, .ref xm, .ref xv, .int (nI cnt), .int stp, .int (nI 0)])), (mop, .inl (cI, 320, .inl fo)), (mye, .inl (cI, 320, .inl fy)), (mno, .inl (cI, 320, .inl fn)), (mnu, .inl (cI, 320, .inl fk)), (msz, .inl (cI, 8, .inl zs))] := hD
  rcases hp18 with ⟨hc18, rfl⟩ | ⟨hc18, _⟩
  rotate_left
  · exact absurd (by omega) hc18
  refine lv_if_eq (tgt := 47) hx hb d_Mo_add_21 (by decide) (fun hc => absurd hc (by decide)) (fun _ => ?_)
  refine lv_iload_n hx hb d_Mo_add_24 rfl (lv_at hl 3 rfl) ?_
  refine lv_iconst (v := nI 0) hx hb d_Mo_add_25 (by decide) ?_
  refine lv_sipush (v := nI 255) hx hb d_Mo_add_26 (by decide) ?_
  refine fs_calli (wc := []) (wr := [(mo, .inr (5, [.ref mop, .ref mye, .ref mno, .ref mnu, .ref msz, .int (nI stk), .ref mre, .ref mce, .ref mco, .ref xc, .ref xa, .ref xm, .ref xv, .int (nI cnt), .int stp, .int (nI 0)])), (mop, .inl (cI, 320, .inl fo)), (mye, .inl (cI, 320, .inl fy)), (mno, .inl (cI, 320, .inl fn)), (mnu, .inl (cI, 320, .inl fk)), (msz, .inl (cI, 8, .inl zs))]) [] [0, 1, 2, 3, 4, 5] hP hD hK hS hA rfl rfl rfl (by decide) (fun hPc hDc => va_runS (As := [.int (nI vy), .int (nI 0), .int (nI 255)]) (rest := []) ⟨hx, hb, hml, hown, hts⟩ (c_Mo_within (nI vy) (nI 0) (nI 255) (((vy : Nat) : Int)) (((0 : Nat) : Int)) (((255 : Nat) : Int)) _ (nI_toInt (by omega)) (nI_toInt (by omega)) (nI_toInt (by omega))) (⟨callB_of 3 hts (fs_g kin_Mo_within) rfl rfl rfl (hts _ wi_6) (hts _ wi_488) (by decide +kernel) ⟨Nat.le_of_ble_eq_true rfl, Nat.le_of_ble_eq_true rfl⟩, hts _ wi_489⟩) (fs_preS hPc hK hDc) rfl rfl hl.1 rfl (lv_room (Nat.le_of_ble_eq_true rfl)) d_Mo_add_29 ⟨Nat.le_of_ble_eq_true rfl, Nat.le_of_ble_eq_true rfl⟩) rfl (fun r29 _ H locs hp29 hP hD hS => ?_)
  have hP : va_P (dC, dI) vwCl [(mo, .inr (5, [.ref mop, .ref mye, .ref mno, .ref mnu, .ref msz, .int (nI stk), .ref mre, .ref mce, .ref mco, .ref xc, .ref xa, .ref xm, .ref xv, .int (nI cnt), .int stp, .int (nI 0)])), (mop, .inl (cI, 320, .inl fo)), (mye, .inl (cI, 320, .inl fy)), (mno, .inl (cI, 320, .inl fn)), (mnu, .inl (cI, 320, .inl fk)), (msz, .inl (cI, 8, .inl zs))] H := hP
  have hD : va_D A [(mo, .inr (5, [.ref mop, .ref mye, .ref mno, .ref mnu, .ref msz, .int (nI stk), .ref mre, .ref mce, .ref mco, .ref xc, .ref xa, .ref xm, .ref xv, .int (nI cnt), .int stp, .int (nI 0)])), (mop, .inl (cI, 320, .inl fo)), (mye, .inl (cI, 320, .inl fy)), (mno, .inl (cI, 320, .inl fn)), (mnu, .inl (cI, 320, .inl fk)), (msz, .inl (cI, 8, .inl zs))] := hD
  rcases hp29 with ⟨hc29, rfl⟩ | ⟨hc29, _⟩
  rotate_left
  · exact absurd (by omega) hc29
  refine lv_if_eq (tgt := 47) hx hb d_Mo_add_32 (by decide) (fun hc => absurd hc (by decide)) (fun _ => ?_)
  refine lv_iload hx hb d_Mo_add_35 (lv_at hl 4 rfl) ?_
  refine lv_iconst (v := nI 0) hx hb d_Mo_add_37 (by decide) ?_
  refine lv_sipush (v := nI 255) hx hb d_Mo_add_38 (by decide) ?_
  refine fs_calli (wc := []) (wr := [(mo, .inr (5, [.ref mop, .ref mye, .ref mno, .ref mnu, .ref msz, .int (nI stk), .ref mre, .ref mce, .ref mco, .ref xc, .ref xa, .ref xm, .ref xv, .int (nI cnt), .int stp, .int (nI 0)])), (mop, .inl (cI, 320, .inl fo)), (mye, .inl (cI, 320, .inl fy)), (mno, .inl (cI, 320, .inl fn)), (mnu, .inl (cI, 320, .inl fk)), (msz, .inl (cI, 8, .inl zs))]) [] [0, 1, 2, 3, 4, 5] hP hD hK hS hA rfl rfl rfl (by decide) (fun hPc hDc => va_runS (As := [.int (nI vn), .int (nI 0), .int (nI 255)]) (rest := []) ⟨hx, hb, hml, hown, hts⟩ (c_Mo_within (nI vn) (nI 0) (nI 255) (((vn : Nat) : Int)) (((0 : Nat) : Int)) (((255 : Nat) : Int)) _ (nI_toInt (by omega)) (nI_toInt (by omega)) (nI_toInt (by omega))) (⟨callB_of 3 hts (fs_g kin_Mo_within) rfl rfl rfl (hts _ wi_6) (hts _ wi_488) (by decide +kernel) ⟨Nat.le_of_ble_eq_true rfl, Nat.le_of_ble_eq_true rfl⟩, hts _ wi_489⟩) (fs_preS hPc hK hDc) rfl rfl hl.1 rfl (lv_room (Nat.le_of_ble_eq_true rfl)) d_Mo_add_41 ⟨Nat.le_of_ble_eq_true rfl, Nat.le_of_ble_eq_true rfl⟩) rfl (fun r41 _ H locs hp41 hP hD hS => ?_)
  have hP : va_P (dC, dI) vwCl [(mo, .inr (5, [.ref mop, .ref mye, .ref mno, .ref mnu, .ref msz, .int (nI stk), .ref mre, .ref mce, .ref mco, .ref xc, .ref xa, .ref xm, .ref xv, .int (nI cnt), .int stp, .int (nI 0)])), (mop, .inl (cI, 320, .inl fo)), (mye, .inl (cI, 320, .inl fy)), (mno, .inl (cI, 320, .inl fn)), (mnu, .inl (cI, 320, .inl fk)), (msz, .inl (cI, 8, .inl zs))] H := hP
  have hD : va_D A [(mo, .inr (5, [.ref mop, .ref mye, .ref mno, .ref mnu, .ref msz, .int (nI stk), .ref mre, .ref mce, .ref mco, .ref xc, .ref xa, .ref xm, .ref xv, .int (nI cnt), .int stp, .int (nI 0)])), (mop, .inl (cI, 320, .inl fo)), (mye, .inl (cI, 320, .inl fy)), (mno, .inl (cI, 320, .inl fn)), (mnu, .inl (cI, 320, .inl fk)), (msz, .inl (cI, 8, .inl zs))] := hD
  rcases hp41 with ⟨hc41, rfl⟩ | ⟨hc41, _⟩
  rotate_left
  · exact absurd (by omega) hc41
  refine lv_if_ne (tgt := 49) hx hb d_Mo_add_44 (by decide) (fun _ => ?_) (fun hc => absurd hc (by decide))
  refine lv_aload_n hx hb d_Mo_add_49 rfl (lv_at hl 0 rfl) ?_
  refine va_get (D := (dC, dI)) (ci := 5) (v := .ref msz) (C := R_Mo) (T := T_Mo) (N := 16) hx hb hts uin_Mo hown hK hP 0 rfl rfl 4 (by decide) (hts _ wi_434) (fun _ h9 => h9) rfl d_Mo_add_50 ?_
  refine lv_iload_n hx hb d_Mo_add_53 rfl (lv_at hl 1 rfl) ?_
  refine fs_iald (v := nI len) hx hb hK hP 5 0 rfl rfl j rfl (by decide) (by omega) hzs d_Mo_add_54 ?_
  refine lv_bipush (v := nI 40) hx hb d_Mo_add_55 (by decide) ?_
  refine lv_icmp_ne (tgt := 63) hx hb d_Mo_add_57 (by decide) (fun hc57 => ?_) (fun hc57 => absurd hc57 (by rw [nI_eq (by omega) (by omega)]; omega))
  rw [nI_eq (by omega) (by omega)] at hc57
  refine lv_aload_n hx hb d_Mo_add_63 rfl (lv_at hl 0 rfl) ?_
  refine lv_iload_n hx hb d_Mo_add_64 rfl (lv_at hl 1 rfl) ?_
  refine lv_iload_n hx hb d_Mo_add_65 rfl (lv_at hl 2 rfl) ?_
  refine lv_iload_n hx hb d_Mo_add_66 rfl (lv_at hl 3 rfl) ?_
  refine lv_iload hx hb d_Mo_add_67 (lv_at hl 4 rfl) ?_
  refine lv_iload hx hb d_Mo_add_69 (lv_at hl 5 rfl) ?_
  refine fs_callv (wc := [(mo, .inr (5, [.ref mop, .ref mye, .ref mno, .ref mnu, .ref msz, .int (nI stk), .ref mre, .ref mce, .ref mco, .ref xc, .ref xa, .ref xm, .ref xv, .int (nI cnt), .int stp, .int (nI 0)])), (mop, .inl (cI, 320, .inl fo)), (mye, .inl (cI, 320, .inl fy)), (mno, .inl (cI, 320, .inl fn)), (mnu, .inl (cI, 320, .inl fk)), (msz, .inl (cI, 8, .inl zs))]) (wr := []) [0, 1, 2, 3, 4, 5] [] hP hD hK hS hA rfl rfl rfl (by decide) (fun hPc hDc => va_runV (C := R_Mo) (As := [.int (nI j), .int (nI vo), .int (nI vy), .int (nI vn), .int vk]) (rest := []) ⟨hx, hb, hml, hown, hts⟩ (c_Mo_put mo mop mye mno mnu msz stk mre mce mco xc xa xm xv cnt stp (nI 0) fo fy fn fk zs j len (nI vo) (nI vy) (nI vn) vk _ (by omega) (by omega) (hzs)) (⟨callB_of 5 hts (fs_g kin_Mo_put) rfl rfl rfl (hts _ wi_6) (hts _ wi_491) (by decide +kernel) ⟨Nat.le_of_ble_eq_true rfl, Nat.le_of_ble_eq_true rfl⟩, hts _ wi_493, hts _ sel_Mo_put⟩) (fs_preV (q0 := 0) rfl rfl hPc hK hDc) rfl rfl hl.1 rfl (lv_room (Nat.le_of_ble_eq_true rfl)) d_Mo_add_71 ⟨Nat.le_of_ble_eq_true rfl, Nat.le_of_ble_eq_true rfl⟩) rfl (fun _ H locs hp71 hP hD hS => ?_)
  have hP : va_P (dC, dI) vwCl [(mo, .inr (5, [.ref mop, .ref mye, .ref mno, .ref mnu, .ref msz, .int (nI stk), .ref mre, .ref mce, .ref mco, .ref xc, .ref xa, .ref xm, .ref xv, .int (nI cnt), .int stp, .int (nI 0)])), (mop, .inl (cI, 320, .inl (upd fo (40 * j + len) (nI vo)))), (mye, .inl (cI, 320, .inl (upd fy (40 * j + len) (nI vy)))), (mno, .inl (cI, 320, .inl (upd fn (40 * j + len) (nI vn)))), (mnu, .inl (cI, 320, .inl (upd fk (40 * j + len) vk))), (msz, .inl (cI, 8, .inl (upd zs j (nI (len + 1)))))] H := hP
  have hD : va_D A [(mo, .inr (5, [.ref mop, .ref mye, .ref mno, .ref mnu, .ref msz, .int (nI stk), .ref mre, .ref mce, .ref mco, .ref xc, .ref xa, .ref xm, .ref xv, .int (nI cnt), .int stp, .int (nI 0)])), (mop, .inl (cI, 320, .inl (upd fo (40 * j + len) (nI vo)))), (mye, .inl (cI, 320, .inl (upd fy (40 * j + len) (nI vy)))), (mno, .inl (cI, 320, .inl (upd fn (40 * j + len) (nI vn)))), (mnu, .inl (cI, 320, .inl (upd fk (40 * j + len) vk))), (msz, .inl (cI, 8, .inl (upd zs j (nI (len + 1)))))] := hD
  refine lv_aload_n hx hb d_Mo_add_74 rfl (lv_at hl 0 rfl) ?_
  refine va_get (D := (dC, dI)) (ci := 5) (v := .ref msz) (C := R_Mo) (T := T_Mo) (N := 16) hx hb hts uin_Mo hown hK hP 0 rfl rfl 4 (by decide) (hts _ wi_434) (fun _ h9 => h9) rfl d_Mo_add_75 ?_
  refine lv_iload_n hx hb d_Mo_add_78 rfl (lv_at hl 1 rfl) ?_
  refine fs_iald (v := nI (len + 1)) hx hb hK hP 5 0 rfl rfl j rfl (by decide) (by omega) (if_pos rfl) d_Mo_add_79 ?_
  refine lv_iconst (v := nI 1) hx hb d_Mo_add_80 (by decide) ?_
  refine lv_isub hx hb d_Mo_add_81 ?_
  refine fs_eqi (pk_sub (by omega)) ?_
  exact fs_iret hx hb hr hlocks hAe hK hS d_Mo_add_82 () (rfl) hP hD

set_option maxHeartbeats 4000000 in
set_option maxRecDepth 100000 in
theorem c_Mo_addF (mo mop mye mno mnu msz stk mre mce mco xc xa xm xv cnt : Nat) (stp thr : Int32) (zs : Nat → Int32) (j vo vy vn : Nat) (vk : Int32) (sz : Nat) (hj : j < 4) (hvo : vo < 32) (hvy : vy < 256) (hvn : vn < 256) (hzs : zs j = nI 40) : fs_I l y_Mo_add (k_Mo_add :: fs_T) { frames := 1, cells := 0, slots := 0, locals := 26 } (dC, dI) vwCl (fs_tys cI cZ cJ cF) [.ref mo, .int (nI j), .int (nI vo), .int (nI vy), .int (nI vn), .int vk] [(mo, .inr (5, [.ref mop, .ref mye, .ref mno, .ref mnu, .ref msz, .int (nI stk), .ref mre, .ref mce, .ref mco, .ref xc, .ref xa, .ref xm, .ref xv, .int (nI cnt), .int stp, .int thr])), (msz, .inl (cI, 8, .inl zs))] sz (S := Unit) (fun r _ => r = (-2)) (fun _ => [(mo, .inr (5, [.ref mop, .ref mye, .ref mno, .ref mnu, .ref msz, .int (nI stk), .ref mre, .ref mce, .ref mco, .ref xc, .ref xa, .ref xm, .ref xv, .int (nI cnt), .int stp, .int (nI 0)])), (msz, .inl (cI, 8, .inl zs))]) 0 0 := by
  refine fs_head (by decide) (Nat.le_of_ble_eq_true rfl) ?_
  intro p e s m below meth c A ls hx hb hr hts hown hlocks hin hml hK hP hD hS hA hAe hsz hl
  have hl : lv_has ls 6 [(0, .ref mo), (1, .int (nI j)), (2, .int (nI vo)), (3, .int (nI vy)), (4, .int (nI vn)), (5, .int vk)] := hl
  have hown : s.vm.findClass R_Mo = some m.cls := hown
  refine lv_aload_n hx hb d_Mo_add_0 rfl (lv_at hl 0 rfl) ?_
  refine lv_iconst (v := nI 0) hx hb d_Mo_add_1 (by decide) ?_
  refine va_put (D := (dC, dI)) (ci := 5) (v := .int (nI 0)) (ty := (.int)) (C := R_Mo) (T := T_Mo) (N := 16) hx hb hts uin_Mo t_Mo ok_Mo n_Mo hown hK hP hD hS 0 rfl rfl 15 (by decide) (hts _ wi_445) (fun _ h9 => h9) rfl (by decide +kernel) rfl rfl (Nat.le_of_ble_eq_true rfl) d_Mo_add_2 (fun H locs hP hD hS => ?_)
  have hP : va_P (dC, dI) vwCl [(mo, .inr (5, [.ref mop, .ref mye, .ref mno, .ref mnu, .ref msz, .int (nI stk), .ref mre, .ref mce, .ref mco, .ref xc, .ref xa, .ref xm, .ref xv, .int (nI cnt), .int stp, .int (nI 0)])), (msz, .inl (cI, 8, .inl zs))] H := hP
  have hD : va_D A [(mo, .inr (5, [.ref mop, .ref mye, .ref mno, .ref mnu, .ref msz, .int (nI stk), .ref mre, .ref mce, .ref mco, .ref xc, .ref xa, .ref xm, .ref xv, .int (nI cnt), .int stp, .int (nI 0)])), (msz, .inl (cI, 8, .inl zs))] := hD
  refine lv_iload_n hx hb d_Mo_add_5 rfl (lv_at hl 1 rfl) ?_
  refine lv_iconst (v := nI 0) hx hb d_Mo_add_6 (by decide) ?_
  refine lv_iconst (v := nI 3) hx hb d_Mo_add_7 (by decide) ?_
  refine fs_calli (wc := []) (wr := [(mo, .inr (5, [.ref mop, .ref mye, .ref mno, .ref mnu, .ref msz, .int (nI stk), .ref mre, .ref mce, .ref mco, .ref xc, .ref xa, .ref xm, .ref xv, .int (nI cnt), .int stp, .int (nI 0)])), (msz, .inl (cI, 8, .inl zs))]) [] [0, 1] hP hD hK hS hA rfl rfl rfl (by decide) (fun hPc hDc => va_runS (As := [.int (nI j), .int (nI 0), .int (nI 3)]) (rest := []) ⟨hx, hb, hml, hown, hts⟩ (c_Mo_within (nI j) (nI 0) (nI 3) (((j : Nat) : Int)) (((0 : Nat) : Int)) (((3 : Nat) : Int)) _ (nI_toInt (by omega)) (nI_toInt (by omega)) (nI_toInt (by omega))) (⟨callB_of 3 hts (fs_g kin_Mo_within) rfl rfl rfl (hts _ wi_6) (hts _ wi_488) (by decide +kernel) ⟨Nat.le_of_ble_eq_true rfl, Nat.le_of_ble_eq_true rfl⟩, hts _ wi_489⟩) (fs_preS hPc hK hDc) rfl rfl hl.1 rfl (lv_room (Nat.le_of_ble_eq_true rfl)) d_Mo_add_8 ⟨Nat.le_of_ble_eq_true rfl, Nat.le_of_ble_eq_true rfl⟩) rfl (fun r8 _ H locs hp8 hP hD hS => ?_)
  have hP : va_P (dC, dI) vwCl [(mo, .inr (5, [.ref mop, .ref mye, .ref mno, .ref mnu, .ref msz, .int (nI stk), .ref mre, .ref mce, .ref mco, .ref xc, .ref xa, .ref xm, .ref xv, .int (nI cnt), .int stp, .int (nI 0)])), (msz, .inl (cI, 8, .inl zs))] H := hP
  have hD : va_D A [(mo, .inr (5, [.ref mop, .ref mye, .ref mno, .ref mnu, .ref msz, .int (nI stk), .ref mre, .ref mce, .ref mco, .ref xc, .ref xa, .ref xm, .ref xv, .int (nI cnt), .int stp, .int (nI 0)])), (msz, .inl (cI, 8, .inl zs))] := hD
  rcases hp8 with ⟨hc8, rfl⟩ | ⟨hc8, _⟩
  rotate_left
  · exact absurd (by omega) hc8
  refine lv_if_eq (tgt := 47) hx hb d_Mo_add_11 (by decide) (fun hc => absurd hc (by decide)) (fun _ => ?_)
  refine lv_iload_n hx hb d_Mo_add_14 rfl (lv_at hl 2 rfl) ?_
  refine lv_iconst (v := nI 0) hx hb d_Mo_add_15 (by decide) ?_
  refine lv_bipush (v := nI 31) hx hb d_Mo_add_16 (by decide) ?_
  refine fs_calli (wc := []) (wr := [(mo, .inr (5, [.ref mop, .ref mye, .ref mno, .ref mnu, .ref msz, .int (nI stk), .ref mre, .ref mce, .ref mco, .ref xc, .ref xa, .ref xm, .ref xv, .int (nI cnt), .int stp, .int (nI 0)])), (msz, .inl (cI, 8, .inl zs))]) [] [0, 1] hP hD hK hS hA rfl rfl rfl (by decide) (fun hPc hDc => va_runS (As := [.int (nI vo), .int (nI 0), .int (nI 31)]) (rest := []) ⟨hx, hb, hml, hown, hts⟩ (c_Mo_within (nI vo) (nI 0) (nI 31) (((vo : Nat) : Int)) (((0 : Nat) : Int)) (((31 : Nat) : Int)) _ (nI_toInt (by omega)) (nI_toInt (by omega)) (nI_toInt (by omega))) (⟨callB_of 3 hts (fs_g kin_Mo_within) rfl rfl rfl (hts _ wi_6) (hts _ wi_488) (by decide +kernel) ⟨Nat.le_of_ble_eq_true rfl, Nat.le_of_ble_eq_true rfl⟩, hts _ wi_489⟩) (fs_preS hPc hK hDc) rfl rfl hl.1 rfl (lv_room (Nat.le_of_ble_eq_true rfl)) d_Mo_add_18 ⟨Nat.le_of_ble_eq_true rfl, Nat.le_of_ble_eq_true rfl⟩) rfl (fun r18 _ H locs hp18 hP hD hS => ?_)
  have hP : va_P (dC, dI) vwCl [(mo, .inr (5, [.ref mop, .ref mye, .ref mno, .ref mnu, .ref msz, .int (nI stk), .ref mre, .ref mce, .ref mco, .ref xc, .ref xa, .ref xm, .ref xv, .int (nI cnt), .int stp, .int (nI 0)])), (msz, .inl (cI, 8, .inl zs))] H := hP
  have hD : va_D A [(mo, .inr (5, [.ref mop, .ref mye, .ref mno, .ref mnu, .ref msz, .int (nI stk), .ref mre, .ref mce, .ref mco, .ref xc, .ref xa, .ref xm, .ref xv, .int (nI cnt), .int stp, .int (nI 0)])), (msz, .inl (cI, 8, .inl zs))] := hD
  rcases hp18 with ⟨hc18, rfl⟩ | ⟨hc18, _⟩
  rotate_left
  · exact absurd (by omega) hc18
  refine lv_if_eq (tgt := 47) hx hb d_Mo_add_21 (by decide) (fun hc => absurd hc (by decide)) (fun _ => ?_)
  refine lv_iload_n hx hb d_Mo_add_24 rfl (lv_at hl 3 rfl) ?_
  refine lv_iconst (v := nI 0) hx hb d_Mo_add_25 (by decide) ?_
  refine lv_sipush (v := nI 255) hx hb d_Mo_add_26 (by decide) ?_
  refine fs_calli (wc := []) (wr := [(mo, .inr (5, [.ref mop, .ref mye, .ref mno, .ref mnu, .ref msz, .int (nI stk), .ref mre, .ref mce, .ref mco, .ref xc, .ref xa, .ref xm, .ref xv, .int (nI cnt), .int stp, .int (nI 0)])), (msz, .inl (cI, 8, .inl zs))]) [] [0, 1] hP hD hK hS hA rfl rfl rfl (by decide) (fun hPc hDc => va_runS (As := [.int (nI vy), .int (nI 0), .int (nI 255)]) (rest := []) ⟨hx, hb, hml, hown, hts⟩ (c_Mo_within (nI vy) (nI 0) (nI 255) (((vy : Nat) : Int)) (((0 : Nat) : Int)) (((255 : Nat) : Int)) _ (nI_toInt (by omega)) (nI_toInt (by omega)) (nI_toInt (by omega))) (⟨callB_of 3 hts (fs_g kin_Mo_within) rfl rfl rfl (hts _ wi_6) (hts _ wi_488) (by decide +kernel) ⟨Nat.le_of_ble_eq_true rfl, Nat.le_of_ble_eq_true rfl⟩, hts _ wi_489⟩) (fs_preS hPc hK hDc) rfl rfl hl.1 rfl (lv_room (Nat.le_of_ble_eq_true rfl)) d_Mo_add_29 ⟨Nat.le_of_ble_eq_true rfl, Nat.le_of_ble_eq_true rfl⟩) rfl (fun r29 _ H locs hp29 hP hD hS => ?_)
  have hP : va_P (dC, dI) vwCl [(mo, .inr (5, [.ref mop, .ref mye, .ref mno, .ref mnu, .ref msz, .int (nI stk), .ref mre, .ref mce, .ref mco, .ref xc, .ref xa, .ref xm, .ref xv, .int (nI cnt), .int stp, .int (nI 0)])), (msz, .inl (cI, 8, .inl zs))] H := hP
  have hD : va_D A [(mo, .inr (5, [.ref mop, .ref mye, .ref mno, .ref mnu, .ref msz, .int (nI stk), .ref mre, .ref mce, .ref mco, .ref xc, .ref xa, .ref xm, .ref xv, .int (nI cnt), .int stp, .int (nI 0)])), (msz, .inl (cI, 8, .inl zs))] := hD
  rcases hp29 with ⟨hc29, rfl⟩ | ⟨hc29, _⟩
  rotate_left
  · exact absurd (by omega) hc29
  refine lv_if_eq (tgt := 47) hx hb d_Mo_add_32 (by decide) (fun hc => absurd hc (by decide)) (fun _ => ?_)
  refine lv_iload hx hb d_Mo_add_35 (lv_at hl 4 rfl) ?_
  refine lv_iconst (v := nI 0) hx hb d_Mo_add_37 (by decide) ?_
  refine lv_sipush (v := nI 255) hx hb d_Mo_add_38 (by decide) ?_
  refine fs_calli (wc := []) (wr := [(mo, .inr (5, [.ref mop, .ref mye, .ref mno, .ref mnu, .ref msz, .int (nI stk), .ref mre, .ref mce, .ref mco, .ref xc, .ref xa, .ref xm, .ref xv, .int (nI cnt), .int stp, .int (nI 0)])), (msz, .inl (cI, 8, .inl zs))]) [] [0, 1] hP hD hK hS hA rfl rfl rfl (by decide) (fun hPc hDc => va_runS (As := [.int (nI vn), .int (nI 0), .int (nI 255)]) (rest := []) ⟨hx, hb, hml, hown, hts⟩ (c_Mo_within (nI vn) (nI 0) (nI 255) (((vn : Nat) : Int)) (((0 : Nat) : Int)) (((255 : Nat) : Int)) _ (nI_toInt (by omega)) (nI_toInt (by omega)) (nI_toInt (by omega))) (⟨callB_of 3 hts (fs_g kin_Mo_within) rfl rfl rfl (hts _ wi_6) (hts _ wi_488) (by decide +kernel) ⟨Nat.le_of_ble_eq_true rfl, Nat.le_of_ble_eq_true rfl⟩, hts _ wi_489⟩) (fs_preS hPc hK hDc) rfl rfl hl.1 rfl (lv_room (Nat.le_of_ble_eq_true rfl)) d_Mo_add_41 ⟨Nat.le_of_ble_eq_true rfl, Nat.le_of_ble_eq_true rfl⟩) rfl (fun r41 _ H locs hp41 hP hD hS => ?_)
  have hP : va_P (dC, dI) vwCl [(mo, .inr (5, [.ref mop, .ref mye, .ref mno, .ref mnu, .ref msz, .int (nI stk), .ref mre, .ref mce, .ref mco, .ref xc, .ref xa, .ref xm, .ref xv, .int (nI cnt), .int stp, .int (nI 0)])), (msz, .inl (cI, 8, .inl zs))] H := hP
  have hD : va_D A [(mo, .inr (5, [.ref mop, .ref mye, .ref mno, .ref mnu, .ref msz, .int (nI stk), .ref mre, .ref mce, .ref mco, .ref xc, .ref xa, .ref xm, .ref xv, .int (nI cnt), .int stp, .int (nI 0)])), (msz, .inl (cI, 8, .inl zs))] := hD
  rcases hp41 with ⟨hc41, rfl⟩ | ⟨hc41, _⟩
  rotate_left
  · exact absurd (by omega) hc41
  refine lv_if_ne (tgt := 49) hx hb d_Mo_add_44 (by decide) (fun _ => ?_) (fun hc => absurd hc (by decide))
  refine lv_aload_n hx hb d_Mo_add_49 rfl (lv_at hl 0 rfl) ?_
  refine va_get (D := (dC, dI)) (ci := 5) (v := .ref msz) (C := R_Mo) (T := T_Mo) (N := 16) hx hb hts uin_Mo hown hK hP 0 rfl rfl 4 (by decide) (hts _ wi_434) (fun _ h9 => h9) rfl d_Mo_add_50 ?_
  refine lv_iload_n hx hb d_Mo_add_53 rfl (lv_at hl 1 rfl) ?_
  refine fs_iald (v := nI 40) hx hb hK hP 1 0 rfl rfl j rfl (by decide) (by omega) hzs d_Mo_add_54 ?_
  refine lv_bipush (v := nI 40) hx hb d_Mo_add_55 (by decide) ?_
  refine lv_icmp_ne (tgt := 63) hx hb d_Mo_add_57 (by decide) (fun hc => absurd (by decide) hc) (fun _ => ?_)
  refine lv_bipush (v := (-2)) hx hb d_Mo_add_60 (by decide) ?_
  exact fs_iret hx hb hr hlocks hAe hK hS d_Mo_add_62 () (rfl) hP hD

set_option maxHeartbeats 4000000 in
set_option maxRecDepth 100000 in
theorem c_Mo_addX (mo mop mye mno mnu msz stk mre mce mco xc xa xm xv cnt : Nat) (stp thr : Int32) (f vo vy vn vk : Int32) (sz : Nat) (hbad : ¬ ((∃ j, j < 4 ∧ f = nI j) ∧ 0 ≤ vo.toInt ∧ vo.toInt ≤ 31 ∧ (∃ j, j < 256 ∧ vy = nI j) ∧ (∃ j, j < 256 ∧ vn = nI j))) : fs_I l y_Mo_add (k_Mo_add :: fs_T) { frames := 1, cells := 0, slots := 0, locals := 26 } (dC, dI) vwCl (fs_tys cI cZ cJ cF) [.ref mo, .int f, .int vo, .int vy, .int vn, .int vk] [(mo, .inr (5, [.ref mop, .ref mye, .ref mno, .ref mnu, .ref msz, .int (nI stk), .ref mre, .ref mce, .ref mco, .ref xc, .ref xa, .ref xm, .ref xv, .int (nI cnt), .int stp, .int thr]))] sz (S := Unit) (fun r _ => r = (-1)) (fun _ => [(mo, .inr (5, [.ref mop, .ref mye, .ref mno, .ref mnu, .ref msz, .int (nI stk), .ref mre, .ref mce, .ref mco, .ref xc, .ref xa, .ref xm, .ref xv, .int (nI cnt), .int stp, .int (nI 0)]))]) 0 0 := by
  refine fs_head (by decide) (Nat.le_of_ble_eq_true rfl) ?_
  intro p e s m below meth c A ls hx hb hr hts hown hlocks hin hml hK hP hD hS hA hAe hsz hl
  have hl : lv_has ls 6 [(0, .ref mo), (1, .int f), (2, .int vo), (3, .int vy), (4, .int vn), (5, .int vk)] := hl
  have hown : s.vm.findClass R_Mo = some m.cls := hown
  refine lv_aload_n hx hb d_Mo_add_0 rfl (lv_at hl 0 rfl) ?_
  refine lv_iconst (v := nI 0) hx hb d_Mo_add_1 (by decide) ?_
  refine va_put (D := (dC, dI)) (ci := 5) (v := .int (nI 0)) (ty := (.int)) (C := R_Mo) (T := T_Mo) (N := 16) hx hb hts uin_Mo t_Mo ok_Mo n_Mo hown hK hP hD hS 0 rfl rfl 15 (by decide) (hts _ wi_445) (fun _ h9 => h9) rfl (by decide +kernel) rfl rfl (Nat.le_of_ble_eq_true rfl) d_Mo_add_2 (fun H locs hP hD hS => ?_)
  have hP : va_P (dC, dI) vwCl [(mo, .inr (5, [.ref mop, .ref mye, .ref mno, .ref mnu, .ref msz, .int (nI stk), .ref mre, .ref mce, .ref mco, .ref xc, .ref xa, .ref xm, .ref xv, .int (nI cnt), .int stp, .int (nI 0)]))] H := hP
  have hD : va_D A [(mo, .inr (5, [.ref mop, .ref mye, .ref mno, .ref mnu, .ref msz, .int (nI stk), .ref mre, .ref mce, .ref mco, .ref xc, .ref xa, .ref xm, .ref xv, .int (nI cnt), .int stp, .int (nI 0)]))] := hD
  refine lv_iload_n hx hb d_Mo_add_5 rfl (lv_at hl 1 rfl) ?_
  refine lv_iconst (v := nI 0) hx hb d_Mo_add_6 (by decide) ?_
  refine lv_iconst (v := nI 3) hx hb d_Mo_add_7 (by decide) ?_
  refine fs_calli (wc := []) (wr := [(mo, .inr (5, [.ref mop, .ref mye, .ref mno, .ref mnu, .ref msz, .int (nI stk), .ref mre, .ref mce, .ref mco, .ref xc, .ref xa, .ref xm, .ref xv, .int (nI cnt), .int stp, .int (nI 0)]))]) [] [0] hP hD hK hS hA rfl rfl rfl (by decide) (fun hPc hDc => va_runS (As := [.int f, .int (nI 0), .int (nI 3)]) (rest := []) ⟨hx, hb, hml, hown, hts⟩ (c_Mo_within f (nI 0) (nI 3) (f.toInt) (((0 : Nat) : Int)) (((3 : Nat) : Int)) _ (rfl) (nI_toInt (by omega)) (nI_toInt (by omega))) (⟨callB_of 3 hts (fs_g kin_Mo_within) rfl rfl rfl (hts _ wi_6) (hts _ wi_488) (by decide +kernel) ⟨Nat.le_of_ble_eq_true rfl, Nat.le_of_ble_eq_true rfl⟩, hts _ wi_489⟩) (fs_preS hPc hK hDc) rfl rfl hl.1 rfl (lv_room (Nat.le_of_ble_eq_true rfl)) d_Mo_add_8 ⟨Nat.le_of_ble_eq_true rfl, Nat.le_of_ble_eq_true rfl⟩) rfl (fun r8 _ H locs hp8 hP hD hS => ?_)
  have hP : va_P (dC, dI) vwCl [(mo, .inr (5, [.ref mop, .ref mye, .ref mno, .ref mnu, .ref msz, .int (nI stk), .ref mre, .ref mce, .ref mco, .ref xc, .ref xa, .ref xm, .ref xv, .int (nI cnt), .int stp, .int (nI 0)]))] H := hP
  have hD : va_D A [(mo, .inr (5, [.ref mop, .ref mye, .ref mno, .ref mnu, .ref msz, .int (nI stk), .ref mre, .ref mce, .ref mco, .ref xc, .ref xa, .ref xm, .ref xv, .int (nI cnt), .int stp, .int (nI 0)]))] := hD
  rcases hp8 with ⟨hc8, rfl⟩ | ⟨hc8, rfl⟩
  · refine lv_if_eq (tgt := 47) hx hb d_Mo_add_11 (by decide) (fun hc => absurd hc (by decide)) (fun _ => ?_)
    refine lv_iload_n hx hb d_Mo_add_14 rfl (lv_at hl 2 rfl) ?_
    refine lv_iconst (v := nI 0) hx hb d_Mo_add_15 (by decide) ?_
    refine lv_bipush (v := nI 31) hx hb d_Mo_add_16 (by decide) ?_
    refine fs_calli (wc := []) (wr := [(mo, .inr (5, [.ref mop, .ref mye, .ref mno, .ref mnu, .ref msz, .int (nI stk), .ref mre, .ref mce, .ref mco, .ref xc, .ref xa, .ref xm, .ref xv, .int (nI cnt), .int stp, .int (nI 0)]))]) [] [0] hP hD hK hS hA rfl rfl rfl (by decide) (fun hPc hDc => va_runS (As := [.int vo, .int (nI 0), .int (nI 31)]) (rest := []) ⟨hx, hb, hml, hown, hts⟩ (c_Mo_within vo (nI 0) (nI 31) (vo.toInt) (((0 : Nat) : Int)) (((31 : Nat) : Int)) _ (rfl) (nI_toInt (by omega)) (nI_toInt (by omega))) (⟨callB_of 3 hts (fs_g kin_Mo_within) rfl rfl rfl (hts _ wi_6) (hts _ wi_488) (by decide +kernel) ⟨Nat.le_of_ble_eq_true rfl, Nat.le_of_ble_eq_true rfl⟩, hts _ wi_489⟩) (fs_preS hPc hK hDc) rfl rfl hl.1 rfl (lv_room (Nat.le_of_ble_eq_true rfl)) d_Mo_add_18 ⟨Nat.le_of_ble_eq_true rfl, Nat.le_of_ble_eq_true rfl⟩) rfl (fun r18 _ H locs hp18 hP hD hS => ?_)
    have hP : va_P (dC, dI) vwCl [(mo, .inr (5, [.ref mop, .ref mye, .ref mno, .ref mnu, .ref msz, .int (nI stk), .ref mre, .ref mce, .ref mco, .ref xc, .ref xa, .ref xm, .ref xv, .int (nI cnt), .int stp, .int (nI 0)]))] H := hP
    have hD : va_D A [(mo, .inr (5, [.ref mop, .ref mye, .ref mno, .ref mnu, .ref msz, .int (nI stk), .ref mre, .ref mce, .ref mco, .ref xc, .ref xa, .ref xm, .ref xv, .int (nI cnt), .int stp, .int (nI 0)]))] := hD
    rcases hp18 with ⟨hc18, rfl⟩ | ⟨hc18, rfl⟩
    · refine lv_if_eq (tgt := 47) hx hb d_Mo_add_21 (by decide) (fun hc => absurd hc (by decide)) (fun _ => ?_)
      refine lv_iload_n hx hb d_Mo_add_24 rfl (lv_at hl 3 rfl) ?_
      refine lv_iconst (v := nI 0) hx hb d_Mo_add_25 (by decide) ?_
      refine lv_sipush (v := nI 255) hx hb d_Mo_add_26 (by decide) ?_
      refine fs_calli (wc := []) (wr := [(mo, .inr (5, [.ref mop, .ref mye, .ref mno, .ref mnu, .ref msz, .int (nI stk), .ref mre, .ref mce, .ref mco, .ref xc, .ref xa, .ref xm, .ref xv, .int (nI cnt), .int stp, .int (nI 0)]))]) [] [0] hP hD hK hS hA rfl rfl rfl (by decide) (fun hPc hDc => va_runS (As := [.int vy, .int (nI 0), .int (nI 255)]) (rest := []) ⟨hx, hb, hml, hown, hts⟩ (c_Mo_within vy (nI 0) (nI 255) (vy.toInt) (((0 : Nat) : Int)) (((255 : Nat) : Int)) _ (rfl) (nI_toInt (by omega)) (nI_toInt (by omega))) (⟨callB_of 3 hts (fs_g kin_Mo_within) rfl rfl rfl (hts _ wi_6) (hts _ wi_488) (by decide +kernel) ⟨Nat.le_of_ble_eq_true rfl, Nat.le_of_ble_eq_true rfl⟩, hts _ wi_489⟩) (fs_preS hPc hK hDc) rfl rfl hl.1 rfl (lv_room (Nat.le_of_ble_eq_true rfl)) d_Mo_add_29 ⟨Nat.le_of_ble_eq_true rfl, Nat.le_of_ble_eq_true rfl⟩) rfl (fun r29 _ H locs hp29 hP hD hS => ?_)
      have hP : va_P (dC, dI) vwCl [(mo, .inr (5, [.ref mop, .ref mye, .ref mno, .ref mnu, .ref msz, .int (nI stk), .ref mre, .ref mce, .ref mco, .ref xc, .ref xa, .ref xm, .ref xv, .int (nI cnt), .int stp, .int (nI 0)]))] H := hP
      have hD : va_D A [(mo, .inr (5, [.ref mop, .ref mye, .ref mno, .ref mnu, .ref msz, .int (nI stk), .ref mre, .ref mce, .ref mco, .ref xc, .ref xa, .ref xm, .ref xv, .int (nI cnt), .int stp, .int (nI 0)]))] := hD
      rcases hp29 with ⟨hc29, rfl⟩ | ⟨hc29, rfl⟩
      · refine lv_if_eq (tgt := 47) hx hb d_Mo_add_32 (by decide) (fun hc => absurd hc (by decide)) (fun _ => ?_)
        refine lv_iload hx hb d_Mo_add_35 (lv_at hl 4 rfl) ?_
        refine lv_iconst (v := nI 0) hx hb d_Mo_add_37 (by decide) ?_
        refine lv_sipush (v := nI 255) hx hb d_Mo_add_38 (by decide) ?_
        refine fs_calli (wc := []) (wr := [(mo, .inr (5, [.ref mop, .ref mye, .ref mno, .ref mnu, .ref msz, .int (nI stk), .ref mre, .ref mce, .ref mco, .ref xc, .ref xa, .ref xm, .ref xv, .int (nI cnt), .int stp, .int (nI 0)]))]) [] [0] hP hD hK hS hA rfl rfl rfl (by decide) (fun hPc hDc => va_runS (As := [.int vn, .int (nI 0), .int (nI 255)]) (rest := []) ⟨hx, hb, hml, hown, hts⟩ (c_Mo_within vn (nI 0) (nI 255) (vn.toInt) (((0 : Nat) : Int)) (((255 : Nat) : Int)) _ (rfl) (nI_toInt (by omega)) (nI_toInt (by omega))) (⟨callB_of 3 hts (fs_g kin_Mo_within) rfl rfl rfl (hts _ wi_6) (hts _ wi_488) (by decide +kernel) ⟨Nat.le_of_ble_eq_true rfl, Nat.le_of_ble_eq_true rfl⟩, hts _ wi_489⟩) (fs_preS hPc hK hDc) rfl rfl hl.1 rfl (lv_room (Nat.le_of_ble_eq_true rfl)) d_Mo_add_41 ⟨Nat.le_of_ble_eq_true rfl, Nat.le_of_ble_eq_true rfl⟩) rfl (fun r41 _ H locs hp41 hP hD hS => ?_)
        have hP : va_P (dC, dI) vwCl [(mo, .inr (5, [.ref mop, .ref mye, .ref mno, .ref mnu, .ref msz, .int (nI stk), .ref mre, .ref mce, .ref mco, .ref xc, .ref xa, .ref xm, .ref xv, .int (nI cnt), .int stp, .int (nI 0)]))] H := hP
        have hD : va_D A [(mo, .inr (5, [.ref mop, .ref mye, .ref mno, .ref mnu, .ref msz, .int (nI stk), .ref mre, .ref mce, .ref mco, .ref xc, .ref xa, .ref xm, .ref xv, .int (nI cnt), .int stp, .int (nI 0)]))] := hD
        rcases hp41 with ⟨hc41, rfl⟩ | ⟨hc41, rfl⟩
        · refine lv_if_ne (tgt := 49) hx hb d_Mo_add_44 (by decide) (fun _ => ?_) (fun hc => absurd hc (by decide))
          exact absurd ⟨fs_of (by decide) (by omega) (by omega), by omega, by omega, fs_of (by decide) (by omega) (by omega), fs_of (by decide) (by omega) (by omega)⟩ hbad
        refine lv_if_ne (tgt := 49) hx hb d_Mo_add_44 (by decide) (fun hc => absurd (by decide) hc) (fun _ => ?_)
        refine lv_iconst (v := (-1)) hx hb d_Mo_add_47 (by decide) ?_
        exact fs_iret hx hb hr hlocks hAe hK hS d_Mo_add_48 () (rfl) hP hD
      refine lv_if_eq (tgt := 47) hx hb d_Mo_add_32 (by decide) (fun _ => ?_) (fun hc => absurd (by decide) hc)
      refine lv_iconst (v := (-1)) hx hb d_Mo_add_47 (by decide) ?_
      exact fs_iret hx hb hr hlocks hAe hK hS d_Mo_add_48 () (rfl) hP hD
    refine lv_if_eq (tgt := 47) hx hb d_Mo_add_21 (by decide) (fun _ => ?_) (fun hc => absurd (by decide) hc)
    refine lv_iconst (v := (-1)) hx hb d_Mo_add_47 (by decide) ?_
    exact fs_iret hx hb hr hlocks hAe hK hS d_Mo_add_48 () (rfl) hP hD
  refine lv_if_eq (tgt := 47) hx hb d_Mo_add_11 (by decide) (fun _ => ?_) (fun hc => absurd (by decide) hc)
  refine lv_iconst (v := (-1)) hx hb d_Mo_add_47 (by decide) ?_
  exact fs_iret hx hb hr hlocks hAe hK hS d_Mo_add_48 () (rfl) hP hD

theorem d_Mo_clear_0 : decode b_Mo_clear 0 = .ok (.aload_n 0, 1) := by decide +kernel
theorem d_Mo_clear_1 : decode b_Mo_clear 1 = .ok (.iconst 0, 1) := by decide +kernel
theorem d_Mo_clear_2 : decode b_Mo_clear 2 = .ok (.putfield 47, 3) := by decide +kernel
theorem d_Mo_clear_5 : decode b_Mo_clear 5 = .ok (.iload_n 1, 1) := by decide +kernel
theorem d_Mo_clear_6 : decode b_Mo_clear 6 = .ok (.iconst 0, 1) := by decide +kernel
theorem d_Mo_clear_7 : decode b_Mo_clear 7 = .ok (.iconst 3, 1) := by decide +kernel
theorem d_Mo_clear_8 : decode b_Mo_clear 8 = .ok (.invokestatic 51, 3) := by decide +kernel
theorem d_Mo_clear_11 : decode b_Mo_clear 11 = .ok (.ifCond .ne 5, 3) := by decide +kernel
theorem d_Mo_clear_14 : decode b_Mo_clear 14 = .ok (.iconst (-1), 1) := by decide +kernel
theorem d_Mo_clear_15 : decode b_Mo_clear 15 = .ok (.ireturn, 1) := by decide +kernel
theorem d_Mo_clear_16 : decode b_Mo_clear 16 = .ok (.aload_n 0, 1) := by decide +kernel
theorem d_Mo_clear_17 : decode b_Mo_clear 17 = .ok (.getfield 22, 3) := by decide +kernel
theorem d_Mo_clear_20 : decode b_Mo_clear 20 = .ok (.iload_n 1, 1) := by decide +kernel
theorem d_Mo_clear_21 : decode b_Mo_clear 21 = .ok (.iaload, 1) := by decide +kernel
theorem d_Mo_clear_22 : decode b_Mo_clear 22 = .ok (.istore_n 2, 1) := by decide +kernel
theorem d_Mo_clear_23 : decode b_Mo_clear 23 = .ok (.aload_n 0, 1) := by decide +kernel
theorem d_Mo_clear_24 : decode b_Mo_clear 24 = .ok (.getfield 22, 3) := by decide +kernel
theorem d_Mo_clear_27 : decode b_Mo_clear 27 = .ok (.iload_n 1, 1) := by decide +kernel
theorem d_Mo_clear_28 : decode b_Mo_clear 28 = .ok (.iconst 0, 1) := by decide +kernel
theorem d_Mo_clear_29 : decode b_Mo_clear 29 = .ok (.iastore, 1) := by decide +kernel
theorem d_Mo_clear_30 : decode b_Mo_clear 30 = .ok (.iload_n 2, 1) := by decide +kernel
theorem d_Mo_clear_31 : decode b_Mo_clear 31 = .ok (.ireturn, 1) := by decide +kernel
set_option maxHeartbeats 4000000 in
set_option maxRecDepth 100000 in
theorem c_Mo_clear (mo mop mye mno mnu msz stk mre mce mco xc xa xm xv cnt : Nat) (stp thr : Int32) (zs : Nat → Int32) (j len : Nat) (sz : Nat) (hj : j < 4) (hzs : zs j = nI len) : fs_I l y_Mo_clear (k_Mo_clear :: fs_T) { frames := 1, cells := 0, slots := 0, locals := 22 } (dC, dI) vwCl (fs_tys cI cZ cJ cF) [.ref mo, .int (nI j)] [(mo, .inr (5, [.ref mop, .ref mye, .ref mno, .ref mnu, .ref msz, .int (nI stk), .ref mre, .ref mce, .ref mco, .ref xc, .ref xa, .ref xm, .ref xv, .int (nI cnt), .int stp, .int thr])), (msz, .inl (cI, 8, .inl zs))] sz (S := Unit) (fun r _ => r = nI len) (fun _ => [(mo, .inr (5, [.ref mop, .ref mye, .ref mno, .ref mnu, .ref msz, .int (nI stk), .ref mre, .ref mce, .ref mco, .ref xc, .ref xa, .ref xm, .ref xv, .int (nI cnt), .int stp, .int (nI 0)])), (msz, .inl (cI, 8, .inl (upd zs j (nI 0))))]) 0 0 := by
  refine fs_head (by decide) (Nat.le_of_ble_eq_true rfl) ?_
  intro p e s m below meth c A ls hx hb hr hts hown hlocks hin hml hK hP hD hS hA hAe hsz hl
  have hl : lv_has ls 3 [(0, .ref mo), (1, .int (nI j))] := hl
  have hown : s.vm.findClass R_Mo = some m.cls := hown
  refine lv_aload_n hx hb d_Mo_clear_0 rfl (lv_at hl 0 rfl) ?_
  refine lv_iconst (v := nI 0) hx hb d_Mo_clear_1 (by decide) ?_
  refine va_put (D := (dC, dI)) (ci := 5) (v := .int (nI 0)) (ty := (.int)) (C := R_Mo) (T := T_Mo) (N := 16) hx hb hts uin_Mo t_Mo ok_Mo n_Mo hown hK hP hD hS 0 rfl rfl 15 (by decide) (hts _ wi_445) (fun _ h9 => h9) rfl (by decide +kernel) rfl rfl (Nat.le_of_ble_eq_true rfl) d_Mo_clear_2 (fun H locs hP hD hS => ?_)
  have hP : va_P (dC, dI) vwCl [(mo, .inr (5, [.ref mop, .ref mye, .ref mno, .ref mnu, .ref msz, .int (nI stk), .ref mre, .ref mce, .ref mco, .ref xc, .ref xa, .ref xm, .ref xv, .int (nI cnt), .int stp, .int (nI 0)])), (msz, .inl (cI, 8, .inl zs))] H := hP
  have hD : va_D A [(mo, .inr (5, [.ref mop, .ref mye, .ref mno, .ref mnu, .ref msz, .int (nI stk), .ref mre, .ref mce, .ref mco, .ref xc, .ref xa, .ref xm, .ref xv, .int (nI cnt), .int stp, .int (nI 0)])), (msz, .inl (cI, 8, .inl zs))] := hD
  refine lv_iload_n hx hb d_Mo_clear_5 rfl (lv_at hl 1 rfl) ?_
  refine lv_iconst (v := nI 0) hx hb d_Mo_clear_6 (by decide) ?_
  refine lv_iconst (v := nI 3) hx hb d_Mo_clear_7 (by decide) ?_
  refine fs_calli (wc := []) (wr := [(mo, .inr (5, [.ref mop, .ref mye, .ref mno, .ref mnu, .ref msz, .int (nI stk), .ref mre, .ref mce, .ref mco, .ref xc, .ref xa, .ref xm, .ref xv, .int (nI cnt), .int stp, .int (nI 0)])), (msz, .inl (cI, 8, .inl zs))]) [] [0, 1] hP hD hK hS hA rfl rfl rfl (by decide) (fun hPc hDc => va_runS (As := [.int (nI j), .int (nI 0), .int (nI 3)]) (rest := []) ⟨hx, hb, hml, hown, hts⟩ (c_Mo_within (nI j) (nI 0) (nI 3) (((j : Nat) : Int)) (((0 : Nat) : Int)) (((3 : Nat) : Int)) _ (nI_toInt (by omega)) (nI_toInt (by omega)) (nI_toInt (by omega))) (⟨callB_of 3 hts (fs_g kin_Mo_within) rfl rfl rfl (hts _ wi_6) (hts _ wi_488) (by decide +kernel) ⟨Nat.le_of_ble_eq_true rfl, Nat.le_of_ble_eq_true rfl⟩, hts _ wi_489⟩) (fs_preS hPc hK hDc) rfl rfl hl.1 rfl (lv_room (Nat.le_of_ble_eq_true rfl)) d_Mo_clear_8 ⟨Nat.le_of_ble_eq_true rfl, Nat.le_of_ble_eq_true rfl⟩) rfl (fun r8 _ H locs hp8 hP hD hS => ?_)
  have hP : va_P (dC, dI) vwCl [(mo, .inr (5, [.ref mop, .ref mye, .ref mno, .ref mnu, .ref msz, .int (nI stk), .ref mre, .ref mce, .ref mco, .ref xc, .ref xa, .ref xm, .ref xv, .int (nI cnt), .int stp, .int (nI 0)])), (msz, .inl (cI, 8, .inl zs))] H := hP
  have hD : va_D A [(mo, .inr (5, [.ref mop, .ref mye, .ref mno, .ref mnu, .ref msz, .int (nI stk), .ref mre, .ref mce, .ref mco, .ref xc, .ref xa, .ref xm, .ref xv, .int (nI cnt), .int stp, .int (nI 0)])), (msz, .inl (cI, 8, .inl zs))] := hD
  rcases hp8 with ⟨hc8, rfl⟩ | ⟨hc8, _⟩
  rotate_left
  · exact absurd (by omega) hc8
  refine lv_if_ne (tgt := 16) hx hb d_Mo_clear_11 (by decide) (fun _ => ?_) (fun hc => absurd hc (by decide))
  refine lv_aload_n hx hb d_Mo_clear_16 rfl (lv_at hl 0 rfl) ?_
  refine va_get (D := (dC, dI)) (ci := 5) (v := .ref msz) (C := R_Mo) (T := T_Mo) (N := 16) hx hb hts uin_Mo hown hK hP 0 rfl rfl 4 (by decide) (hts _ wi_434) (fun _ h9 => h9) rfl d_Mo_clear_17 ?_
  refine lv_iload_n hx hb d_Mo_clear_20 rfl (lv_at hl 1 rfl) ?_
  refine fs_iald (v := nI len) hx hb hK hP 1 0 rfl rfl j rfl (by decide) (by omega) hzs d_Mo_clear_21 ?_
  refine lv_istore_n hx hb d_Mo_clear_22 rfl hl (by decide) (lv' := [(2, .int (nI len)), (0, .ref mo), (1, .int (nI j))]) rfl (fun ls hl => ?_)
  refine lv_aload_n hx hb d_Mo_clear_23 rfl (lv_at hl 1 rfl) ?_
  refine va_get (D := (dC, dI)) (ci := 5) (v := .ref msz) (C := R_Mo) (T := T_Mo) (N := 16) hx hb hts uin_Mo hown hK hP 0 rfl rfl 4 (by decide) (hts _ wi_434) (fun _ h9 => h9) rfl d_Mo_clear_24 ?_
  refine lv_iload_n hx hb d_Mo_clear_27 rfl (lv_at hl 2 rfl) ?_
  refine lv_iconst (v := nI 0) hx hb d_Mo_clear_28 (by decide) ?_
  refine fs_iast hx hb hK hP hD hS 1 0 rfl rfl j rfl (by decide) (by omega) d_Mo_clear_29 (fun H locs hP hD hS => ?_)
  have hP : va_P (dC, dI) vwCl [(mo, .inr (5, [.ref mop, .ref mye, .ref mno, .ref mnu, .ref msz, .int (nI stk), .ref mre, .ref mce, .ref mco, .ref xc, .ref xa, .ref xm, .ref xv, .int (nI cnt), .int stp, .int (nI 0)])), (msz, .inl (cI, 8, .inl (upd zs j (nI 0))))] H := hP
  have hD : va_D A [(mo, .inr (5, [.ref mop, .ref mye, .ref mno, .ref mnu, .ref msz, .int (nI stk), .ref mre, .ref mce, .ref mco, .ref xc, .ref xa, .ref xm, .ref xv, .int (nI cnt), .int stp, .int (nI 0)])), (msz, .inl (cI, 8, .inl (upd zs j (nI 0))))] := hD
  refine lv_iload_n hx hb d_Mo_clear_30 rfl (lv_at hl 0 rfl) ?_
  exact fs_iret hx hb hr hlocks hAe hK hS d_Mo_clear_31 () (rfl) hP hD

theorem d_Mo_size_0 : decode b_Mo_size 0 = .ok (.aload_n 0, 1) := by decide +kernel
theorem d_Mo_size_1 : decode b_Mo_size 1 = .ok (.iconst 0, 1) := by decide +kernel
theorem d_Mo_size_2 : decode b_Mo_size 2 = .ok (.putfield 47, 3) := by decide +kernel
theorem d_Mo_size_5 : decode b_Mo_size 5 = .ok (.iload_n 1, 1) := by decide +kernel
theorem d_Mo_size_6 : decode b_Mo_size 6 = .ok (.iconst 0, 1) := by decide +kernel
theorem d_Mo_size_7 : decode b_Mo_size 7 = .ok (.iconst 3, 1) := by decide +kernel
theorem d_Mo_size_8 : decode b_Mo_size 8 = .ok (.invokestatic 51, 3) := by decide +kernel
theorem d_Mo_size_11 : decode b_Mo_size 11 = .ok (.ifCond .eq 12, 3) := by decide +kernel
theorem d_Mo_size_14 : decode b_Mo_size 14 = .ok (.aload_n 0, 1) := by decide +kernel
theorem d_Mo_size_15 : decode b_Mo_size 15 = .ok (.getfield 22, 3) := by decide +kernel
theorem d_Mo_size_18 : decode b_Mo_size 18 = .ok (.iload_n 1, 1) := by decide +kernel
theorem d_Mo_size_19 : decode b_Mo_size 19 = .ok (.iaload, 1) := by decide +kernel
theorem d_Mo_size_20 : decode b_Mo_size 20 = .ok (.goto 4, 3) := by decide +kernel
theorem d_Mo_size_23 : decode b_Mo_size 23 = .ok (.iconst (-1), 1) := by decide +kernel
theorem d_Mo_size_24 : decode b_Mo_size 24 = .ok (.ireturn, 1) := by decide +kernel
set_option maxHeartbeats 4000000 in
set_option maxRecDepth 100000 in
theorem c_Mo_size (mo mop mye mno mnu msz stk mre mce mco xc xa xm xv cnt : Nat) (stp thr : Int32) (zs : Nat → Int32) (j len : Nat) (sz : Nat) (hj : j < 4) (hzs : zs j = nI len) : fs_I l y_Mo_size (k_Mo_size :: fs_T) { frames := 1, cells := 0, slots := 0, locals := 22 } (dC, dI) vwCl (fs_tys cI cZ cJ cF) [.ref mo, .int (nI j)] [(mo, .inr (5, [.ref mop, .ref mye, .ref mno, .ref mnu, .ref msz, .int (nI stk), .ref mre, .ref mce, .ref mco, .ref xc, .ref xa, .ref xm, .ref xv, .int (nI cnt), .int stp, .int thr])), (msz, .inl (cI, 8, .inl zs))] sz (S := Unit) (fun r _ => r = nI len) (fun _ => [(mo, .inr (5, [.ref mop, .ref mye, .ref mno, .ref mnu, .ref msz, .int (nI stk), .ref mre, .ref mce, .ref mco, .ref xc, .ref xa, .ref xm, .ref xv, .int (nI cnt), .int stp, .int (nI 0)])), (msz, .inl (cI, 8, .inl zs))]) 0 0 := by
  refine fs_head (by decide) (Nat.le_of_ble_eq_true rfl) ?_
  intro p e s m below meth c A ls hx hb hr hts hown hlocks hin hml hK hP hD hS hA hAe hsz hl
  have hl : lv_has ls 2 [(0, .ref mo), (1, .int (nI j))] := hl
  have hown : s.vm.findClass R_Mo = some m.cls := hown
  refine lv_aload_n hx hb d_Mo_size_0 rfl (lv_at hl 0 rfl) ?_
  refine lv_iconst (v := nI 0) hx hb d_Mo_size_1 (by decide) ?_
  refine va_put (D := (dC, dI)) (ci := 5) (v := .int (nI 0)) (ty := (.int)) (C := R_Mo) (T := T_Mo) (N := 16) hx hb hts uin_Mo t_Mo ok_Mo n_Mo hown hK hP hD hS 0 rfl rfl 15 (by decide) (hts _ wi_445) (fun _ h9 => h9) rfl (by decide +kernel) rfl rfl (Nat.le_of_ble_eq_true rfl) d_Mo_size_2 (fun H locs hP hD hS => ?_)
  have hP : va_P (dC, dI) vwCl [(mo, .inr (5, [.ref mop, .ref mye, .ref mno, .ref mnu, .ref msz, .int (nI stk), .ref mre, .ref mce, .ref mco, .ref xc, .ref xa, .ref xm, .ref xv, .int (nI cnt), .int stp, .int (nI 0)])), (msz, .inl (cI, 8, .inl zs))] H := hP
  have hD : va_D A [(mo, .inr (5, [.ref mop, .ref mye, .ref mno, .ref mnu, .ref msz, .int (nI stk), .ref mre, .ref mce, .ref mco, .ref xc, .ref xa, .ref xm, .ref xv, .int (nI cnt), .int stp, .int (nI 0)])), (msz, .inl (cI, 8, .inl zs))] := hD
  refine lv_iload_n hx hb d_Mo_size_5 rfl (lv_at hl 1 rfl) ?_
  refine lv_iconst (v := nI 0) hx hb d_Mo_size_6 (by decide) ?_
  refine lv_iconst (v := nI 3) hx hb d_Mo_size_7 (by decide) ?_
  refine fs_calli (wc := []) (wr := [(mo, .inr (5, [.ref mop, .ref mye, .ref mno, .ref mnu, .ref msz, .int (nI stk), .ref mre, .ref mce, .ref mco, .ref xc, .ref xa, .ref xm, .ref xv, .int (nI cnt), .int stp, .int (nI 0)])), (msz, .inl (cI, 8, .inl zs))]) [] [0, 1] hP hD hK hS hA rfl rfl rfl (by decide) (fun hPc hDc => va_runS (As := [.int (nI j), .int (nI 0), .int (nI 3)]) (rest := []) ⟨hx, hb, hml, hown, hts⟩ (c_Mo_within (nI j) (nI 0) (nI 3) (((j : Nat) : Int)) (((0 : Nat) : Int)) (((3 : Nat) : Int)) _ (nI_toInt (by omega)) (nI_toInt (by omega)) (nI_toInt (by omega))) (⟨callB_of 3 hts (fs_g kin_Mo_within) rfl rfl rfl (hts _ wi_6) (hts _ wi_488) (by decide +kernel) ⟨Nat.le_of_ble_eq_true rfl, Nat.le_of_ble_eq_true rfl⟩, hts _ wi_489⟩) (fs_preS hPc hK hDc) rfl rfl hl.1 rfl (lv_room (Nat.le_of_ble_eq_true rfl)) d_Mo_size_8 ⟨Nat.le_of_ble_eq_true rfl, Nat.le_of_ble_eq_true rfl⟩) rfl (fun r8 _ H locs hp8 hP hD hS => ?_)
  have hP : va_P (dC, dI) vwCl [(mo, .inr (5, [.ref mop, .ref mye, .ref mno, .ref mnu, .ref msz, .int (nI stk), .ref mre, .ref mce, .ref mco, .ref xc, .ref xa, .ref xm, .ref xv, .int (nI cnt), .int stp, .int (nI 0)])), (msz, .inl (cI, 8, .inl zs))] H := hP
  have hD : va_D A [(mo, .inr (5, [.ref mop, .ref mye, .ref mno, .ref mnu, .ref msz, .int (nI stk), .ref mre, .ref mce, .ref mco, .ref xc, .ref xa, .ref xm, .ref xv, .int (nI cnt), .int stp, .int (nI 0)])), (msz, .inl (cI, 8, .inl zs))] := hD
  rcases hp8 with ⟨hc8, rfl⟩ | ⟨hc8, _⟩
  rotate_left
  · exact absurd (by omega) hc8
  refine lv_if_eq (tgt := 23) hx hb d_Mo_size_11 (by decide) (fun hc => absurd hc (by decide)) (fun _ => ?_)
  refine lv_aload_n hx hb d_Mo_size_14 rfl (lv_at hl 0 rfl) ?_
  refine va_get (D := (dC, dI)) (ci := 5) (v := .ref msz) (C := R_Mo) (T := T_Mo) (N := 16) hx hb hts uin_Mo hown hK hP 0 rfl rfl 4 (by decide) (hts _ wi_434) (fun _ h9 => h9) rfl d_Mo_size_15 ?_
  refine lv_iload_n hx hb d_Mo_size_18 rfl (lv_at hl 1 rfl) ?_
  refine fs_iald (v := nI len) hx hb hK hP 1 0 rfl rfl j rfl (by decide) (by omega) hzs d_Mo_size_19 ?_
  refine lv_goto (tgt := 24) hx hb d_Mo_size_20 (by decide) ?_
  exact fs_iret hx hb hr hlocks hAe hK hS d_Mo_size_24 () (rfl) hP hD

set_option maxHeartbeats 4000000 in
set_option maxRecDepth 100000 in
theorem c_Mo_clearX (mo mop mye mno mnu msz stk mre mce mco xc xa xm xv cnt : Nat) (stp thr : Int32) (f : Int32) (sz : Nat) (hf : ∀ j, j < 4 → f ≠ nI j) : fs_I l y_Mo_clear (k_Mo_clear :: fs_T) { frames := 1, cells := 0, slots := 0, locals := 22 } (dC, dI) vwCl (fs_tys cI cZ cJ cF) [.ref mo, .int f] [(mo, .inr (5, [.ref mop, .ref mye, .ref mno, .ref mnu, .ref msz, .int (nI stk), .ref mre, .ref mce, .ref mco, .ref xc, .ref xa, .ref xm, .ref xv, .int (nI cnt), .int stp, .int thr]))] sz (S := Unit) (fun r _ => r = (-1)) (fun _ => [(mo, .inr (5, [.ref mop, .ref mye, .ref mno, .ref mnu, .ref msz, .int (nI stk), .ref mre, .ref mce, .ref mco, .ref xc, .ref xa, .ref xm, .ref xv, .int (nI cnt), .int stp, .int (nI 0)]))]) 0 0 := by
  refine fs_head (by decide) (Nat.le_of_ble_eq_true rfl) ?_
  intro p e s m below meth c A ls hx hb hr hts hown hlocks hin hml hK hP hD hS hA hAe hsz hl
  have hl : lv_has ls 3 [(0, .ref mo), (1, .int f)] := hl
  have hown : s.vm.findClass R_Mo = some m.cls := hown
  refine lv_aload_n hx hb d_Mo_clear_0 rfl (lv_at hl 0 rfl) ?_
  refine lv_iconst (v := nI 0) hx hb d_Mo_clear_1 (by decide) ?_
  refine va_put (D := (dC, dI)) (ci := 5) (v := .int (nI 0)) (ty := (.int)) (C := R_Mo) (T := T_Mo) (N := 16) hx hb hts uin_Mo t_Mo ok_Mo n_Mo hown hK hP hD hS 0 rfl rfl 15 (by decide) (hts _ wi_445) (fun _ h9 => h9) rfl (by decide +kernel) rfl rfl (Nat.le_of_ble_eq_true rfl) d_Mo_clear_2 (fun H locs hP hD hS => ?_)
  have hP : va_P (dC, dI) vwCl [(mo, .inr (5, [.ref mop, .ref mye, .ref mno, .ref mnu, .ref msz, .int (nI stk), .ref mre, .ref mce, .ref mco, .ref xc, .ref xa, .ref xm, .ref xv, .int (nI cnt), .int stp, .int (nI 0)]))] H := hP
  have hD : va_D A [(mo, .inr (5, [.ref mop, .ref mye, .ref mno, .ref mnu, .ref msz, .int (nI stk), .ref mre, .ref mce, .ref mco, .ref xc, .ref xa, .ref xm, .ref xv, .int (nI cnt), .int stp, .int (nI 0)]))] := hD
  refine lv_iload_n hx hb d_Mo_clear_5 rfl (lv_at hl 1 rfl) ?_
  refine lv_iconst (v := nI 0) hx hb d_Mo_clear_6 (by decide) ?_
  refine lv_iconst (v := nI 3) hx hb d_Mo_clear_7 (by decide) ?_
  refine fs_calli (wc := []) (wr := [(mo, .inr (5, [.ref mop, .ref mye, .ref mno, .ref mnu, .ref msz, .int (nI stk), .ref mre, .ref mce, .ref mco, .ref xc, .ref xa, .ref xm, .ref xv, .int (nI cnt), .int stp, .int (nI 0)]))]) [] [0] hP hD hK hS hA rfl rfl rfl (by decide) (fun hPc hDc => va_runS (As := [.int f, .int (nI 0), .int (nI 3)]) (rest := []) ⟨hx, hb, hml, hown, hts⟩ (c_Mo_within f (nI 0) (nI 3) (f.toInt) (((0 : Nat) : Int)) (((3 : Nat) : Int)) _ (rfl) (nI_toInt (by omega)) (nI_toInt (by omega))) (⟨callB_of 3 hts (fs_g kin_Mo_within) rfl rfl rfl (hts _ wi_6) (hts _ wi_488) (by decide +kernel) ⟨Nat.le_of_ble_eq_true rfl, Nat.le_of_ble_eq_true rfl⟩, hts _ wi_489⟩) (fs_preS hPc hK hDc) rfl rfl hl.1 rfl (lv_room (Nat.le_of_ble_eq_true rfl)) d_Mo_clear_8 ⟨Nat.le_of_ble_eq_true rfl, Nat.le_of_ble_eq_true rfl⟩) rfl (fun r8 _ H locs hp8 hP hD hS => ?_)
  have hP : va_P (dC, dI) vwCl [(mo, .inr (5, [.ref mop, .ref mye, .ref mno, .ref mnu, .ref msz, .int (nI stk), .ref mre, .ref mce, .ref mco, .ref xc, .ref xa, .ref xm, .ref xv, .int (nI cnt), .int stp, .int (nI 0)]))] H := hP
  have hD : va_D A [(mo, .inr (5, [.ref mop, .ref mye, .ref mno, .ref mnu, .ref msz, .int (nI stk), .ref mre, .ref mce, .ref mco, .ref xc, .ref xa, .ref xm, .ref xv, .int (nI cnt), .int stp, .int (nI 0)]))] := hD
  rcases hp8 with ⟨hc8, _⟩ | ⟨hc8, rfl⟩
  · obtain ⟨j, hj, e⟩ := fs_of (x := f) (n := 4) (by decide) (by omega) (by omega)
    exact absurd e (hf j hj)
  refine lv_if_ne (tgt := 16) hx hb d_Mo_clear_11 (by decide) (fun hc => absurd (by decide) hc) (fun _ => ?_)
  refine lv_iconst (v := (-1)) hx hb d_Mo_clear_14 (by decide) ?_
  exact fs_iret hx hb hr hlocks hAe hK hS d_Mo_clear_15 () (rfl) hP hD

set_option maxHeartbeats 4000000 in
set_option maxRecDepth 100000 in
theorem c_Mo_sizeX (mo mop mye mno mnu msz stk mre mce mco xc xa xm xv cnt : Nat) (stp thr : Int32) (f : Int32) (sz : Nat) (hf : ∀ j, j < 4 → f ≠ nI j) : fs_I l y_Mo_size (k_Mo_size :: fs_T) { frames := 1, cells := 0, slots := 0, locals := 22 } (dC, dI) vwCl (fs_tys cI cZ cJ cF) [.ref mo, .int f] [(mo, .inr (5, [.ref mop, .ref mye, .ref mno, .ref mnu, .ref msz, .int (nI stk), .ref mre, .ref mce, .ref mco, .ref xc, .ref xa, .ref xm, .ref xv, .int (nI cnt), .int stp, .int thr]))] sz (S := Unit) (fun r _ => r = (-1)) (fun _ => [(mo, .inr (5, [.ref mop, .ref mye, .ref mno, .ref mnu, .ref msz, .int (nI stk), .ref mre, .ref mce, .ref mco, .ref xc, .ref xa, .ref xm, .ref xv, .int (nI cnt), .int stp, .int (nI 0)]))]) 0 0 := by
  refine fs_head (by decide) (Nat.le_of_ble_eq_true rfl) ?_
  intro p e s m below meth c A ls hx hb hr hts hown hlocks hin hml hK hP hD hS hA hAe hsz hl
  have hl : lv_has ls 2 [(0, .ref mo), (1, .int f)] := hl
  have hown : s.vm.findClass R_Mo = some m.cls := hown
  refine lv_aload_n hx hb d_Mo_size_0 rfl (lv_at hl 0 rfl) ?_
  refine lv_iconst (v := nI 0) hx hb d_Mo_size_1 (by decide) ?_
  refine va_put (D := (dC, dI)) (ci := 5) (v := .int (nI 0)) (ty := (.int)) (C := R_Mo) (T := T_Mo) (N := 16) hx hb hts uin_Mo t_Mo ok_Mo n_Mo hown hK hP hD hS 0 rfl rfl 15 (by decide) (hts _ wi_445) (fun _ h9 => h9) rfl (by decide +kernel) rfl rfl (Nat.le_of_ble_eq_true rfl) d_Mo_size_2 (fun H locs hP hD hS => ?_)
  have hP : va_P (dC, dI) vwCl [(mo, .inr (5, [.ref mop, .ref mye, .ref mno, .ref mnu, .ref msz, .int (nI stk), .ref mre, .ref mce, .ref mco, .ref xc, .ref xa, .ref xm, .ref xv, .int (nI cnt), .int stp, .int (nI 0)]))] H := hP
  have hD : va_D A [(mo, .inr (5, [.ref mop, .ref mye, .ref mno, .ref mnu, .ref msz, .int (nI stk), .ref mre, .ref mce, .ref mco, .ref xc, .ref xa, .ref xm, .ref xv, .int (nI cnt), .int stp, .int (nI 0)]))] := hD
  refine lv_iload_n hx hb d_Mo_size_5 rfl (lv_at hl 1 rfl) ?_
  refine lv_iconst (v := nI 0) hx hb d_Mo_size_6 (by decide) ?_
  refine lv_iconst (v := nI 3) hx hb d_Mo_size_7 (by decide) ?_
  refine fs_calli (wc := []) (wr := [(mo, .inr (5, [.ref mop, .ref mye, .ref mno, .ref mnu, .ref msz, .int (nI stk), .ref mre, .ref mce, .ref mco, .ref xc, .ref xa, .ref xm, .ref xv, .int (nI cnt), .int stp, .int (nI 0)]))]) [] [0] hP hD hK hS hA rfl rfl rfl (by decide) (fun hPc hDc => va_runS (As := [.int f, .int (nI 0), .int (nI 3)]) (rest := []) ⟨hx, hb, hml, hown, hts⟩ (c_Mo_within f (nI 0) (nI 3) (f.toInt) (((0 : Nat) : Int)) (((3 : Nat) : Int)) _ (rfl) (nI_toInt (by omega)) (nI_toInt (by omega))) (⟨callB_of 3 hts (fs_g kin_Mo_within) rfl rfl rfl (hts _ wi_6) (hts _ wi_488) (by decide +kernel) ⟨Nat.le_of_ble_eq_true rfl, Nat.le_of_ble_eq_true rfl⟩, hts _ wi_489⟩) (fs_preS hPc hK hDc) rfl rfl hl.1 rfl (lv_room (Nat.le_of_ble_eq_true rfl)) d_Mo_size_8 ⟨Nat.le_of_ble_eq_true rfl, Nat.le_of_ble_eq_true rfl⟩) rfl (fun r8 _ H locs hp8 hP hD hS => ?_)
  have hP : va_P (dC, dI) vwCl [(mo, .inr (5, [.ref mop, .ref mye, .ref mno, .ref mnu, .ref msz, .int (nI stk), .ref mre, .ref mce, .ref mco, .ref xc, .ref xa, .ref xm, .ref xv, .int (nI cnt), .int stp, .int (nI 0)]))] H := hP
  have hD : va_D A [(mo, .inr (5, [.ref mop, .ref mye, .ref mno, .ref mnu, .ref msz, .int (nI stk), .ref mre, .ref mce, .ref mco, .ref xc, .ref xa, .ref xm, .ref xv, .int (nI cnt), .int stp, .int (nI 0)]))] := hD
  rcases hp8 with ⟨hc8, _⟩ | ⟨hc8, rfl⟩
  · obtain ⟨j, hj, e⟩ := fs_of (x := f) (n := 4) (by decide) (by omega) (by omega)
    exact absurd e (hf j hj)
  refine lv_if_eq (tgt := 23) hx hb d_Mo_size_11 (by decide) (fun _ => ?_) (fun hc => absurd (by decide) hc)
  refine lv_iconst (v := (-1)) hx hb d_Mo_size_23 (by decide) ?_
  exact fs_iret hx hb hr hlocks hAe hK hS d_Mo_size_24 () (rfl) hP hD

theorem d_Mo_is_0 : decode b_Mo_is 0 = .ok (.iload_n 1, 1) := by decide +kernel
theorem d_Mo_is_1 : decode b_Mo_is 1 = .ok (.iconst 0, 1) := by decide +kernel
theorem d_Mo_is_2 : decode b_Mo_is 2 = .ok (.iconst 3, 1) := by decide +kernel
theorem d_Mo_is_3 : decode b_Mo_is 3 = .ok (.invokestatic 51, 3) := by decide +kernel
theorem d_Mo_is_6 : decode b_Mo_is 6 = .ok (.ifCond .eq 23, 3) := by decide +kernel
theorem d_Mo_is_9 : decode b_Mo_is 9 = .ok (.iload_n 2, 1) := by decide +kernel
theorem d_Mo_is_10 : decode b_Mo_is 10 = .ok (.iconst 0, 1) := by decide +kernel
theorem d_Mo_is_11 : decode b_Mo_is 11 = .ok (.aload_n 0, 1) := by decide +kernel
theorem d_Mo_is_12 : decode b_Mo_is 12 = .ok (.getfield 22, 3) := by decide +kernel
theorem d_Mo_is_15 : decode b_Mo_is 15 = .ok (.iload_n 1, 1) := by decide +kernel
theorem d_Mo_is_16 : decode b_Mo_is 16 = .ok (.iaload, 1) := by decide +kernel
theorem d_Mo_is_17 : decode b_Mo_is 17 = .ok (.iconst 1, 1) := by decide +kernel
theorem d_Mo_is_18 : decode b_Mo_is 18 = .ok (.isub, 1) := by decide +kernel
theorem d_Mo_is_19 : decode b_Mo_is 19 = .ok (.invokestatic 51, 3) := by decide +kernel
theorem d_Mo_is_22 : decode b_Mo_is 22 = .ok (.ifCond .eq 7, 3) := by decide +kernel
theorem d_Mo_is_25 : decode b_Mo_is 25 = .ok (.iconst 1, 1) := by decide +kernel
theorem d_Mo_is_26 : decode b_Mo_is 26 = .ok (.goto 4, 3) := by decide +kernel
theorem d_Mo_is_29 : decode b_Mo_is 29 = .ok (.iconst 0, 1) := by decide +kernel
theorem d_Mo_is_30 : decode b_Mo_is 30 = .ok (.ireturn, 1) := by decide +kernel
set_option maxHeartbeats 4000000 in
set_option maxRecDepth 100000 in
theorem c_Mo_is (mo mop mye mno mnu msz stk mre mce mco xc xa xm xv cnt : Nat) (stp thr : Int32) (zs : Nat → Int32) (j len t : Nat) (sz : Nat) (hj : j < 4) (hl40 : len ≤ 40) (hzs : zs j = nI len) (ht : t < len) : fs_I l y_Mo_is (k_Mo_is :: fs_T) { frames := 1, cells := 0, slots := 0, locals := 22 } (dC, dI) vwCl (fs_tys cI cZ cJ cF) [.ref mo, .int (nI j), .int (nI t)] [(mo, .inr (5, [.ref mop, .ref mye, .ref mno, .ref mnu, .ref msz, .int (nI stk), .ref mre, .ref mce, .ref mco, .ref xc, .ref xa, .ref xm, .ref xv, .int (nI cnt), .int stp, .int thr])), (msz, .inl (cI, 8, .inl zs))] sz (S := Unit) (fun r _ => r = nI 1) (fun _ => [(mo, .inr (5, [.ref mop, .ref mye, .ref mno, .ref mnu, .ref msz, .int (nI stk), .ref mre, .ref mce, .ref mco, .ref xc, .ref xa, .ref xm, .ref xv, .int (nI cnt), .int stp, .int thr])), (msz, .inl (cI, 8, .inl zs))]) 0 0 := by
  refine fs_head (by decide) (Nat.le_of_ble_eq_true rfl) ?_
  intro p e s m below meth c A ls hx hb hr hts hown hlocks hin hml hK hP hD hS hA hAe hsz hl
  have hl : lv_has ls 3 [(0, .ref mo), (1, .int (nI j)), (2, .int (nI t))] := hl
  have hown : s.vm.findClass R_Mo = some m.cls := hown
  refine lv_iload_n hx hb d_Mo_is_0 rfl (lv_at hl 1 rfl) ?_
  refine lv_iconst (v := nI 0) hx hb d_Mo_is_1 (by decide) ?_
  refine lv_iconst (v := nI 3) hx hb d_Mo_is_2 (by decide) ?_
  refine fs_calli (wc := []) (wr := [(mo, .inr (5, [.ref mop, .ref mye, .ref mno, .ref mnu, .ref msz, .int (nI stk), .ref mre, .ref mce, .ref mco, .ref xc, .ref xa, .ref xm, .ref xv, .int (nI cnt), .int stp, .int thr])), (msz, .inl (cI, 8, .inl zs))]) [] [0, 1] hP hD hK hS hA rfl rfl rfl (by decide) (fun hPc hDc => va_runS (As := [.int (nI j), .int (nI 0), .int (nI 3)]) (rest := []) ⟨hx, hb, hml, hown, hts⟩ (c_Mo_within (nI j) (nI 0) (nI 3) (((j : Nat) : Int)) (((0 : Nat) : Int)) (((3 : Nat) : Int)) _ (nI_toInt (by omega)) (nI_toInt (by omega)) (nI_toInt (by omega))) (⟨callB_of 3 hts (fs_g kin_Mo_within) rfl rfl rfl (hts _ wi_6) (hts _ wi_488) (by decide +kernel) ⟨Nat.le_of_ble_eq_true rfl, Nat.le_of_ble_eq_true rfl⟩, hts _ wi_489⟩) (fs_preS hPc hK hDc) rfl rfl hl.1 rfl (lv_room (Nat.le_of_ble_eq_true rfl)) d_Mo_is_3 ⟨Nat.le_of_ble_eq_true rfl, Nat.le_of_ble_eq_true rfl⟩) rfl (fun r3 _ H locs hp3 hP hD hS => ?_)
  have hP : va_P (dC, dI) vwCl [(mo, .inr (5, [.ref mop, .ref mye, .ref mno, .ref mnu, .ref msz, .int (nI stk), .ref mre, .ref mce, .ref mco, .ref xc, .ref xa, .ref xm, .ref xv, .int (nI cnt), .int stp, .int thr])), (msz, .inl (cI, 8, .inl zs))] H := hP
  have hD : va_D A [(mo, .inr (5, [.ref mop, .ref mye, .ref mno, .ref mnu, .ref msz, .int (nI stk), .ref mre, .ref mce, .ref mco, .ref xc, .ref xa, .ref xm, .ref xv, .int (nI cnt), .int stp, .int thr])), (msz, .inl (cI, 8, .inl zs))] := hD
  rcases hp3 with ⟨hc3, rfl⟩ | ⟨hc3, _⟩
  rotate_left
  · exact absurd (by omega) hc3
  refine lv_if_eq (tgt := 29) hx hb d_Mo_is_6 (by decide) (fun hc => absurd hc (by decide)) (fun _ => ?_)
  refine lv_iload_n hx hb d_Mo_is_9 rfl (lv_at hl 2 rfl) ?_
  refine lv_iconst (v := nI 0) hx hb d_Mo_is_10 (by decide) ?_
  refine lv_aload_n hx hb d_Mo_is_11 rfl (lv_at hl 0 rfl) ?_
  refine va_get (D := (dC, dI)) (ci := 5) (v := .ref msz) (C := R_Mo) (T := T_Mo) (N := 16) hx hb hts uin_Mo hown hK hP 0 rfl rfl 4 (by decide) (hts _ wi_434) (fun _ h9 => h9) rfl d_Mo_is_12 ?_
  refine lv_iload_n hx hb d_Mo_is_15 rfl (lv_at hl 1 rfl) ?_
  refine fs_iald (v := nI len) hx hb hK hP 1 0 rfl rfl j rfl (by decide) (by omega) hzs d_Mo_is_16 ?_
  refine lv_iconst (v := nI 1) hx hb d_Mo_is_17 (by decide) ?_
  refine lv_isub hx hb d_Mo_is_18 ?_
  refine fs_eqi (pk_sub (by omega)) ?_
  refine fs_calli (wc := []) (wr := [(mo, .inr (5, [.ref mop, .ref mye, .ref mno, .ref mnu, .ref msz, .int (nI stk), .ref mre, .ref mce, .ref mco, .ref xc, .ref xa, .ref xm, .ref xv, .int (nI cnt), .int stp, .int thr])), (msz, .inl (cI, 8, .inl zs))]) [] [0, 1] hP hD hK hS hA rfl rfl rfl (by decide) (fun hPc hDc => va_runS (As := [.int (nI t), .int (nI 0), .int (nI (len - 1))]) (rest := []) ⟨hx, hb, hml, hown, hts⟩ (c_Mo_within (nI t) (nI 0) (nI (len - 1)) (((t : Nat) : Int)) (((0 : Nat) : Int)) (((len - 1 : Nat) : Int)) _ (nI_toInt (by omega)) (nI_toInt (by omega)) (nI_toInt (by omega))) (⟨callB_of 3 hts (fs_g kin_Mo_within) rfl rfl rfl (hts _ wi_6) (hts _ wi_488) (by decide +kernel) ⟨Nat.le_of_ble_eq_true rfl, Nat.le_of_ble_eq_true rfl⟩, hts _ wi_489⟩) (fs_preS hPc hK hDc) rfl rfl hl.1 rfl (lv_room (Nat.le_of_ble_eq_true rfl)) d_Mo_is_19 ⟨Nat.le_of_ble_eq_true rfl, Nat.le_of_ble_eq_true rfl⟩) rfl (fun r19 _ H locs hp19 hP hD hS => ?_)
  have hP : va_P (dC, dI) vwCl [(mo, .inr (5, [.ref mop, .ref mye, .ref mno, .ref mnu, .ref msz, .int (nI stk), .ref mre, .ref mce, .ref mco, .ref xc, .ref xa, .ref xm, .ref xv, .int (nI cnt), .int stp, .int thr])), (msz, .inl (cI, 8, .inl zs))] H := hP
  have hD : va_D A [(mo, .inr (5, [.ref mop, .ref mye, .ref mno, .ref mnu, .ref msz, .int (nI stk), .ref mre, .ref mce, .ref mco, .ref xc, .ref xa, .ref xm, .ref xv, .int (nI cnt), .int stp, .int thr])), (msz, .inl (cI, 8, .inl zs))] := hD
  rcases hp19 with ⟨hc19, rfl⟩ | ⟨hc19, _⟩
  rotate_left
  · exact absurd (by omega) hc19
  refine lv_if_eq (tgt := 29) hx hb d_Mo_is_22 (by decide) (fun hc => absurd hc (by decide)) (fun _ => ?_)
  refine lv_iconst (v := nI 1) hx hb d_Mo_is_25 (by decide) ?_
  refine lv_goto (tgt := 30) hx hb d_Mo_is_26 (by decide) ?_
  exact fs_zret hx hb hr hlocks hAe hK hS d_Mo_is_30 (by decide) () (rfl) hP hD

set_option maxHeartbeats 4000000 in
set_option maxRecDepth 100000 in
theorem c_Mo_isY (mo mop mye mno mnu msz stk mre mce mco xc xa xm xv cnt : Nat) (stp thr : Int32) (zs : Nat → Int32) (j len : Nat) (i : Int32) (sz : Nat) (hj : j < 4) (hl40 : len ≤ 40) (hzs : zs j = nI len) (hi : ∀ t, t < len → i ≠ nI t) : fs_I l y_Mo_is (k_Mo_is :: fs_T) { frames := 1, cells := 0, slots := 0, locals := 22 } (dC, dI) vwCl (fs_tys cI cZ cJ cF) [.ref mo, .int (nI j), .int i] [(mo, .inr (5, [.ref mop, .ref mye, .ref mno, .ref mnu, .ref msz, .int (nI stk), .ref mre, .ref mce, .ref mco, .ref xc, .ref xa, .ref xm, .ref xv, .int (nI cnt), .int stp, .int thr])), (msz, .inl (cI, 8, .inl zs))] sz (S := Unit) (fun r _ => r = nI 0) (fun _ => [(mo, .inr (5, [.ref mop, .ref mye, .ref mno, .ref mnu, .ref msz, .int (nI stk), .ref mre, .ref mce, .ref mco, .ref xc, .ref xa, .ref xm, .ref xv, .int (nI cnt), .int stp, .int thr])), (msz, .inl (cI, 8, .inl zs))]) 0 0 := by
  refine fs_head (by decide) (Nat.le_of_ble_eq_true rfl) ?_
  intro p e s m below meth c A ls hx hb hr hts hown hlocks hin hml hK hP hD hS hA hAe hsz hl
  have hl : lv_has ls 3 [(0, .ref mo), (1, .int (nI j)), (2, .int i)] := hl
  have hown : s.vm.findClass R_Mo = some m.cls := hown
  refine lv_iload_n hx hb d_Mo_is_0 rfl (lv_at hl 1 rfl) ?_
  refine lv_iconst (v := nI 0) hx hb d_Mo_is_1 (by decide) ?_
  refine lv_iconst (v := nI 3) hx hb d_Mo_is_2 (by decide) ?_
  refine fs_calli (wc := []) (wr := [(mo, .inr (5, [.ref mop, .ref mye, .ref mno, .ref mnu, .ref msz, .int (nI stk), .ref mre, .ref mce, .ref mco, .ref xc, .ref xa, .ref xm, .ref xv, .int (nI cnt), .int stp, .int thr])), (msz, .inl (cI, 8, .inl zs))]) [] [0, 1] hP hD hK hS hA rfl rfl rfl (by decide) (fun hPc hDc => va_runS (As := [.int (nI j), .int (nI 0), .int (nI 3)]) (rest := []) ⟨hx, hb, hml, hown, hts⟩ (c_Mo_within (nI j) (nI 0) (nI 3) (((j : Nat) : Int)) (((0 : Nat) : Int)) (((3 : Nat) : Int)) _ (nI_toInt (by omega)) (nI_toInt (by omega)) (nI_toInt (by omega))) (⟨callB_of 3 hts (fs_g kin_Mo_within) rfl rfl rfl (hts _ wi_6) (hts _ wi_488) (by decide +kernel) ⟨Nat.le_of_ble_eq_true rfl, Nat.le_of_ble_eq_true rfl⟩, hts _ wi_489⟩) (fs_preS hPc hK hDc) rfl rfl hl.1 rfl (lv_room (Nat.le_of_ble_eq_true rfl)) d_Mo_is_3 ⟨Nat.le_of_ble_eq_true rfl, Nat.le_of_ble_eq_true rfl⟩) rfl (fun r3 _ H locs hp3 hP hD hS => ?_)
  have hP : va_P (dC, dI) vwCl [(mo, .inr (5, [.ref mop, .ref mye, .ref mno, .ref mnu, .ref msz, .int (nI stk), .ref mre, .ref mce, .ref mco, .ref xc, .ref xa, .ref xm, .ref xv, .int (nI cnt), .int stp, .int thr])), (msz, .inl (cI, 8, .inl zs))] H := hP
  have hD : va_D A [(mo, .inr (5, [.ref mop, .ref mye, .ref mno, .ref mnu, .ref msz, .int (nI stk), .ref mre, .ref mce, .ref mco, .ref xc, .ref xa, .ref xm, .ref xv, .int (nI cnt), .int stp, .int thr])), (msz, .inl (cI, 8, .inl zs))] := hD
  rcases hp3 with ⟨hc3, rfl⟩ | ⟨hc3, _⟩
  rotate_left
  · exact absurd (by omega) hc3
  refine lv_if_eq (tgt := 29) hx hb d_Mo_is_6 (by decide) (fun hc => absurd hc (by decide)) (fun _ => ?_)
  refine lv_iload_n hx hb d_Mo_is_9 rfl (lv_at hl 2 rfl) ?_
  refine lv_iconst (v := nI 0) hx hb d_Mo_is_10 (by decide) ?_
  refine lv_aload_n hx hb d_Mo_is_11 rfl (lv_at hl 0 rfl) ?_
  refine va_get (D := (dC, dI)) (ci := 5) (v := .ref msz) (C := R_Mo) (T := T_Mo) (N := 16) hx hb hts uin_Mo hown hK hP 0 rfl rfl 4 (by decide) (hts _ wi_434) (fun _ h9 => h9) rfl d_Mo_is_12 ?_
  refine lv_iload_n hx hb d_Mo_is_15 rfl (lv_at hl 1 rfl) ?_
  refine fs_iald (v := nI len) hx hb hK hP 1 0 rfl rfl j rfl (by decide) (by omega) hzs d_Mo_is_16 ?_
  refine lv_iconst (v := nI 1) hx hb d_Mo_is_17 (by decide) ?_
  refine lv_isub hx hb d_Mo_is_18 ?_
  refine fs_calli (wc := []) (wr := [(mo, .inr (5, [.ref mop, .ref mye, .ref mno, .ref mnu, .ref msz, .int (nI stk), .ref mre, .ref mce, .ref mco, .ref xc, .ref xa, .ref xm, .ref xv, .int (nI cnt), .int stp, .int thr])), (msz, .inl (cI, 8, .inl zs))]) [] [0, 1] hP hD hK hS hA rfl rfl rfl (by decide) (fun hPc hDc => va_runS (As := [.int i, .int (nI 0), .int ((nI len) - (nI 1))]) (rest := []) ⟨hx, hb, hml, hown, hts⟩ (c_Mo_within i (nI 0) ((nI len) - (nI 1)) (i.toInt) (((0 : Nat) : Int)) ((len : Int) - 1) _ (rfl) (nI_toInt (by omega)) (by have h := pk_sub_toInt (a := len) (b := 1) (by omega) (by decide); rw [h]; rfl)) (⟨callB_of 3 hts (fs_g kin_Mo_within) rfl rfl rfl (hts _ wi_6) (hts _ wi_488) (by decide +kernel) ⟨Nat.le_of_ble_eq_true rfl, Nat.le_of_ble_eq_true rfl⟩, hts _ wi_489⟩) (fs_preS hPc hK hDc) rfl rfl hl.1 rfl (lv_room (Nat.le_of_ble_eq_true rfl)) d_Mo_is_19 ⟨Nat.le_of_ble_eq_true rfl, Nat.le_of_ble_eq_true rfl⟩) rfl (fun r19 _ H locs hp19 hP hD hS => ?_)
  have hP : va_P (dC, dI) vwCl [(mo, .inr (5, [.ref mop, .ref mye, .ref mno, .ref mnu, .ref msz, .int (nI stk), .ref mre, .ref mce, .ref mco, .ref xc, .ref xa, .ref xm, .ref xv, .int (nI cnt), .int stp, .int thr])), (msz, .inl (cI, 8, .inl zs))] H := hP
  have hD : va_D A [(mo, .inr (5, [.ref mop, .ref mye, .ref mno, .ref mnu, .ref msz, .int (nI stk), .ref mre, .ref mce, .ref mco, .ref xc, .ref xa, .ref xm, .ref xv, .int (nI cnt), .int stp, .int thr])), (msz, .inl (cI, 8, .inl zs))] := hD
  rcases hp19 with ⟨hc19, _⟩ | ⟨hc19, rfl⟩
  · obtain ⟨t, ht, e⟩ := fs_of (x := i) (n := len) (by omega) (by omega) (by omega)
    exact absurd e (hi t ht)
  refine lv_if_eq (tgt := 29) hx hb d_Mo_is_22 (by decide) (fun _ => ?_) (fun hc => absurd (by decide) hc)
  refine lv_iconst (v := nI 0) hx hb d_Mo_is_29 (by decide) ?_
  exact fs_zret hx hb hr hlocks hAe hK hS d_Mo_is_30 (by decide) () (rfl) hP hD

set_option maxHeartbeats 4000000 in
set_option maxRecDepth 100000 in
theorem c_Mo_isX (mo mop mye mno mnu msz stk mre mce mco xc xa xm xv cnt : Nat) (stp thr : Int32) (f i : Int32) (sz : Nat) (hf : ∀ j, j < 4 → f ≠ nI j) : fs_I l y_Mo_is (k_Mo_is :: fs_T) { frames := 1, cells := 0, slots := 0, locals := 22 } (dC, dI) vwCl (fs_tys cI cZ cJ cF) [.ref mo, .int f, .int i] [(mo, .inr (5, [.ref mop, .ref mye, .ref mno, .ref mnu, .ref msz, .int (nI stk), .ref mre, .ref mce, .ref mco, .ref xc, .ref xa, .ref xm, .ref xv, .int (nI cnt), .int stp, .int thr]))] sz (S := Unit) (fun r _ => r = nI 0) (fun _ => [(mo, .inr (5, [.ref mop, .ref mye, .ref mno, .ref mnu, .ref msz, .int (nI stk), .ref mre, .ref mce, .ref mco, .ref xc, .ref xa, .ref xm, .ref xv, .int (nI cnt), .int stp, .int thr]))]) 0 0 := by
  refine fs_head (by decide) (Nat.le_of_ble_eq_true rfl) ?_
  intro p e s m below meth c A ls hx hb hr hts hown hlocks hin hml hK hP hD hS hA hAe hsz hl
  have hl : lv_has ls 3 [(0, .ref mo), (1, .int f), (2, .int i)] := hl
  have hown : s.vm.findClass R_Mo = some m.cls := hown
  refine lv_iload_n hx hb d_Mo_is_0 rfl (lv_at hl 1 rfl) ?_
  refine lv_iconst (v := nI 0) hx hb d_Mo_is_1 (by decide) ?_
  refine lv_iconst (v := nI 3) hx hb d_Mo_is_2 (by decide) ?_
  refine fs_calli (wc := []) (wr := [(mo, .inr (5, [.ref mop, .ref mye, .ref mno, .ref mnu, .ref msz, .int (nI stk), .ref mre, .ref mce, .ref mco, .ref xc, .ref xa, .ref xm, .ref xv, .int (nI cnt), .int stp, .int thr]))]) [] [0] hP hD hK hS hA rfl rfl rfl (by decide) (fun hPc hDc => va_runS (As := [.int f, .int (nI 0), .int (nI 3)]) (rest := []) ⟨hx, hb, hml, hown, hts⟩ (c_Mo_within f (nI 0) (nI 3) (f.toInt) (((0 : Nat) : Int)) (((3 : Nat) : Int)) _ (rfl) (nI_toInt (by omega)) (nI_toInt (by omega))) (⟨callB_of 3 hts (fs_g kin_Mo_within) rfl rfl rfl (hts _ wi_6) (hts _ wi_488) (by decide +kernel) ⟨Nat.le_of_ble_eq_true rfl, Nat.le_of_ble_eq_true rfl⟩, hts _ wi_489⟩) (fs_preS hPc hK hDc) rfl rfl hl.1 rfl (lv_room (Nat.le_of_ble_eq_true rfl)) d_Mo_is_3 ⟨Nat.le_of_ble_eq_true rfl, Nat.le_of_ble_eq_true rfl⟩) rfl (fun r3 _ H locs hp3 hP hD hS => ?_)
  have hP : va_P (dC, dI) vwCl [(mo, .inr (5, [.ref mop, .ref mye, .ref mno, .ref mnu, .ref msz, .int (nI stk), .ref mre, .ref mce, .ref mco, .ref xc, .ref xa, .ref xm, .ref xv, .int (nI cnt), .int stp, .int thr]))] H := hP
  have hD : va_D A [(mo, .inr (5, [.ref mop, .ref mye, .ref mno, .ref mnu, .ref msz, .int (nI stk), .ref mre, .ref mce, .ref mco, .ref xc, .ref xa, .ref xm, .ref xv, .int (nI cnt), .int stp, .int thr]))] := hD
  rcases hp3 with ⟨hc3, _⟩ | ⟨hc3, rfl⟩
  · obtain ⟨j, hj, e⟩ := fs_of (x := f) (n := 4) (by decide) (by omega) (by omega)
    exact absurd e (hf j hj)
  refine lv_if_eq (tgt := 29) hx hb d_Mo_is_6 (by decide) (fun _ => ?_) (fun hc => absurd (by decide) hc)
  refine lv_iconst (v := nI 0) hx hb d_Mo_is_29 (by decide) ?_
  exact fs_zret hx hb hr hlocks hAe hK hS d_Mo_is_30 (by decide) () (rfl) hP hD

theorem d_Mo_shape_0 : decode b_Mo_shape 0 = .ok (.aload_n 0, 1) := by decide +kernel
theorem d_Mo_shape_1 : decode b_Mo_shape 1 = .ok (.iconst 0, 1) := by decide +kernel
theorem d_Mo_shape_2 : decode b_Mo_shape 2 = .ok (.putfield 47, 3) := by decide +kernel
theorem d_Mo_shape_5 : decode b_Mo_shape 5 = .ok (.aload_n 0, 1) := by decide +kernel
theorem d_Mo_shape_6 : decode b_Mo_shape 6 = .ok (.iload_n 1, 1) := by decide +kernel
theorem d_Mo_shape_7 : decode b_Mo_shape 7 = .ok (.iload_n 2, 1) := by decide +kernel
theorem d_Mo_shape_8 : decode b_Mo_shape 8 = .ok (.invokevirtual 59, 3) := by decide +kernel
theorem d_Mo_shape_11 : decode b_Mo_shape 11 = .ok (.ifCond .eq 48, 3) := by decide +kernel
theorem d_Mo_shape_14 : decode b_Mo_shape 14 = .ok (.aload_n 0, 1) := by decide +kernel
theorem d_Mo_shape_15 : decode b_Mo_shape 15 = .ok (.getfield 7, 3) := by decide +kernel
theorem d_Mo_shape_18 : decode b_Mo_shape 18 = .ok (.bipush 40, 2) := by decide +kernel
theorem d_Mo_shape_20 : decode b_Mo_shape 20 = .ok (.iload_n 1, 1) := by decide +kernel
theorem d_Mo_shape_21 : decode b_Mo_shape 21 = .ok (.imul, 1) := by decide +kernel
theorem d_Mo_shape_22 : decode b_Mo_shape 22 = .ok (.iload_n 2, 1) := by decide +kernel
theorem d_Mo_shape_23 : decode b_Mo_shape 23 = .ok (.iadd, 1) := by decide +kernel
theorem d_Mo_shape_24 : decode b_Mo_shape 24 = .ok (.iaload, 1) := by decide +kernel
theorem d_Mo_shape_25 : decode b_Mo_shape 25 = .ok (.bipush 32, 2) := by decide +kernel
theorem d_Mo_shape_27 : decode b_Mo_shape 27 = .ok (.aload_n 0, 1) := by decide +kernel
theorem d_Mo_shape_28 : decode b_Mo_shape 28 = .ok (.getfield 13, 3) := by decide +kernel
theorem d_Mo_shape_31 : decode b_Mo_shape 31 = .ok (.bipush 40, 2) := by decide +kernel
theorem d_Mo_shape_33 : decode b_Mo_shape 33 = .ok (.iload_n 1, 1) := by decide +kernel
theorem d_Mo_shape_34 : decode b_Mo_shape 34 = .ok (.imul, 1) := by decide +kernel
theorem d_Mo_shape_35 : decode b_Mo_shape 35 = .ok (.iload_n 2, 1) := by decide +kernel
theorem d_Mo_shape_36 : decode b_Mo_shape 36 = .ok (.iadd, 1) := by decide +kernel
theorem d_Mo_shape_37 : decode b_Mo_shape 37 = .ok (.iaload, 1) := by decide +kernel
theorem d_Mo_shape_38 : decode b_Mo_shape 38 = .ok (.imul, 1) := by decide +kernel
theorem d_Mo_shape_39 : decode b_Mo_shape 39 = .ok (.iadd, 1) := by decide +kernel
theorem d_Mo_shape_40 : decode b_Mo_shape 40 = .ok (.sipush 8192, 3) := by decide +kernel
theorem d_Mo_shape_43 : decode b_Mo_shape 43 = .ok (.aload_n 0, 1) := by decide +kernel
theorem d_Mo_shape_44 : decode b_Mo_shape 44 = .ok (.getfield 16, 3) := by decide +kernel
theorem d_Mo_shape_47 : decode b_Mo_shape 47 = .ok (.bipush 40, 2) := by decide +kernel
theorem d_Mo_shape_49 : decode b_Mo_shape 49 = .ok (.iload_n 1, 1) := by decide +kernel
theorem d_Mo_shape_50 : decode b_Mo_shape 50 = .ok (.imul, 1) := by decide +kernel
theorem d_Mo_shape_51 : decode b_Mo_shape 51 = .ok (.iload_n 2, 1) := by decide +kernel
theorem d_Mo_shape_52 : decode b_Mo_shape 52 = .ok (.iadd, 1) := by decide +kernel
theorem d_Mo_shape_53 : decode b_Mo_shape 53 = .ok (.iaload, 1) := by decide +kernel
theorem d_Mo_shape_54 : decode b_Mo_shape 54 = .ok (.imul, 1) := by decide +kernel
theorem d_Mo_shape_55 : decode b_Mo_shape 55 = .ok (.iadd, 1) := by decide +kernel
theorem d_Mo_shape_56 : decode b_Mo_shape 56 = .ok (.goto 4, 3) := by decide +kernel
theorem d_Mo_shape_59 : decode b_Mo_shape 59 = .ok (.iconst (-1), 1) := by decide +kernel
theorem d_Mo_shape_60 : decode b_Mo_shape 60 = .ok (.ireturn, 1) := by decide +kernel
set_option maxHeartbeats 4000000 in
set_option maxRecDepth 100000 in
theorem c_Mo_shape (mo mop mye mno mnu msz stk mre mce mco xc xa xm xv cnt : Nat) (stp thr : Int32) (fo fy fn fk zs : Nat → Int32) (L : fx_Prg) (j t : Nat) (sz : Nat) (hj : j < 4) (hzs : zs j = nI L.length) (hrep : fx_rep L (fun i => fo (40 * j + i)) (fun i => fy (40 * j + i)) (fun i => fn (40 * j + i)) (fun i => fk (40 * j + i))) (hok : fx_ok L) (ht : t < L.length) : fs_I l y_Mo_shape (k_Mo_shape :: fs_T) { frames := 2, cells := 0, slots := 0, locals := 44 } (dC, dI) vwCl (fs_tys cI cZ cJ cF) [.ref mo, .int (nI j), .int (nI t)] [(mo, .inr (5, [.ref mop, .ref mye, .ref mno, .ref mnu, .ref msz, .int (nI stk), .ref mre, .ref mce, .ref mco, .ref xc, .ref xa, .ref xm, .ref xv, .int (nI cnt), .int stp, .int thr])), (mop, .inl (cI, 320, .inl fo)), (mye, .inl (cI, 320, .inl fy)), (mno, .inl (cI, 320, .inl fn)), (mnu, .inl (cI, 320, .inl fk)), (msz, .inl (cI, 8, .inl zs))] sz (S := Unit) (fun r _ => r = nI (fx_O L t + 32 * (fx_Y L t) + 8192 * (fx_N L t))) (fun _ => [(mo, .inr (5, [.ref mop, .ref mye, .ref mno, .ref mnu, .ref msz, .int (nI stk), .ref mre, .ref mce, .ref mco, .ref xc, .ref xa, .ref xm, .ref xv, .int (nI cnt), .int stp, .int (nI 0)])), (mop, .inl (cI, 320, .inl fo)), (mye, .inl (cI, 320, .inl fy)), (mno, .inl (cI, 320, .inl fn)), (mnu, .inl (cI, 320, .inl fk)), (msz, .inl (cI, 8, .inl zs))]) 0 0 := by
  refine fs_head (by decide) (Nat.le_of_ble_eq_true rfl) ?_
  intro p e s m below meth c A ls hx hb hr hts hown hlocks hin hml hK hP hD hS hA hAe hsz hl
  have hl : lv_has ls 3 [(0, .ref mo), (1, .int (nI j)), (2, .int (nI t))] := hl
  have hown : s.vm.findClass R_Mo = some m.cls := hown
  have hlen := hok.1
  have hO := (hok.2 t ht).1
  have hY := (hok.2 t ht).2.1
  have hN := (hok.2 t ht).2.2
  refine lv_aload_n hx hb d_Mo_shape_0 rfl (lv_at hl 0 rfl) ?_
  refine lv_iconst (v := nI 0) hx hb d_Mo_shape_1 (by decide) ?_
  refine va_put (D := (dC, dI)) (ci := 5) (v := .int (nI 0)) (ty := (.int)) (C := R_Mo) (T := T_Mo) (N := 16) hx hb hts uin_Mo t_Mo ok_Mo n_Mo hown hK hP hD hS 0 rfl rfl 15 (by decide) (hts _ wi_445) (fun _ h9 => h9) rfl (by decide +kernel) rfl rfl (Nat.le_of_ble_eq_true rfl) d_Mo_shape_2 (fun H locs hP hD hS => ?_)
  have hP : va_P (dC, dI) vwCl [(mo, .inr (5, [.ref mop, .ref mye, .ref mno, .ref mnu, .ref msz, .int (nI stk), .ref mre, .ref mce, .ref mco, .ref xc, .ref xa, .ref xm, .ref xv, .int (nI cnt), .int stp, .int (nI 0)])), (mop, .inl (cI, 320, .inl fo)), (mye, .inl (cI, 320, .inl fy)), (mno, .inl (cI, 320, .inl fn)), (mnu, .inl (cI, 320, .inl fk)), (msz, .inl (cI, 8, .inl zs))] H := hP
  have hD : va_D A [(mo, .inr (5, [.ref mop, .ref mye, .ref mno, .ref mnu, .ref msz, .int (nI stk), .ref mre, .ref mce, .ref mco, .ref xc, .ref xa, .ref xm, .ref xv, .int (nI cnt), .int stp, .int (nI 0)])), (mop, .inl (cI, 320, .inl fo)), (mye, .inl (cI, 320, .inl fy)), (mno, .inl (cI, 320, .inl fn)), (mnu, .inl (cI, 320, .inl fk)), (msz, .inl (cI, 8, .inl zs))] := hD
  refine lv_aload_n hx hb d_Mo_shape_5 rfl (lv_at hl 0 rfl) ?_
  refine lv_iload_n hx hb d_Mo_shape_6 rfl (lv_at hl 1 rfl) ?_
  refine lv_iload_n hx hb d_Mo_shape_7 rfl (lv_at hl 2 rfl) ?_
  refine fs_calli (wc := [(mo, .inr (5, [.ref mop, .ref mye, .ref mno, .ref mnu, .ref msz, .int (nI stk), .ref mre, .ref mce, .ref mco, .ref xc, .ref xa, .ref xm, .ref xv, .int (nI cnt), .int stp, .int (nI 0)])), (msz, .inl (cI, 8, .inl zs))]) (wr := [(mop, .inl (cI, 320, .inl fo)), (mye, .inl (cI, 320, .inl fy)), (mno, .inl (cI, 320, .inl fn)), (mnu, .inl (cI, 320, .inl fk))]) [0, 5] [1, 2, 3, 4] hP hD hK hS hA rfl rfl rfl (by decide) (fun hPc hDc => va_runV (C := R_Mo) (As := [.int (nI j), .int (nI t)]) (rest := []) ⟨hx, hb, hml, hown, hts⟩ (c_Mo_is mo mop mye mno mnu msz stk mre mce mco xc xa xm xv cnt stp (nI 0) zs j L.length t _ hj hok.1 hzs ht) (⟨callB_of 2 hts (fs_g kin_Mo_is) rfl rfl rfl (hts _ wi_6) (hts _ wi_507) (by decide +kernel) ⟨Nat.le_of_ble_eq_true rfl, Nat.le_of_ble_eq_true rfl⟩, hts _ wi_509, hts _ sel_Mo_is⟩) (fs_preV (q0 := 0) rfl rfl hPc hK hDc) rfl rfl hl.1 rfl (lv_room (Nat.le_of_ble_eq_true rfl)) d_Mo_shape_8 ⟨Nat.le_of_ble_eq_true rfl, Nat.le_of_ble_eq_true rfl⟩) rfl (fun r8 _ H locs hp8 hP hD hS => ?_)
  have hP : va_P (dC, dI) vwCl [(mo, .inr (5, [.ref mop, .ref mye, .ref mno, .ref mnu, .ref msz, .int (nI stk), .ref mre, .ref mce, .ref mco, .ref xc, .ref xa, .ref xm, .ref xv, .int (nI cnt), .int stp, .int (nI 0)])), (mop, .inl (cI, 320, .inl fo)), (mye, .inl (cI, 320, .inl fy)), (mno, .inl (cI, 320, .inl fn)), (mnu, .inl (cI, 320, .inl fk)), (msz, .inl (cI, 8, .inl zs))] H := hP.sub [4, 0, 1, 2, 3, 5] rfl
  have hD : va_D A [(mo, .inr (5, [.ref mop, .ref mye, .ref mno, .ref mnu, .ref msz, .int (nI stk), .ref mre, .ref mce, .ref mco, .ref xc, .ref xa, .ref xm, .ref xv, .int (nI cnt), .int stp, .int (nI 0)])), (mop, .inl (cI, 320, .inl fo)), (mye, .inl (cI, 320, .inl fy)), (mno, .inl (cI, 320, .inl fn)), (mnu, .inl (cI, 320, .inl fk)), (msz, .inl (cI, 8, .inl zs))] := hD.sub [4, 0, 1, 2, 3, 5] (by decide) rfl
  subst hp8
  refine lv_if_eq (tgt := 59) hx hb d_Mo_shape_11 (by decide) (fun hc => absurd hc (by decide)) (fun _ => ?_)
  refine lv_aload_n hx hb d_Mo_shape_14 rfl (lv_at hl 0 rfl) ?_
  refine va_get (D := (dC, dI)) (ci := 5) (v := .ref mop) (C := R_Mo) (T := T_Mo) (N := 16) hx hb hts uin_Mo hown hK hP 0 rfl rfl 0 (by decide) (hts _ wi_430) (fun _ h9 => h9) rfl d_Mo_shape_15 ?_
  refine lv_bipush (v := nI 40) hx hb d_Mo_shape_18 (by decide) ?_
  refine lv_iload_n hx hb d_Mo_shape_20 rfl (lv_at hl 1 rfl) ?_
  refine lv_imul hx hb d_Mo_shape_21 ?_
  refine fs_eqi (pk_mul _ _) ?_
  refine lv_iload_n hx hb d_Mo_shape_22 rfl (lv_at hl 2 rfl) ?_
  refine lv_iadd hx hb d_Mo_shape_23 ?_
  refine fs_eqi (nI_add _ _) ?_
  refine fs_iald (v := nI (fx_O L t)) hx hb hK hP 1 0 rfl rfl (40 * j + t) rfl (by decide) (by omega) ((hrep t (by omega)).1) d_Mo_shape_24 ?_
  refine lv_bipush (v := nI 32) hx hb d_Mo_shape_25 (by decide) ?_
  refine lv_aload_n hx hb d_Mo_shape_27 rfl (lv_at hl 0 rfl) ?_
  refine va_get (D := (dC, dI)) (ci := 5) (v := .ref mye) (C := R_Mo) (T := T_Mo) (N := 16) hx hb hts uin_Mo hown hK hP 0 rfl rfl 1 (by decide) (hts _ wi_431) (fun _ h9 => h9) rfl d_Mo_shape_28 ?_
  refine lv_bipush (v := nI 40) hx hb d_Mo_shape_31 (by decide) ?_
  refine lv_iload_n hx hb d_Mo_shape_33 rfl (lv_at hl 1 rfl) ?_
  refine lv_imul hx hb d_Mo_shape_34 ?_
  refine fs_eqi (pk_mul _ _) ?_
  refine lv_iload_n hx hb d_Mo_shape_35 rfl (lv_at hl 2 rfl) ?_
  refine lv_iadd hx hb d_Mo_shape_36 ?_
  refine fs_eqi (nI_add _ _) ?_
  refine fs_iald (v := nI (fx_Y L t)) hx hb hK hP 2 0 rfl rfl (40 * j + t) rfl (by decide) (by omega) ((hrep t (by omega)).2.1) d_Mo_shape_37 ?_
  refine lv_imul hx hb d_Mo_shape_38 ?_
  refine fs_eqi (pk_mul _ _) ?_
  refine lv_iadd hx hb d_Mo_shape_39 ?_
  refine fs_eqi (nI_add _ _) ?_
  refine lv_sipush (v := nI 8192) hx hb d_Mo_shape_40 (by decide) ?_
  refine lv_aload_n hx hb d_Mo_shape_43 rfl (lv_at hl 0 rfl) ?_
  refine va_get (D := (dC, dI)) (ci := 5) (v := .ref mno) (C := R_Mo) (T := T_Mo) (N := 16) hx hb hts uin_Mo hown hK hP 0 rfl rfl 2 (by decide) (hts _ wi_432) (fun _ h9 => h9) rfl d_Mo_shape_44 ?_
  refine lv_bipush (v := nI 40) hx hb d_Mo_shape_47 (by decide) ?_
  refine lv_iload_n hx hb d_Mo_shape_49 rfl (lv_at hl 1 rfl) ?_
  refine lv_imul hx hb d_Mo_shape_50 ?_
  refine fs_eqi (pk_mul _ _) ?_
  refine lv_iload_n hx hb d_Mo_shape_51 rfl (lv_at hl 2 rfl) ?_
  refine lv_iadd hx hb d_Mo_shape_52 ?_
  refine fs_eqi (nI_add _ _) ?_
  refine fs_iald (v := nI (fx_N L t)) hx hb hK hP 3 0 rfl rfl (40 * j + t) rfl (by decide) (by omega) ((hrep t (by omega)).2.2.1) d_Mo_shape_53 ?_
  refine lv_imul hx hb d_Mo_shape_54 ?_
  refine fs_eqi (pk_mul _ _) ?_
  refine lv_iadd hx hb d_Mo_shape_55 ?_
  refine fs_eqi (nI_add _ _) ?_
  refine lv_goto (tgt := 60) hx hb d_Mo_shape_56 (by decide) ?_
  exact fs_iret hx hb hr hlocks hAe hK hS d_Mo_shape_60 () (rfl) hP hD

set_option maxHeartbeats 4000000 in
set_option maxRecDepth 100000 in
theorem c_Mo_shapeY (mo mop mye mno mnu msz stk mre mce mco xc xa xm xv cnt : Nat) (stp thr : Int32) (zs : Nat → Int32) (j len : Nat) (i : Int32) (sz : Nat) (hj : j < 4) (hl40 : len ≤ 40) (hzs : zs j = nI len) (hi : ∀ t, t < len → i ≠ nI t) : fs_I l y_Mo_shape (k_Mo_shape :: fs_T) { frames := 2, cells := 0, slots := 0, locals := 44 } (dC, dI) vwCl (fs_tys cI cZ cJ cF) [.ref mo, .int (nI j), .int i] [(mo, .inr (5, [.ref mop, .ref mye, .ref mno, .ref mnu, .ref msz, .int (nI stk), .ref mre, .ref mce, .ref mco, .ref xc, .ref xa, .ref xm, .ref xv, .int (nI cnt), .int stp, .int thr])), (msz, .inl (cI, 8, .inl zs))] sz (S := Unit) (fun r _ => r = (-1)) (fun _ => [(mo, .inr (5, [.ref mop, .ref mye, .ref mno, .ref mnu, .ref msz, .int (nI stk), .ref mre, .ref mce, .ref mco, .ref xc, .ref xa, .ref xm, .ref xv, .int (nI cnt), .int stp, .int (nI 0)])), (msz, .inl (cI, 8, .inl zs))]) 0 0 := by
  refine fs_head (by decide) (Nat.le_of_ble_eq_true rfl) ?_
  intro p e s m below meth c A ls hx hb hr hts hown hlocks hin hml hK hP hD hS hA hAe hsz hl
  have hl : lv_has ls 3 [(0, .ref mo), (1, .int (nI j)), (2, .int i)] := hl
  have hown : s.vm.findClass R_Mo = some m.cls := hown
  refine lv_aload_n hx hb d_Mo_shape_0 rfl (lv_at hl 0 rfl) ?_
  refine lv_iconst (v := nI 0) hx hb d_Mo_shape_1 (by decide) ?_
  refine va_put (D := (dC, dI)) (ci := 5) (v := .int (nI 0)) (ty := (.int)) (C := R_Mo) (T := T_Mo) (N := 16) hx hb hts uin_Mo t_Mo ok_Mo n_Mo hown hK hP hD hS 0 rfl rfl 15 (by decide) (hts _ wi_445) (fun _ h9 => h9) rfl (by decide +kernel) rfl rfl (Nat.le_of_ble_eq_true rfl) d_Mo_shape_2 (fun H locs hP hD hS => ?_)
  have hP : va_P (dC, dI) vwCl [(mo, .inr (5, [.ref mop, .ref mye, .ref mno, .ref mnu, .ref msz, .int (nI stk), .ref mre, .ref mce, .ref mco, .ref xc, .ref xa, .ref xm, .ref xv, .int (nI cnt), .int stp, .int (nI 0)])), (msz, .inl (cI, 8, .inl zs))] H := hP
  have hD : va_D A [(mo, .inr (5, [.ref mop, .ref mye, .ref mno, .ref mnu, .ref msz, .int (nI stk), .ref mre, .ref mce, .ref mco, .ref xc, .ref xa, .ref xm, .ref xv, .int (nI cnt), .int stp, .int (nI 0)])), (msz, .inl (cI, 8, .inl zs))] := hD
  refine lv_aload_n hx hb d_Mo_shape_5 rfl (lv_at hl 0 rfl) ?_
  refine lv_iload_n hx hb d_Mo_shape_6 rfl (lv_at hl 1 rfl) ?_
  refine lv_iload_n hx hb d_Mo_shape_7 rfl (lv_at hl 2 rfl) ?_
  refine fs_calli (wc := [(mo, .inr (5, [.ref mop, .ref mye, .ref mno, .ref mnu, .ref msz, .int (nI stk), .ref mre, .ref mce, .ref mco, .ref xc, .ref xa, .ref xm, .ref xv, .int (nI cnt), .int stp, .int (nI 0)])), (msz, .inl (cI, 8, .inl zs))]) (wr := []) [0, 1] [] hP hD hK hS hA rfl rfl rfl (by decide) (fun hPc hDc => va_runV (C := R_Mo) (As := [.int (nI j), .int i]) (rest := []) ⟨hx, hb, hml, hown, hts⟩ (c_Mo_isY mo mop mye mno mnu msz stk mre mce mco xc xa xm xv cnt stp (nI 0) zs j len i _ hj hl40 hzs hi) (⟨callB_of 2 hts (fs_g kin_Mo_is) rfl rfl rfl (hts _ wi_6) (hts _ wi_507) (by decide +kernel) ⟨Nat.le_of_ble_eq_true rfl, Nat.le_of_ble_eq_true rfl⟩, hts _ wi_509, hts _ sel_Mo_is⟩) (fs_preV (q0 := 0) rfl rfl hPc hK hDc) rfl rfl hl.1 rfl (lv_room (Nat.le_of_ble_eq_true rfl)) d_Mo_shape_8 ⟨Nat.le_of_ble_eq_true rfl, Nat.le_of_ble_eq_true rfl⟩) rfl (fun r8 _ H locs hp8 hP hD hS => ?_)
  have hP : va_P (dC, dI) vwCl [(mo, .inr (5, [.ref mop, .ref mye, .ref mno, .ref mnu, .ref msz, .int (nI stk), .ref mre, .ref mce, .ref mco, .ref xc, .ref xa, .ref xm, .ref xv, .int (nI cnt), .int stp, .int (nI 0)])), (msz, .inl (cI, 8, .inl zs))] H := hP
  have hD : va_D A [(mo, .inr (5, [.ref mop, .ref mye, .ref mno, .ref mnu, .ref msz, .int (nI stk), .ref mre, .ref mce, .ref mco, .ref xc, .ref xa, .ref xm, .ref xv, .int (nI cnt), .int stp, .int (nI 0)])), (msz, .inl (cI, 8, .inl zs))] := hD
  subst hp8
  refine lv_if_eq (tgt := 59) hx hb d_Mo_shape_11 (by decide) (fun _ => ?_) (fun hc => absurd (by decide) hc)
  refine lv_iconst (v := (-1)) hx hb d_Mo_shape_59 (by decide) ?_
  exact fs_iret hx hb hr hlocks hAe hK hS d_Mo_shape_60 () (rfl) hP hD

set_option maxHeartbeats 4000000 in
set_option maxRecDepth 100000 in
theorem c_Mo_shapeX (mo mop mye mno mnu msz stk mre mce mco xc xa xm xv cnt : Nat) (stp thr : Int32) (f i : Int32) (sz : Nat) (hf : ∀ j, j < 4 → f ≠ nI j) : fs_I l y_Mo_shape (k_Mo_shape :: fs_T) { frames := 2, cells := 0, slots := 0, locals := 44 } (dC, dI) vwCl (fs_tys cI cZ cJ cF) [.ref mo, .int f, .int i] [(mo, .inr (5, [.ref mop, .ref mye, .ref mno, .ref mnu, .ref msz, .int (nI stk), .ref mre, .ref mce, .ref mco, .ref xc, .ref xa, .ref xm, .ref xv, .int (nI cnt), .int stp, .int thr]))] sz (S := Unit) (fun r _ => r = (-1)) (fun _ => [(mo, .inr (5, [.ref mop, .ref mye, .ref mno, .ref mnu, .ref msz, .int (nI stk), .ref mre, .ref mce, .ref mco, .ref xc, .ref xa, .ref xm, .ref xv, .int (nI cnt), .int stp, .int (nI 0)]))]) 0 0 := by
  refine fs_head (by decide) (Nat.le_of_ble_eq_true rfl) ?_
  intro p e s m below meth c A ls hx hb hr hts hown hlocks hin hml hK hP hD hS hA hAe hsz hl
  have hl : lv_has ls 3 [(0, .ref mo), (1, .int f), (2, .int i)] := hl
  have hown : s.vm.findClass R_Mo = some m.cls := hown
  refine lv_aload_n hx hb d_Mo_shape_0 rfl (lv_at hl 0 rfl) ?_
  refine lv_iconst (v := nI 0) hx hb d_Mo_shape_1 (by decide) ?_
  refine va_put (D := (dC, dI)) (ci := 5) (v := .int (nI 0)) (ty := (.int)) (C := R_Mo) (T := T_Mo) (N := 16) hx hb hts uin_Mo t_Mo ok_Mo n_Mo hown hK hP hD hS 0 rfl rfl 15 (by decide) (hts _ wi_445) (fun _ h9 => h9) rfl (by decide +kernel) rfl rfl (Nat.le_of_ble_eq_true rfl) d_Mo_shape_2 (fun H locs hP hD hS => ?_)
  have hP : va_P (dC, dI) vwCl [(mo, .inr (5, [.ref mop, .ref mye, .ref mno, .ref mnu, .ref msz, .int (nI stk), .ref mre, .ref mce, .ref mco, .ref xc, .ref xa, .ref xm, .ref xv, .int (nI cnt), .int stp, .int (nI 0)]))] H := hP
  have hD : va_D A [(mo, .inr (5, [.ref mop, .ref mye, .ref mno, .ref mnu, .ref msz, .int (nI stk), .ref mre, .ref mce, .ref mco, .ref xc, .ref xa, .ref xm, .ref xv, .int (nI cnt), .int stp, .int (nI 0)]))] := hD
  refine lv_aload_n hx hb d_Mo_shape_5 rfl (lv_at hl 0 rfl) ?_
  refine lv_iload_n hx hb d_Mo_shape_6 rfl (lv_at hl 1 rfl) ?_
  refine lv_iload_n hx hb d_Mo_shape_7 rfl (lv_at hl 2 rfl) ?_
  refine fs_calli (wc := [(mo, .inr (5, [.ref mop, .ref mye, .ref mno, .ref mnu, .ref msz, .int (nI stk), .ref mre, .ref mce, .ref mco, .ref xc, .ref xa, .ref xm, .ref xv, .int (nI cnt), .int stp, .int (nI 0)]))]) (wr := []) [0] [] hP hD hK hS hA rfl rfl rfl (by decide) (fun hPc hDc => va_runV (C := R_Mo) (As := [.int f, .int i]) (rest := []) ⟨hx, hb, hml, hown, hts⟩ (c_Mo_isX mo mop mye mno mnu msz stk mre mce mco xc xa xm xv cnt stp (nI 0) f i _ hf) (⟨callB_of 2 hts (fs_g kin_Mo_is) rfl rfl rfl (hts _ wi_6) (hts _ wi_507) (by decide +kernel) ⟨Nat.le_of_ble_eq_true rfl, Nat.le_of_ble_eq_true rfl⟩, hts _ wi_509, hts _ sel_Mo_is⟩) (fs_preV (q0 := 0) rfl rfl hPc hK hDc) rfl rfl hl.1 rfl (lv_room (Nat.le_of_ble_eq_true rfl)) d_Mo_shape_8 ⟨Nat.le_of_ble_eq_true rfl, Nat.le_of_ble_eq_true rfl⟩) rfl (fun r8 _ H locs hp8 hP hD hS => ?_)
  have hP : va_P (dC, dI) vwCl [(mo, .inr (5, [.ref mop, .ref mye, .ref mno, .ref mnu, .ref msz, .int (nI stk), .ref mre, .ref mce, .ref mco, .ref xc, .ref xa, .ref xm, .ref xv, .int (nI cnt), .int stp, .int (nI 0)]))] H := hP
  have hD : va_D A [(mo, .inr (5, [.ref mop, .ref mye, .ref mno, .ref mnu, .ref msz, .int (nI stk), .ref mre, .ref mce, .ref mco, .ref xc, .ref xa, .ref xm, .ref xv, .int (nI cnt), .int stp, .int (nI 0)]))] := hD
  subst hp8
  refine lv_if_eq (tgt := 59) hx hb d_Mo_shape_11 (by decide) (fun _ => ?_) (fun hc => absurd (by decide) hc)
  refine lv_iconst (v := (-1)) hx hb d_Mo_shape_59 (by decide) ?_
  exact fs_iret hx hb hr hlocks hAe hK hS d_Mo_shape_60 () (rfl) hP hD

theorem d_Mo_number_0 : decode b_Mo_number 0 = .ok (.aload_n 0, 1) := by decide +kernel
theorem d_Mo_number_1 : decode b_Mo_number 1 = .ok (.iconst 0, 1) := by decide +kernel
theorem d_Mo_number_2 : decode b_Mo_number 2 = .ok (.putfield 47, 3) := by decide +kernel
theorem d_Mo_number_5 : decode b_Mo_number 5 = .ok (.aload_n 0, 1) := by decide +kernel
theorem d_Mo_number_6 : decode b_Mo_number 6 = .ok (.iload_n 1, 1) := by decide +kernel
theorem d_Mo_number_7 : decode b_Mo_number 7 = .ok (.iload_n 2, 1) := by decide +kernel
theorem d_Mo_number_8 : decode b_Mo_number 8 = .ok (.invokevirtual 59, 3) := by decide +kernel
theorem d_Mo_number_11 : decode b_Mo_number 11 = .ok (.ifCond .eq 17, 3) := by decide +kernel
theorem d_Mo_number_14 : decode b_Mo_number 14 = .ok (.aload_n 0, 1) := by decide +kernel
theorem d_Mo_number_15 : decode b_Mo_number 15 = .ok (.getfield 19, 3) := by decide +kernel
theorem d_Mo_number_18 : decode b_Mo_number 18 = .ok (.bipush 40, 2) := by decide +kernel
theorem d_Mo_number_20 : decode b_Mo_number 20 = .ok (.iload_n 1, 1) := by decide +kernel
theorem d_Mo_number_21 : decode b_Mo_number 21 = .ok (.imul, 1) := by decide +kernel
theorem d_Mo_number_22 : decode b_Mo_number 22 = .ok (.iload_n 2, 1) := by decide +kernel
theorem d_Mo_number_23 : decode b_Mo_number 23 = .ok (.iadd, 1) := by decide +kernel
theorem d_Mo_number_24 : decode b_Mo_number 24 = .ok (.iaload, 1) := by decide +kernel
theorem d_Mo_number_25 : decode b_Mo_number 25 = .ok (.goto 4, 3) := by decide +kernel
theorem d_Mo_number_28 : decode b_Mo_number 28 = .ok (.iconst 0, 1) := by decide +kernel
theorem d_Mo_number_29 : decode b_Mo_number 29 = .ok (.ireturn, 1) := by decide +kernel
set_option maxHeartbeats 4000000 in
set_option maxRecDepth 100000 in
theorem c_Mo_number (mo mop mye mno mnu msz stk mre mce mco xc xa xm xv cnt : Nat) (stp thr : Int32) (fo fy fn fk zs : Nat → Int32) (L : fx_Prg) (j t : Nat) (sz : Nat) (hj : j < 4) (hzs : zs j = nI L.length) (hrep : fx_rep L (fun i => fo (40 * j + i)) (fun i => fy (40 * j + i)) (fun i => fn (40 * j + i)) (fun i => fk (40 * j + i))) (hok : fx_ok L) (ht : t < L.length) : fs_I l y_Mo_number (k_Mo_number :: fs_T) { frames := 2, cells := 0, slots := 0, locals := 44 } (dC, dI) vwCl (fs_tys cI cZ cJ cF) [.ref mo, .int (nI j), .int (nI t)] [(mo, .inr (5, [.ref mop, .ref mye, .ref mno, .ref mnu, .ref msz, .int (nI stk), .ref mre, .ref mce, .ref mco, .ref xc, .ref xa, .ref xm, .ref xv, .int (nI cnt), .int stp, .int thr])), (mop, .inl (cI, 320, .inl fo)), (mye, .inl (cI, 320, .inl fy)), (mno, .inl (cI, 320, .inl fn)), (mnu, .inl (cI, 320, .inl fk)), (msz, .inl (cI, 8, .inl zs))] sz (S := Unit) (fun r _ => r = fx_K L t) (fun _ => [(mo, .inr (5, [.ref mop, .ref mye, .ref mno, .ref mnu, .ref msz, .int (nI stk), .ref mre, .ref mce, .ref mco, .ref xc, .ref xa, .ref xm, .ref xv, .int (nI cnt), .int stp, .int (nI 0)])), (mop, .inl (cI, 320, .inl fo)), (mye, .inl (cI, 320, .inl fy)), (mno, .inl (cI, 320, .inl fn)), (mnu, .inl (cI, 320, .inl fk)), (msz, .inl (cI, 8, .inl zs))]) 0 0 := by
  refine fs_head (by decide) (Nat.le_of_ble_eq_true rfl) ?_
  intro p e s m below meth c A ls hx hb hr hts hown hlocks hin hml hK hP hD hS hA hAe hsz hl
  have hl : lv_has ls 3 [(0, .ref mo), (1, .int (nI j)), (2, .int (nI t))] := hl
  have hown : s.vm.findClass R_Mo = some m.cls := hown
  have hlen := hok.1
  have hO := (hok.2 t ht).1
  have hY := (hok.2 t ht).2.1
  have hN := (hok.2 t ht).2.2
  refine lv_aload_n hx hb d_Mo_number_0 rfl (lv_at hl 0 rfl) ?_
  refine lv_iconst (v := nI 0) hx hb d_Mo_number_1 (by decide) ?_
  refine va_put (D := (dC, dI)) (ci := 5) (v := .int (nI 0)) (ty := (.int)) (C := R_Mo) (T := T_Mo) (N := 16) hx hb hts uin_Mo t_Mo ok_Mo n_Mo hown hK hP hD hS 0 rfl rfl 15 (by decide) (hts _ wi_445) (fun _ h9 => h9) rfl (by decide +kernel) rfl rfl (Nat.le_of_ble_eq_true rfl) d_Mo_number_2 (fun H locs hP hD hS => ?_)
  have hP : va_P (dC, dI) vwCl [(mo, .inr (5, [.ref mop, .ref mye, .ref mno, .ref mnu, .ref msz, .int (nI stk), .ref mre, .ref mce, .ref mco, .ref xc, .ref xa, .ref xm, .ref xv, .int (nI cnt), .int stp, .int (nI 0)])), (mop, .inl (cI, 320, .inl fo)), (mye, .inl (cI, 320, .inl fy)), (mno, .inl (cI, 320, .inl fn)), (mnu, .inl (cI, 320, .inl fk)), (msz, .inl (cI, 8, .inl zs))] H := hP
  have hD : va_D A [(mo, .inr (5, [.ref mop, .ref mye, .ref mno, .ref mnu, .ref msz, .int (nI stk), .ref mre, .ref mce, .ref mco, .ref xc, .ref xa, .ref xm, .ref xv, .int (nI cnt), .int stp, .int (nI 0)])), (mop, .inl (cI, 320, .inl fo)), (mye, .inl (cI, 320, .inl fy)), (mno, .inl (cI, 320, .inl fn)), (mnu, .inl (cI, 320, .inl fk)), (msz, .inl (cI, 8, .inl zs))] := hD
  refine lv_aload_n hx hb d_Mo_number_5 rfl (lv_at hl 0 rfl) ?_
  refine lv_iload_n hx hb d_Mo_number_6 rfl (lv_at hl 1 rfl) ?_
  refine lv_iload_n hx hb d_Mo_number_7 rfl (lv_at hl 2 rfl) ?_
  refine fs_calli (wc := [(mo, .inr (5, [.ref mop, .ref mye, .ref mno, .ref mnu, .ref msz, .int (nI stk), .ref mre, .ref mce, .ref mco, .ref xc, .ref xa, .ref xm, .ref xv, .int (nI cnt), .int stp, .int (nI 0)])), (msz, .inl (cI, 8, .inl zs))]) (wr := [(mop, .inl (cI, 320, .inl fo)), (mye, .inl (cI, 320, .inl fy)), (mno, .inl (cI, 320, .inl fn)), (mnu, .inl (cI, 320, .inl fk))]) [0, 5] [1, 2, 3, 4] hP hD hK hS hA rfl rfl rfl (by decide) (fun hPc hDc => va_runV (C := R_Mo) (As := [.int (nI j), .int (nI t)]) (rest := []) ⟨hx, hb, hml, hown, hts⟩ (c_Mo_is mo mop mye mno mnu msz stk mre mce mco xc xa xm xv cnt stp (nI 0) zs j L.length t _ hj hok.1 hzs ht) (⟨callB_of 2 hts (fs_g kin_Mo_is) rfl rfl rfl (hts _ wi_6) (hts _ wi_507) (by decide +kernel) ⟨Nat.le_of_ble_eq_true rfl, Nat.le_of_ble_eq_true rfl⟩, hts _ wi_509, hts _ sel_Mo_is⟩) (fs_preV (q0 := 0) rfl rfl hPc hK hDc) rfl rfl hl.1 rfl (lv_room (Nat.le_of_ble_eq_true rfl)) d_Mo_number_8 ⟨Nat.le_of_ble_eq_true rfl, Nat.le_of_ble_eq_true rfl⟩) rfl (fun r8 _ H locs hp8 hP hD hS => ?_)
  have hP : va_P (dC, dI) vwCl [(mo, .inr (5, [.ref mop, .ref mye, .ref mno, .ref mnu, .ref msz, .int (nI stk), .ref mre, .ref mce, .ref mco, .ref xc, .ref xa, .ref xm, .ref xv, .int (nI cnt), .int stp, .int (nI 0)])), (mop, .inl (cI, 320, .inl fo)), (mye, .inl (cI, 320, .inl fy)), (mno, .inl (cI, 320, .inl fn)), (mnu, .inl (cI, 320, .inl fk)), (msz, .inl (cI, 8, .inl zs))] H := hP.sub [4, 0, 1, 2, 3, 5] rfl
  have hD : va_D A [(mo, .inr (5, [.ref mop, .ref mye, .ref mno, .ref mnu, .ref msz, .int (nI stk), .ref mre, .ref mce, .ref mco, .ref xc, .ref xa, .ref xm, .ref xv, .int (nI cnt), .int stp, .int (nI 0)])), (mop, .inl (cI, 320, .inl fo)), (mye, .inl (cI, 320, .inl fy)), (mno, .inl (cI, 320, .inl fn)), (mnu, .inl (cI, 320, .inl fk)), (msz, .inl (cI, 8, .inl zs))] := hD.sub [4, 0, 1, 2, 3, 5] (by decide) rfl
  subst hp8
  refine lv_if_eq (tgt := 28) hx hb d_Mo_number_11 (by decide) (fun hc => absurd hc (by decide)) (fun _ => ?_)
  refine lv_aload_n hx hb d_Mo_number_14 rfl (lv_at hl 0 rfl) ?_
  refine va_get (D := (dC, dI)) (ci := 5) (v := .ref mnu) (C := R_Mo) (T := T_Mo) (N := 16) hx hb hts uin_Mo hown hK hP 0 rfl rfl 3 (by decide) (hts _ wi_433) (fun _ h9 => h9) rfl d_Mo_number_15 ?_
  refine lv_bipush (v := nI 40) hx hb d_Mo_number_18 (by decide) ?_
  refine lv_iload_n hx hb d_Mo_number_20 rfl (lv_at hl 1 rfl) ?_
  refine lv_imul hx hb d_Mo_number_21 ?_
  refine fs_eqi (pk_mul _ _) ?_
  refine lv_iload_n hx hb d_Mo_number_22 rfl (lv_at hl 2 rfl) ?_
  refine lv_iadd hx hb d_Mo_number_23 ?_
  refine fs_eqi (nI_add _ _) ?_
  refine fs_iald (v := fx_K L t) hx hb hK hP 4 0 rfl rfl (40 * j + t) rfl (by decide) (by omega) ((hrep t (by omega)).2.2.2) d_Mo_number_24 ?_
  refine lv_goto (tgt := 29) hx hb d_Mo_number_25 (by decide) ?_
  exact fs_iret hx hb hr hlocks hAe hK hS d_Mo_number_29 () (rfl) hP hD

set_option maxHeartbeats 4000000 in
set_option maxRecDepth 100000 in
theorem c_Mo_numberY (mo mop mye mno mnu msz stk mre mce mco xc xa xm xv cnt : Nat) (stp thr : Int32) (zs : Nat → Int32) (j len : Nat) (i : Int32) (sz : Nat) (hj : j < 4) (hl40 : len ≤ 40) (hzs : zs j = nI len) (hi : ∀ t, t < len → i ≠ nI t) : fs_I l y_Mo_number (k_Mo_number :: fs_T) { frames := 2, cells := 0, slots := 0, locals := 44 } (dC, dI) vwCl (fs_tys cI cZ cJ cF) [.ref mo, .int (nI j), .int i] [(mo, .inr (5, [.ref mop, .ref mye, .ref mno, .ref mnu, .ref msz, .int (nI stk), .ref mre, .ref mce, .ref mco, .ref xc, .ref xa, .ref xm, .ref xv, .int (nI cnt), .int stp, .int thr])), (msz, .inl (cI, 8, .inl zs))] sz (S := Unit) (fun r _ => r = nI 0) (fun _ => [(mo, .inr (5, [.ref mop, .ref mye, .ref mno, .ref mnu, .ref msz, .int (nI stk), .ref mre, .ref mce, .ref mco, .ref xc, .ref xa, .ref xm, .ref xv, .int (nI cnt), .int stp, .int (nI 0)])), (msz, .inl (cI, 8, .inl zs))]) 0 0 := by
  refine fs_head (by decide) (Nat.le_of_ble_eq_true rfl) ?_
  intro p e s m below meth c A ls hx hb hr hts hown hlocks hin hml hK hP hD hS hA hAe hsz hl
  have hl : lv_has ls 3 [(0, .ref mo), (1, .int (nI j)), (2, .int i)] := hl
  have hown : s.vm.findClass R_Mo = some m.cls := hown
  refine lv_aload_n hx hb d_Mo_number_0 rfl (lv_at hl 0 rfl) ?_
  refine lv_iconst (v := nI 0) hx hb d_Mo_number_1 (by decide) ?_
  refine va_put (D := (dC, dI)) (ci := 5) (v := .int (nI 0)) (ty := (.int)) (C := R_Mo) (T := T_Mo) (N := 16) hx hb hts uin_Mo t_Mo ok_Mo n_Mo hown hK hP hD hS 0 rfl rfl 15 (by decide) (hts _ wi_445) (fun _ h9 => h9) rfl (by decide +kernel) rfl rfl (Nat.le_of_ble_eq_true rfl) d_Mo_number_2 (fun H locs hP hD hS => ?_)
  have hP : va_P (dC, dI) vwCl [(mo, .inr (5, [.ref mop, .ref mye, .ref mno, .ref mnu, .ref msz, .int (nI stk), .ref mre, .ref mce, .ref mco, .ref xc, .ref xa, .ref xm, .ref xv, .int (nI cnt), .int stp, .int (nI 0)])), (msz, .inl (cI, 8, .inl zs))] H := hP
  have hD : va_D A [(mo, .inr (5, [.ref mop, .ref mye, .ref mno, .ref mnu, .ref msz, .int (nI stk), .ref mre, .ref mce, .ref mco, .ref xc, .ref xa, .ref xm, .ref xv, .int (nI cnt), .int stp, .int (nI 0)])), (msz, .inl (cI, 8, .inl zs))] := hD
  refine lv_aload_n hx hb d_Mo_number_5 rfl (lv_at hl 0 rfl) ?_
  refine lv_iload_n hx hb d_Mo_number_6 rfl (lv_at hl 1 rfl) ?_
  refine lv_iload_n hx hb d_Mo_number_7 rfl (lv_at hl 2 rfl) ?_
  refine fs_calli (wc := [(mo, .inr (5, [.ref mop, .ref mye, .ref mno, .ref mnu, .ref msz, .int (nI stk), .ref mre, .ref mce, .ref mco, .ref xc, .ref xa, .ref xm, .ref xv, .int (nI cnt), .int stp, .int (nI 0)])), (msz, .inl (cI, 8, .inl zs))]) (wr := []) [0, 1] [] hP hD hK hS hA rfl rfl rfl (by decide) (fun hPc hDc => va_runV (C := R_Mo) (As := [.int (nI j), .int i]) (rest := []) ⟨hx, hb, hml, hown, hts⟩ (c_Mo_isY mo mop mye mno mnu msz stk mre mce mco xc xa xm xv cnt stp (nI 0) zs j len i _ hj hl40 hzs hi) (⟨callB_of 2 hts (fs_g kin_Mo_is) rfl rfl rfl (hts _ wi_6) (hts _ wi_507) (by decide +kernel) ⟨Nat.le_of_ble_eq_true rfl, Nat.le_of_ble_eq_true rfl⟩, hts _ wi_509, hts _ sel_Mo_is⟩) (fs_preV (q0 := 0) rfl rfl hPc hK hDc) rfl rfl hl.1 rfl (lv_room (Nat.le_of_ble_eq_true rfl)) d_Mo_number_8 ⟨Nat.le_of_ble_eq_true rfl, Nat.le_of_ble_eq_true rfl⟩) rfl (fun r8 _ H locs hp8 hP hD hS => ?_)
  have hP : va_P (dC, dI) vwCl [(mo, .inr (5, [.ref mop, .ref mye, .ref mno, .ref mnu, .ref msz, .int (nI stk), .ref mre, .ref mce, .ref mco, .ref xc, .ref xa, .ref xm, .ref xv, .int (nI cnt), .int stp, .int (nI 0)])), (msz, .inl (cI, 8, .inl zs))] H := hP
  have hD : va_D A [(mo, .inr (5, [.ref mop, .ref mye, .ref mno, .ref mnu, .ref msz, .int (nI stk), .ref mre, .ref mce, .ref mco, .ref xc, .ref xa, .ref xm, .ref xv, .int (nI cnt), .int stp, .int (nI 0)])), (msz, .inl (cI, 8, .inl zs))] := hD
  subst hp8
  refine lv_if_eq (tgt := 28) hx hb d_Mo_number_11 (by decide) (fun _ => ?_) (fun hc => absurd (by decide) hc)
  refine lv_iconst (v := nI 0) hx hb d_Mo_number_28 (by decide) ?_
  exact fs_iret hx hb hr hlocks hAe hK hS d_Mo_number_29 () (rfl) hP hD

set_option maxHeartbeats 4000000 in
set_option maxRecDepth 100000 in
theorem c_Mo_numberX (mo mop mye mno mnu msz stk mre mce mco xc xa xm xv cnt : Nat) (stp thr : Int32) (f i : Int32) (sz : Nat) (hf : ∀ j, j < 4 → f ≠ nI j) : fs_I l y_Mo_number (k_Mo_number :: fs_T) { frames := 2, cells := 0, slots := 0, locals := 44 } (dC, dI) vwCl (fs_tys cI cZ cJ cF) [.ref mo, .int f, .int i] [(mo, .inr (5, [.ref mop, .ref mye, .ref mno, .ref mnu, .ref msz, .int (nI stk), .ref mre, .ref mce, .ref mco, .ref xc, .ref xa, .ref xm, .ref xv, .int (nI cnt), .int stp, .int thr]))] sz (S := Unit) (fun r _ => r = nI 0) (fun _ => [(mo, .inr (5, [.ref mop, .ref mye, .ref mno, .ref mnu, .ref msz, .int (nI stk), .ref mre, .ref mce, .ref mco, .ref xc, .ref xa, .ref xm, .ref xv, .int (nI cnt), .int stp, .int (nI 0)]))]) 0 0 := by
  refine fs_head (by decide) (Nat.le_of_ble_eq_true rfl) ?_
  intro p e s m below meth c A ls hx hb hr hts hown hlocks hin hml hK hP hD hS hA hAe hsz hl
  have hl : lv_has ls 3 [(0, .ref mo), (1, .int f), (2, .int i)] := hl
  have hown : s.vm.findClass R_Mo = some m.cls := hown
  refine lv_aload_n hx hb d_Mo_number_0 rfl (lv_at hl 0 rfl) ?_
  refine lv_iconst (v := nI 0) hx hb d_Mo_number_1 (by decide) ?_
  refine va_put (D := (dC, dI)) (ci := 5) (v := .int (nI 0)) (ty := (.int)) (C := R_Mo) (T := T_Mo) (N := 16) hx hb hts uin_Mo t_Mo ok_Mo n_Mo hown hK hP hD hS 0 rfl rfl 15 (by decide) (hts _ wi_445) (fun _ h9 => h9) rfl (by decide +kernel) rfl rfl (Nat.le_of_ble_eq_true rfl) d_Mo_number_2 (fun H locs hP hD hS => ?_)
  have hP : va_P (dC, dI) vwCl [(mo, .inr (5, [.ref mop, .ref mye, .ref mno, .ref mnu, .ref msz, .int (nI stk), .ref mre, .ref mce, .ref mco, .ref xc, .ref xa, .ref xm, .ref xv, .int (nI cnt), .int stp, .int (nI 0)]))] H := hP
  have hD : va_D A [(mo, .inr (5, [.ref mop, .ref mye, .ref mno, .ref mnu, .ref msz, .int (nI stk), .ref mre, .ref mce, .ref mco, .ref xc, .ref xa, .ref xm, .ref xv, .int (nI cnt), .int stp, .int (nI 0)]))] := hD
  refine lv_aload_n hx hb d_Mo_number_5 rfl (lv_at hl 0 rfl) ?_
  refine lv_iload_n hx hb d_Mo_number_6 rfl (lv_at hl 1 rfl) ?_
  refine lv_iload_n hx hb d_Mo_number_7 rfl (lv_at hl 2 rfl) ?_
  refine fs_calli (wc := [(mo, .inr (5, [.ref mop, .ref mye, .ref mno, .ref mnu, .ref msz, .int (nI stk), .ref mre, .ref mce, .ref mco, .ref xc, .ref xa, .ref xm, .ref xv, .int (nI cnt), .int stp, .int (nI 0)]))]) (wr := []) [0] [] hP hD hK hS hA rfl rfl rfl (by decide) (fun hPc hDc => va_runV (C := R_Mo) (As := [.int f, .int i]) (rest := []) ⟨hx, hb, hml, hown, hts⟩ (c_Mo_isX mo mop mye mno mnu msz stk mre mce mco xc xa xm xv cnt stp (nI 0) f i _ hf) (⟨callB_of 2 hts (fs_g kin_Mo_is) rfl rfl rfl (hts _ wi_6) (hts _ wi_507) (by decide +kernel) ⟨Nat.le_of_ble_eq_true rfl, Nat.le_of_ble_eq_true rfl⟩, hts _ wi_509, hts _ sel_Mo_is⟩) (fs_preV (q0 := 0) rfl rfl hPc hK hDc) rfl rfl hl.1 rfl (lv_room (Nat.le_of_ble_eq_true rfl)) d_Mo_number_8 ⟨Nat.le_of_ble_eq_true rfl, Nat.le_of_ble_eq_true rfl⟩) rfl (fun r8 _ H locs hp8 hP hD hS => ?_)
  have hP : va_P (dC, dI) vwCl [(mo, .inr (5, [.ref mop, .ref mye, .ref mno, .ref mnu, .ref msz, .int (nI stk), .ref mre, .ref mce, .ref mco, .ref xc, .ref xa, .ref xm, .ref xv, .int (nI cnt), .int stp, .int (nI 0)]))] H := hP
  have hD : va_D A [(mo, .inr (5, [.ref mop, .ref mye, .ref mno, .ref mnu, .ref msz, .int (nI stk), .ref mre, .ref mce, .ref mco, .ref xc, .ref xa, .ref xm, .ref xv, .int (nI cnt), .int stp, .int (nI 0)]))] := hD
  subst hp8
  refine lv_if_eq (tgt := 28) hx hb d_Mo_number_11 (by decide) (fun _ => ?_) (fun hc => absurd (by decide) hc)
  refine lv_iconst (v := nI 0) hx hb d_Mo_number_28 (by decide) ?_
  exact fs_iret hx hb hr hlocks hAe hK hS d_Mo_number_29 () (rfl) hP hD

theorem d_Mo_set_0 : decode b_Mo_set 0 = .ok (.aload_n 0, 1) := by decide +kernel
theorem d_Mo_set_1 : decode b_Mo_set 1 = .ok (.iconst 0, 1) := by decide +kernel
theorem d_Mo_set_2 : decode b_Mo_set 2 = .ok (.putfield 47, 3) := by decide +kernel
theorem d_Mo_set_5 : decode b_Mo_set 5 = .ok (.iload_n 1, 1) := by decide +kernel
theorem d_Mo_set_6 : decode b_Mo_set 6 = .ok (.iconst 0, 1) := by decide +kernel
theorem d_Mo_set_7 : decode b_Mo_set 7 = .ok (.bipush 15, 2) := by decide +kernel
theorem d_Mo_set_9 : decode b_Mo_set 9 = .ok (.invokestatic 51, 3) := by decide +kernel
theorem d_Mo_set_12 : decode b_Mo_set 12 = .ok (.ifCond .ne 5, 3) := by decide +kernel
theorem d_Mo_set_15 : decode b_Mo_set 15 = .ok (.iconst 0, 1) := by decide +kernel
theorem d_Mo_set_16 : decode b_Mo_set 16 = .ok (.ireturn, 1) := by decide +kernel
theorem d_Mo_set_17 : decode b_Mo_set 17 = .ok (.aload_n 0, 1) := by decide +kernel
theorem d_Mo_set_18 : decode b_Mo_set 18 = .ok (.getfield 25, 3) := by decide +kernel
theorem d_Mo_set_21 : decode b_Mo_set 21 = .ok (.iload_n 1, 1) := by decide +kernel
theorem d_Mo_set_22 : decode b_Mo_set 22 = .ok (.iaload, 1) := by decide +kernel
theorem d_Mo_set_23 : decode b_Mo_set 23 = .ok (.istore_n 3, 1) := by decide +kernel
theorem d_Mo_set_24 : decode b_Mo_set 24 = .ok (.aload_n 0, 1) := by decide +kernel
theorem d_Mo_set_25 : decode b_Mo_set 25 = .ok (.getfield 25, 3) := by decide +kernel
theorem d_Mo_set_28 : decode b_Mo_set 28 = .ok (.iload_n 1, 1) := by decide +kernel
theorem d_Mo_set_29 : decode b_Mo_set 29 = .ok (.iload_n 2, 1) := by decide +kernel
theorem d_Mo_set_30 : decode b_Mo_set 30 = .ok (.iastore, 1) := by decide +kernel
theorem d_Mo_set_31 : decode b_Mo_set 31 = .ok (.iload_n 3, 1) := by decide +kernel
theorem d_Mo_set_32 : decode b_Mo_set 32 = .ok (.ireturn, 1) := by decide +kernel
set_option maxHeartbeats 4000000 in
set_option maxRecDepth 100000 in
theorem c_Mo_set (mo mop mye mno mnu msz stk mre mce mco xc xa xm xv cnt : Nat) (stp thr : Int32) (w : Nat → Int32) (i : Nat) (v : Int32) (sz : Nat) (hi : i < 16) : fs_I l y_Mo_set (k_Mo_set :: fs_T) { frames := 1, cells := 0, slots := 0, locals := 22 } (dC, dI) vwCl (fs_tys cI cZ cJ cF) [.ref mo, .int (nI i), .int v] [(mo, .inr (5, [.ref mop, .ref mye, .ref mno, .ref mnu, .ref msz, .int (nI stk), .ref mre, .ref mce, .ref mco, .ref xc, .ref xa, .ref xm, .ref xv, .int (nI cnt), .int stp, .int thr])), (mre, .inl (cI, 16, .inl w))] sz (S := Unit) (fun r _ => r = w i) (fun _ => [(mo, .inr (5, [.ref mop, .ref mye, .ref mno, .ref mnu, .ref msz, .int (nI stk), .ref mre, .ref mce, .ref mco, .ref xc, .ref xa, .ref xm, .ref xv, .int (nI cnt), .int stp, .int (nI 0)])), (mre, .inl (cI, 16, .inl (upd w i v)))]) 0 0 := by
  refine fs_head (by decide) (Nat.le_of_ble_eq_true rfl) ?_
  intro p e s m below meth c A ls hx hb hr hts hown hlocks hin hml hK hP hD hS hA hAe hsz hl
  have hl : lv_has ls 4 [(0, .ref mo), (1, .int (nI i)), (2, .int v)] := hl
  have hown : s.vm.findClass R_Mo = some m.cls := hown
  refine lv_aload_n hx hb d_Mo_set_0 rfl (lv_at hl 0 rfl) ?_
  refine lv_iconst (v := nI 0) hx hb d_Mo_set_1 (by decide) ?_
  refine va_put (D := (dC, dI)) (ci := 5) (v := .int (nI 0)) (ty := (.int)) (C := R_Mo) (T := T_Mo) (N := 16) hx hb hts uin_Mo t_Mo ok_Mo n_Mo hown hK hP hD hS 0 rfl rfl 15 (by decide) (hts _ wi_445) (fun _ h9 => h9) rfl (by decide +kernel) rfl rfl (Nat.le_of_ble_eq_true rfl) d_Mo_set_2 (fun H locs hP hD hS => ?_)
  have hP : va_P (dC, dI) vwCl [(mo, .inr (5, [.ref mop, .ref mye, .ref mno, .ref mnu, .ref msz, .int (nI stk), .ref mre, .ref mce, .ref mco, .ref xc, .ref xa, .ref xm, .ref xv, .int (nI cnt), .int stp, .int (nI 0)])), (mre, .inl (cI, 16, .inl w))] H := hP
  have hD : va_D A [(mo, .inr (5, [.ref mop, .ref mye, .ref mno, .ref mnu, .ref msz, .int (nI stk), .ref mre, .ref mce, .ref mco, .ref xc, .ref xa, .ref xm, .ref xv, .int (nI cnt), .int stp, .int (nI 0)])), (mre, .inl (cI, 16, .inl w))] := hD
  refine lv_iload_n hx hb d_Mo_set_5 rfl (lv_at hl 1 rfl) ?_
  refine lv_iconst (v := nI 0) hx hb d_Mo_set_6 (by decide) ?_
  refine lv_bipush (v := nI 15) hx hb d_Mo_set_7 (by decide) ?_
  refine fs_calli (wc := []) (wr := [(mo, .inr (5, [.ref mop, .ref mye, .ref mno, .ref mnu, .ref msz, .int (nI stk), .ref mre, .ref mce, .ref mco, .ref xc, .ref xa, .ref xm, .ref xv, .int (nI cnt), .int stp, .int (nI 0)])), (mre, .inl (cI, 16, .inl w))]) [] [0, 1] hP hD hK hS hA rfl rfl rfl (by decide) (fun hPc hDc => va_runS (As := [.int (nI i), .int (nI 0), .int (nI 15)]) (rest := []) ⟨hx, hb, hml, hown, hts⟩ (c_Mo_within (nI i) (nI 0) (nI 15) (((i : Nat) : Int)) (((0 : Nat) : Int)) (((15 : Nat) : Int)) _ (nI_toInt (by omega)) (nI_toInt (by omega)) (nI_toInt (by omega))) (⟨callB_of 3 hts (fs_g kin_Mo_within) rfl rfl rfl (hts _ wi_6) (hts _ wi_488) (by decide +kernel) ⟨Nat.le_of_ble_eq_true rfl, Nat.le_of_ble_eq_true rfl⟩, hts _ wi_489⟩) (fs_preS hPc hK hDc) rfl rfl hl.1 rfl (lv_room (Nat.le_of_ble_eq_true rfl)) d_Mo_set_9 ⟨Nat.le_of_ble_eq_true rfl, Nat.le_of_ble_eq_true rfl⟩) rfl (fun r9 _ H locs hp9 hP hD hS => ?_)
  have hP : va_P (dC, dI) vwCl [(mo, .inr (5, [.ref mop, .ref mye, .ref mno, .ref mnu, .ref msz, .int (nI stk), .ref mre, .ref mce, .ref mco, .ref xc, .ref xa, .ref xm, .ref xv, .int (nI cnt), .int stp, .int (nI 0)])), (mre, .inl (cI, 16, .inl w))] H := hP
  have hD : va_D A [(mo, .inr (5, [.ref mop, .ref mye, .ref mno, .ref mnu, .ref msz, .int (nI stk), .ref mre, .ref mce, .ref mco, .ref xc, .ref xa, .ref xm, .ref xv, .int (nI cnt), .int stp, .int (nI 0)])), (mre, .inl (cI, 16, .inl w))] := hD
  rcases hp9 with ⟨hc9, rfl⟩ | ⟨hc9, _⟩
  rotate_left
  · exact absurd (by omega) hc9
  refine lv_if_ne (tgt := 17) hx hb d_Mo_set_12 (by decide) (fun _ => ?_) (fun hc => absurd hc (by decide))
  refine lv_aload_n hx hb d_Mo_set_17 rfl (lv_at hl 0 rfl) ?_
  refine va_get (D := (dC, dI)) (ci := 5) (v := .ref mre) (C := R_Mo) (T := T_Mo) (N := 16) hx hb hts uin_Mo hown hK hP 0 rfl rfl 6 (by decide) (hts _ wi_436) (fun _ h9 => h9) rfl d_Mo_set_18 ?_
  refine lv_iload_n hx hb d_Mo_set_21 rfl (lv_at hl 1 rfl) ?_
  refine fs_iald (v := w i) hx hb hK hP 1 0 rfl rfl i rfl (by decide) (by omega) rfl d_Mo_set_22 ?_
  refine lv_istore_n hx hb d_Mo_set_23 rfl hl (by decide) (lv' := [(3, .int (w i)), (0, .ref mo), (1, .int (nI i)), (2, .int v)]) rfl (fun ls hl => ?_)
  refine lv_aload_n hx hb d_Mo_set_24 rfl (lv_at hl 1 rfl) ?_
  refine va_get (D := (dC, dI)) (ci := 5) (v := .ref mre) (C := R_Mo) (T := T_Mo) (N := 16) hx hb hts uin_Mo hown hK hP 0 rfl rfl 6 (by decide) (hts _ wi_436) (fun _ h9 => h9) rfl d_Mo_set_25 ?_
  refine lv_iload_n hx hb d_Mo_set_28 rfl (lv_at hl 2 rfl) ?_
  refine lv_iload_n hx hb d_Mo_set_29 rfl (lv_at hl 3 rfl) ?_
  refine fs_iast hx hb hK hP hD hS 1 0 rfl rfl i rfl (by decide) (by omega) d_Mo_set_30 (fun H locs hP hD hS => ?_)
  have hP : va_P (dC, dI) vwCl [(mo, .inr (5, [.ref mop, .ref mye, .ref mno, .ref mnu, .ref msz, .int (nI stk), .ref mre, .ref mce, .ref mco, .ref xc, .ref xa, .ref xm, .ref xv, .int (nI cnt), .int stp, .int (nI 0)])), (mre, .inl (cI, 16, .inl (upd w i v)))] H := hP
  have hD : va_D A [(mo, .inr (5, [.ref mop, .ref mye, .ref mno, .ref mnu, .ref msz, .int (nI stk), .ref mre, .ref mce, .ref mco, .ref xc, .ref xa, .ref xm, .ref xv, .int (nI cnt), .int stp, .int (nI 0)])), (mre, .inl (cI, 16, .inl (upd w i v)))] := hD
  refine lv_iload_n hx hb d_Mo_set_31 rfl (lv_at hl 0 rfl) ?_
  exact fs_iret hx hb hr hlocks hAe hK hS d_Mo_set_32 () (rfl) hP hD

set_option maxHeartbeats 4000000 in
set_option maxRecDepth 100000 in
theorem c_Mo_setX (mo mop mye mno mnu msz stk mre mce mco xc xa xm xv cnt : Nat) (stp thr : Int32) (i v : Int32) (sz : Nat) (hi : ∀ t, t < 16 → i ≠ nI t) : fs_I l y_Mo_set (k_Mo_set :: fs_T) { frames := 1, cells := 0, slots := 0, locals := 22 } (dC, dI) vwCl (fs_tys cI cZ cJ cF) [.ref mo, .int i, .int v] [(mo, .inr (5, [.ref mop, .ref mye, .ref mno, .ref mnu, .ref msz, .int (nI stk), .ref mre, .ref mce, .ref mco, .ref xc, .ref xa, .ref xm, .ref xv, .int (nI cnt), .int stp, .int thr]))] sz (S := Unit) (fun r _ => r = nI 0) (fun _ => [(mo, .inr (5, [.ref mop, .ref mye, .ref mno, .ref mnu, .ref msz, .int (nI stk), .ref mre, .ref mce, .ref mco, .ref xc, .ref xa, .ref xm, .ref xv, .int (nI cnt), .int stp, .int (nI 0)]))]) 0 0 := by
  refine fs_head (by decide) (Nat.le_of_ble_eq_true rfl) ?_
  intro p e s m below meth c A ls hx hb hr hts hown hlocks hin hml hK hP hD hS hA hAe hsz hl
  have hl : lv_has ls 4 [(0, .ref mo), (1, .int i), (2, .int v)] := hl
  have hown : s.vm.findClass R_Mo = some m.cls := hown
  refine lv_aload_n hx hb d_Mo_set_0 rfl (lv_at hl 0 rfl) ?_
  refine lv_iconst (v := nI 0) hx hb d_Mo_set_1 (by decide) ?_
  refine va_put (D := (dC, dI)) (ci := 5) (v := .int (nI 0)) (ty := (.int)) (C := R_Mo) (T := T_Mo) (N := 16) hx hb hts uin_Mo t_Mo ok_Mo n_Mo hown hK hP hD hS 0 rfl rfl 15 (by decide) (hts _ wi_445) (fun _ h9 => h9) rfl (by decide +kernel) rfl rfl (Nat.le_of_ble_eq_true rfl) d_Mo_set_2 (fun H locs hP hD hS => ?_)
  have hP : va_P (dC, dI) vwCl [(mo, .inr (5, [.ref mop, .ref mye, .ref mno, .ref mnu, .ref msz, .int (nI stk), .ref mre, .ref mce, .ref mco, .ref xc, .ref xa, .ref xm, .ref xv, .int (nI cnt), .int stp, .int (nI 0)]))] H := hP
  have hD : va_D A [(mo, .inr (5, [.ref mop, .ref mye, .ref mno, .ref mnu, .ref msz, .int (nI stk), .ref mre, .ref mce, .ref mco, .ref xc, .ref xa, .ref xm, .ref xv, .int (nI cnt), .int stp, .int (nI 0)]))] := hD
  refine lv_iload_n hx hb d_Mo_set_5 rfl (lv_at hl 1 rfl) ?_
  refine lv_iconst (v := nI 0) hx hb d_Mo_set_6 (by decide) ?_
  refine lv_bipush (v := nI 15) hx hb d_Mo_set_7 (by decide) ?_
  refine fs_calli (wc := []) (wr := [(mo, .inr (5, [.ref mop, .ref mye, .ref mno, .ref mnu, .ref msz, .int (nI stk), .ref mre, .ref mce, .ref mco, .ref xc, .ref xa, .ref xm, .ref xv, .int (nI cnt), .int stp, .int (nI 0)]))]) [] [0] hP hD hK hS hA rfl rfl rfl (by decide) (fun hPc hDc => va_runS (As := [.int i, .int (nI 0), .int (nI 15)]) (rest := []) ⟨hx, hb, hml, hown, hts⟩ (c_Mo_within i (nI 0) (nI 15) (i.toInt) (((0 : Nat) : Int)) (((15 : Nat) : Int)) _ (rfl) (nI_toInt (by omega)) (nI_toInt (by omega))) (⟨callB_of 3 hts (fs_g kin_Mo_within) rfl rfl rfl (hts _ wi_6) (hts _ wi_488) (by decide +kernel) ⟨Nat.le_of_ble_eq_true rfl, Nat.le_of_ble_eq_true rfl⟩, hts _ wi_489⟩) (fs_preS hPc hK hDc) rfl rfl hl.1 rfl (lv_room (Nat.le_of_ble_eq_true rfl)) d_Mo_set_9 ⟨Nat.le_of_ble_eq_true rfl, Nat.le_of_ble_eq_true rfl⟩) rfl (fun r9 _ H locs hp9 hP hD hS => ?_)
  have hP : va_P (dC, dI) vwCl [(mo, .inr (5, [.ref mop, .ref mye, .ref mno, .ref mnu, .ref msz, .int (nI stk), .ref mre, .ref mce, .ref mco, .ref xc, .ref xa, .ref xm, .ref xv, .int (nI cnt), .int stp, .int (nI 0)]))] H := hP
  have hD : va_D A [(mo, .inr (5, [.ref mop, .ref mye, .ref mno, .ref mnu, .ref msz, .int (nI stk), .ref mre, .ref mce, .ref mco, .ref xc, .ref xa, .ref xm, .ref xv, .int (nI cnt), .int stp, .int (nI 0)]))] := hD
  rcases hp9 with ⟨hc9, _⟩ | ⟨hc9, rfl⟩
  · obtain ⟨t, ht, e⟩ := fs_of (x := i) (n := 16) (by decide) (by omega) (by omega)
    exact absurd e (hi t ht)
  refine lv_if_ne (tgt := 17) hx hb d_Mo_set_12 (by decide) (fun hc => absurd (by decide) hc) (fun _ => ?_)
  refine lv_iconst (v := nI 0) hx hb d_Mo_set_15 (by decide) ?_
  exact fs_iret hx hb hr hlocks hAe hK hS d_Mo_set_16 () (rfl) hP hD

theorem d_Mo_steps_0 : decode b_Mo_steps 0 = .ok (.aload_n 0, 1) := by decide +kernel
theorem d_Mo_steps_1 : decode b_Mo_steps 1 = .ok (.iconst 0, 1) := by decide +kernel
theorem d_Mo_steps_2 : decode b_Mo_steps 2 = .ok (.putfield 47, 3) := by decide +kernel
theorem d_Mo_steps_5 : decode b_Mo_steps 5 = .ok (.aload_n 0, 1) := by decide +kernel
theorem d_Mo_steps_6 : decode b_Mo_steps 6 = .ok (.getfield 79, 3) := by decide +kernel
theorem d_Mo_steps_9 : decode b_Mo_steps 9 = .ok (.ireturn, 1) := by decide +kernel
set_option maxHeartbeats 4000000 in
set_option maxRecDepth 100000 in
theorem c_Mo_steps (mo mop mye mno mnu msz stk mre mce mco xc xa xm xv cnt : Nat) (stp thr : Int32) (sz : Nat)  : fs_I l y_Mo_steps (k_Mo_steps :: fs_T) { frames := 0, cells := 0, slots := 0, locals := 0 } (dC, dI) vwCl (fs_tys cI cZ cJ cF) [.ref mo] [(mo, .inr (5, [.ref mop, .ref mye, .ref mno, .ref mnu, .ref msz, .int (nI stk), .ref mre, .ref mce, .ref mco, .ref xc, .ref xa, .ref xm, .ref xv, .int (nI cnt), .int stp, .int thr]))] sz (S := Unit) (fun r _ => r = stp) (fun _ => [(mo, .inr (5, [.ref mop, .ref mye, .ref mno, .ref mnu, .ref msz, .int (nI stk), .ref mre, .ref mce, .ref mco, .ref xc, .ref xa, .ref xm, .ref xv, .int (nI cnt), .int stp, .int (nI 0)]))]) 0 0 := by
  refine fs_head (by decide) (Nat.le_of_ble_eq_true rfl) ?_
  intro p e s m below meth c A ls hx hb hr hts hown hlocks hin hml hK hP hD hS hA hAe hsz hl
  have hl : lv_has ls 1 [(0, .ref mo)] := hl
  have hown : s.vm.findClass R_Mo = some m.cls := hown
  refine lv_aload_n hx hb d_Mo_steps_0 rfl (lv_at hl 0 rfl) ?_
  refine lv_iconst (v := nI 0) hx hb d_Mo_steps_1 (by decide) ?_
  refine va_put (D := (dC, dI)) (ci := 5) (v := .int (nI 0)) (ty := (.int)) (C := R_Mo) (T := T_Mo) (N := 16) hx hb hts uin_Mo t_Mo ok_Mo n_Mo hown hK hP hD hS 0 rfl rfl 15 (by decide) (hts _ wi_445) (fun _ h9 => h9) rfl (by decide +kernel) rfl rfl (Nat.le_of_ble_eq_true rfl) d_Mo_steps_2 (fun H locs hP hD hS => ?_)
  have hP : va_P (dC, dI) vwCl [(mo, .inr (5, [.ref mop, .ref mye, .ref mno, .ref mnu, .ref msz, .int (nI stk), .ref mre, .ref mce, .ref mco, .ref xc, .ref xa, .ref xm, .ref xv, .int (nI cnt), .int stp, .int (nI 0)]))] H := hP
  have hD : va_D A [(mo, .inr (5, [.ref mop, .ref mye, .ref mno, .ref mnu, .ref msz, .int (nI stk), .ref mre, .ref mce, .ref mco, .ref xc, .ref xa, .ref xm, .ref xv, .int (nI cnt), .int stp, .int (nI 0)]))] := hD
  refine lv_aload_n hx hb d_Mo_steps_5 rfl (lv_at hl 0 rfl) ?_
  refine va_get (D := (dC, dI)) (ci := 5) (v := .int stp) (C := R_Mo) (T := T_Mo) (N := 16) hx hb hts uin_Mo hown hK hP 0 rfl rfl 14 (by decide) (hts _ wi_444) (fun _ h9 => h9) rfl d_Mo_steps_6 ?_
  exact fs_iret hx hb hr hlocks hAe hK hS d_Mo_steps_9 () (rfl) hP hD

theorem d_Mo_rule_0 : decode b_Mo_rule 0 = .ok (.aload_n 0, 1) := by decide +kernel
theorem d_Mo_rule_1 : decode b_Mo_rule 1 = .ok (.iconst 0, 1) := by decide +kernel
theorem d_Mo_rule_2 : decode b_Mo_rule 2 = .ok (.putfield 47, 3) := by decide +kernel
theorem d_Mo_rule_5 : decode b_Mo_rule 5 = .ok (.iload_n 2, 1) := by decide +kernel
theorem d_Mo_rule_6 : decode b_Mo_rule 6 = .ok (.iconst (-1), 1) := by decide +kernel
theorem d_Mo_rule_7 : decode b_Mo_rule 7 = .ok (.bipush 11, 2) := by decide +kernel
theorem d_Mo_rule_9 : decode b_Mo_rule 9 = .ok (.invokestatic 51, 3) := by decide +kernel
theorem d_Mo_rule_12 : decode b_Mo_rule 12 = .ok (.ifCond .ne 5, 3) := by decide +kernel
theorem d_Mo_rule_15 : decode b_Mo_rule 15 = .ok (.iconst (-1), 1) := by decide +kernel
theorem d_Mo_rule_16 : decode b_Mo_rule 16 = .ok (.ireturn, 1) := by decide +kernel
theorem d_Mo_rule_17 : decode b_Mo_rule 17 = .ok (.aload_n 0, 1) := by decide +kernel
theorem d_Mo_rule_18 : decode b_Mo_rule 18 = .ok (.getfield 93, 3) := by decide +kernel
theorem d_Mo_rule_21 : decode b_Mo_rule 21 = .ok (.bipush 8, 2) := by decide +kernel
theorem d_Mo_rule_23 : decode b_Mo_rule 23 = .ok (.if_icmp .ne 6, 3) := by decide +kernel
theorem d_Mo_rule_26 : decode b_Mo_rule 26 = .ok (.bipush (-2), 2) := by decide +kernel
theorem d_Mo_rule_28 : decode b_Mo_rule 28 = .ok (.ireturn, 1) := by decide +kernel
theorem d_Mo_rule_29 : decode b_Mo_rule 29 = .ok (.aload_n 0, 1) := by decide +kernel
theorem d_Mo_rule_30 : decode b_Mo_rule 30 = .ok (.getfield 35, 3) := by decide +kernel
theorem d_Mo_rule_33 : decode b_Mo_rule 33 = .ok (.aload_n 0, 1) := by decide +kernel
theorem d_Mo_rule_34 : decode b_Mo_rule 34 = .ok (.getfield 93, 3) := by decide +kernel
theorem d_Mo_rule_37 : decode b_Mo_rule 37 = .ok (.iload_n 1, 1) := by decide +kernel
theorem d_Mo_rule_38 : decode b_Mo_rule 38 = .ok (.iastore, 1) := by decide +kernel
theorem d_Mo_rule_39 : decode b_Mo_rule 39 = .ok (.aload_n 0, 1) := by decide +kernel
theorem d_Mo_rule_40 : decode b_Mo_rule 40 = .ok (.getfield 38, 3) := by decide +kernel
theorem d_Mo_rule_43 : decode b_Mo_rule 43 = .ok (.aload_n 0, 1) := by decide +kernel
theorem d_Mo_rule_44 : decode b_Mo_rule 44 = .ok (.getfield 93, 3) := by decide +kernel
theorem d_Mo_rule_47 : decode b_Mo_rule 47 = .ok (.iload_n 2, 1) := by decide +kernel
theorem d_Mo_rule_48 : decode b_Mo_rule 48 = .ok (.iastore, 1) := by decide +kernel
theorem d_Mo_rule_49 : decode b_Mo_rule 49 = .ok (.aload_n 0, 1) := by decide +kernel
theorem d_Mo_rule_50 : decode b_Mo_rule 50 = .ok (.getfield 41, 3) := by decide +kernel
theorem d_Mo_rule_53 : decode b_Mo_rule 53 = .ok (.aload_n 0, 1) := by decide +kernel
theorem d_Mo_rule_54 : decode b_Mo_rule 54 = .ok (.getfield 93, 3) := by decide +kernel
theorem d_Mo_rule_57 : decode b_Mo_rule 57 = .ok (.iload_n 3, 1) := by decide +kernel
theorem d_Mo_rule_58 : decode b_Mo_rule 58 = .ok (.iastore, 1) := by decide +kernel
theorem d_Mo_rule_59 : decode b_Mo_rule 59 = .ok (.aload_n 0, 1) := by decide +kernel
theorem d_Mo_rule_60 : decode b_Mo_rule 60 = .ok (.getfield 44, 3) := by decide +kernel
theorem d_Mo_rule_63 : decode b_Mo_rule 63 = .ok (.aload_n 0, 1) := by decide +kernel
theorem d_Mo_rule_64 : decode b_Mo_rule 64 = .ok (.getfield 93, 3) := by decide +kernel
theorem d_Mo_rule_67 : decode b_Mo_rule 67 = .ok (.iload 4, 2) := by decide +kernel
theorem d_Mo_rule_69 : decode b_Mo_rule 69 = .ok (.iastore, 1) := by decide +kernel
theorem d_Mo_rule_70 : decode b_Mo_rule 70 = .ok (.aload_n 0, 1) := by decide +kernel
theorem d_Mo_rule_71 : decode b_Mo_rule 71 = .ok (.dup, 1) := by decide +kernel
theorem d_Mo_rule_72 : decode b_Mo_rule 72 = .ok (.getfield 93, 3) := by decide +kernel
theorem d_Mo_rule_75 : decode b_Mo_rule 75 = .ok (.iconst 1, 1) := by decide +kernel
theorem d_Mo_rule_76 : decode b_Mo_rule 76 = .ok (.iadd, 1) := by decide +kernel
theorem d_Mo_rule_77 : decode b_Mo_rule 77 = .ok (.putfield 93, 3) := by decide +kernel
theorem d_Mo_rule_80 : decode b_Mo_rule 80 = .ok (.aload_n 0, 1) := by decide +kernel
theorem d_Mo_rule_81 : decode b_Mo_rule 81 = .ok (.getfield 93, 3) := by decide +kernel
theorem d_Mo_rule_84 : decode b_Mo_rule 84 = .ok (.ireturn, 1) := by decide +kernel
set_option maxHeartbeats 4000000 in
set_option maxRecDepth 100000 in
theorem c_Mo_rule (mo mop mye mno mnu msz stk mre mce mco xc xa xm xv cnt : Nat) (stp thr : Int32) (gc ga gm gv : Nat → Int32) (v1 v2 v3 v4 : Int32) (sz : Nat) (harg : -1 ≤ v2.toInt ∧ v2.toInt < 12) (hcnt : cnt < 8) : fs_I l y_Mo_rule (k_Mo_rule :: fs_T) { frames := 1, cells := 0, slots := 0, locals := 22 } (dC, dI) vwCl (fs_tys cI cZ cJ cF) [.ref mo, .int v1, .int v2, .int v3, .int v4] [(mo, .inr (5, [.ref mop, .ref mye, .ref mno, .ref mnu, .ref msz, .int (nI stk), .ref mre, .ref mce, .ref mco, .ref xc, .ref xa, .ref xm, .ref xv, .int (nI cnt), .int stp, .int thr])), (xc, .inl (cI, 8, .inl gc)), (xa, .inl (cI, 8, .inl ga)), (xm, .inl (cI, 8, .inl gm)), (xv, .inl (cI, 8, .inl gv))] sz (S := Unit) (fun r _ => r = nI (cnt + 1)) (fun _ => [(mo, .inr (5, [.ref mop, .ref mye, .ref mno, .ref mnu, .ref msz, .int (nI stk), .ref mre, .ref mce, .ref mco, .ref xc, .ref xa, .ref xm, .ref xv, .int (nI (cnt + 1)), .int stp, .int (nI 0)])), (xc, .inl (cI, 8, .inl (upd gc cnt v1))), (xa, .inl (cI, 8, .inl (upd ga cnt v2))), (xm, .inl (cI, 8, .inl (upd gm cnt v3))), (xv, .inl (cI, 8, .inl (upd gv cnt v4)))]) 0 0 := by
  refine fs_head (by decide) (Nat.le_of_ble_eq_true rfl) ?_
  intro p e s m below meth c A ls hx hb hr hts hown hlocks hin hml hK hP hD hS hA hAe hsz hl
  have hl : lv_has ls 5 [(0, .ref mo), (1, .int v1), (2, .int v2), (3, .int v3), (4, .int v4)] := hl
  have hown : s.vm.findClass R_Mo = some m.cls := hown
  refine lv_aload_n hx hb d_Mo_rule_0 rfl (lv_at hl 0 rfl) ?_
  refine lv_iconst (v := nI 0) hx hb d_Mo_rule_1 (by decide) ?_
  refine va_put (D := (dC, dI)) (ci := 5) (v := .int (nI 0)) (ty := (.int)) (C := R_Mo) (T := T_Mo) (N := 16) hx hb hts uin_Mo t_Mo ok_Mo n_Mo hown hK hP hD hS 0 rfl rfl 15 (by decide) (hts _ wi_445) (fun _ h9 => h9) rfl (by decide +kernel) rfl rfl (Nat.le_of_ble_eq_true rfl) d_Mo_rule_2 (fun H locs hP hD hS => ?_)
  have hP : va_P (dC, dI) vwCl [(mo, .inr (5, [.ref mop, .ref mye, .ref mno, .ref mnu, .ref msz, .int (nI stk), .ref mre, .ref mce, .ref mco, .ref xc, .ref xa, .ref xm, .ref xv, .int (nI cnt), .int stp, .int (nI 0)])), (xc, .inl (cI, 8, .inl gc)), (xa, .inl (cI, 8, .inl ga)), (xm, .inl (cI, 8, .inl gm)), (xv, .inl (cI, 8, .inl gv))] H := hP
  have hD : va_D A [(mo, .inr (5, [.ref mop, .ref mye, .ref mno, .ref mnu, .ref msz, .int (nI stk), .ref mre, .ref mce, .ref mco, .ref xc, .ref xa, .ref xm, .ref xv, .int (nI cnt), .int stp, .int (nI 0)])), (xc, .inl (cI, 8, .inl gc)), (xa, .inl (cI, 8, .inl ga)), (xm, .inl (cI, 8, .inl gm)), (xv, .inl (cI, 8, .inl gv))] := hD
  refine lv_iload_n hx hb d_Mo_rule_5 rfl (lv_at hl 2 rfl) ?_
  refine lv_iconst (v := (-1)) hx hb d_Mo_rule_6 (by decide) ?_
  refine lv_bipush (v := nI 11) hx hb d_Mo_rule_7 (by decide) ?_
  refine fs_calli (wc := []) (wr := [(mo, .inr (5, [.ref mop, .ref mye, .ref mno, .ref mnu, .ref msz, .int (nI stk), .ref mre, .ref mce, .ref mco, .ref xc, .ref xa, .ref xm, .ref xv, .int (nI cnt), .int stp, .int (nI 0)])), (xc, .inl (cI, 8, .inl gc)), (xa, .inl (cI, 8, .inl ga)), (xm, .inl (cI, 8, .inl gm)), (xv, .inl (cI, 8, .inl gv))]) [] [0, 1, 2, 3, 4] hP hD hK hS hA rfl rfl rfl (by decide) (fun hPc hDc => va_runS (As := [.int v2, .int ((-1)), .int (nI 11)]) (rest := []) ⟨hx, hb, hml, hown, hts⟩ (c_Mo_within v2 ((-1)) (nI 11) (v2.toInt) (-1) (((11 : Nat) : Int)) _ (rfl) (by decide) (nI_toInt (by omega))) (⟨callB_of 3 hts (fs_g kin_Mo_within) rfl rfl rfl (hts _ wi_6) (hts _ wi_488) (by decide +kernel) ⟨Nat.le_of_ble_eq_true rfl, Nat.le_of_ble_eq_true rfl⟩, hts _ wi_489⟩) (fs_preS hPc hK hDc) rfl rfl hl.1 rfl (lv_room (Nat.le_of_ble_eq_true rfl)) d_Mo_rule_9 ⟨Nat.le_of_ble_eq_true rfl, Nat.le_of_ble_eq_true rfl⟩) rfl (fun r9 _ H locs hp9 hP hD hS => ?_)
  have hP : va_P (dC, dI) vwCl [(mo, .inr (5, [.ref mop, .ref mye, .ref mno, .ref mnu, .ref msz, .int (nI stk), .ref mre, .ref mce, .ref mco, .ref xc, .ref xa, .ref xm, .ref xv, .int (nI cnt), .int stp, .int (nI 0)])), (xc, .inl (cI, 8, .inl gc)), (xa, .inl (cI, 8, .inl ga)), (xm, .inl (cI, 8, .inl gm)), (xv, .inl (cI, 8, .inl gv))] H := hP
  have hD : va_D A [(mo, .inr (5, [.ref mop, .ref mye, .ref mno, .ref mnu, .ref msz, .int (nI stk), .ref mre, .ref mce, .ref mco, .ref xc, .ref xa, .ref xm, .ref xv, .int (nI cnt), .int stp, .int (nI 0)])), (xc, .inl (cI, 8, .inl gc)), (xa, .inl (cI, 8, .inl ga)), (xm, .inl (cI, 8, .inl gm)), (xv, .inl (cI, 8, .inl gv))] := hD
  rcases hp9 with ⟨hc9, rfl⟩ | ⟨hc9, _⟩
  rotate_left
  · exact absurd (by omega) hc9
  refine lv_if_ne (tgt := 17) hx hb d_Mo_rule_12 (by decide) (fun _ => ?_) (fun hc => absurd hc (by decide))
  refine lv_aload_n hx hb d_Mo_rule_17 rfl (lv_at hl 0 rfl) ?_
  refine va_get (D := (dC, dI)) (ci := 5) (v := .int (nI cnt)) (C := R_Mo) (T := T_Mo) (N := 16) hx hb hts uin_Mo hown hK hP 0 rfl rfl 13 (by decide) (hts _ wi_443) (fun _ h9 => h9) rfl d_Mo_rule_18 ?_
  refine lv_bipush (v := nI 8) hx hb d_Mo_rule_21 (by decide) ?_
  refine lv_icmp_ne (tgt := 29) hx hb d_Mo_rule_23 (by decide) (fun hc23 => ?_) (fun hc23 => absurd hc23 (by rw [nI_eq (by omega) (by omega)]; omega))
  rw [nI_eq (by omega) (by omega)] at hc23
  refine lv_aload_n hx hb d_Mo_rule_29 rfl (lv_at hl 0 rfl) ?_
  refine va_get (D := (dC, dI)) (ci := 5) (v := .ref xc) (C := R_Mo) (T := T_Mo) (N := 16) hx hb hts uin_Mo hown hK hP 0 rfl rfl 9 (by decide) (hts _ wi_439) (fun _ h9 => h9) rfl d_Mo_rule_30 ?_
  refine lv_aload_n hx hb d_Mo_rule_33 rfl (lv_at hl 0 rfl) ?_
  refine va_get (D := (dC, dI)) (ci := 5) (v := .int (nI cnt)) (C := R_Mo) (T := T_Mo) (N := 16) hx hb hts uin_Mo hown hK hP 0 rfl rfl 13 (by decide) (hts _ wi_443) (fun _ h9 => h9) rfl d_Mo_rule_34 ?_
  refine lv_iload_n hx hb d_Mo_rule_37 rfl (lv_at hl 1 rfl) ?_
  refine fs_iast hx hb hK hP hD hS 1 0 rfl rfl cnt rfl (by decide) (by omega) d_Mo_rule_38 (fun H locs hP hD hS => ?_)
  have hP : va_P (dC, dI) vwCl [(mo, .inr (5, [.ref mop, .ref mye, .ref mno, .ref mnu, .ref msz, .int (nI stk), .ref mre, .ref mce, .ref mco, .ref xc, .ref xa, .ref xm, .ref xv, .int (nI cnt), .int stp, .int (nI 0)])), (xc, .inl (cI, 8, .inl (upd gc cnt v1))), (xa, .inl (cI, 8, .inl ga)), (xm, .inl (cI, 8, .inl gm)), (xv, .inl (cI, 8, .inl gv))] H := hP
  have hD : va_D A [(mo, .inr (5, [.ref mop, .ref mye, .ref mno, .ref mnu, .ref msz, .int (nI stk), .ref mre, .ref mce, .ref mco, .ref xc, .ref xa, .ref xm, .ref xv, .int (nI cnt), .int stp, .int (nI 0)])), (xc, .inl (cI, 8, .inl (upd gc cnt v1))), (xa, .inl (cI, 8, .inl ga)), (xm, .inl (cI, 8, .inl gm)), (xv, .inl (cI, 8, .inl gv))] := hD
  refine lv_aload_n hx hb d_Mo_rule_39 rfl (lv_at hl 0 rfl) ?_
  refine va_get (D := (dC, dI)) (ci := 5) (v := .ref xa) (C := R_Mo) (T := T_Mo) (N := 16) hx hb hts uin_Mo hown hK hP 0 rfl rfl 10 (by decide) (hts _ wi_440) (fun _ h9 => h9) rfl d_Mo_rule_40 ?_
  refine lv_aload_n hx hb d_Mo_rule_43 rfl (lv_at hl 0 rfl) ?_
  refine va_get (D := (dC, dI)) (ci := 5) (v := .int (nI cnt)) (C := R_Mo) (T := T_Mo) (N := 16) hx hb hts uin_Mo hown hK hP 0 rfl rfl 13 (by decide) (hts _ wi_443) (fun _ h9 => h9) rfl d_Mo_rule_44 ?_
  refine lv_iload_n hx hb d_Mo_rule_47 rfl (lv_at hl 2 rfl) ?_
  refine fs_iast hx hb hK hP hD hS 2 0 rfl rfl cnt rfl (by decide) (by omega) d_Mo_rule_48 (fun H locs hP hD hS => ?_)
  have hP : va_P (dC, dI) vwCl [(mo, .inr (5, [.ref mop, .ref mye, .ref mno, .ref mnu, .ref msz, .int (nI stk), .ref mre, .ref mce, .ref mco, .ref xc, .ref xa, .ref xm, .ref xv, .int (nI cnt), .int stp, .int (nI 0)])), (xc, .inl (cI, 8, .inl (upd gc cnt v1))), (xa, .inl (cI, 8, .inl (upd ga cnt v2))), (xm, .inl (cI, 8, .inl gm)), (xv, .inl (cI, 8, .inl gv))] H := hP
  have hD : va_D A [(mo, .inr (5, [.ref mop, .ref mye, .ref mno, .ref mnu, .ref msz, .int (nI stk), .ref mre, .ref mce, .ref mco, .ref xc, .ref xa, .ref xm, .ref xv, .int (nI cnt), .int stp, .int (nI 0)])), (xc, .inl (cI, 8, .inl (upd gc cnt v1))), (xa, .inl (cI, 8, .inl (upd ga cnt v2))), (xm, .inl (cI, 8, .inl gm)), (xv, .inl (cI, 8, .inl gv))] := hD
  refine lv_aload_n hx hb d_Mo_rule_49 rfl (lv_at hl 0 rfl) ?_
  refine va_get (D := (dC, dI)) (ci := 5) (v := .ref xm) (C := R_Mo) (T := T_Mo) (N := 16) hx hb hts uin_Mo hown hK hP 0 rfl rfl 11 (by decide) (hts _ wi_441) (fun _ h9 => h9) rfl d_Mo_rule_50 ?_
  refine lv_aload_n hx hb d_Mo_rule_53 rfl (lv_at hl 0 rfl) ?_
  refine va_get (D := (dC, dI)) (ci := 5) (v := .int (nI cnt)) (C := R_Mo) (T := T_Mo) (N := 16) hx hb hts uin_Mo hown hK hP 0 rfl rfl 13 (by decide) (hts _ wi_443) (fun _ h9 => h9) rfl d_Mo_rule_54 ?_
  refine lv_iload_n hx hb d_Mo_rule_57 rfl (lv_at hl 3 rfl) ?_
  refine fs_iast hx hb hK hP hD hS 3 0 rfl rfl cnt rfl (by decide) (by omega) d_Mo_rule_58 (fun H locs hP hD hS => ?_)
  have hP : va_P (dC, dI) vwCl [(mo, .inr (5, [.ref mop, .ref mye, .ref mno, .ref mnu, .ref msz, .int (nI stk), .ref mre, .ref mce, .ref mco, .ref xc, .ref xa, .ref xm, .ref xv, .int (nI cnt), .int stp, .int (nI 0)])), (xc, .inl (cI, 8, .inl (upd gc cnt v1))), (xa, .inl (cI, 8, .inl (upd ga cnt v2))), (xm, .inl (cI, 8, .inl (upd gm cnt v3))), (xv, .inl (cI, 8, .inl gv))] H := hP
  have hD : va_D A [(mo, .inr (5, [.ref mop, .ref mye, .ref mno, .ref mnu, .ref msz, .int (nI stk), .ref mre, .ref mce, .ref mco, .ref xc, .ref xa, .ref xm, .ref xv, .int (nI cnt), .int stp, .int (nI 0)])), (xc, .inl (cI, 8, .inl (upd gc cnt v1))), (xa, .inl (cI, 8, .inl (upd ga cnt v2))), (xm, .inl (cI, 8, .inl (upd gm cnt v3))), (xv, .inl (cI, 8, .inl gv))] := hD
  refine lv_aload_n hx hb d_Mo_rule_59 rfl (lv_at hl 0 rfl) ?_
  refine va_get (D := (dC, dI)) (ci := 5) (v := .ref xv) (C := R_Mo) (T := T_Mo) (N := 16) hx hb hts uin_Mo hown hK hP 0 rfl rfl 12 (by decide) (hts _ wi_442) (fun _ h9 => h9) rfl d_Mo_rule_60 ?_
  refine lv_aload_n hx hb d_Mo_rule_63 rfl (lv_at hl 0 rfl) ?_
  refine va_get (D := (dC, dI)) (ci := 5) (v := .int (nI cnt)) (C := R_Mo) (T := T_Mo) (N := 16) hx hb hts uin_Mo hown hK hP 0 rfl rfl 13 (by decide) (hts _ wi_443) (fun _ h9 => h9) rfl d_Mo_rule_64 ?_
  refine lv_iload hx hb d_Mo_rule_67 (lv_at hl 4 rfl) ?_
  refine fs_iast hx hb hK hP hD hS 4 0 rfl rfl cnt rfl (by decide) (by omega) d_Mo_rule_69 (fun H locs hP hD hS => ?_)
  have hP : va_P (dC, dI) vwCl [(mo, .inr (5, [.ref mop, .ref mye, .ref mno, .ref mnu, .ref msz, .int (nI stk), .ref mre, .ref mce, .ref mco, .ref xc, .ref xa, .ref xm, .ref xv, .int (nI cnt), .int stp, .int (nI 0)])), (xc, .inl (cI, 8, .inl (upd gc cnt v1))), (xa, .inl (cI, 8, .inl (upd ga cnt v2))), (xm, .inl (cI, 8, .inl (upd gm cnt v3))), (xv, .inl (cI, 8, .inl (upd gv cnt v4)))] H := hP
  have hD : va_D A [(mo, .inr (5, [.ref mop, .ref mye, .ref mno, .ref mnu, .ref msz, .int (nI stk), .ref mre, .ref mce, .ref mco, .ref xc, .ref xa, .ref xm, .ref xv, .int (nI cnt), .int stp, .int (nI 0)])), (xc, .inl (cI, 8, .inl (upd gc cnt v1))), (xa, .inl (cI, 8, .inl (upd ga cnt v2))), (xm, .inl (cI, 8, .inl (upd gm cnt v3))), (xv, .inl (cI, 8, .inl (upd gv cnt v4)))] := hD
  refine lv_aload_n hx hb d_Mo_rule_70 rfl (lv_at hl 0 rfl) ?_
  refine lv_dup hx hb d_Mo_rule_71 rfl ?_
  refine va_get (D := (dC, dI)) (ci := 5) (v := .int (nI cnt)) (C := R_Mo) (T := T_Mo) (N := 16) hx hb hts uin_Mo hown hK hP 0 rfl rfl 13 (by decide) (hts _ wi_443) (fun _ h9 => h9) rfl d_Mo_rule_72 ?_
  refine lv_iconst (v := nI 1) hx hb d_Mo_rule_75 (by decide) ?_
  refine lv_iadd hx hb d_Mo_rule_76 ?_
  refine fs_eqi (nI_add _ _) ?_
  refine va_put (D := (dC, dI)) (ci := 5) (v := .int (nI (cnt + 1))) (ty := (.int)) (C := R_Mo) (T := T_Mo) (N := 16) hx hb hts uin_Mo t_Mo ok_Mo n_Mo hown hK hP hD hS 0 rfl rfl 13 (by decide) (hts _ wi_443) (fun _ h9 => h9) rfl (by decide +kernel) rfl rfl (Nat.le_of_ble_eq_true rfl) d_Mo_rule_77 (fun H locs hP hD hS => ?_)
  have hP : va_P (dC, dI) vwCl [(mo, .inr (5, [.ref mop, .ref mye, .ref mno, .ref mnu, .ref msz, .int (nI stk), .ref mre, .ref mce, .ref mco, .ref xc, .ref xa, .ref xm, .ref xv, .int (nI (cnt + 1)), .int stp, .int (nI 0)])), (xc, .inl (cI, 8, .inl (upd gc cnt v1))), (xa, .inl (cI, 8, .inl (upd ga cnt v2))), (xm, .inl (cI, 8, .inl (upd gm cnt v3))), (xv, .inl (cI, 8, .inl (upd gv cnt v4)))] H := hP
  have hD : va_D A [(mo, .inr (5, [.ref mop, .ref mye, .ref mno, .ref mnu, .ref msz, .int (nI stk), .ref mre, .ref mce, .ref mco, .ref xc, .ref xa, .ref xm, .ref xv, .int (nI (cnt + 1)), .int stp, .int (nI 0)])), (xc, .inl (cI, 8, .inl (upd gc cnt v1))), (xa, .inl (cI, 8, .inl (upd ga cnt v2))), (xm, .inl (cI, 8, .inl (upd gm cnt v3))), (xv, .inl (cI, 8, .inl (upd gv cnt v4)))] := hD
  refine lv_aload_n hx hb d_Mo_rule_80 rfl (lv_at hl 0 rfl) ?_
  refine va_get (D := (dC, dI)) (ci := 5) (v := .int (nI (cnt + 1))) (C := R_Mo) (T := T_Mo) (N := 16) hx hb hts uin_Mo hown hK hP 0 rfl rfl 13 (by decide) (hts _ wi_443) (fun _ h9 => h9) rfl d_Mo_rule_81 ?_
  exact fs_iret hx hb hr hlocks hAe hK hS d_Mo_rule_84 () (rfl) hP hD

set_option maxHeartbeats 4000000 in
set_option maxRecDepth 100000 in
theorem c_Mo_ruleF (mo mop mye mno mnu msz stk mre mce mco xc xa xm xv : Nat) (stp thr : Int32) (gc ga gm gv : Nat → Int32) (v1 v2 v3 v4 : Int32) (sz : Nat) (harg : -1 ≤ v2.toInt ∧ v2.toInt < 12) : fs_I l y_Mo_rule (k_Mo_rule :: fs_T) { frames := 1, cells := 0, slots := 0, locals := 22 } (dC, dI) vwCl (fs_tys cI cZ cJ cF) [.ref mo, .int v1, .int v2, .int v3, .int v4] [(mo, .inr (5, [.ref mop, .ref mye, .ref mno, .ref mnu, .ref msz, .int (nI stk), .ref mre, .ref mce, .ref mco, .ref xc, .ref xa, .ref xm, .ref xv, .int (nI 8), .int stp, .int thr])), (xc, .inl (cI, 8, .inl gc)), (xa, .inl (cI, 8, .inl ga)), (xm, .inl (cI, 8, .inl gm)), (xv, .inl (cI, 8, .inl gv))] sz (S := Unit) (fun r _ => r = (-2)) (fun _ => [(mo, .inr (5, [.ref mop, .ref mye, .ref mno, .ref mnu, .ref msz, .int (nI stk), .ref mre, .ref mce, .ref mco, .ref xc, .ref xa, .ref xm, .ref xv, .int (nI 8), .int stp, .int (nI 0)])), (xc, .inl (cI, 8, .inl gc)), (xa, .inl (cI, 8, .inl ga)), (xm, .inl (cI, 8, .inl gm)), (xv, .inl (cI, 8, .inl gv))]) 0 0 := by
  refine fs_head (by decide) (Nat.le_of_ble_eq_true rfl) ?_
  intro p e s m below meth c A ls hx hb hr hts hown hlocks hin hml hK hP hD hS hA hAe hsz hl
  have hl : lv_has ls 5 [(0, .ref mo), (1, .int v1), (2, .int v2), (3, .int v3), (4, .int v4)] := hl
  have hown : s.vm.findClass R_Mo = some m.cls := hown
  refine lv_aload_n hx hb d_Mo_rule_0 rfl (lv_at hl 0 rfl) ?_
  refine lv_iconst (v := nI 0) hx hb d_Mo_rule_1 (by decide) ?_
  refine va_put (D := (dC, dI)) (ci := 5) (v := .int (nI 0)) (ty := (.int)) (C := R_Mo) (T := T_Mo) (N := 16) hx hb hts uin_Mo t_Mo ok_Mo n_Mo hown hK hP hD hS 0 rfl rfl 15 (by decide) (hts _ wi_445) (fun _ h9 => h9) rfl (by decide +kernel) rfl rfl (Nat.le_of_ble_eq_true rfl) d_Mo_rule_2 (fun H locs hP hD hS => ?_)
  have hP : va_P (dC, dI) vwCl [(mo, .inr (5, [.ref mop, .ref mye, .ref mno, .ref mnu, .ref msz, .int (nI stk), .ref mre, .ref mce, .ref mco, .ref xc, .ref xa, .ref xm, .ref xv, .int (nI 8), .int stp, .int (nI 0)])), (xc, .inl (cI, 8, .inl gc)), (xa, .inl (cI, 8, .inl ga)), (xm, .inl (cI, 8, .inl gm)), (xv, .inl (cI, 8, .inl gv))] H := hP
  have hD : va_D A [(mo, .inr (5, [.ref mop, .ref mye, .ref mno, .ref mnu, .ref msz, .int (nI stk), .ref mre, .ref mce, .ref mco, .ref xc, .ref xa, .ref xm, .ref xv, .int (nI 8), .int stp, .int (nI 0)])), (xc, .inl (cI, 8, .inl gc)), (xa, .inl (cI, 8, .inl ga)), (xm, .inl (cI, 8, .inl gm)), (xv, .inl (cI, 8, .inl gv))] := hD
  refine lv_iload_n hx hb d_Mo_rule_5 rfl (lv_at hl 2 rfl) ?_
  refine lv_iconst (v := (-1)) hx hb d_Mo_rule_6 (by decide) ?_
  refine lv_bipush (v := nI 11) hx hb d_Mo_rule_7 (by decide) ?_
  refine fs_calli (wc := []) (wr := [(mo, .inr (5, [.ref mop, .ref mye, .ref mno, .ref mnu, .ref msz, .int (nI stk), .ref mre, .ref mce, .ref mco, .ref xc, .ref xa, .ref xm, .ref xv, .int (nI 8), .int stp, .int (nI 0)])), (xc, .inl (cI, 8, .inl gc)), (xa, .inl (cI, 8, .inl ga)), (xm, .inl (cI, 8, .inl gm)), (xv, .inl (cI, 8, .inl gv))]) [] [0, 1, 2, 3, 4] hP hD hK hS hA rfl rfl rfl (by decide) (fun hPc hDc => va_runS (As := [.int v2, .int ((-1)), .int (nI 11)]) (rest := []) ⟨hx, hb, hml, hown, hts⟩ (c_Mo_within v2 ((-1)) (nI 11) (v2.toInt) (-1) (((11 : Nat) : Int)) _ (rfl) (by decide) (nI_toInt (by omega))) (⟨callB_of 3 hts (fs_g kin_Mo_within) rfl rfl rfl (hts _ wi_6) (hts _ wi_488) (by decide +kernel) ⟨Nat.le_of_ble_eq_true rfl, Nat.le_of_ble_eq_true rfl⟩, hts _ wi_489⟩) (fs_preS hPc hK hDc) rfl rfl hl.1 rfl (lv_room (Nat.le_of_ble_eq_true rfl)) d_Mo_rule_9 ⟨Nat.le_of_ble_eq_true rfl, Nat.le_of_ble_eq_true rfl⟩) rfl (fun r9 _ H locs hp9 hP hD hS => ?_)
  have hP : va_P (dC, dI) vwCl [(mo, .inr (5, [.ref mop, .ref mye, .ref mno, .ref mnu, .ref msz, .int (nI stk), .ref mre, .ref mce, .ref mco, .ref xc, .ref xa, .ref xm, .ref xv, .int (nI 8), .int stp, .int (nI 0)])), (xc, .inl (cI, 8, .inl gc)), (xa, .inl (cI, 8, .inl ga)), (xm, .inl (cI, 8, .inl gm)), (xv, .inl (cI, 8, .inl gv))] H := hP
  have hD : va_D A [(mo, .inr (5, [.ref mop, .ref mye, .ref mno, .ref mnu, .ref msz, .int (nI stk), .ref mre, .ref mce, .ref mco, .ref xc, .ref xa, .ref xm, .ref xv, .int (nI 8), .int stp, .int (nI 0)])), (xc, .inl (cI, 8, .inl gc)), (xa, .inl (cI, 8, .inl ga)), (xm, .inl (cI, 8, .inl gm)), (xv, .inl (cI, 8, .inl gv))] := hD
  rcases hp9 with ⟨hc9, rfl⟩ | ⟨hc9, _⟩
  rotate_left
  · exact absurd (by omega) hc9
  refine lv_if_ne (tgt := 17) hx hb d_Mo_rule_12 (by decide) (fun _ => ?_) (fun hc => absurd hc (by decide))
  refine lv_aload_n hx hb d_Mo_rule_17 rfl (lv_at hl 0 rfl) ?_
  refine va_get (D := (dC, dI)) (ci := 5) (v := .int (nI 8)) (C := R_Mo) (T := T_Mo) (N := 16) hx hb hts uin_Mo hown hK hP 0 rfl rfl 13 (by decide) (hts _ wi_443) (fun _ h9 => h9) rfl d_Mo_rule_18 ?_
  refine lv_bipush (v := nI 8) hx hb d_Mo_rule_21 (by decide) ?_
  refine lv_icmp_ne (tgt := 29) hx hb d_Mo_rule_23 (by decide) (fun hc => absurd (by decide) hc) (fun _ => ?_)
  refine lv_bipush (v := (-2)) hx hb d_Mo_rule_26 (by decide) ?_
  exact fs_iret hx hb hr hlocks hAe hK hS d_Mo_rule_28 () (rfl) hP hD

set_option maxHeartbeats 4000000 in
set_option maxRecDepth 100000 in
theorem c_Mo_ruleX (mo mop mye mno mnu msz stk mre mce mco xc xa xm xv cnt : Nat) (stp thr : Int32) (v1 v2 v3 v4 : Int32) (sz : Nat) (harg : ¬ (-1 ≤ v2.toInt ∧ v2.toInt < 12)) : fs_I l y_Mo_rule (k_Mo_rule :: fs_T) { frames := 1, cells := 0, slots := 0, locals := 22 } (dC, dI) vwCl (fs_tys cI cZ cJ cF) [.ref mo, .int v1, .int v2, .int v3, .int v4] [(mo, .inr (5, [.ref mop, .ref mye, .ref mno, .ref mnu, .ref msz, .int (nI stk), .ref mre, .ref mce, .ref mco, .ref xc, .ref xa, .ref xm, .ref xv, .int (nI cnt), .int stp, .int thr]))] sz (S := Unit) (fun r _ => r = (-1)) (fun _ => [(mo, .inr (5, [.ref mop, .ref mye, .ref mno, .ref mnu, .ref msz, .int (nI stk), .ref mre, .ref mce, .ref mco, .ref xc, .ref xa, .ref xm, .ref xv, .int (nI cnt), .int stp, .int (nI 0)]))]) 0 0 := by
  refine fs_head (by decide) (Nat.le_of_ble_eq_true rfl) ?_
  intro p e s m below meth c A ls hx hb hr hts hown hlocks hin hml hK hP hD hS hA hAe hsz hl
  have hl : lv_has ls 5 [(0, .ref mo), (1, .int v1), (2, .int v2), (3, .int v3), (4, .int v4)] := hl
  have hown : s.vm.findClass R_Mo = some m.cls := hown
  refine lv_aload_n hx hb d_Mo_rule_0 rfl (lv_at hl 0 rfl) ?_
  refine lv_iconst (v := nI 0) hx hb d_Mo_rule_1 (by decide) ?_
  refine va_put (D := (dC, dI)) (ci := 5) (v := .int (nI 0)) (ty := (.int)) (C := R_Mo) (T := T_Mo) (N := 16) hx hb hts uin_Mo t_Mo ok_Mo n_Mo hown hK hP hD hS 0 rfl rfl 15 (by decide) (hts _ wi_445) (fun _ h9 => h9) rfl (by decide +kernel) rfl rfl (Nat.le_of_ble_eq_true rfl) d_Mo_rule_2 (fun H locs hP hD hS => ?_)
  have hP : va_P (dC, dI) vwCl [(mo, .inr (5, [.ref mop, .ref mye, .ref mno, .ref mnu, .ref msz, .int (nI stk), .ref mre, .ref mce, .ref mco, .ref xc, .ref xa, .ref xm, .ref xv, .int (nI cnt), .int stp, .int (nI 0)]))] H := hP
  have hD : va_D A [(mo, .inr (5, [.ref mop, .ref mye, .ref mno, .ref mnu, .ref msz, .int (nI stk), .ref mre, .ref mce, .ref mco, .ref xc, .ref xa, .ref xm, .ref xv, .int (nI cnt), .int stp, .int (nI 0)]))] := hD
  refine lv_iload_n hx hb d_Mo_rule_5 rfl (lv_at hl 2 rfl) ?_
  refine lv_iconst (v := (-1)) hx hb d_Mo_rule_6 (by decide) ?_
  refine lv_bipush (v := nI 11) hx hb d_Mo_rule_7 (by decide) ?_
  refine fs_calli (wc := []) (wr := [(mo, .inr (5, [.ref mop, .ref mye, .ref mno, .ref mnu, .ref msz, .int (nI stk), .ref mre, .ref mce, .ref mco, .ref xc, .ref xa, .ref xm, .ref xv, .int (nI cnt), .int stp, .int (nI 0)]))]) [] [0] hP hD hK hS hA rfl rfl rfl (by decide) (fun hPc hDc => va_runS (As := [.int v2, .int ((-1)), .int (nI 11)]) (rest := []) ⟨hx, hb, hml, hown, hts⟩ (c_Mo_within v2 ((-1)) (nI 11) (v2.toInt) (-1) (((11 : Nat) : Int)) _ (rfl) (by decide) (nI_toInt (by omega))) (⟨callB_of 3 hts (fs_g kin_Mo_within) rfl rfl rfl (hts _ wi_6) (hts _ wi_488) (by decide +kernel) ⟨Nat.le_of_ble_eq_true rfl, Nat.le_of_ble_eq_true rfl⟩, hts _ wi_489⟩) (fs_preS hPc hK hDc) rfl rfl hl.1 rfl (lv_room (Nat.le_of_ble_eq_true rfl)) d_Mo_rule_9 ⟨Nat.le_of_ble_eq_true rfl, Nat.le_of_ble_eq_true rfl⟩) rfl (fun r9 _ H locs hp9 hP hD hS => ?_)
  have hP : va_P (dC, dI) vwCl [(mo, .inr (5, [.ref mop, .ref mye, .ref mno, .ref mnu, .ref msz, .int (nI stk), .ref mre, .ref mce, .ref mco, .ref xc, .ref xa, .ref xm, .ref xv, .int (nI cnt), .int stp, .int (nI 0)]))] H := hP
  have hD : va_D A [(mo, .inr (5, [.ref mop, .ref mye, .ref mno, .ref mnu, .ref msz, .int (nI stk), .ref mre, .ref mce, .ref mco, .ref xc, .ref xa, .ref xm, .ref xv, .int (nI cnt), .int stp, .int (nI 0)]))] := hD
  rcases hp9 with ⟨hc9, _⟩ | ⟨hc9, rfl⟩
  · omega
  refine lv_if_ne (tgt := 17) hx hb d_Mo_rule_12 (by decide) (fun hc => absurd (by decide) hc) (fun _ => ?_)
  refine lv_iconst (v := (-1)) hx hb d_Mo_rule_15 (by decide) ?_
  exact fs_iret hx hb hr hlocks hAe hK hS d_Mo_rule_16 () (rfl) hP hD

theorem d_Mo_forget_0 : decode b_Mo_forget 0 = .ok (.aload_n 0, 1) := by decide +kernel
theorem d_Mo_forget_1 : decode b_Mo_forget 1 = .ok (.iconst 0, 1) := by decide +kernel
theorem d_Mo_forget_2 : decode b_Mo_forget 2 = .ok (.putfield 47, 3) := by decide +kernel
theorem d_Mo_forget_5 : decode b_Mo_forget 5 = .ok (.aload_n 0, 1) := by decide +kernel
theorem d_Mo_forget_6 : decode b_Mo_forget 6 = .ok (.getfield 93, 3) := by decide +kernel
theorem d_Mo_forget_9 : decode b_Mo_forget 9 = .ok (.istore_n 1, 1) := by decide +kernel
theorem d_Mo_forget_10 : decode b_Mo_forget 10 = .ok (.aload_n 0, 1) := by decide +kernel
theorem d_Mo_forget_11 : decode b_Mo_forget 11 = .ok (.iconst 0, 1) := by decide +kernel
theorem d_Mo_forget_12 : decode b_Mo_forget 12 = .ok (.putfield 93, 3) := by decide +kernel
theorem d_Mo_forget_15 : decode b_Mo_forget 15 = .ok (.iload_n 1, 1) := by decide +kernel
theorem d_Mo_forget_16 : decode b_Mo_forget 16 = .ok (.ireturn, 1) := by decide +kernel
set_option maxHeartbeats 4000000 in
set_option maxRecDepth 100000 in
theorem c_Mo_forget (mo mop mye mno mnu msz stk mre mce mco xc xa xm xv cnt : Nat) (stp thr : Int32) (sz : Nat)  : fs_I l y_Mo_forget (k_Mo_forget :: fs_T) { frames := 0, cells := 0, slots := 0, locals := 0 } (dC, dI) vwCl (fs_tys cI cZ cJ cF) [.ref mo] [(mo, .inr (5, [.ref mop, .ref mye, .ref mno, .ref mnu, .ref msz, .int (nI stk), .ref mre, .ref mce, .ref mco, .ref xc, .ref xa, .ref xm, .ref xv, .int (nI cnt), .int stp, .int thr]))] sz (S := Unit) (fun r _ => r = nI cnt) (fun _ => [(mo, .inr (5, [.ref mop, .ref mye, .ref mno, .ref mnu, .ref msz, .int (nI stk), .ref mre, .ref mce, .ref mco, .ref xc, .ref xa, .ref xm, .ref xv, .int (nI 0), .int stp, .int (nI 0)]))]) 0 0 := by
  refine fs_head (by decide) (Nat.le_of_ble_eq_true rfl) ?_
  intro p e s m below meth c A ls hx hb hr hts hown hlocks hin hml hK hP hD hS hA hAe hsz hl
  have hl : lv_has ls 2 [(0, .ref mo)] := hl
  have hown : s.vm.findClass R_Mo = some m.cls := hown
  refine lv_aload_n hx hb d_Mo_forget_0 rfl (lv_at hl 0 rfl) ?_
  refine lv_iconst (v := nI 0) hx hb d_Mo_forget_1 (by decide) ?_
  refine va_put (D := (dC, dI)) (ci := 5) (v := .int (nI 0)) (ty := (.int)) (C := R_Mo) (T := T_Mo) (N := 16) hx hb hts uin_Mo t_Mo ok_Mo n_Mo hown hK hP hD hS 0 rfl rfl 15 (by decide) (hts _ wi_445) (fun _ h9 => h9) rfl (by decide +kernel) rfl rfl (Nat.le_of_ble_eq_true rfl) d_Mo_forget_2 (fun H locs hP hD hS => ?_)
  have hP : va_P (dC, dI) vwCl [(mo, .inr (5, [.ref mop, .ref mye, .ref mno, .ref mnu, .ref msz, .int (nI stk), .ref mre, .ref mce, .ref mco, .ref xc, .ref xa, .ref xm, .ref xv, .int (nI cnt), .int stp, .int (nI 0)]))] H := hP
  have hD : va_D A [(mo, .inr (5, [.ref mop, .ref mye, .ref mno, .ref mnu, .ref msz, .int (nI stk), .ref mre, .ref mce, .ref mco, .ref xc, .ref xa, .ref xm, .ref xv, .int (nI cnt), .int stp, .int (nI 0)]))] := hD
  refine lv_aload_n hx hb d_Mo_forget_5 rfl (lv_at hl 0 rfl) ?_
  refine va_get (D := (dC, dI)) (ci := 5) (v := .int (nI cnt)) (C := R_Mo) (T := T_Mo) (N := 16) hx hb hts uin_Mo hown hK hP 0 rfl rfl 13 (by decide) (hts _ wi_443) (fun _ h9 => h9) rfl d_Mo_forget_6 ?_
  refine lv_istore_n hx hb d_Mo_forget_9 rfl hl (by decide) (lv' := [(1, .int (nI cnt)), (0, .ref mo)]) rfl (fun ls hl => ?_)
  refine lv_aload_n hx hb d_Mo_forget_10 rfl (lv_at hl 1 rfl) ?_
  refine lv_iconst (v := nI 0) hx hb d_Mo_forget_11 (by decide) ?_
  refine va_put (D := (dC, dI)) (ci := 5) (v := .int (nI 0)) (ty := (.int)) (C := R_Mo) (T := T_Mo) (N := 16) hx hb hts uin_Mo t_Mo ok_Mo n_Mo hown hK hP hD hS 0 rfl rfl 13 (by decide) (hts _ wi_443) (fun _ h9 => h9) rfl (by decide +kernel) rfl rfl (Nat.le_of_ble_eq_true rfl) d_Mo_forget_12 (fun H locs hP hD hS => ?_)
  have hP : va_P (dC, dI) vwCl [(mo, .inr (5, [.ref mop, .ref mye, .ref mno, .ref mnu, .ref msz, .int (nI stk), .ref mre, .ref mce, .ref mco, .ref xc, .ref xa, .ref xm, .ref xv, .int (nI 0), .int stp, .int (nI 0)]))] H := hP
  have hD : va_D A [(mo, .inr (5, [.ref mop, .ref mye, .ref mno, .ref mnu, .ref msz, .int (nI stk), .ref mre, .ref mce, .ref mco, .ref xc, .ref xa, .ref xm, .ref xv, .int (nI 0), .int stp, .int (nI 0)]))] := hD
  refine lv_iload_n hx hb d_Mo_forget_15 rfl (lv_at hl 0 rfl) ?_
  exact fs_iret hx hb hr hlocks hAe hK hS d_Mo_forget_16 () (rfl) hP hD

theorem d_Mo_plain_0 : decode b_Mo_plain 0 = .ok (.iload_n 0, 1) := by decide +kernel
theorem d_Mo_plain_1 : decode b_Mo_plain 1 = .ok (.i2l, 1) := by decide +kernel
theorem d_Mo_plain_2 : decode b_Mo_plain 2 = .ok (.ldc2_w 73, 3) := by decide +kernel
theorem d_Mo_plain_5 : decode b_Mo_plain 5 = .ok (.land, 1) := by decide +kernel
theorem d_Mo_plain_6 : decode b_Mo_plain 6 = .ok (.lreturn, 1) := by decide +kernel
set_option maxHeartbeats 4000000 in
set_option maxRecDepth 100000 in
theorem c_Mo_plain (x : Int32) (sz : Nat)  : fs_L l y_Mo_plain (k_Mo_plain :: fs_T) { frames := 0, cells := 0, slots := 0, locals := 0 } (dC, dI) vwCl (fs_tys cI cZ cJ cF) [.int x] [] sz (S := Unit) (fun r _ => r = fx_pl x) (fun _ => []) 0 0 := by
  refine fs_head (by decide) (Nat.le_of_ble_eq_true rfl) ?_
  intro p e s m below meth c A ls hx hb hr hts hown hlocks hin hml hK hP hD hS hA hAe hsz hl
  have hl : lv_has ls 1 [(0, .int x)] := hl
  have hown : s.vm.findClass R_Mo = some m.cls := hown
  refine lv_iload_n hx hb d_Mo_plain_0 rfl (lv_at hl 0 rfl) ?_
  refine lv_i2l hx hb d_Mo_plain_1 rfl ?_
  refine lv_ldc2 (v := 4294967295) hx hb hown (hts _ wi_553) d_Mo_plain_2 ?_
  refine lv_land hx hb d_Mo_plain_5 ?_
  exact fs_lret hx hb hr hlocks hAe hK hS d_Mo_plain_6 () (rfl) hP hD

end MO
