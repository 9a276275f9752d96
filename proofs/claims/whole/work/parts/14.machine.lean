section MC
variable {l : Launch} {dC : Nat → ClassId} {dI : Nat → Nat → Nat} {cI cZ cJ cF : ClassId}
theorem fx_pl_i (x : Int32) : (fx_pl x).toInt32 = x := by
  unfold fx_pl
  rw [Int64.toInt32_and, Int32.toInt32_toInt64, show (4294967295 : Int64).toInt32 = -1 from by decide, Int32.and_neg_one]
theorem fx_pl_ne {x : Int32} (h : ¬ x = 0) : ¬ (x.toInt64 &&& 4294967295) = 0 := by
  intro e
  have h1 := fx_pl_i x
  unfold fx_pl at h1
  rw [e] at h1
  exact h h1.symm
theorem fx_cmp_le (x y : Int64) : lg_cmp x y ≤ 0 ↔ ¬ y < x := by
  unfold lg_cmp
  by_cases h : y < x
  · rw [if_pos h]
    simp [h]
    try decide
  · rw [if_neg h]
    by_cases h2 : x = y
    · rw [if_pos h2]
      simp [h]
    · rw [if_neg h2]
      simp [h]
      try decide
theorem fx_cmp_lt (x y : Int64) : lg_cmp x y < 0 ↔ ¬ y ≤ x := by
  unfold lg_cmp
  by_cases h : y < x
  · rw [if_pos h]
    have h3 : y ≤ x := Int64.le_of_lt h
    simp [h3]
    try decide
  · rw [if_neg h]
    by_cases h2 : x = y
    · rw [if_pos h2]
      subst h2
      simp
    · rw [if_neg h2]
      have h3 : ¬ y ≤ x := fun q => by
        rcases Int64.lt_or_eq_of_le q with q | q
        · exact h q
        · exact h2 q.symm
      simp [h3]
      try decide
theorem fx_and15 {k : Int32} (h0 : 0 ≤ k.toInt) (h : k.toInt < 16) : k &&& nI 15 = nI k.toNatClampNeg := by
  have h1 := fs_clampI h0
  have h2 := fs_clampN h0
  rw [h2, pk_andN (by omega) 4 (by decide), nI_clamp (by omega)]
  congr 1
  exact Nat.mod_eq_of_lt (by omega)
theorem fx_val_k {o : Nat} {a k x : Int32} (h : o < 19) : fx_val o a k k = fx_val o a k x := by
  unfold fx_val
  simp only [show ¬ o = 19 by omega, show ¬ o = 20 by omega, show ¬ o = 21 by omega, show ¬ o = 22 by omega, show ¬ o = 23 by omega, if_false]
theorem fx_val_x {o : Nat} {a k x : Int32} (h : 19 ≤ o) : fx_val o a x x = fx_val o a k x := by
  unfold fx_val
  simp only [show ¬ o = 10 by omega, show ¬ o = 11 by omega, show ¬ o = 12 by omega, show ¬ o = 13 by omega, show ¬ o = 14 by omega, show ¬ o = 15 by omega, show ¬ o = 16 by omega, show ¬ o = 17 by omega, show ¬ o = 18 by omega, if_false]
theorem fx_a_mid {o n : Nat} {a x k : Int32} {cs w : Nat → Int32} (h : 10 ≤ o) (h2 : o < 25) : fx_a o a x k cs w n = fx_val o a k x := by
  unfold fx_a
  rw [if_neg (by omega), if_neg (by omega), if_neg (by omega), if_neg (by omega), if_neg (by omega), if_pos ⟨h, h2⟩]
theorem fx_a_hi {o n : Nat} {a x k : Int32} {cs w : Nat → Int32} (h : 25 ≤ o) : fx_a o a x k cs w n = a := by
  unfold fx_a
  rw [if_neg (by omega), if_neg (by omega), if_neg (by omega), if_neg (by omega), if_neg (by omega), if_neg (by omega)]
theorem fx_x_hi {o : Nat} {a x k : Int32} {cs : Nat → Int32} (h : 10 ≤ o) : fx_x o a x k cs = x := by
  unfold fx_x
  rw [if_neg (by omega), if_neg (by omega), if_neg (by omega)]
theorem fx_c_hi {o : Nat} {a x k : Int32} {cs : Nat → Int32} (h : 10 ≤ o) : fx_c o a x k cs = cs := by
  unfold fx_c
  rw [if_neg (by omega), if_neg (by omega)]
theorem fx_d_lt {L : fx_Prg} {i : Nat} {a x : Int32} (h : fx_O L i < 25) : fx_d L i a x = 0 := by
  unfold fx_d
  rw [if_pos h]
theorem fx_d_25 {L : fx_Prg} {i : Nat} {a x : Int32} (h : fx_O L i = 25) : fx_d L i a x = (fx_K L i).toNatClampNeg := by
  unfold fx_d
  rw [if_neg (by omega), if_pos h]
theorem fx_d_y {L : fx_Prg} {i : Nat} {a x : Int32} (h : 25 < fx_O L i) (ha : fx_ask (fx_O L i) a (fx_K L i) x = true) : fx_d L i a x = fx_Y L i := by
  unfold fx_d
  rw [if_neg (by omega), if_neg (by omega), if_pos ha]
theorem fx_d_n {L : fx_Prg} {i : Nat} {a x : Int32} (h : 25 < fx_O L i) (ha : fx_ask (fx_O L i) a (fx_K L i) x = false) : fx_d L i a x = fx_N L i := by
  unfold fx_d
  rw [if_neg (by omega), if_neg (by omega), if_neg (by rw [ha]; decide)]
theorem fx_d_le {L : fx_Prg} {i : Nat} {a x : Int32} (hok : fx_ok L) (hi : i < L.length) (hg5 : ¬ fx_brP L 5 i) : fx_d L i a x < 256 := by
  have h1 := hok.1
  have h2 := hok.2 i hi
  unfold fx_d
  split
  · omega
  · split
    · have h0 : 0 ≤ (fx_K L i).toInt := (by simp only [fx_brP] at hg5; omega)
      have h3 := fs_clampI h0
      simp only [fx_brP] at hg5
      omega
    · split <;> omega
theorem d_Mc_quotient_0 : decode b_Mc_quotient 0 = .ok (.iload_n 1, 1) := by decide +kernel
theorem d_Mc_quotient_1 : decode b_Mc_quotient 1 = .ok (.ifCond .ne 5, 3) := by decide +kernel
theorem d_Mc_quotient_4 : decode b_Mc_quotient 4 = .ok (.iconst 0, 1) := by decide +kernel
theorem d_Mc_quotient_5 : decode b_Mc_quotient 5 = .ok (.ireturn, 1) := by decide +kernel
theorem d_Mc_quotient_6 : decode b_Mc_quotient 6 = .ok (.iload_n 0, 1) := by decide +kernel
theorem d_Mc_quotient_7 : decode b_Mc_quotient 7 = .ok (.i2l, 1) := by decide +kernel
theorem d_Mc_quotient_8 : decode b_Mc_quotient 8 = .ok (.ldc2_w 64, 3) := by decide +kernel
theorem d_Mc_quotient_11 : decode b_Mc_quotient 11 = .ok (.land, 1) := by decide +kernel
theorem d_Mc_quotient_12 : decode b_Mc_quotient 12 = .ok (.iload_n 1, 1) := by decide +kernel
theorem d_Mc_quotient_13 : decode b_Mc_quotient 13 = .ok (.i2l, 1) := by decide +kernel
theorem d_Mc_quotient_14 : decode b_Mc_quotient 14 = .ok (.ldc2_w 64, 3) := by decide +kernel
theorem d_Mc_quotient_17 : decode b_Mc_quotient 17 = .ok (.land, 1) := by decide +kernel
theorem d_Mc_quotient_18 : decode b_Mc_quotient 18 = .ok (.ldiv, 1) := by decide +kernel
theorem d_Mc_quotient_19 : decode b_Mc_quotient 19 = .ok (.l2i, 1) := by decide +kernel
theorem d_Mc_quotient_20 : decode b_Mc_quotient 20 = .ok (.ireturn, 1) := by decide +kernel
set_option maxHeartbeats 4000000 in
set_option maxRecDepth 100000 in
theorem c_Mc_quotient (a d : Int32) (sz : Nat) (hd : ¬ d = 0) : fs_I l y_Mc_quotient (k_Mc_quotient :: fs_T) { frames := 0, cells := 0, slots := 0, locals := 0 } (dC, dI) vwCl (fs_tys cI cZ cJ cF) [.int a, .int d] [] sz (S := Unit) (fun r _ => r = fx_dv a d) (fun _ => []) 0 0 := by
  refine fs_head (by decide) (Nat.le_of_ble_eq_true rfl) ?_
  intro p e s m below meth c A ls hx hb hr hts hown hlocks hin hml hK hP hD hS hA hAe hsz hl
  have hl : lv_has ls 2 [(0, .int a), (1, .int d)] := hl
  have hown : s.vm.findClass R_Mc = some m.cls := hown
  refine lv_iload_n hx hb d_Mc_quotient_0 rfl (lv_at hl 1 rfl) ?_
  refine lv_if_ne (tgt := 6) hx hb d_Mc_quotient_1 (by decide) (fun hc1 => ?_) (fun hc1 => absurd hc1 hd)
  refine lv_iload_n hx hb d_Mc_quotient_6 rfl (lv_at hl 0 rfl) ?_
  refine lv_i2l hx hb d_Mc_quotient_7 rfl ?_
  refine lv_ldc2 (v := 4294967295) hx hb hown (hts _ wi_291) d_Mc_quotient_8 ?_
  refine lv_land hx hb d_Mc_quotient_11 ?_
  refine lv_iload_n hx hb d_Mc_quotient_12 rfl (lv_at hl 1 rfl) ?_
  refine lv_i2l hx hb d_Mc_quotient_13 rfl ?_
  refine lv_ldc2 (v := 4294967295) hx hb hown (hts _ wi_291) d_Mc_quotient_14 ?_
  refine lv_land hx hb d_Mc_quotient_17 ?_
  refine lv_ldiv hx hb d_Mc_quotient_18 (fx_pl_ne hd) ?_
  refine lv_l2i hx hb d_Mc_quotient_19 rfl ?_
  exact fs_iret hx hb hr hlocks hAe hK hS d_Mc_quotient_20 () (rfl) hP hD

theorem d_Mc_holds_0 : decode b_Mc_holds 0 = .ok (.iload_n 1, 1) := by decide +kernel
theorem d_Mc_holds_1 : decode b_Mc_holds 1 = .ok (.tableswitch 131 26 30 #[35, 49, 74, 99, 114], 35) := by decide +kernel
theorem d_Mc_holds_36 : decode b_Mc_holds 36 = .ok (.aload_n 0, 1) := by decide +kernel
theorem d_Mc_holds_37 : decode b_Mc_holds 37 = .ok (.getfield 15, 3) := by decide +kernel
theorem d_Mc_holds_40 : decode b_Mc_holds 40 = .ok (.iload_n 2, 1) := by decide +kernel
theorem d_Mc_holds_41 : decode b_Mc_holds 41 = .ok (.if_icmp .ne 7, 3) := by decide +kernel
theorem d_Mc_holds_44 : decode b_Mc_holds 44 = .ok (.iconst 1, 1) := by decide +kernel
theorem d_Mc_holds_45 : decode b_Mc_holds 45 = .ok (.goto 4, 3) := by decide +kernel
theorem d_Mc_holds_48 : decode b_Mc_holds 48 = .ok (.iconst 0, 1) := by decide +kernel
theorem d_Mc_holds_49 : decode b_Mc_holds 49 = .ok (.ireturn, 1) := by decide +kernel
theorem d_Mc_holds_50 : decode b_Mc_holds 50 = .ok (.aload_n 0, 1) := by decide +kernel
theorem d_Mc_holds_51 : decode b_Mc_holds 51 = .ok (.getfield 15, 3) := by decide +kernel
theorem d_Mc_holds_54 : decode b_Mc_holds 54 = .ok (.i2l, 1) := by decide +kernel
theorem d_Mc_holds_55 : decode b_Mc_holds 55 = .ok (.ldc2_w 64, 3) := by decide +kernel
theorem d_Mc_holds_58 : decode b_Mc_holds 58 = .ok (.land, 1) := by decide +kernel
theorem d_Mc_holds_59 : decode b_Mc_holds 59 = .ok (.iload_n 2, 1) := by decide +kernel
theorem d_Mc_holds_60 : decode b_Mc_holds 60 = .ok (.i2l, 1) := by decide +kernel
theorem d_Mc_holds_61 : decode b_Mc_holds 61 = .ok (.ldc2_w 64, 3) := by decide +kernel
theorem d_Mc_holds_64 : decode b_Mc_holds 64 = .ok (.land, 1) := by decide +kernel
theorem d_Mc_holds_65 : decode b_Mc_holds 65 = .ok (.lcmp, 1) := by decide +kernel
theorem d_Mc_holds_66 : decode b_Mc_holds 66 = .ok (.ifCond .le 7, 3) := by decide +kernel
theorem d_Mc_holds_69 : decode b_Mc_holds 69 = .ok (.iconst 1, 1) := by decide +kernel
theorem d_Mc_holds_70 : decode b_Mc_holds 70 = .ok (.goto 4, 3) := by decide +kernel
theorem d_Mc_holds_73 : decode b_Mc_holds 73 = .ok (.iconst 0, 1) := by decide +kernel
theorem d_Mc_holds_74 : decode b_Mc_holds 74 = .ok (.ireturn, 1) := by decide +kernel
theorem d_Mc_holds_75 : decode b_Mc_holds 75 = .ok (.aload_n 0, 1) := by decide +kernel
theorem d_Mc_holds_76 : decode b_Mc_holds 76 = .ok (.getfield 15, 3) := by decide +kernel
theorem d_Mc_holds_79 : decode b_Mc_holds 79 = .ok (.i2l, 1) := by decide +kernel
theorem d_Mc_holds_80 : decode b_Mc_holds 80 = .ok (.ldc2_w 64, 3) := by decide +kernel
theorem d_Mc_holds_83 : decode b_Mc_holds 83 = .ok (.land, 1) := by decide +kernel
theorem d_Mc_holds_84 : decode b_Mc_holds 84 = .ok (.iload_n 2, 1) := by decide +kernel
theorem d_Mc_holds_85 : decode b_Mc_holds 85 = .ok (.i2l, 1) := by decide +kernel
theorem d_Mc_holds_86 : decode b_Mc_holds 86 = .ok (.ldc2_w 64, 3) := by decide +kernel
theorem d_Mc_holds_89 : decode b_Mc_holds 89 = .ok (.land, 1) := by decide +kernel
theorem d_Mc_holds_90 : decode b_Mc_holds 90 = .ok (.lcmp, 1) := by decide +kernel
theorem d_Mc_holds_91 : decode b_Mc_holds 91 = .ok (.ifCond .lt 7, 3) := by decide +kernel
theorem d_Mc_holds_94 : decode b_Mc_holds 94 = .ok (.iconst 1, 1) := by decide +kernel
theorem d_Mc_holds_95 : decode b_Mc_holds 95 = .ok (.goto 4, 3) := by decide +kernel
theorem d_Mc_holds_98 : decode b_Mc_holds 98 = .ok (.iconst 0, 1) := by decide +kernel
theorem d_Mc_holds_99 : decode b_Mc_holds 99 = .ok (.ireturn, 1) := by decide +kernel
theorem d_Mc_holds_100 : decode b_Mc_holds 100 = .ok (.aload_n 0, 1) := by decide +kernel
theorem d_Mc_holds_101 : decode b_Mc_holds 101 = .ok (.getfield 15, 3) := by decide +kernel
theorem d_Mc_holds_104 : decode b_Mc_holds 104 = .ok (.iload_n 2, 1) := by decide +kernel
theorem d_Mc_holds_105 : decode b_Mc_holds 105 = .ok (.iand, 1) := by decide +kernel
theorem d_Mc_holds_106 : decode b_Mc_holds 106 = .ok (.ifCond .eq 7, 3) := by decide +kernel
theorem d_Mc_holds_109 : decode b_Mc_holds 109 = .ok (.iconst 1, 1) := by decide +kernel
theorem d_Mc_holds_110 : decode b_Mc_holds 110 = .ok (.goto 4, 3) := by decide +kernel
theorem d_Mc_holds_113 : decode b_Mc_holds 113 = .ok (.iconst 0, 1) := by decide +kernel
theorem d_Mc_holds_114 : decode b_Mc_holds 114 = .ok (.ireturn, 1) := by decide +kernel
theorem d_Mc_holds_115 : decode b_Mc_holds 115 = .ok (.aload_n 0, 1) := by decide +kernel
theorem d_Mc_holds_116 : decode b_Mc_holds 116 = .ok (.getfield 15, 3) := by decide +kernel
theorem d_Mc_holds_119 : decode b_Mc_holds 119 = .ok (.aload_n 0, 1) := by decide +kernel
theorem d_Mc_holds_120 : decode b_Mc_holds 120 = .ok (.getfield 19, 3) := by decide +kernel
theorem d_Mc_holds_123 : decode b_Mc_holds 123 = .ok (.if_icmp .ne 7, 3) := by decide +kernel
theorem d_Mc_holds_126 : decode b_Mc_holds 126 = .ok (.iconst 1, 1) := by decide +kernel
theorem d_Mc_holds_127 : decode b_Mc_holds 127 = .ok (.goto 4, 3) := by decide +kernel
theorem d_Mc_holds_130 : decode b_Mc_holds 130 = .ok (.iconst 0, 1) := by decide +kernel
theorem d_Mc_holds_131 : decode b_Mc_holds 131 = .ok (.ireturn, 1) := by decide +kernel
theorem d_Mc_holds_132 : decode b_Mc_holds 132 = .ok (.iconst 0, 1) := by decide +kernel
theorem d_Mc_holds_133 : decode b_Mc_holds 133 = .ok (.ireturn, 1) := by decide +kernel
set_option maxHeartbeats 4000000 in
set_option maxRecDepth 100000 in
theorem c_Mc_holds (mc cl : Nat) (a x dn k : Int32) (o : Nat) (sz : Nat) (h26 : 26 ≤ o) (h30 : o ≤ 30) : fs_I l y_Mc_holds (k_Mc_holds :: fs_T) { frames := 0, cells := 0, slots := 0, locals := 0 } (dC, dI) vwCl (fs_tys cI cZ cJ cF) [.ref mc, .int (nI o), .int k] [(mc, .inr (2, [.ref cl, .int a, .int x, .int dn]))] sz (S := Unit) (fun r _ => (fx_ask o a k x = true ∧ r = nI 1) ∨ (fx_ask o a k x = false ∧ r = nI 0)) (fun _ => [(mc, .inr (2, [.ref cl, .int a, .int x, .int dn]))]) 0 0 := by
  refine fs_head (by decide) (Nat.le_of_ble_eq_true rfl) ?_
  intro p e s m below meth c A ls hx hb hr hts hown hlocks hin hml hK hP hD hS hA hAe hsz hl
  have hl : lv_has ls 3 [(0, .ref mc), (1, .int (nI o)), (2, .int k)] := hl
  have hown : s.vm.findClass R_Mc = some m.cls := hown
  refine lv_iload_n hx hb d_Mc_holds_0 rfl (lv_at hl 1 rfl) ?_
  rcases (show o = 26 ∨ o = 27 ∨ o = 28 ∨ o = 29 ∨ o = 30 from by omega) with hsw | hsw | hsw | hsw | hsw
  · refine fs_eqi (v := nI 26) (by rw [hsw]) ?_
    refine lv_tableIn (off := 35) (tgt := 36) hx hb d_Mc_holds_1 (by decide) (by decide) rfl (by decide) ?_
    refine lv_aload_n hx hb d_Mc_holds_36 rfl (lv_at hl 0 rfl) ?_
    refine va_get (D := (dC, dI)) (ci := 2) (v := .int a) (C := R_Mc) (T := T_Mc) (N := 4) hx hb hts uin_Mc hown hK hP 0 rfl rfl 1 (by decide) (hts _ wi_101) (fun _ h9 => h9) rfl d_Mc_holds_37 ?_
    refine lv_iload_n hx hb d_Mc_holds_40 rfl (lv_at hl 2 rfl) ?_
    refine lv_icmp_ne (tgt := 48) hx hb d_Mc_holds_41 (by decide) (fun hc41 => ?_) (fun hc41 => ?_)
    · refine lv_iconst (v := nI 0) hx hb d_Mc_holds_48 (by decide) ?_
      exact fs_zret hx hb hr hlocks hAe hK hS d_Mc_holds_49 (by decide) () (Or.inr ⟨by rw [hsw]; exact decide_eq_false hc41, rfl⟩) hP hD
    refine lv_iconst (v := nI 1) hx hb d_Mc_holds_44 (by decide) ?_
    refine lv_goto (tgt := 49) hx hb d_Mc_holds_45 (by decide) ?_
    exact fs_zret hx hb hr hlocks hAe hK hS d_Mc_holds_49 (by decide) () (Or.inl ⟨by rw [hsw]; exact decide_eq_true hc41, rfl⟩) hP hD
  · refine fs_eqi (v := nI 27) (by rw [hsw]) ?_
    refine lv_tableIn (off := 49) (tgt := 50) hx hb d_Mc_holds_1 (by decide) (by decide) rfl (by decide) ?_
    refine lv_aload_n hx hb d_Mc_holds_50 rfl (lv_at hl 0 rfl) ?_
    refine va_get (D := (dC, dI)) (ci := 2) (v := .int a) (C := R_Mc) (T := T_Mc) (N := 4) hx hb hts uin_Mc hown hK hP 0 rfl rfl 1 (by decide) (hts _ wi_101) (fun _ h9 => h9) rfl d_Mc_holds_51 ?_
    refine lv_i2l hx hb d_Mc_holds_54 rfl ?_
    refine lv_ldc2 (v := 4294967295) hx hb hown (hts _ wi_291) d_Mc_holds_55 ?_
    refine lv_land hx hb d_Mc_holds_58 ?_
    refine lv_iload_n hx hb d_Mc_holds_59 rfl (lv_at hl 2 rfl) ?_
    refine lv_i2l hx hb d_Mc_holds_60 rfl ?_
    refine lv_ldc2 (v := 4294967295) hx hb hown (hts _ wi_291) d_Mc_holds_61 ?_
    refine lv_land hx hb d_Mc_holds_64 ?_
    refine W.lcmp hx hb d_Mc_holds_65 ?_
    refine lv_if_le (tgt := 73) hx hb d_Mc_holds_66 (by decide) (fun hc66 => ?_) (fun hc66 => ?_)
    · refine lv_iconst (v := nI 0) hx hb d_Mc_holds_73 (by decide) ?_
      exact fs_zret hx hb hr hlocks hAe hK hS d_Mc_holds_74 (by decide) () (Or.inr ⟨by rw [hsw]; exact decide_eq_false ((fx_cmp_le _ _).mp hc66), rfl⟩) hP hD
    refine lv_iconst (v := nI 1) hx hb d_Mc_holds_69 (by decide) ?_
    refine lv_goto (tgt := 74) hx hb d_Mc_holds_70 (by decide) ?_
    exact fs_zret hx hb hr hlocks hAe hK hS d_Mc_holds_74 (by decide) () (Or.inl ⟨by rw [hsw]; exact decide_eq_true (Decidable.not_not.mp (fun q => hc66 ((fx_cmp_le _ _).mpr q))), rfl⟩) hP hD
  · refine fs_eqi (v := nI 28) (by rw [hsw]) ?_
    refine lv_tableIn (off := 74) (tgt := 75) hx hb d_Mc_holds_1 (by decide) (by decide) rfl (by decide) ?_
    refine lv_aload_n hx hb d_Mc_holds_75 rfl (lv_at hl 0 rfl) ?_
    refine va_get (D := (dC, dI)) (ci := 2) (v := .int a) (C := R_Mc) (T := T_Mc) (N := 4) hx hb hts uin_Mc hown hK hP 0 rfl rfl 1 (by decide) (hts _ wi_101) (fun _ h9 => h9) rfl d_Mc_holds_76 ?_
    refine lv_i2l hx hb d_Mc_holds_79 rfl ?_
    refine lv_ldc2 (v := 4294967295) hx hb hown (hts _ wi_291) d_Mc_holds_80 ?_
    refine lv_land hx hb d_Mc_holds_83 ?_
    refine lv_iload_n hx hb d_Mc_holds_84 rfl (lv_at hl 2 rfl) ?_
    refine lv_i2l hx hb d_Mc_holds_85 rfl ?_
    refine lv_ldc2 (v := 4294967295) hx hb hown (hts _ wi_291) d_Mc_holds_86 ?_
    refine lv_land hx hb d_Mc_holds_89 ?_
    refine W.lcmp hx hb d_Mc_holds_90 ?_
    refine lv_if_lt (tgt := 98) hx hb d_Mc_holds_91 (by decide) (fun hc91 => ?_) (fun hc91 => ?_)
    · refine lv_iconst (v := nI 0) hx hb d_Mc_holds_98 (by decide) ?_
      exact fs_zret hx hb hr hlocks hAe hK hS d_Mc_holds_99 (by decide) () (Or.inr ⟨by rw [hsw]; exact decide_eq_false ((fx_cmp_lt _ _).mp hc91), rfl⟩) hP hD
    refine lv_iconst (v := nI 1) hx hb d_Mc_holds_94 (by decide) ?_
    refine lv_goto (tgt := 99) hx hb d_Mc_holds_95 (by decide) ?_
    exact fs_zret hx hb hr hlocks hAe hK hS d_Mc_holds_99 (by decide) () (Or.inl ⟨by rw [hsw]; exact decide_eq_true (Decidable.not_not.mp (fun q => hc91 ((fx_cmp_lt _ _).mpr q))), rfl⟩) hP hD
  · refine fs_eqi (v := nI 29) (by rw [hsw]) ?_
    refine lv_tableIn (off := 99) (tgt := 100) hx hb d_Mc_holds_1 (by decide) (by decide) rfl (by decide) ?_
    refine lv_aload_n hx hb d_Mc_holds_100 rfl (lv_at hl 0 rfl) ?_
    refine va_get (D := (dC, dI)) (ci := 2) (v := .int a) (C := R_Mc) (T := T_Mc) (N := 4) hx hb hts uin_Mc hown hK hP 0 rfl rfl 1 (by decide) (hts _ wi_101) (fun _ h9 => h9) rfl d_Mc_holds_101 ?_
    refine lv_iload_n hx hb d_Mc_holds_104 rfl (lv_at hl 2 rfl) ?_
    refine lv_iand hx hb d_Mc_holds_105 ?_
    refine lv_if_eq (tgt := 113) hx hb d_Mc_holds_106 (by decide) (fun hc106 => ?_) (fun hc106 => ?_)
    · refine lv_iconst (v := nI 0) hx hb d_Mc_holds_113 (by decide) ?_
      exact fs_zret hx hb hr hlocks hAe hK hS d_Mc_holds_114 (by decide) () (Or.inr ⟨by rw [hsw]; show (!decide (a &&& k = 0)) = false; rw [decide_eq_true hc106]; rfl, rfl⟩) hP hD
    refine lv_iconst (v := nI 1) hx hb d_Mc_holds_109 (by decide) ?_
    refine lv_goto (tgt := 114) hx hb d_Mc_holds_110 (by decide) ?_
    exact fs_zret hx hb hr hlocks hAe hK hS d_Mc_holds_114 (by decide) () (Or.inl ⟨by rw [hsw]; show (!decide (a &&& k = 0)) = true; rw [decide_eq_false hc106]; rfl, rfl⟩) hP hD
  · refine fs_eqi (v := nI 30) (by rw [hsw]) ?_
    refine lv_tableIn (off := 114) (tgt := 115) hx hb d_Mc_holds_1 (by decide) (by decide) rfl (by decide) ?_
    refine lv_aload_n hx hb d_Mc_holds_115 rfl (lv_at hl 0 rfl) ?_
    refine va_get (D := (dC, dI)) (ci := 2) (v := .int a) (C := R_Mc) (T := T_Mc) (N := 4) hx hb hts uin_Mc hown hK hP 0 rfl rfl 1 (by decide) (hts _ wi_101) (fun _ h9 => h9) rfl d_Mc_holds_116 ?_
    refine lv_aload_n hx hb d_Mc_holds_119 rfl (lv_at hl 0 rfl) ?_
    refine va_get (D := (dC, dI)) (ci := 2) (v := .int x) (C := R_Mc) (T := T_Mc) (N := 4) hx hb hts uin_Mc hown hK hP 0 rfl rfl 2 (by decide) (hts _ wi_102) (fun _ h9 => h9) rfl d_Mc_holds_120 ?_
    refine lv_icmp_ne (tgt := 130) hx hb d_Mc_holds_123 (by decide) (fun hc123 => ?_) (fun hc123 => ?_)
    · refine lv_iconst (v := nI 0) hx hb d_Mc_holds_130 (by decide) ?_
      exact fs_zret hx hb hr hlocks hAe hK hS d_Mc_holds_131 (by decide) () (Or.inr ⟨by rw [hsw]; exact decide_eq_false hc123, rfl⟩) hP hD
    refine lv_iconst (v := nI 1) hx hb d_Mc_holds_126 (by decide) ?_
    refine lv_goto (tgt := 131) hx hb d_Mc_holds_127 (by decide) ?_
    exact fs_zret hx hb hr hlocks hAe hK hS d_Mc_holds_131 (by decide) () (Or.inl ⟨by rw [hsw]; exact decide_eq_true hc123, rfl⟩) hP hD

theorem d_Mc_distance_0 : decode b_Mc_distance 0 = .ok (.aload_n 1, 1) := by decide +kernel
theorem d_Mc_distance_1 : decode b_Mc_distance 1 = .ok (.getfield 37, 3) := by decide +kernel
theorem d_Mc_distance_4 : decode b_Mc_distance 4 = .ok (.iload_n 2, 1) := by decide +kernel
theorem d_Mc_distance_5 : decode b_Mc_distance 5 = .ok (.iaload, 1) := by decide +kernel
theorem d_Mc_distance_6 : decode b_Mc_distance 6 = .ok (.istore_n 3, 1) := by decide +kernel
theorem d_Mc_distance_7 : decode b_Mc_distance 7 = .ok (.iload_n 3, 1) := by decide +kernel
theorem d_Mc_distance_8 : decode b_Mc_distance 8 = .ok (.bipush 25, 2) := by decide +kernel
theorem d_Mc_distance_10 : decode b_Mc_distance 10 = .ok (.if_icmp .ge 5, 3) := by decide +kernel
theorem d_Mc_distance_13 : decode b_Mc_distance 13 = .ok (.iconst 0, 1) := by decide +kernel
theorem d_Mc_distance_14 : decode b_Mc_distance 14 = .ok (.ireturn, 1) := by decide +kernel
theorem d_Mc_distance_15 : decode b_Mc_distance 15 = .ok (.iload_n 3, 1) := by decide +kernel
theorem d_Mc_distance_16 : decode b_Mc_distance 16 = .ok (.bipush 25, 2) := by decide +kernel
theorem d_Mc_distance_18 : decode b_Mc_distance 18 = .ok (.if_icmp .ne 10, 3) := by decide +kernel
theorem d_Mc_distance_21 : decode b_Mc_distance 21 = .ok (.aload_n 1, 1) := by decide +kernel
theorem d_Mc_distance_22 : decode b_Mc_distance 22 = .ok (.getfield 40, 3) := by decide +kernel
theorem d_Mc_distance_25 : decode b_Mc_distance 25 = .ok (.iload_n 2, 1) := by decide +kernel
theorem d_Mc_distance_26 : decode b_Mc_distance 26 = .ok (.iaload, 1) := by decide +kernel
theorem d_Mc_distance_27 : decode b_Mc_distance 27 = .ok (.ireturn, 1) := by decide +kernel
theorem d_Mc_distance_28 : decode b_Mc_distance 28 = .ok (.aload_n 0, 1) := by decide +kernel
theorem d_Mc_distance_29 : decode b_Mc_distance 29 = .ok (.iload_n 3, 1) := by decide +kernel
theorem d_Mc_distance_30 : decode b_Mc_distance 30 = .ok (.aload_n 1, 1) := by decide +kernel
theorem d_Mc_distance_31 : decode b_Mc_distance 31 = .ok (.getfield 40, 3) := by decide +kernel
theorem d_Mc_distance_34 : decode b_Mc_distance 34 = .ok (.iload_n 2, 1) := by decide +kernel
theorem d_Mc_distance_35 : decode b_Mc_distance 35 = .ok (.iaload, 1) := by decide +kernel
theorem d_Mc_distance_36 : decode b_Mc_distance 36 = .ok (.invokevirtual 66, 3) := by decide +kernel
theorem d_Mc_distance_39 : decode b_Mc_distance 39 = .ok (.ifCond .eq 12, 3) := by decide +kernel
theorem d_Mc_distance_42 : decode b_Mc_distance 42 = .ok (.aload_n 1, 1) := by decide +kernel
theorem d_Mc_distance_43 : decode b_Mc_distance 43 = .ok (.getfield 43, 3) := by decide +kernel
theorem d_Mc_distance_46 : decode b_Mc_distance 46 = .ok (.iload_n 2, 1) := by decide +kernel
theorem d_Mc_distance_47 : decode b_Mc_distance 47 = .ok (.iaload, 1) := by decide +kernel
theorem d_Mc_distance_48 : decode b_Mc_distance 48 = .ok (.goto 9, 3) := by decide +kernel
theorem d_Mc_distance_51 : decode b_Mc_distance 51 = .ok (.aload_n 1, 1) := by decide +kernel
theorem d_Mc_distance_52 : decode b_Mc_distance 52 = .ok (.getfield 70, 3) := by decide +kernel
theorem d_Mc_distance_55 : decode b_Mc_distance 55 = .ok (.iload_n 2, 1) := by decide +kernel
theorem d_Mc_distance_56 : decode b_Mc_distance 56 = .ok (.iaload, 1) := by decide +kernel
theorem d_Mc_distance_57 : decode b_Mc_distance 57 = .ok (.ireturn, 1) := by decide +kernel
set_option maxHeartbeats 4000000 in
set_option maxRecDepth 100000 in
theorem c_Mc_distance (mc cl : Nat) (a x dn : Int32) (q o y n k : Nat) (fo fy fn fk : Nat → Int32) (L : fx_Prg) (i : Nat) (sz : Nat) (hrep : fx_rep L fo fy fn fk) (hok : fx_ok L) (hi : i < L.length) (hg5 : ¬ fx_brP L 5 i) (h31 : fx_O L i ≠ 31) : fs_I l y_Mc_distance (k_Mc_distance :: fs_T) { frames := 1, cells := 0, slots := 0, locals := 22 } (dC, dI) vwCl (fs_tys cI cZ cJ cF) [.ref mc, .ref q, .int (nI i)] [(mc, .inr (2, [.ref cl, .int a, .int x, .int dn])), (q, .inr (1, [.ref o, .ref y, .ref n, .ref k, .int (nI L.length)])), (o, .inl (cI, 40, .inl fo)), (y, .inl (cI, 40, .inl fy)), (n, .inl (cI, 40, .inl fn)), (k, .inl (cI, 40, .inl fk))] sz (S := Unit) (fun r _ => r = nI (fx_d L i a x)) (fun _ => [(mc, .inr (2, [.ref cl, .int a, .int x, .int dn])), (q, .inr (1, [.ref o, .ref y, .ref n, .ref k, .int (nI L.length)])), (o, .inl (cI, 40, .inl fo)), (y, .inl (cI, 40, .inl fy)), (n, .inl (cI, 40, .inl fn)), (k, .inl (cI, 40, .inl fk))]) 0 0 := by
  refine fs_head (by decide) (Nat.le_of_ble_eq_true rfl) ?_
  intro p e s m below meth c A ls hx hb hr hts hown hlocks hin hml hK hP hD hS hA hAe hsz hl
  have hl : lv_has ls 4 [(0, .ref mc), (1, .ref q), (2, .int (nI i))] := hl
  have hown : s.vm.findClass R_Mc = some m.cls := hown
  have hlen := hok.1
  have hO := (hok.2 i hi).1
  have hY := (hok.2 i hi).2.1
  have hN := (hok.2 i hi).2.2
  refine lv_aload_n hx hb d_Mc_distance_0 rfl (lv_at hl 1 rfl) ?_
  refine va_get (D := (dC, dI)) (ci := 1) (v := .ref o) (C := R_Fi) (T := T_Fi) (N := 5) hx hb hts uin_Fi hown hK hP 1 rfl rfl 0 (by decide) (hts _ wi_31) (fun _ h9 => h9) rfl d_Mc_distance_1 ?_
  refine lv_iload_n hx hb d_Mc_distance_4 rfl (lv_at hl 2 rfl) ?_
  refine fs_iald (v := nI (fx_O L i)) hx hb hK hP 2 0 rfl rfl i rfl (by decide) (by omega) ((hrep i (by omega)).1) d_Mc_distance_5 ?_
  refine lv_istore_n hx hb d_Mc_distance_6 rfl hl (by decide) (lv' := [(3, .int (nI (fx_O L i))), (0, .ref mc), (1, .ref q), (2, .int (nI i))]) rfl (fun ls hl => ?_)
  refine lv_iload_n hx hb d_Mc_distance_7 rfl (lv_at hl 0 rfl) ?_
  refine lv_bipush (v := nI 25) hx hb d_Mc_distance_8 (by decide) ?_
  refine lv_icmp_ge (tgt := 15) hx hb d_Mc_distance_10 (by decide) (fun hc10 => ?_) (fun hc10 => ?_)
  · rw [nI_leI (by omega) (by omega)] at hc10
    refine lv_iload_n hx hb d_Mc_distance_15 rfl (lv_at hl 0 rfl) ?_
    refine lv_bipush (v := nI 25) hx hb d_Mc_distance_16 (by decide) ?_
    refine lv_icmp_ne (tgt := 28) hx hb d_Mc_distance_18 (by decide) (fun hc18 => ?_) (fun hc18 => ?_)
    · rw [nI_eq (by omega) (by omega)] at hc18
      refine lv_aload_n hx hb d_Mc_distance_28 rfl (lv_at hl 1 rfl) ?_
      refine lv_iload_n hx hb d_Mc_distance_29 rfl (lv_at hl 0 rfl) ?_
      refine lv_aload_n hx hb d_Mc_distance_30 rfl (lv_at hl 2 rfl) ?_
      refine va_get (D := (dC, dI)) (ci := 1) (v := .ref k) (C := R_Fi) (T := T_Fi) (N := 5) hx hb hts uin_Fi hown hK hP 1 rfl rfl 3 (by decide) (hts _ wi_43) (fun _ h9 => h9) rfl d_Mc_distance_31 ?_
      refine lv_iload_n hx hb d_Mc_distance_34 rfl (lv_at hl 3 rfl) ?_
      refine fs_iald (v := fx_K L i) hx hb hK hP 5 0 rfl rfl i rfl (by decide) (by omega) ((hrep i (by omega)).2.2.2) d_Mc_distance_35 ?_
      refine fs_calli (wc := [(mc, .inr (2, [.ref cl, .int a, .int x, .int dn]))]) (wr := [(q, .inr (1, [.ref o, .ref y, .ref n, .ref k, .int (nI L.length)])), (o, .inl (cI, 40, .inl fo)), (y, .inl (cI, 40, .inl fy)), (n, .inl (cI, 40, .inl fn)), (k, .inl (cI, 40, .inl fk))]) [0] [1, 2, 3, 4, 5] hP hD hK hS hA rfl rfl rfl (by decide) (fun hPc hDc => va_runV (C := R_Mc) (As := [.int (nI (fx_O L i)), .int (fx_K L i)]) (rest := []) ⟨hx, hb, hml, hown, hts⟩ (c_Mc_holds mc cl a x dn (fx_K L i) (fx_O L i) _ (by omega) (by omega)) (⟨callB_of 2 hts (fs_g kin_Mc_holds) rfl rfl rfl (hts _ wi_5) (hts _ wi_296) (by decide +kernel) ⟨Nat.le_of_ble_eq_true rfl, Nat.le_of_ble_eq_true rfl⟩, hts _ wi_298, hts _ sel_Mc_holds⟩) (fs_preV (q0 := 0) rfl rfl hPc hK hDc) rfl rfl hl.1 rfl (lv_room (Nat.le_of_ble_eq_true rfl)) d_Mc_distance_36 ⟨Nat.le_of_ble_eq_true rfl, Nat.le_of_ble_eq_true rfl⟩) rfl (fun r36 _ H locs hp36 hP hD hS => ?_)
      have hP : va_P (dC, dI) vwCl [(mc, .inr (2, [.ref cl, .int a, .int x, .int dn])), (q, .inr (1, [.ref o, .ref y, .ref n, .ref k, .int (nI L.length)])), (o, .inl (cI, 40, .inl fo)), (y, .inl (cI, 40, .inl fy)), (n, .inl (cI, 40, .inl fn)), (k, .inl (cI, 40, .inl fk))] H := hP.sub [5, 0, 1, 2, 3, 4] rfl
      have hD : va_D A [(mc, .inr (2, [.ref cl, .int a, .int x, .int dn])), (q, .inr (1, [.ref o, .ref y, .ref n, .ref k, .int (nI L.length)])), (o, .inl (cI, 40, .inl fo)), (y, .inl (cI, 40, .inl fy)), (n, .inl (cI, 40, .inl fn)), (k, .inl (cI, 40, .inl fk))] := hD.sub [5, 0, 1, 2, 3, 4] (by decide) rfl
      rcases hp36 with ⟨hc36, rfl⟩ | ⟨hc36, rfl⟩
      · refine lv_if_eq (tgt := 51) hx hb d_Mc_distance_39 (by decide) (fun hc => absurd hc (by decide)) (fun _ => ?_)
        refine lv_aload_n hx hb d_Mc_distance_42 rfl (lv_at hl 2 rfl) ?_
        refine va_get (D := (dC, dI)) (ci := 1) (v := .ref y) (C := R_Fi) (T := T_Fi) (N := 5) hx hb hts uin_Fi hown hK hP 1 rfl rfl 1 (by decide) (hts _ wi_35) (fun _ h9 => h9) rfl d_Mc_distance_43 ?_
        refine lv_iload_n hx hb d_Mc_distance_46 rfl (lv_at hl 3 rfl) ?_
        refine fs_iald (v := nI (fx_Y L i)) hx hb hK hP 3 0 rfl rfl i rfl (by decide) (by omega) ((hrep i (by omega)).2.1) d_Mc_distance_47 ?_
        refine lv_goto (tgt := 57) hx hb d_Mc_distance_48 (by decide) ?_
        exact fs_iret hx hb hr hlocks hAe hK hS d_Mc_distance_57 () (by rw [fx_d_y (by omega) hc36]) hP hD
      refine lv_if_eq (tgt := 51) hx hb d_Mc_distance_39 (by decide) (fun _ => ?_) (fun hc => absurd (by decide) hc)
      refine lv_aload_n hx hb d_Mc_distance_51 rfl (lv_at hl 2 rfl) ?_
      refine va_get (D := (dC, dI)) (ci := 1) (v := .ref n) (C := R_Fi) (T := T_Fi) (N := 5) hx hb hts uin_Fi hown hK hP 1 rfl rfl 2 (by decide) (hts _ wi_40) (fun _ h9 => h9) rfl d_Mc_distance_52 ?_
      refine lv_iload_n hx hb d_Mc_distance_55 rfl (lv_at hl 3 rfl) ?_
      refine fs_iald (v := nI (fx_N L i)) hx hb hK hP 4 0 rfl rfl i rfl (by decide) (by omega) ((hrep i (by omega)).2.2.1) d_Mc_distance_56 ?_
      exact fs_iret hx hb hr hlocks hAe hK hS d_Mc_distance_57 () (by rw [fx_d_n (by omega) hc36]) hP hD
    rw [nI_eq (by omega) (by omega)] at hc18
    refine lv_aload_n hx hb d_Mc_distance_21 rfl (lv_at hl 2 rfl) ?_
    refine va_get (D := (dC, dI)) (ci := 1) (v := .ref k) (C := R_Fi) (T := T_Fi) (N := 5) hx hb hts uin_Fi hown hK hP 1 rfl rfl 3 (by decide) (hts _ wi_43) (fun _ h9 => h9) rfl d_Mc_distance_22 ?_
    refine lv_iload_n hx hb d_Mc_distance_25 rfl (lv_at hl 3 rfl) ?_
    refine fs_iald (v := fx_K L i) hx hb hK hP 5 0 rfl rfl i rfl (by decide) (by omega) ((hrep i (by omega)).2.2.2) d_Mc_distance_26 ?_
    exact fs_iret hx hb hr hlocks hAe hK hS d_Mc_distance_27 () (by rw [fx_d_25 (by omega)]; exact fs_clampN (by simp only [fx_brP] at hg5; omega)) hP hD
  rw [nI_leI (by omega) (by omega)] at hc10
  refine lv_iconst (v := nI 0) hx hb d_Mc_distance_13 (by decide) ?_
  exact fs_iret hx hb hr hlocks hAe hK hS d_Mc_distance_14 () (by rw [fx_d_lt (by omega)]) hP hD

theorem d_Mc_result_0 : decode b_Mc_result 0 = .ok (.iload_n 1, 1) := by decide +kernel
theorem d_Mc_result_1 : decode b_Mc_result 1 = .ok (.tableswitch 146 10 24 #[75, 82, 89, 96, 105, 112, 119, 126, 133, 75, 82, 89, 96, 105, 140], 75) := by decide +kernel
theorem d_Mc_result_76 : decode b_Mc_result 76 = .ok (.aload_n 0, 1) := by decide +kernel
theorem d_Mc_result_77 : decode b_Mc_result 77 = .ok (.getfield 15, 3) := by decide +kernel
theorem d_Mc_result_80 : decode b_Mc_result 80 = .ok (.iload_n 2, 1) := by decide +kernel
theorem d_Mc_result_81 : decode b_Mc_result 81 = .ok (.iadd, 1) := by decide +kernel
theorem d_Mc_result_82 : decode b_Mc_result 82 = .ok (.ireturn, 1) := by decide +kernel
theorem d_Mc_result_83 : decode b_Mc_result 83 = .ok (.aload_n 0, 1) := by decide +kernel
theorem d_Mc_result_84 : decode b_Mc_result 84 = .ok (.getfield 15, 3) := by decide +kernel
theorem d_Mc_result_87 : decode b_Mc_result 87 = .ok (.iload_n 2, 1) := by decide +kernel
theorem d_Mc_result_88 : decode b_Mc_result 88 = .ok (.isub, 1) := by decide +kernel
theorem d_Mc_result_89 : decode b_Mc_result 89 = .ok (.ireturn, 1) := by decide +kernel
theorem d_Mc_result_90 : decode b_Mc_result 90 = .ok (.aload_n 0, 1) := by decide +kernel
theorem d_Mc_result_91 : decode b_Mc_result 91 = .ok (.getfield 15, 3) := by decide +kernel
theorem d_Mc_result_94 : decode b_Mc_result 94 = .ok (.iload_n 2, 1) := by decide +kernel
theorem d_Mc_result_95 : decode b_Mc_result 95 = .ok (.imul, 1) := by decide +kernel
theorem d_Mc_result_96 : decode b_Mc_result 96 = .ok (.ireturn, 1) := by decide +kernel
theorem d_Mc_result_97 : decode b_Mc_result 97 = .ok (.aload_n 0, 1) := by decide +kernel
theorem d_Mc_result_98 : decode b_Mc_result 98 = .ok (.getfield 15, 3) := by decide +kernel
theorem d_Mc_result_101 : decode b_Mc_result 101 = .ok (.iload_n 2, 1) := by decide +kernel
theorem d_Mc_result_102 : decode b_Mc_result 102 = .ok (.invokestatic 61, 3) := by decide +kernel
theorem d_Mc_result_105 : decode b_Mc_result 105 = .ok (.ireturn, 1) := by decide +kernel
theorem d_Mc_result_106 : decode b_Mc_result 106 = .ok (.aload_n 0, 1) := by decide +kernel
theorem d_Mc_result_107 : decode b_Mc_result 107 = .ok (.getfield 15, 3) := by decide +kernel
theorem d_Mc_result_110 : decode b_Mc_result 110 = .ok (.iload_n 2, 1) := by decide +kernel
theorem d_Mc_result_111 : decode b_Mc_result 111 = .ok (.iand, 1) := by decide +kernel
theorem d_Mc_result_112 : decode b_Mc_result 112 = .ok (.ireturn, 1) := by decide +kernel
theorem d_Mc_result_113 : decode b_Mc_result 113 = .ok (.aload_n 0, 1) := by decide +kernel
theorem d_Mc_result_114 : decode b_Mc_result 114 = .ok (.getfield 15, 3) := by decide +kernel
theorem d_Mc_result_117 : decode b_Mc_result 117 = .ok (.iload_n 2, 1) := by decide +kernel
theorem d_Mc_result_118 : decode b_Mc_result 118 = .ok (.ior, 1) := by decide +kernel
theorem d_Mc_result_119 : decode b_Mc_result 119 = .ok (.ireturn, 1) := by decide +kernel
theorem d_Mc_result_120 : decode b_Mc_result 120 = .ok (.aload_n 0, 1) := by decide +kernel
theorem d_Mc_result_121 : decode b_Mc_result 121 = .ok (.getfield 15, 3) := by decide +kernel
theorem d_Mc_result_124 : decode b_Mc_result 124 = .ok (.iload_n 2, 1) := by decide +kernel
theorem d_Mc_result_125 : decode b_Mc_result 125 = .ok (.ixor, 1) := by decide +kernel
theorem d_Mc_result_126 : decode b_Mc_result 126 = .ok (.ireturn, 1) := by decide +kernel
theorem d_Mc_result_127 : decode b_Mc_result 127 = .ok (.aload_n 0, 1) := by decide +kernel
theorem d_Mc_result_128 : decode b_Mc_result 128 = .ok (.getfield 15, 3) := by decide +kernel
theorem d_Mc_result_131 : decode b_Mc_result 131 = .ok (.iload_n 2, 1) := by decide +kernel
theorem d_Mc_result_132 : decode b_Mc_result 132 = .ok (.ishl, 1) := by decide +kernel
theorem d_Mc_result_133 : decode b_Mc_result 133 = .ok (.ireturn, 1) := by decide +kernel
theorem d_Mc_result_134 : decode b_Mc_result 134 = .ok (.aload_n 0, 1) := by decide +kernel
theorem d_Mc_result_135 : decode b_Mc_result 135 = .ok (.getfield 15, 3) := by decide +kernel
theorem d_Mc_result_138 : decode b_Mc_result 138 = .ok (.iload_n 2, 1) := by decide +kernel
theorem d_Mc_result_139 : decode b_Mc_result 139 = .ok (.iushr, 1) := by decide +kernel
theorem d_Mc_result_140 : decode b_Mc_result 140 = .ok (.ireturn, 1) := by decide +kernel
theorem d_Mc_result_141 : decode b_Mc_result 141 = .ok (.aload_n 0, 1) := by decide +kernel
theorem d_Mc_result_142 : decode b_Mc_result 142 = .ok (.getfield 15, 3) := by decide +kernel
theorem d_Mc_result_145 : decode b_Mc_result 145 = .ok (.ineg, 1) := by decide +kernel
theorem d_Mc_result_146 : decode b_Mc_result 146 = .ok (.ireturn, 1) := by decide +kernel
theorem d_Mc_result_147 : decode b_Mc_result 147 = .ok (.aload_n 0, 1) := by decide +kernel
theorem d_Mc_result_148 : decode b_Mc_result 148 = .ok (.getfield 15, 3) := by decide +kernel
theorem d_Mc_result_151 : decode b_Mc_result 151 = .ok (.ireturn, 1) := by decide +kernel
set_option maxHeartbeats 4000000 in
set_option maxRecDepth 100000 in
theorem c_Mc_result (mc cl : Nat) (a x dn v : Int32) (o : Nat) (sz : Nat) (h10 : 10 ≤ o) (h24 : o ≤ 24) (hz : o = 13 ∨ o = 22 → ¬ v = 0) : fs_I l y_Mc_result (k_Mc_result :: fs_T) { frames := 1, cells := 0, slots := 0, locals := 21 } (dC, dI) vwCl (fs_tys cI cZ cJ cF) [.ref mc, .int (nI o), .int v] [(mc, .inr (2, [.ref cl, .int a, .int x, .int dn]))] sz (S := Unit) (fun r _ => r = fx_val o a v v) (fun _ => [(mc, .inr (2, [.ref cl, .int a, .int x, .int dn]))]) 0 0 := by
  refine fs_head (by decide) (Nat.le_of_ble_eq_true rfl) ?_
  intro p e s m below meth c A ls hx hb hr hts hown hlocks hin hml hK hP hD hS hA hAe hsz hl
  have hl : lv_has ls 3 [(0, .ref mc), (1, .int (nI o)), (2, .int v)] := hl
  have hown : s.vm.findClass R_Mc = some m.cls := hown
  refine lv_iload_n hx hb d_Mc_result_0 rfl (lv_at hl 1 rfl) ?_
  rcases (show o = 10 ∨ o = 11 ∨ o = 12 ∨ o = 13 ∨ o = 14 ∨ o = 15 ∨ o = 16 ∨ o = 17 ∨ o = 18 ∨ o = 19 ∨ o = 20 ∨ o = 21 ∨ o = 22 ∨ o = 23 ∨ o = 24 from by omega) with hsw | hsw | hsw | hsw | hsw | hsw | hsw | hsw | hsw | hsw | hsw | hsw | hsw | hsw | hsw
  · refine fs_eqi (v := nI 10) (by rw [hsw]) ?_
    refine lv_tableIn (off := 75) (tgt := 76) hx hb d_Mc_result_1 (by decide) (by decide) rfl (by decide) ?_
    refine lv_aload_n hx hb d_Mc_result_76 rfl (lv_at hl 0 rfl) ?_
    refine va_get (D := (dC, dI)) (ci := 2) (v := .int a) (C := R_Mc) (T := T_Mc) (N := 4) hx hb hts uin_Mc hown hK hP 0 rfl rfl 1 (by decide) (hts _ wi_101) (fun _ h9 => h9) rfl d_Mc_result_77 ?_
    refine lv_iload_n hx hb d_Mc_result_80 rfl (lv_at hl 2 rfl) ?_
    refine lv_iadd hx hb d_Mc_result_81 ?_
    exact fs_iret hx hb hr hlocks hAe hK hS d_Mc_result_82 () (by rw [hsw]; rfl) hP hD
  · refine fs_eqi (v := nI 11) (by rw [hsw]) ?_
    refine lv_tableIn (off := 82) (tgt := 83) hx hb d_Mc_result_1 (by decide) (by decide) rfl (by decide) ?_
    refine lv_aload_n hx hb d_Mc_result_83 rfl (lv_at hl 0 rfl) ?_
    refine va_get (D := (dC, dI)) (ci := 2) (v := .int a) (C := R_Mc) (T := T_Mc) (N := 4) hx hb hts uin_Mc hown hK hP 0 rfl rfl 1 (by decide) (hts _ wi_101) (fun _ h9 => h9) rfl d_Mc_result_84 ?_
    refine lv_iload_n hx hb d_Mc_result_87 rfl (lv_at hl 2 rfl) ?_
    refine lv_isub hx hb d_Mc_result_88 ?_
    exact fs_iret hx hb hr hlocks hAe hK hS d_Mc_result_89 () (by rw [hsw]; rfl) hP hD
  · refine fs_eqi (v := nI 12) (by rw [hsw]) ?_
    refine lv_tableIn (off := 89) (tgt := 90) hx hb d_Mc_result_1 (by decide) (by decide) rfl (by decide) ?_
    refine lv_aload_n hx hb d_Mc_result_90 rfl (lv_at hl 0 rfl) ?_
    refine va_get (D := (dC, dI)) (ci := 2) (v := .int a) (C := R_Mc) (T := T_Mc) (N := 4) hx hb hts uin_Mc hown hK hP 0 rfl rfl 1 (by decide) (hts _ wi_101) (fun _ h9 => h9) rfl d_Mc_result_91 ?_
    refine lv_iload_n hx hb d_Mc_result_94 rfl (lv_at hl 2 rfl) ?_
    refine lv_imul hx hb d_Mc_result_95 ?_
    exact fs_iret hx hb hr hlocks hAe hK hS d_Mc_result_96 () (by rw [hsw]; rfl) hP hD
  · refine fs_eqi (v := nI 13) (by rw [hsw]) ?_
    refine lv_tableIn (off := 96) (tgt := 97) hx hb d_Mc_result_1 (by decide) (by decide) rfl (by decide) ?_
    refine lv_aload_n hx hb d_Mc_result_97 rfl (lv_at hl 0 rfl) ?_
    refine va_get (D := (dC, dI)) (ci := 2) (v := .int a) (C := R_Mc) (T := T_Mc) (N := 4) hx hb hts uin_Mc hown hK hP 0 rfl rfl 1 (by decide) (hts _ wi_101) (fun _ h9 => h9) rfl d_Mc_result_98 ?_
    refine lv_iload_n hx hb d_Mc_result_101 rfl (lv_at hl 2 rfl) ?_
    refine fs_calli (wc := []) (wr := [(mc, .inr (2, [.ref cl, .int a, .int x, .int dn]))]) [] [0] hP hD hK hS hA rfl rfl rfl (by decide) (fun hPc hDc => va_runS (As := [.int a, .int v]) (rest := []) ⟨hx, hb, hml, hown, hts⟩ (c_Mc_quotient a v _ (hz (by omega))) (⟨callB_of 2 hts (fs_g kin_Mc_quotient) rfl rfl rfl (hts _ wi_5) (hts _ wi_288) (by decide +kernel) ⟨Nat.le_of_ble_eq_true rfl, Nat.le_of_ble_eq_true rfl⟩, hts _ wi_289⟩) (fs_preS hPc hK hDc) rfl rfl hl.1 rfl (lv_room (Nat.le_of_ble_eq_true rfl)) d_Mc_result_102 ⟨Nat.le_of_ble_eq_true rfl, Nat.le_of_ble_eq_true rfl⟩) rfl (fun r102 _ H locs hp102 hP hD hS => ?_)
    have hP : va_P (dC, dI) vwCl [(mc, .inr (2, [.ref cl, .int a, .int x, .int dn]))] H := hP
    have hD : va_D A [(mc, .inr (2, [.ref cl, .int a, .int x, .int dn]))] := hD
    subst hp102
    exact fs_iret hx hb hr hlocks hAe hK hS d_Mc_result_105 () (by rw [hsw]; rfl) hP hD
  · refine fs_eqi (v := nI 14) (by rw [hsw]) ?_
    refine lv_tableIn (off := 105) (tgt := 106) hx hb d_Mc_result_1 (by decide) (by decide) rfl (by decide) ?_
    refine lv_aload_n hx hb d_Mc_result_106 rfl (lv_at hl 0 rfl) ?_
    refine va_get (D := (dC, dI)) (ci := 2) (v := .int a) (C := R_Mc) (T := T_Mc) (N := 4) hx hb hts uin_Mc hown hK hP 0 rfl rfl 1 (by decide) (hts _ wi_101) (fun _ h9 => h9) rfl d_Mc_result_107 ?_
    refine lv_iload_n hx hb d_Mc_result_110 rfl (lv_at hl 2 rfl) ?_
    refine lv_iand hx hb d_Mc_result_111 ?_
    exact fs_iret hx hb hr hlocks hAe hK hS d_Mc_result_112 () (by rw [hsw]; rfl) hP hD
  · refine fs_eqi (v := nI 15) (by rw [hsw]) ?_
    refine lv_tableIn (off := 112) (tgt := 113) hx hb d_Mc_result_1 (by decide) (by decide) rfl (by decide) ?_
    refine lv_aload_n hx hb d_Mc_result_113 rfl (lv_at hl 0 rfl) ?_
    refine va_get (D := (dC, dI)) (ci := 2) (v := .int a) (C := R_Mc) (T := T_Mc) (N := 4) hx hb hts uin_Mc hown hK hP 0 rfl rfl 1 (by decide) (hts _ wi_101) (fun _ h9 => h9) rfl d_Mc_result_114 ?_
    refine lv_iload_n hx hb d_Mc_result_117 rfl (lv_at hl 2 rfl) ?_
    refine lv_ior hx hb d_Mc_result_118 ?_
    exact fs_iret hx hb hr hlocks hAe hK hS d_Mc_result_119 () (by rw [hsw]; rfl) hP hD
  · refine fs_eqi (v := nI 16) (by rw [hsw]) ?_
    refine lv_tableIn (off := 119) (tgt := 120) hx hb d_Mc_result_1 (by decide) (by decide) rfl (by decide) ?_
    refine lv_aload_n hx hb d_Mc_result_120 rfl (lv_at hl 0 rfl) ?_
    refine va_get (D := (dC, dI)) (ci := 2) (v := .int a) (C := R_Mc) (T := T_Mc) (N := 4) hx hb hts uin_Mc hown hK hP 0 rfl rfl 1 (by decide) (hts _ wi_101) (fun _ h9 => h9) rfl d_Mc_result_121 ?_
    refine lv_iload_n hx hb d_Mc_result_124 rfl (lv_at hl 2 rfl) ?_
    refine lv_ixor hx hb d_Mc_result_125 ?_
    exact fs_iret hx hb hr hlocks hAe hK hS d_Mc_result_126 () (by rw [hsw]; rfl) hP hD
  · refine fs_eqi (v := nI 17) (by rw [hsw]) ?_
    refine lv_tableIn (off := 126) (tgt := 127) hx hb d_Mc_result_1 (by decide) (by decide) rfl (by decide) ?_
    refine lv_aload_n hx hb d_Mc_result_127 rfl (lv_at hl 0 rfl) ?_
    refine va_get (D := (dC, dI)) (ci := 2) (v := .int a) (C := R_Mc) (T := T_Mc) (N := 4) hx hb hts uin_Mc hown hK hP 0 rfl rfl 1 (by decide) (hts _ wi_101) (fun _ h9 => h9) rfl d_Mc_result_128 ?_
    refine lv_iload_n hx hb d_Mc_result_131 rfl (lv_at hl 2 rfl) ?_
    refine lv_ishl hx hb d_Mc_result_132 ?_
    exact fs_iret hx hb hr hlocks hAe hK hS d_Mc_result_133 () (by rw [hsw]; rfl) hP hD
  · refine fs_eqi (v := nI 18) (by rw [hsw]) ?_
    refine lv_tableIn (off := 133) (tgt := 134) hx hb d_Mc_result_1 (by decide) (by decide) rfl (by decide) ?_
    refine lv_aload_n hx hb d_Mc_result_134 rfl (lv_at hl 0 rfl) ?_
    refine va_get (D := (dC, dI)) (ci := 2) (v := .int a) (C := R_Mc) (T := T_Mc) (N := 4) hx hb hts uin_Mc hown hK hP 0 rfl rfl 1 (by decide) (hts _ wi_101) (fun _ h9 => h9) rfl d_Mc_result_135 ?_
    refine lv_iload_n hx hb d_Mc_result_138 rfl (lv_at hl 2 rfl) ?_
    refine lv_iushr hx hb d_Mc_result_139 rfl ?_
    exact fs_iret hx hb hr hlocks hAe hK hS d_Mc_result_140 () (by rw [hsw]; rfl) hP hD
  · refine fs_eqi (v := nI 19) (by rw [hsw]) ?_
    refine lv_tableIn (off := 75) (tgt := 76) hx hb d_Mc_result_1 (by decide) (by decide) rfl (by decide) ?_
    refine lv_aload_n hx hb d_Mc_result_76 rfl (lv_at hl 0 rfl) ?_
    refine va_get (D := (dC, dI)) (ci := 2) (v := .int a) (C := R_Mc) (T := T_Mc) (N := 4) hx hb hts uin_Mc hown hK hP 0 rfl rfl 1 (by decide) (hts _ wi_101) (fun _ h9 => h9) rfl d_Mc_result_77 ?_
    refine lv_iload_n hx hb d_Mc_result_80 rfl (lv_at hl 2 rfl) ?_
    refine lv_iadd hx hb d_Mc_result_81 ?_
    exact fs_iret hx hb hr hlocks hAe hK hS d_Mc_result_82 () (by rw [hsw]; rfl) hP hD
  · refine fs_eqi (v := nI 20) (by rw [hsw]) ?_
    refine lv_tableIn (off := 82) (tgt := 83) hx hb d_Mc_result_1 (by decide) (by decide) rfl (by decide) ?_
    refine lv_aload_n hx hb d_Mc_result_83 rfl (lv_at hl 0 rfl) ?_
    refine va_get (D := (dC, dI)) (ci := 2) (v := .int a) (C := R_Mc) (T := T_Mc) (N := 4) hx hb hts uin_Mc hown hK hP 0 rfl rfl 1 (by decide) (hts _ wi_101) (fun _ h9 => h9) rfl d_Mc_result_84 ?_
    refine lv_iload_n hx hb d_Mc_result_87 rfl (lv_at hl 2 rfl) ?_
    refine lv_isub hx hb d_Mc_result_88 ?_
    exact fs_iret hx hb hr hlocks hAe hK hS d_Mc_result_89 () (by rw [hsw]; rfl) hP hD
  · refine fs_eqi (v := nI 21) (by rw [hsw]) ?_
    refine lv_tableIn (off := 89) (tgt := 90) hx hb d_Mc_result_1 (by decide) (by decide) rfl (by decide) ?_
    refine lv_aload_n hx hb d_Mc_result_90 rfl (lv_at hl 0 rfl) ?_
    refine va_get (D := (dC, dI)) (ci := 2) (v := .int a) (C := R_Mc) (T := T_Mc) (N := 4) hx hb hts uin_Mc hown hK hP 0 rfl rfl 1 (by decide) (hts _ wi_101) (fun _ h9 => h9) rfl d_Mc_result_91 ?_
    refine lv_iload_n hx hb d_Mc_result_94 rfl (lv_at hl 2 rfl) ?_
    refine lv_imul hx hb d_Mc_result_95 ?_
    exact fs_iret hx hb hr hlocks hAe hK hS d_Mc_result_96 () (by rw [hsw]; rfl) hP hD
  · refine fs_eqi (v := nI 22) (by rw [hsw]) ?_
    refine lv_tableIn (off := 96) (tgt := 97) hx hb d_Mc_result_1 (by decide) (by decide) rfl (by decide) ?_
    refine lv_aload_n hx hb d_Mc_result_97 rfl (lv_at hl 0 rfl) ?_
    refine va_get (D := (dC, dI)) (ci := 2) (v := .int a) (C := R_Mc) (T := T_Mc) (N := 4) hx hb hts uin_Mc hown hK hP 0 rfl rfl 1 (by decide) (hts _ wi_101) (fun _ h9 => h9) rfl d_Mc_result_98 ?_
    refine lv_iload_n hx hb d_Mc_result_101 rfl (lv_at hl 2 rfl) ?_
    refine fs_calli (wc := []) (wr := [(mc, .inr (2, [.ref cl, .int a, .int x, .int dn]))]) [] [0] hP hD hK hS hA rfl rfl rfl (by decide) (fun hPc hDc => va_runS (As := [.int a, .int v]) (rest := []) ⟨hx, hb, hml, hown, hts⟩ (c_Mc_quotient a v _ (hz (by omega))) (⟨callB_of 2 hts (fs_g kin_Mc_quotient) rfl rfl rfl (hts _ wi_5) (hts _ wi_288) (by decide +kernel) ⟨Nat.le_of_ble_eq_true rfl, Nat.le_of_ble_eq_true rfl⟩, hts _ wi_289⟩) (fs_preS hPc hK hDc) rfl rfl hl.1 rfl (lv_room (Nat.le_of_ble_eq_true rfl)) d_Mc_result_102 ⟨Nat.le_of_ble_eq_true rfl, Nat.le_of_ble_eq_true rfl⟩) rfl (fun r102 _ H locs hp102 hP hD hS => ?_)
    have hP : va_P (dC, dI) vwCl [(mc, .inr (2, [.ref cl, .int a, .int x, .int dn]))] H := hP
    have hD : va_D A [(mc, .inr (2, [.ref cl, .int a, .int x, .int dn]))] := hD
    subst hp102
    exact fs_iret hx hb hr hlocks hAe hK hS d_Mc_result_105 () (by rw [hsw]; rfl) hP hD
  · refine fs_eqi (v := nI 23) (by rw [hsw]) ?_
    refine lv_tableIn (off := 105) (tgt := 106) hx hb d_Mc_result_1 (by decide) (by decide) rfl (by decide) ?_
    refine lv_aload_n hx hb d_Mc_result_106 rfl (lv_at hl 0 rfl) ?_
    refine va_get (D := (dC, dI)) (ci := 2) (v := .int a) (C := R_Mc) (T := T_Mc) (N := 4) hx hb hts uin_Mc hown hK hP 0 rfl rfl 1 (by decide) (hts _ wi_101) (fun _ h9 => h9) rfl d_Mc_result_107 ?_
    refine lv_iload_n hx hb d_Mc_result_110 rfl (lv_at hl 2 rfl) ?_
    refine lv_iand hx hb d_Mc_result_111 ?_
    exact fs_iret hx hb hr hlocks hAe hK hS d_Mc_result_112 () (by rw [hsw]; rfl) hP hD
  · refine fs_eqi (v := nI 24) (by rw [hsw]) ?_
    refine lv_tableIn (off := 140) (tgt := 141) hx hb d_Mc_result_1 (by decide) (by decide) rfl (by decide) ?_
    refine lv_aload_n hx hb d_Mc_result_141 rfl (lv_at hl 0 rfl) ?_
    refine va_get (D := (dC, dI)) (ci := 2) (v := .int a) (C := R_Mc) (T := T_Mc) (N := 4) hx hb hts uin_Mc hown hK hP 0 rfl rfl 1 (by decide) (hts _ wi_101) (fun _ h9 => h9) rfl d_Mc_result_142 ?_
    refine lv_ineg hx hb d_Mc_result_145 ?_
    exact fs_iret hx hb hr hlocks hAe hK hS d_Mc_result_146 () (by rw [hsw]; rfl) hP hD

theorem d_Mc_move_0 : decode b_Mc_move 0 = .ok (.iload_n 1, 1) := by decide +kernel
theorem d_Mc_move_1 : decode b_Mc_move 1 = .ok (.tableswitch 179 0 9 #[55, 68, 76, 92, 101, 109, 125, 136, 147, 163], 55) := by decide +kernel
theorem d_Mc_move_56 : decode b_Mc_move 56 = .ok (.aload_n 0, 1) := by decide +kernel
theorem d_Mc_move_57 : decode b_Mc_move 57 = .ok (.aload_n 3, 1) := by decide +kernel
theorem d_Mc_move_58 : decode b_Mc_move 58 = .ok (.iload_n 2, 1) := by decide +kernel
theorem d_Mc_move_59 : decode b_Mc_move 59 = .ok (.bipush 15, 2) := by decide +kernel
theorem d_Mc_move_61 : decode b_Mc_move 61 = .ok (.iand, 1) := by decide +kernel
theorem d_Mc_move_62 : decode b_Mc_move 62 = .ok (.iaload, 1) := by decide +kernel
theorem d_Mc_move_63 : decode b_Mc_move 63 = .ok (.putfield 15, 3) := by decide +kernel
theorem d_Mc_move_66 : decode b_Mc_move 66 = .ok (.goto 114, 3) := by decide +kernel
theorem d_Mc_move_69 : decode b_Mc_move 69 = .ok (.aload_n 0, 1) := by decide +kernel
theorem d_Mc_move_70 : decode b_Mc_move 70 = .ok (.iload_n 2, 1) := by decide +kernel
theorem d_Mc_move_71 : decode b_Mc_move 71 = .ok (.putfield 15, 3) := by decide +kernel
theorem d_Mc_move_74 : decode b_Mc_move 74 = .ok (.goto 106, 3) := by decide +kernel
theorem d_Mc_move_77 : decode b_Mc_move 77 = .ok (.aload_n 0, 1) := by decide +kernel
theorem d_Mc_move_78 : decode b_Mc_move 78 = .ok (.aload_n 0, 1) := by decide +kernel
theorem d_Mc_move_79 : decode b_Mc_move 79 = .ok (.getfield 9, 3) := by decide +kernel
theorem d_Mc_move_82 : decode b_Mc_move 82 = .ok (.iload_n 2, 1) := by decide +kernel
theorem d_Mc_move_83 : decode b_Mc_move 83 = .ok (.bipush 15, 2) := by decide +kernel
theorem d_Mc_move_85 : decode b_Mc_move 85 = .ok (.iand, 1) := by decide +kernel
theorem d_Mc_move_86 : decode b_Mc_move 86 = .ok (.iaload, 1) := by decide +kernel
theorem d_Mc_move_87 : decode b_Mc_move 87 = .ok (.putfield 15, 3) := by decide +kernel
theorem d_Mc_move_90 : decode b_Mc_move 90 = .ok (.goto 90, 3) := by decide +kernel
theorem d_Mc_move_93 : decode b_Mc_move 93 = .ok (.aload_n 0, 1) := by decide +kernel
theorem d_Mc_move_94 : decode b_Mc_move 94 = .ok (.iload 4, 2) := by decide +kernel
theorem d_Mc_move_96 : decode b_Mc_move 96 = .ok (.putfield 15, 3) := by decide +kernel
theorem d_Mc_move_99 : decode b_Mc_move 99 = .ok (.goto 81, 3) := by decide +kernel
theorem d_Mc_move_102 : decode b_Mc_move 102 = .ok (.aload_n 0, 1) := by decide +kernel
theorem d_Mc_move_103 : decode b_Mc_move 103 = .ok (.iload_n 2, 1) := by decide +kernel
theorem d_Mc_move_104 : decode b_Mc_move 104 = .ok (.putfield 19, 3) := by decide +kernel
theorem d_Mc_move_107 : decode b_Mc_move 107 = .ok (.goto 73, 3) := by decide +kernel
theorem d_Mc_move_110 : decode b_Mc_move 110 = .ok (.aload_n 0, 1) := by decide +kernel
theorem d_Mc_move_111 : decode b_Mc_move 111 = .ok (.aload_n 0, 1) := by decide +kernel
theorem d_Mc_move_112 : decode b_Mc_move 112 = .ok (.getfield 9, 3) := by decide +kernel
theorem d_Mc_move_115 : decode b_Mc_move 115 = .ok (.iload_n 2, 1) := by decide +kernel
theorem d_Mc_move_116 : decode b_Mc_move 116 = .ok (.bipush 15, 2) := by decide +kernel
theorem d_Mc_move_118 : decode b_Mc_move 118 = .ok (.iand, 1) := by decide +kernel
theorem d_Mc_move_119 : decode b_Mc_move 119 = .ok (.iaload, 1) := by decide +kernel
theorem d_Mc_move_120 : decode b_Mc_move 120 = .ok (.putfield 19, 3) := by decide +kernel
theorem d_Mc_move_123 : decode b_Mc_move 123 = .ok (.goto 57, 3) := by decide +kernel
theorem d_Mc_move_126 : decode b_Mc_move 126 = .ok (.aload_n 0, 1) := by decide +kernel
theorem d_Mc_move_127 : decode b_Mc_move 127 = .ok (.aload_n 0, 1) := by decide +kernel
theorem d_Mc_move_128 : decode b_Mc_move 128 = .ok (.getfield 15, 3) := by decide +kernel
theorem d_Mc_move_131 : decode b_Mc_move 131 = .ok (.putfield 19, 3) := by decide +kernel
theorem d_Mc_move_134 : decode b_Mc_move 134 = .ok (.goto 46, 3) := by decide +kernel
theorem d_Mc_move_137 : decode b_Mc_move 137 = .ok (.aload_n 0, 1) := by decide +kernel
theorem d_Mc_move_138 : decode b_Mc_move 138 = .ok (.aload_n 0, 1) := by decide +kernel
theorem d_Mc_move_139 : decode b_Mc_move 139 = .ok (.getfield 19, 3) := by decide +kernel
theorem d_Mc_move_142 : decode b_Mc_move 142 = .ok (.putfield 15, 3) := by decide +kernel
theorem d_Mc_move_145 : decode b_Mc_move 145 = .ok (.goto 35, 3) := by decide +kernel
theorem d_Mc_move_148 : decode b_Mc_move 148 = .ok (.aload_n 0, 1) := by decide +kernel
theorem d_Mc_move_149 : decode b_Mc_move 149 = .ok (.getfield 9, 3) := by decide +kernel
theorem d_Mc_move_152 : decode b_Mc_move 152 = .ok (.iload_n 2, 1) := by decide +kernel
theorem d_Mc_move_153 : decode b_Mc_move 153 = .ok (.bipush 15, 2) := by decide +kernel
theorem d_Mc_move_155 : decode b_Mc_move 155 = .ok (.iand, 1) := by decide +kernel
theorem d_Mc_move_156 : decode b_Mc_move 156 = .ok (.aload_n 0, 1) := by decide +kernel
theorem d_Mc_move_157 : decode b_Mc_move 157 = .ok (.getfield 15, 3) := by decide +kernel
theorem d_Mc_move_160 : decode b_Mc_move 160 = .ok (.iastore, 1) := by decide +kernel
theorem d_Mc_move_161 : decode b_Mc_move 161 = .ok (.goto 19, 3) := by decide +kernel
theorem d_Mc_move_164 : decode b_Mc_move 164 = .ok (.aload_n 0, 1) := by decide +kernel
theorem d_Mc_move_165 : decode b_Mc_move 165 = .ok (.getfield 9, 3) := by decide +kernel
theorem d_Mc_move_168 : decode b_Mc_move 168 = .ok (.iload_n 2, 1) := by decide +kernel
theorem d_Mc_move_169 : decode b_Mc_move 169 = .ok (.bipush 15, 2) := by decide +kernel
theorem d_Mc_move_171 : decode b_Mc_move 171 = .ok (.iand, 1) := by decide +kernel
theorem d_Mc_move_172 : decode b_Mc_move 172 = .ok (.aload_n 0, 1) := by decide +kernel
theorem d_Mc_move_173 : decode b_Mc_move 173 = .ok (.getfield 19, 3) := by decide +kernel
theorem d_Mc_move_176 : decode b_Mc_move 176 = .ok (.iastore, 1) := by decide +kernel
theorem d_Mc_move_177 : decode b_Mc_move 177 = .ok (.goto 3, 3) := by decide +kernel
theorem d_Mc_move_180 : decode b_Mc_move 180 = .ok (.return_, 1) := by decide +kernel
set_option maxHeartbeats 4000000 in
set_option maxRecDepth 100000 in
theorem c_Mc_move (mc cl wd : Nat) (a x dn k : Int32) (cs w : Nat → Int32) (o len : Nat) (sz : Nat) (ho : o < 10) (hk : o = 0 ∨ o = 2 ∨ o = 5 ∨ o = 8 ∨ o = 9 → 0 ≤ k.toInt ∧ k.toInt < 16) : fs_V l y_Mc_move (k_Mc_move :: fs_T) { frames := 0, cells := 0, slots := 0, locals := 0 } (dC, dI) vwCl (fs_tys cI cZ cJ cF) [.ref mc, .int (nI o), .int k, .ref wd, .int (nI len)] [(mc, .inr (2, [.ref cl, .int a, .int x, .int dn])), (cl, .inl (cI, 16, .inl cs)), (wd, .inl (cI, 16, .inl w))] sz (S := Unit) (fun _ => True) (fun _ => [(mc, .inr (2, [.ref cl, .int (fx_a o a x k cs w len), .int (fx_x o a x k cs), .int dn])), (cl, .inl (cI, 16, .inl (fx_c o a x k cs))), (wd, .inl (cI, 16, .inl w))]) 0 0 := by
  refine fs_head (by decide) (Nat.le_of_ble_eq_true rfl) ?_
  intro p e s m below meth c A ls hx hb hr hts hown hlocks hin hml hK hP hD hS hA hAe hsz hl
  have hl : lv_has ls 5 [(0, .ref mc), (1, .int (nI o)), (2, .int k), (3, .ref wd), (4, .int (nI len))] := hl
  have hown : s.vm.findClass R_Mc = some m.cls := hown
  refine lv_iload_n hx hb d_Mc_move_0 rfl (lv_at hl 1 rfl) ?_
  rcases (show o = 0 ∨ o = 1 ∨ o = 2 ∨ o = 3 ∨ o = 4 ∨ o = 5 ∨ o = 6 ∨ o = 7 ∨ o = 8 ∨ o = 9 from by omega) with hsw | hsw | hsw | hsw | hsw | hsw | hsw | hsw | hsw | hsw
  · refine fs_eqi (v := nI 0) (by rw [hsw]) ?_
    refine lv_tableIn (off := 55) (tgt := 56) hx hb d_Mc_move_1 (by decide) (by decide) rfl (by decide) ?_
    refine lv_aload_n hx hb d_Mc_move_56 rfl (lv_at hl 0 rfl) ?_
    refine lv_aload_n hx hb d_Mc_move_57 rfl (lv_at hl 3 rfl) ?_
    refine lv_iload_n hx hb d_Mc_move_58 rfl (lv_at hl 2 rfl) ?_
    refine lv_bipush (v := nI 15) hx hb d_Mc_move_59 (by decide) ?_
    refine lv_iand hx hb d_Mc_move_61 ?_
    refine fs_eqi (v := nI k.toNatClampNeg) (fx_and15 (hk (by omega)).1 (hk (by omega)).2) ?_
    have hkn := fs_clampI (hk (by omega)).1
    have hkm := (hk (by omega)).2
    refine fs_iald (v := w k.toNatClampNeg) hx hb hK hP 2 0 rfl rfl k.toNatClampNeg rfl (by decide) (by omega) rfl d_Mc_move_62 ?_
    refine va_put (D := (dC, dI)) (ci := 2) (v := .int (w k.toNatClampNeg)) (ty := (.int)) (C := R_Mc) (T := T_Mc) (N := 4) hx hb hts uin_Mc t_Mc ok_Mc n_Mc hown hK hP hD hS 0 rfl rfl 1 (by decide) (hts _ wi_101) (fun _ h9 => h9) rfl (by decide +kernel) rfl rfl (Nat.le_of_ble_eq_true rfl) d_Mc_move_63 (fun H locs hP hD hS => ?_)
    have hP : va_P (dC, dI) vwCl [(mc, .inr (2, [.ref cl, .int (w k.toNatClampNeg), .int x, .int dn])), (cl, .inl (cI, 16, .inl cs)), (wd, .inl (cI, 16, .inl w))] H := hP
    have hD : va_D A [(mc, .inr (2, [.ref cl, .int (w k.toNatClampNeg), .int x, .int dn])), (cl, .inl (cI, 16, .inl cs)), (wd, .inl (cI, 16, .inl w))] := hD
    refine lv_goto (tgt := 180) hx hb d_Mc_move_66 (by decide) ?_
    subst hsw
    exact fs_vret hx hb hr hlocks hAe hK hS d_Mc_move_180 () (trivial) hP hD
  · refine fs_eqi (v := nI 1) (by rw [hsw]) ?_
    refine lv_tableIn (off := 68) (tgt := 69) hx hb d_Mc_move_1 (by decide) (by decide) rfl (by decide) ?_
    refine lv_aload_n hx hb d_Mc_move_69 rfl (lv_at hl 0 rfl) ?_
    refine lv_iload_n hx hb d_Mc_move_70 rfl (lv_at hl 2 rfl) ?_
    refine va_put (D := (dC, dI)) (ci := 2) (v := .int k) (ty := (.int)) (C := R_Mc) (T := T_Mc) (N := 4) hx hb hts uin_Mc t_Mc ok_Mc n_Mc hown hK hP hD hS 0 rfl rfl 1 (by decide) (hts _ wi_101) (fun _ h9 => h9) rfl (by decide +kernel) rfl rfl (Nat.le_of_ble_eq_true rfl) d_Mc_move_71 (fun H locs hP hD hS => ?_)
    have hP : va_P (dC, dI) vwCl [(mc, .inr (2, [.ref cl, .int k, .int x, .int dn])), (cl, .inl (cI, 16, .inl cs)), (wd, .inl (cI, 16, .inl w))] H := hP
    have hD : va_D A [(mc, .inr (2, [.ref cl, .int k, .int x, .int dn])), (cl, .inl (cI, 16, .inl cs)), (wd, .inl (cI, 16, .inl w))] := hD
    refine lv_goto (tgt := 180) hx hb d_Mc_move_74 (by decide) ?_
    subst hsw
    exact fs_vret hx hb hr hlocks hAe hK hS d_Mc_move_180 () (trivial) hP hD
  · refine fs_eqi (v := nI 2) (by rw [hsw]) ?_
    refine lv_tableIn (off := 76) (tgt := 77) hx hb d_Mc_move_1 (by decide) (by decide) rfl (by decide) ?_
    refine lv_aload_n hx hb d_Mc_move_77 rfl (lv_at hl 0 rfl) ?_
    refine lv_aload_n hx hb d_Mc_move_78 rfl (lv_at hl 0 rfl) ?_
    refine va_get (D := (dC, dI)) (ci := 2) (v := .ref cl) (C := R_Mc) (T := T_Mc) (N := 4) hx hb hts uin_Mc hown hK hP 0 rfl rfl 0 (by decide) (hts _ wi_100) (fun _ h9 => h9) rfl d_Mc_move_79 ?_
    refine lv_iload_n hx hb d_Mc_move_82 rfl (lv_at hl 2 rfl) ?_
    refine lv_bipush (v := nI 15) hx hb d_Mc_move_83 (by decide) ?_
    refine lv_iand hx hb d_Mc_move_85 ?_
    refine fs_eqi (v := nI k.toNatClampNeg) (fx_and15 (hk (by omega)).1 (hk (by omega)).2) ?_
    have hkn := fs_clampI (hk (by omega)).1
    have hkm := (hk (by omega)).2
    refine fs_iald (v := cs k.toNatClampNeg) hx hb hK hP 1 0 rfl rfl k.toNatClampNeg rfl (by decide) (by omega) rfl d_Mc_move_86 ?_
    refine va_put (D := (dC, dI)) (ci := 2) (v := .int (cs k.toNatClampNeg)) (ty := (.int)) (C := R_Mc) (T := T_Mc) (N := 4) hx hb hts uin_Mc t_Mc ok_Mc n_Mc hown hK hP hD hS 0 rfl rfl 1 (by decide) (hts _ wi_101) (fun _ h9 => h9) rfl (by decide +kernel) rfl rfl (Nat.le_of_ble_eq_true rfl) d_Mc_move_87 (fun H locs hP hD hS => ?_)
    have hP : va_P (dC, dI) vwCl [(mc, .inr (2, [.ref cl, .int (cs k.toNatClampNeg), .int x, .int dn])), (cl, .inl (cI, 16, .inl cs)), (wd, .inl (cI, 16, .inl w))] H := hP
    have hD : va_D A [(mc, .inr (2, [.ref cl, .int (cs k.toNatClampNeg), .int x, .int dn])), (cl, .inl (cI, 16, .inl cs)), (wd, .inl (cI, 16, .inl w))] := hD
    refine lv_goto (tgt := 180) hx hb d_Mc_move_90 (by decide) ?_
    subst hsw
    exact fs_vret hx hb hr hlocks hAe hK hS d_Mc_move_180 () (trivial) hP hD
  · refine fs_eqi (v := nI 3) (by rw [hsw]) ?_
    refine lv_tableIn (off := 92) (tgt := 93) hx hb d_Mc_move_1 (by decide) (by decide) rfl (by decide) ?_
    refine lv_aload_n hx hb d_Mc_move_93 rfl (lv_at hl 0 rfl) ?_
    refine lv_iload hx hb d_Mc_move_94 (lv_at hl 4 rfl) ?_
    refine va_put (D := (dC, dI)) (ci := 2) (v := .int (nI len)) (ty := (.int)) (C := R_Mc) (T := T_Mc) (N := 4) hx hb hts uin_Mc t_Mc ok_Mc n_Mc hown hK hP hD hS 0 rfl rfl 1 (by decide) (hts _ wi_101) (fun _ h9 => h9) rfl (by decide +kernel) rfl rfl (Nat.le_of_ble_eq_true rfl) d_Mc_move_96 (fun H locs hP hD hS => ?_)
    have hP : va_P (dC, dI) vwCl [(mc, .inr (2, [.ref cl, .int (nI len), .int x, .int dn])), (cl, .inl (cI, 16, .inl cs)), (wd, .inl (cI, 16, .inl w))] H := hP
    have hD : va_D A [(mc, .inr (2, [.ref cl, .int (nI len), .int x, .int dn])), (cl, .inl (cI, 16, .inl cs)), (wd, .inl (cI, 16, .inl w))] := hD
    refine lv_goto (tgt := 180) hx hb d_Mc_move_99 (by decide) ?_
    subst hsw
    exact fs_vret hx hb hr hlocks hAe hK hS d_Mc_move_180 () (trivial) hP hD
  · refine fs_eqi (v := nI 4) (by rw [hsw]) ?_
    refine lv_tableIn (off := 101) (tgt := 102) hx hb d_Mc_move_1 (by decide) (by decide) rfl (by decide) ?_
    refine lv_aload_n hx hb d_Mc_move_102 rfl (lv_at hl 0 rfl) ?_
    refine lv_iload_n hx hb d_Mc_move_103 rfl (lv_at hl 2 rfl) ?_
    refine va_put (D := (dC, dI)) (ci := 2) (v := .int k) (ty := (.int)) (C := R_Mc) (T := T_Mc) (N := 4) hx hb hts uin_Mc t_Mc ok_Mc n_Mc hown hK hP hD hS 0 rfl rfl 2 (by decide) (hts _ wi_102) (fun _ h9 => h9) rfl (by decide +kernel) rfl rfl (Nat.le_of_ble_eq_true rfl) d_Mc_move_104 (fun H locs hP hD hS => ?_)
    have hP : va_P (dC, dI) vwCl [(mc, .inr (2, [.ref cl, .int a, .int k, .int dn])), (cl, .inl (cI, 16, .inl cs)), (wd, .inl (cI, 16, .inl w))] H := hP
    have hD : va_D A [(mc, .inr (2, [.ref cl, .int a, .int k, .int dn])), (cl, .inl (cI, 16, .inl cs)), (wd, .inl (cI, 16, .inl w))] := hD
    refine lv_goto (tgt := 180) hx hb d_Mc_move_107 (by decide) ?_
    subst hsw
    exact fs_vret hx hb hr hlocks hAe hK hS d_Mc_move_180 () (trivial) hP hD
  · refine fs_eqi (v := nI 5) (by rw [hsw]) ?_
    refine lv_tableIn (off := 109) (tgt := 110) hx hb d_Mc_move_1 (by decide) (by decide) rfl (by decide) ?_
    refine lv_aload_n hx hb d_Mc_move_110 rfl (lv_at hl 0 rfl) ?_
    refine lv_aload_n hx hb d_Mc_move_111 rfl (lv_at hl 0 rfl) ?_
    refine va_get (D := (dC, dI)) (ci := 2) (v := .ref cl) (C := R_Mc) (T := T_Mc) (N := 4) hx hb hts uin_Mc hown hK hP 0 rfl rfl 0 (by decide) (hts _ wi_100) (fun _ h9 => h9) rfl d_Mc_move_112 ?_
    refine lv_iload_n hx hb d_Mc_move_115 rfl (lv_at hl 2 rfl) ?_
    refine lv_bipush (v := nI 15) hx hb d_Mc_move_116 (by decide) ?_
    refine lv_iand hx hb d_Mc_move_118 ?_
    refine fs_eqi (v := nI k.toNatClampNeg) (fx_and15 (hk (by omega)).1 (hk (by omega)).2) ?_
    have hkn := fs_clampI (hk (by omega)).1
    have hkm := (hk (by omega)).2
    refine fs_iald (v := cs k.toNatClampNeg) hx hb hK hP 1 0 rfl rfl k.toNatClampNeg rfl (by decide) (by omega) rfl d_Mc_move_119 ?_
    refine va_put (D := (dC, dI)) (ci := 2) (v := .int (cs k.toNatClampNeg)) (ty := (.int)) (C := R_Mc) (T := T_Mc) (N := 4) hx hb hts uin_Mc t_Mc ok_Mc n_Mc hown hK hP hD hS 0 rfl rfl 2 (by decide) (hts _ wi_102) (fun _ h9 => h9) rfl (by decide +kernel) rfl rfl (Nat.le_of_ble_eq_true rfl) d_Mc_move_120 (fun H locs hP hD hS => ?_)
    have hP : va_P (dC, dI) vwCl [(mc, .inr (2, [.ref cl, .int a, .int (cs k.toNatClampNeg), .int dn])), (cl, .inl (cI, 16, .inl cs)), (wd, .inl (cI, 16, .inl w))] H := hP
    have hD : va_D A [(mc, .inr (2, [.ref cl, .int a, .int (cs k.toNatClampNeg), .int dn])), (cl, .inl (cI, 16, .inl cs)), (wd, .inl (cI, 16, .inl w))] := hD
    refine lv_goto (tgt := 180) hx hb d_Mc_move_123 (by decide) ?_
    subst hsw
    exact fs_vret hx hb hr hlocks hAe hK hS d_Mc_move_180 () (trivial) hP hD
  · refine fs_eqi (v := nI 6) (by rw [hsw]) ?_
    refine lv_tableIn (off := 125) (tgt := 126) hx hb d_Mc_move_1 (by decide) (by decide) rfl (by decide) ?_
    refine lv_aload_n hx hb d_Mc_move_126 rfl (lv_at hl 0 rfl) ?_
    refine lv_aload_n hx hb d_Mc_move_127 rfl (lv_at hl 0 rfl) ?_
    refine va_get (D := (dC, dI)) (ci := 2) (v := .int a) (C := R_Mc) (T := T_Mc) (N := 4) hx hb hts uin_Mc hown hK hP 0 rfl rfl 1 (by decide) (hts _ wi_101) (fun _ h9 => h9) rfl d_Mc_move_128 ?_
    refine va_put (D := (dC, dI)) (ci := 2) (v := .int a) (ty := (.int)) (C := R_Mc) (T := T_Mc) (N := 4) hx hb hts uin_Mc t_Mc ok_Mc n_Mc hown hK hP hD hS 0 rfl rfl 2 (by decide) (hts _ wi_102) (fun _ h9 => h9) rfl (by decide +kernel) rfl rfl (Nat.le_of_ble_eq_true rfl) d_Mc_move_131 (fun H locs hP hD hS => ?_)
    have hP : va_P (dC, dI) vwCl [(mc, .inr (2, [.ref cl, .int a, .int a, .int dn])), (cl, .inl (cI, 16, .inl cs)), (wd, .inl (cI, 16, .inl w))] H := hP
    have hD : va_D A [(mc, .inr (2, [.ref cl, .int a, .int a, .int dn])), (cl, .inl (cI, 16, .inl cs)), (wd, .inl (cI, 16, .inl w))] := hD
    refine lv_goto (tgt := 180) hx hb d_Mc_move_134 (by decide) ?_
    subst hsw
    exact fs_vret hx hb hr hlocks hAe hK hS d_Mc_move_180 () (trivial) hP hD
  · refine fs_eqi (v := nI 7) (by rw [hsw]) ?_
    refine lv_tableIn (off := 136) (tgt := 137) hx hb d_Mc_move_1 (by decide) (by decide) rfl (by decide) ?_
    refine lv_aload_n hx hb d_Mc_move_137 rfl (lv_at hl 0 rfl) ?_
    refine lv_aload_n hx hb d_Mc_move_138 rfl (lv_at hl 0 rfl) ?_
    refine va_get (D := (dC, dI)) (ci := 2) (v := .int x) (C := R_Mc) (T := T_Mc) (N := 4) hx hb hts uin_Mc hown hK hP 0 rfl rfl 2 (by decide) (hts _ wi_102) (fun _ h9 => h9) rfl d_Mc_move_139 ?_
    refine va_put (D := (dC, dI)) (ci := 2) (v := .int x) (ty := (.int)) (C := R_Mc) (T := T_Mc) (N := 4) hx hb hts uin_Mc t_Mc ok_Mc n_Mc hown hK hP hD hS 0 rfl rfl 1 (by decide) (hts _ wi_101) (fun _ h9 => h9) rfl (by decide +kernel) rfl rfl (Nat.le_of_ble_eq_true rfl) d_Mc_move_142 (fun H locs hP hD hS => ?_)
    have hP : va_P (dC, dI) vwCl [(mc, .inr (2, [.ref cl, .int x, .int x, .int dn])), (cl, .inl (cI, 16, .inl cs)), (wd, .inl (cI, 16, .inl w))] H := hP
    have hD : va_D A [(mc, .inr (2, [.ref cl, .int x, .int x, .int dn])), (cl, .inl (cI, 16, .inl cs)), (wd, .inl (cI, 16, .inl w))] := hD
    refine lv_goto (tgt := 180) hx hb d_Mc_move_145 (by decide) ?_
    subst hsw
    exact fs_vret hx hb hr hlocks hAe hK hS d_Mc_move_180 () (trivial) hP hD
  · refine fs_eqi (v := nI 8) (by rw [hsw]) ?_
    refine lv_tableIn (off := 147) (tgt := 148) hx hb d_Mc_move_1 (by decide) (by decide) rfl (by decide) ?_
    refine lv_aload_n hx hb d_Mc_move_148 rfl (lv_at hl 0 rfl) ?_
    refine va_get (D := (dC, dI)) (ci := 2) (v := .ref cl) (C := R_Mc) (T := T_Mc) (N := 4) hx hb hts uin_Mc hown hK hP 0 rfl rfl 0 (by decide) (hts _ wi_100) (fun _ h9 => h9) rfl d_Mc_move_149 ?_
    refine lv_iload_n hx hb d_Mc_move_152 rfl (lv_at hl 2 rfl) ?_
    refine lv_bipush (v := nI 15) hx hb d_Mc_move_153 (by decide) ?_
    refine lv_iand hx hb d_Mc_move_155 ?_
    refine fs_eqi (v := nI k.toNatClampNeg) (fx_and15 (hk (by omega)).1 (hk (by omega)).2) ?_
    have hkn := fs_clampI (hk (by omega)).1
    have hkm := (hk (by omega)).2
    refine lv_aload_n hx hb d_Mc_move_156 rfl (lv_at hl 0 rfl) ?_
    refine va_get (D := (dC, dI)) (ci := 2) (v := .int a) (C := R_Mc) (T := T_Mc) (N := 4) hx hb hts uin_Mc hown hK hP 0 rfl rfl 1 (by decide) (hts _ wi_101) (fun _ h9 => h9) rfl d_Mc_move_157 ?_
    refine fs_iast hx hb hK hP hD hS 1 0 rfl rfl k.toNatClampNeg rfl (by decide) (by omega) d_Mc_move_160 (fun H locs hP hD hS => ?_)
    have hP : va_P (dC, dI) vwCl [(mc, .inr (2, [.ref cl, .int a, .int x, .int dn])), (cl, .inl (cI, 16, .inl (upd cs k.toNatClampNeg a))), (wd, .inl (cI, 16, .inl w))] H := hP
    have hD : va_D A [(mc, .inr (2, [.ref cl, .int a, .int x, .int dn])), (cl, .inl (cI, 16, .inl (upd cs k.toNatClampNeg a))), (wd, .inl (cI, 16, .inl w))] := hD
    refine lv_goto (tgt := 180) hx hb d_Mc_move_161 (by decide) ?_
    subst hsw
    exact fs_vret hx hb hr hlocks hAe hK hS d_Mc_move_180 () (trivial) hP hD
  · refine fs_eqi (v := nI 9) (by rw [hsw]) ?_
    refine lv_tableIn (off := 163) (tgt := 164) hx hb d_Mc_move_1 (by decide) (by decide) rfl (by decide) ?_
    refine lv_aload_n hx hb d_Mc_move_164 rfl (lv_at hl 0 rfl) ?_
    refine va_get (D := (dC, dI)) (ci := 2) (v := .ref cl) (C := R_Mc) (T := T_Mc) (N := 4) hx hb hts uin_Mc hown hK hP 0 rfl rfl 0 (by decide) (hts _ wi_100) (fun _ h9 => h9) rfl d_Mc_move_165 ?_
    refine lv_iload_n hx hb d_Mc_move_168 rfl (lv_at hl 2 rfl) ?_
    refine lv_bipush (v := nI 15) hx hb d_Mc_move_169 (by decide) ?_
    refine lv_iand hx hb d_Mc_move_171 ?_
    refine fs_eqi (v := nI k.toNatClampNeg) (fx_and15 (hk (by omega)).1 (hk (by omega)).2) ?_
    have hkn := fs_clampI (hk (by omega)).1
    have hkm := (hk (by omega)).2
    refine lv_aload_n hx hb d_Mc_move_172 rfl (lv_at hl 0 rfl) ?_
    refine va_get (D := (dC, dI)) (ci := 2) (v := .int x) (C := R_Mc) (T := T_Mc) (N := 4) hx hb hts uin_Mc hown hK hP 0 rfl rfl 2 (by decide) (hts _ wi_102) (fun _ h9 => h9) rfl d_Mc_move_173 ?_
    refine fs_iast hx hb hK hP hD hS 1 0 rfl rfl k.toNatClampNeg rfl (by decide) (by omega) d_Mc_move_176 (fun H locs hP hD hS => ?_)
    have hP : va_P (dC, dI) vwCl [(mc, .inr (2, [.ref cl, .int a, .int x, .int dn])), (cl, .inl (cI, 16, .inl (upd cs k.toNatClampNeg x))), (wd, .inl (cI, 16, .inl w))] H := hP
    have hD : va_D A [(mc, .inr (2, [.ref cl, .int a, .int x, .int dn])), (cl, .inl (cI, 16, .inl (upd cs k.toNatClampNeg x))), (wd, .inl (cI, 16, .inl w))] := hD
    refine lv_goto (tgt := 180) hx hb d_Mc_move_177 (by decide) ?_
    subst hsw
    exact fs_vret hx hb hr hlocks hAe hK hS d_Mc_move_180 () (trivial) hP hD

theorem d_Mc_run_0 : decode b_Mc_run 0 = .ok (.aload_n 0, 1) := by decide +kernel
theorem d_Mc_run_1 : decode b_Mc_run 1 = .ok (.getfield 9, 3) := by decide +kernel
theorem d_Mc_run_4 : decode b_Mc_run 4 = .ok (.iconst 0, 1) := by decide +kernel
theorem d_Mc_run_5 : decode b_Mc_run 5 = .ok (.invokestatic 25, 3) := by decide +kernel
theorem d_Mc_run_8 : decode b_Mc_run 8 = .ok (.aload_n 0, 1) := by decide +kernel
theorem d_Mc_run_9 : decode b_Mc_run 9 = .ok (.iconst 0, 1) := by decide +kernel
theorem d_Mc_run_10 : decode b_Mc_run 10 = .ok (.putfield 15, 3) := by decide +kernel
theorem d_Mc_run_13 : decode b_Mc_run 13 = .ok (.aload_n 0, 1) := by decide +kernel
theorem d_Mc_run_14 : decode b_Mc_run 14 = .ok (.iconst 0, 1) := by decide +kernel
theorem d_Mc_run_15 : decode b_Mc_run 15 = .ok (.putfield 19, 3) := by decide +kernel
theorem d_Mc_run_18 : decode b_Mc_run 18 = .ok (.iconst 0, 1) := by decide +kernel
theorem d_Mc_run_19 : decode b_Mc_run 19 = .ok (.istore_n 3, 1) := by decide +kernel
theorem d_Mc_run_20 : decode b_Mc_run 20 = .ok (.iconst 1, 1) := by decide +kernel
theorem d_Mc_run_21 : decode b_Mc_run 21 = .ok (.istore 4, 2) := by decide +kernel
theorem d_Mc_run_23 : decode b_Mc_run 23 = .ok (.iload 4, 2) := by decide +kernel
theorem d_Mc_run_25 : decode b_Mc_run 25 = .ok (.bipush 40, 2) := by decide +kernel
theorem d_Mc_run_27 : decode b_Mc_run 27 = .ok (.if_icmp .gt 148, 3) := by decide +kernel
theorem d_Mc_run_30 : decode b_Mc_run 30 = .ok (.aload_n 1, 1) := by decide +kernel
theorem d_Mc_run_31 : decode b_Mc_run 31 = .ok (.iload_n 3, 1) := by decide +kernel
theorem d_Mc_run_32 : decode b_Mc_run 32 = .ok (.invokevirtual 31, 3) := by decide +kernel
theorem d_Mc_run_35 : decode b_Mc_run 35 = .ok (.ifCond .eq 140, 3) := by decide +kernel
theorem d_Mc_run_38 : decode b_Mc_run 38 = .ok (.aload_n 0, 1) := by decide +kernel
theorem d_Mc_run_39 : decode b_Mc_run 39 = .ok (.iload 4, 2) := by decide +kernel
theorem d_Mc_run_41 : decode b_Mc_run 41 = .ok (.putfield 22, 3) := by decide +kernel
theorem d_Mc_run_44 : decode b_Mc_run 44 = .ok (.aload_n 1, 1) := by decide +kernel
theorem d_Mc_run_45 : decode b_Mc_run 45 = .ok (.getfield 37, 3) := by decide +kernel
theorem d_Mc_run_48 : decode b_Mc_run 48 = .ok (.iload_n 3, 1) := by decide +kernel
theorem d_Mc_run_49 : decode b_Mc_run 49 = .ok (.iaload, 1) := by decide +kernel
theorem d_Mc_run_50 : decode b_Mc_run 50 = .ok (.istore 5, 2) := by decide +kernel
theorem d_Mc_run_52 : decode b_Mc_run 52 = .ok (.aload_n 1, 1) := by decide +kernel
theorem d_Mc_run_53 : decode b_Mc_run 53 = .ok (.getfield 40, 3) := by decide +kernel
theorem d_Mc_run_56 : decode b_Mc_run 56 = .ok (.iload_n 3, 1) := by decide +kernel
theorem d_Mc_run_57 : decode b_Mc_run 57 = .ok (.iaload, 1) := by decide +kernel
theorem d_Mc_run_58 : decode b_Mc_run 58 = .ok (.istore 6, 2) := by decide +kernel
theorem d_Mc_run_60 : decode b_Mc_run 60 = .ok (.iload 5, 2) := by decide +kernel
theorem d_Mc_run_62 : decode b_Mc_run 62 = .ok (.bipush 31, 2) := by decide +kernel
theorem d_Mc_run_64 : decode b_Mc_run 64 = .ok (.if_icmp .ne 22, 3) := by decide +kernel
theorem d_Mc_run_67 : decode b_Mc_run 67 = .ok (.aload_n 1, 1) := by decide +kernel
theorem d_Mc_run_68 : decode b_Mc_run 68 = .ok (.getfield 43, 3) := by decide +kernel
theorem d_Mc_run_71 : decode b_Mc_run 71 = .ok (.iload_n 3, 1) := by decide +kernel
theorem d_Mc_run_72 : decode b_Mc_run 72 = .ok (.iaload, 1) := by decide +kernel
theorem d_Mc_run_73 : decode b_Mc_run 73 = .ok (.ifCond .eq 10, 3) := by decide +kernel
theorem d_Mc_run_76 : decode b_Mc_run 76 = .ok (.aload_n 0, 1) := by decide +kernel
theorem d_Mc_run_77 : decode b_Mc_run 77 = .ok (.getfield 15, 3) := by decide +kernel
theorem d_Mc_run_80 : decode b_Mc_run 80 = .ok (.goto 5, 3) := by decide +kernel
theorem d_Mc_run_83 : decode b_Mc_run 83 = .ok (.iload 6, 2) := by decide +kernel
theorem d_Mc_run_85 : decode b_Mc_run 85 = .ok (.ireturn, 1) := by decide +kernel
theorem d_Mc_run_86 : decode b_Mc_run 86 = .ok (.iload 5, 2) := by decide +kernel
theorem d_Mc_run_88 : decode b_Mc_run 88 = .ok (.bipush 22, 2) := by decide +kernel
theorem d_Mc_run_90 : decode b_Mc_run 90 = .ok (.if_icmp .ne 12, 3) := by decide +kernel
theorem d_Mc_run_93 : decode b_Mc_run 93 = .ok (.aload_n 0, 1) := by decide +kernel
theorem d_Mc_run_94 : decode b_Mc_run 94 = .ok (.getfield 19, 3) := by decide +kernel
theorem d_Mc_run_97 : decode b_Mc_run 97 = .ok (.ifCond .ne 5, 3) := by decide +kernel
theorem d_Mc_run_100 : decode b_Mc_run 100 = .ok (.iconst 0, 1) := by decide +kernel
theorem d_Mc_run_101 : decode b_Mc_run 101 = .ok (.ireturn, 1) := by decide +kernel
theorem d_Mc_run_102 : decode b_Mc_run 102 = .ok (.iload 5, 2) := by decide +kernel
theorem d_Mc_run_104 : decode b_Mc_run 104 = .ok (.bipush 10, 2) := by decide +kernel
theorem d_Mc_run_106 : decode b_Mc_run 106 = .ok (.if_icmp .ge 19, 3) := by decide +kernel
theorem d_Mc_run_109 : decode b_Mc_run 109 = .ok (.aload_n 0, 1) := by decide +kernel
theorem d_Mc_run_110 : decode b_Mc_run 110 = .ok (.iload 5, 2) := by decide +kernel
theorem d_Mc_run_112 : decode b_Mc_run 112 = .ok (.iload 6, 2) := by decide +kernel
theorem d_Mc_run_114 : decode b_Mc_run 114 = .ok (.aload_n 2, 1) := by decide +kernel
theorem d_Mc_run_115 : decode b_Mc_run 115 = .ok (.aload_n 1, 1) := by decide +kernel
theorem d_Mc_run_116 : decode b_Mc_run 116 = .ok (.getfield 46, 3) := by decide +kernel
theorem d_Mc_run_119 : decode b_Mc_run 119 = .ok (.invokevirtual 49, 3) := by decide +kernel
theorem d_Mc_run_122 : decode b_Mc_run 122 = .ok (.goto 36, 3) := by decide +kernel
theorem d_Mc_run_125 : decode b_Mc_run 125 = .ok (.iload 5, 2) := by decide +kernel
theorem d_Mc_run_127 : decode b_Mc_run 127 = .ok (.bipush 25, 2) := by decide +kernel
theorem d_Mc_run_129 : decode b_Mc_run 129 = .ok (.if_icmp .ge 29, 3) := by decide +kernel
theorem d_Mc_run_132 : decode b_Mc_run 132 = .ok (.aload_n 0, 1) := by decide +kernel
theorem d_Mc_run_133 : decode b_Mc_run 133 = .ok (.aload_n 0, 1) := by decide +kernel
theorem d_Mc_run_134 : decode b_Mc_run 134 = .ok (.iload 5, 2) := by decide +kernel
theorem d_Mc_run_136 : decode b_Mc_run 136 = .ok (.iload 5, 2) := by decide +kernel
theorem d_Mc_run_138 : decode b_Mc_run 138 = .ok (.bipush 19, 2) := by decide +kernel
theorem d_Mc_run_140 : decode b_Mc_run 140 = .ok (.if_icmp .ge 8, 3) := by decide +kernel
theorem d_Mc_run_143 : decode b_Mc_run 143 = .ok (.iload 6, 2) := by decide +kernel
theorem d_Mc_run_145 : decode b_Mc_run 145 = .ok (.goto 7, 3) := by decide +kernel
theorem d_Mc_run_148 : decode b_Mc_run 148 = .ok (.aload_n 0, 1) := by decide +kernel
theorem d_Mc_run_149 : decode b_Mc_run 149 = .ok (.getfield 19, 3) := by decide +kernel
theorem d_Mc_run_152 : decode b_Mc_run 152 = .ok (.invokevirtual 53, 3) := by decide +kernel
theorem d_Mc_run_155 : decode b_Mc_run 155 = .ok (.putfield 15, 3) := by decide +kernel
theorem d_Mc_run_158 : decode b_Mc_run 158 = .ok (.iload_n 3, 1) := by decide +kernel
theorem d_Mc_run_159 : decode b_Mc_run 159 = .ok (.iconst 1, 1) := by decide +kernel
theorem d_Mc_run_160 : decode b_Mc_run 160 = .ok (.iadd, 1) := by decide +kernel
theorem d_Mc_run_161 : decode b_Mc_run 161 = .ok (.aload_n 0, 1) := by decide +kernel
theorem d_Mc_run_162 : decode b_Mc_run 162 = .ok (.aload_n 1, 1) := by decide +kernel
theorem d_Mc_run_163 : decode b_Mc_run 163 = .ok (.iload_n 3, 1) := by decide +kernel
theorem d_Mc_run_164 : decode b_Mc_run 164 = .ok (.invokevirtual 57, 3) := by decide +kernel
theorem d_Mc_run_167 : decode b_Mc_run 167 = .ok (.iadd, 1) := by decide +kernel
theorem d_Mc_run_168 : decode b_Mc_run 168 = .ok (.istore_n 3, 1) := by decide +kernel
theorem d_Mc_run_169 : decode b_Mc_run 169 = .ok (.iinc 4 1, 3) := by decide +kernel
theorem d_Mc_run_172 : decode b_Mc_run 172 = .ok (.goto (-149), 3) := by decide +kernel
theorem d_Mc_run_175 : decode b_Mc_run 175 = .ok (.iconst 0, 1) := by decide +kernel
theorem d_Mc_run_176 : decode b_Mc_run 176 = .ok (.ireturn, 1) := by decide +kernel
set_option maxHeartbeats 4000000 in
set_option maxRecDepth 100000 in
theorem c_Mc_run (mc cl wd : Nat) (a x dn : Int32) (cs w : Nat → Int32) (q o y n k : Nat) (fo fy fn fk : Nat → Int32) (L : fx_Prg) (sz : Nat) (hrep : fx_rep L fo fy fn fk) (hok : fx_ok L) (hgd : fx_good L) (hpos : 0 < L.length) : fs_I l y_Mc_run (k_Mc_run :: fs_T) { frames := 2, cells := 0, slots := 0, locals := 45 } (dC, dI) vwCl (fs_tys cI cZ cJ cF) [.ref mc, .ref q, .ref wd] [(mc, .inr (2, [.ref cl, .int a, .int x, .int dn])), (cl, .inl (cI, 16, .inl cs)), (q, .inr (1, [.ref o, .ref y, .ref n, .ref k, .int (nI L.length)])), (o, .inl (cI, 40, .inl fo)), (y, .inl (cI, 40, .inl fy)), (n, .inl (cI, 40, .inl fn)), (k, .inl (cI, 40, .inl fk)), (wd, .inl (cI, 16, .inl w))] sz (S := Int32 × Int32 × (Nat → Int32)) (fun r _ => r = (fx_do L w).1) (fun u => [(mc, .inr (2, [.ref cl, .int u.1, .int u.2.1, .int (nI ((fx_do L w).2))])), (cl, .inl (cI, 16, .inl u.2.2)), (q, .inr (1, [.ref o, .ref y, .ref n, .ref k, .int (nI L.length)])), (o, .inl (cI, 40, .inl fo)), (y, .inl (cI, 40, .inl fy)), (n, .inl (cI, 40, .inl fn)), (k, .inl (cI, 40, .inl fk)), (wd, .inl (cI, 16, .inl w))]) 0 0 := by
  refine fs_head (by decide) (Nat.le_of_ble_eq_true rfl) ?_
  intro p e s m below meth c A ls hx hb hr hts hown hlocks hin hml hK hP hD hS hA hAe hsz hl
  have hl : lv_has ls 7 [(0, .ref mc), (1, .ref q), (2, .ref wd)] := hl
  have hown : s.vm.findClass R_Mc = some m.cls := hown
  have hlen := hok.1
  refine lv_aload_n hx hb d_Mc_run_0 rfl (lv_at hl 0 rfl) ?_
  refine va_get (D := (dC, dI)) (ci := 2) (v := .ref cl) (C := R_Mc) (T := T_Mc) (N := 4) hx hb hts uin_Mc hown hK hP 0 rfl rfl 0 (by decide) (hts _ wi_100) (fun _ h9 => h9) rfl d_Mc_run_1 ?_
  refine lv_iconst (v := nI 0) hx hb d_Mc_run_4 (by decide) ?_
  refine fs_callv (wc := [(cl, .inl (cI, 16, .inl cs))]) (wr := [(mc, .inr (2, [.ref cl, .int a, .int x, .int dn])), (q, .inr (1, [.ref o, .ref y, .ref n, .ref k, .int (nI L.length)])), (o, .inl (cI, 40, .inl fo)), (y, .inl (cI, 40, .inl fy)), (n, .inl (cI, 40, .inl fn)), (k, .inl (cI, 40, .inl fk)), (wd, .inl (cI, 16, .inl w))]) [1] [0, 2, 3, 4, 5, 6, 7] hP hD hK hS hA rfl rfl rfl (by decide) (fun hPc hDc => va_runS (As := [.ref cl, .int (nI 0)]) (rest := []) ⟨hx, hb, hml, hown, hts⟩ (c_Ar_fill cl 16 cs (nI 0) _ (by decide)) (⟨callB_of 2 hts (fs_g kin_Ar_fill) rfl rfl rfl (hts _ wi_7) (hts _ wi_278) (by decide +kernel) ⟨Nat.le_of_ble_eq_true rfl, Nat.le_of_ble_eq_true rfl⟩, hts _ wi_192⟩) (fs_preS hPc hK hDc) rfl rfl hl.1 rfl (lv_room (Nat.le_of_ble_eq_true rfl)) d_Mc_run_5 ⟨Nat.le_of_ble_eq_true rfl, Nat.le_of_ble_eq_true rfl⟩) rfl (fun _ H locs hp5 hP hD hS => ?_)
  have hP : va_P (dC, dI) vwCl [(mc, .inr (2, [.ref cl, .int a, .int x, .int dn])), (cl, .inl (cI, 16, .inl (fun _ => nI 0))), (q, .inr (1, [.ref o, .ref y, .ref n, .ref k, .int (nI L.length)])), (o, .inl (cI, 40, .inl fo)), (y, .inl (cI, 40, .inl fy)), (n, .inl (cI, 40, .inl fn)), (k, .inl (cI, 40, .inl fk)), (wd, .inl (cI, 16, .inl w))] H := hP.sub [0, 7, 1, 2, 3, 4, 5, 6] rfl
  have hD : va_D A [(mc, .inr (2, [.ref cl, .int a, .int x, .int dn])), (cl, .inl (cI, 16, .inl (fun _ => nI 0))), (q, .inr (1, [.ref o, .ref y, .ref n, .ref k, .int (nI L.length)])), (o, .inl (cI, 40, .inl fo)), (y, .inl (cI, 40, .inl fy)), (n, .inl (cI, 40, .inl fn)), (k, .inl (cI, 40, .inl fk)), (wd, .inl (cI, 16, .inl w))] := hD.sub [0, 7, 1, 2, 3, 4, 5, 6] (by decide) rfl
  refine lv_aload_n hx hb d_Mc_run_8 rfl (lv_at hl 0 rfl) ?_
  refine lv_iconst (v := nI 0) hx hb d_Mc_run_9 (by decide) ?_
  refine va_put (D := (dC, dI)) (ci := 2) (v := .int (nI 0)) (ty := (.int)) (C := R_Mc) (T := T_Mc) (N := 4) hx hb hts uin_Mc t_Mc ok_Mc n_Mc hown hK hP hD hS 0 rfl rfl 1 (by decide) (hts _ wi_101) (fun _ h9 => h9) rfl (by decide +kernel) rfl rfl (Nat.le_of_ble_eq_true rfl) d_Mc_run_10 (fun H locs hP hD hS => ?_)
  have hP : va_P (dC, dI) vwCl [(mc, .inr (2, [.ref cl, .int (nI 0), .int x, .int dn])), (cl, .inl (cI, 16, .inl (fun _ => nI 0))), (q, .inr (1, [.ref o, .ref y, .ref n, .ref k, .int (nI L.length)])), (o, .inl (cI, 40, .inl fo)), (y, .inl (cI, 40, .inl fy)), (n, .inl (cI, 40, .inl fn)), (k, .inl (cI, 40, .inl fk)), (wd, .inl (cI, 16, .inl w))] H := hP
  have hD : va_D A [(mc, .inr (2, [.ref cl, .int (nI 0), .int x, .int dn])), (cl, .inl (cI, 16, .inl (fun _ => nI 0))), (q, .inr (1, [.ref o, .ref y, .ref n, .ref k, .int (nI L.length)])), (o, .inl (cI, 40, .inl fo)), (y, .inl (cI, 40, .inl fy)), (n, .inl (cI, 40, .inl fn)), (k, .inl (cI, 40, .inl fk)), (wd, .inl (cI, 16, .inl w))] := hD
  refine lv_aload_n hx hb d_Mc_run_13 rfl (lv_at hl 0 rfl) ?_
  refine lv_iconst (v := nI 0) hx hb d_Mc_run_14 (by decide) ?_
  refine va_put (D := (dC, dI)) (ci := 2) (v := .int (nI 0)) (ty := (.int)) (C := R_Mc) (T := T_Mc) (N := 4) hx hb hts uin_Mc t_Mc ok_Mc n_Mc hown hK hP hD hS 0 rfl rfl 2 (by decide) (hts _ wi_102) (fun _ h9 => h9) rfl (by decide +kernel) rfl rfl (Nat.le_of_ble_eq_true rfl) d_Mc_run_15 (fun H locs hP hD hS => ?_)
  have hP : va_P (dC, dI) vwCl [(mc, .inr (2, [.ref cl, .int (nI 0), .int (nI 0), .int dn])), (cl, .inl (cI, 16, .inl (fun _ => nI 0))), (q, .inr (1, [.ref o, .ref y, .ref n, .ref k, .int (nI L.length)])), (o, .inl (cI, 40, .inl fo)), (y, .inl (cI, 40, .inl fy)), (n, .inl (cI, 40, .inl fn)), (k, .inl (cI, 40, .inl fk)), (wd, .inl (cI, 16, .inl w))] H := hP
  have hD : va_D A [(mc, .inr (2, [.ref cl, .int (nI 0), .int (nI 0), .int dn])), (cl, .inl (cI, 16, .inl (fun _ => nI 0))), (q, .inr (1, [.ref o, .ref y, .ref n, .ref k, .int (nI L.length)])), (o, .inl (cI, 40, .inl fo)), (y, .inl (cI, 40, .inl fy)), (n, .inl (cI, 40, .inl fn)), (k, .inl (cI, 40, .inl fk)), (wd, .inl (cI, 16, .inl w))] := hD
  refine lv_iconst (v := nI 0) hx hb d_Mc_run_18 (by decide) ?_
  refine lv_istore_n hx hb d_Mc_run_19 rfl hl (by decide) (lv' := [(3, .int (nI 0)), (0, .ref mc), (1, .ref q), (2, .ref wd)]) rfl (fun ls hl => ?_)
  refine lv_iconst (v := nI 1) hx hb d_Mc_run_20 (by decide) ?_
  refine lv_istore hx hb d_Mc_run_21 hl (by decide) (lv' := [(4, .int (nI 1)), (3, .int (nI 0)), (0, .ref mc), (1, .ref q), (2, .ref wd)]) rfl (fun ls hl => ?_)
  refine fs_loop6 (α1 := Nat) (α2 := Int32) (α3 := Int32) (α4 := Nat → Int32) (α5 := Nat) (α6 := Int32) (fun c a x cs i dn => 40 - c) (fun c a x cs i dn H locs ls => (c ≤ 40) ∧ (fx_run L w (40 - c) a x cs i c = fx_do L w) ∧ (¬ c = 0 → dn = nI c) ∧ (c = 0 → i = 0) ∧ (i ≤ 256 * c) ∧ va_P (dC, dI) vwCl [(mc, .inr (2, [.ref cl, .int a, .int x, .int dn])), (cl, .inl (cI, 16, .inl cs)), (q, .inr (1, [.ref o, .ref y, .ref n, .ref k, .int (nI L.length)])), (o, .inl (cI, 40, .inl fo)), (y, .inl (cI, 40, .inl fy)), (n, .inl (cI, 40, .inl fn)), (k, .inl (cI, 40, .inl fk)), (wd, .inl (cI, 16, .inl w))] H ∧ va_D A [(mc, .inr (2, [.ref cl, .int a, .int x, .int dn])), (cl, .inl (cI, 16, .inl cs)), (q, .inr (1, [.ref o, .ref y, .ref n, .ref k, .int (nI L.length)])), (o, .inl (cI, 40, .inl fo)), (y, .inl (cI, 40, .inl fy)), (n, .inl (cI, 40, .inl fn)), (k, .inl (cI, 40, .inl fk)), (wd, .inl (cI, 16, .inl w))] ∧ va_S A s.heap H locs ∧ lv_has ls 7 [(0, .ref mc), (1, .ref q), (2, .ref wd), (3, .int (nI i)), (4, .int (nI (c + 1)))]) ?_ 0 (nI 0) (nI 0) (fun _ => nI 0) 0 dn ⟨by omega, rfl, fun h => absurd rfl h, fun _ => rfl, by omega, hP, hD, hS, lv_sub hl [2, 3, 4, 1, 0] rfl⟩
  intro c a x cs i dn H locs ls hI ih23
  obtain ⟨hc, hrun, hdn, hz, hib, hP, hD, hS, hl⟩ := hI
  refine lv_iload hx hb d_Mc_run_23 (lv_at hl 4 rfl) ?_
  refine lv_bipush (v := nI 40) hx hb d_Mc_run_25 (by decide) ?_
  refine lv_icmp_gt (tgt := 175) hx hb d_Mc_run_27 (by decide) (fun hc27 => ?_) (fun hc27 => ?_)
  · rw [nI_ltI (by omega) (by omega)] at hc27
    refine lv_iconst (v := nI 0) hx hb d_Mc_run_175 (by decide) ?_
    have hc40 : c = 40 := by omega
    rw [hc40, fx_run] at hrun
    have hd9 := hdn (by omega)
    have hw2 : dn = nI (fx_do L w).2 := by rw [← hrun, hd9, hc40]
    rw [hw2] at hP hD
    exact fs_iret hx hb hr hlocks hAe hK hS d_Mc_run_176 (a, x, cs) (by rw [← hrun]; try rfl) hP hD
  rw [nI_ltI (by omega) (by omega)] at hc27
  refine lv_aload_n hx hb d_Mc_run_30 rfl (lv_at hl 1 rfl) ?_
  refine lv_iload_n hx hb d_Mc_run_31 rfl (lv_at hl 3 rfl) ?_
  refine fs_calli (wc := [(q, .inr (1, [.ref o, .ref y, .ref n, .ref k, .int (nI L.length)]))]) (wr := [(mc, .inr (2, [.ref cl, .int a, .int x, .int dn])), (cl, .inl (cI, 16, .inl cs)), (o, .inl (cI, 40, .inl fo)), (y, .inl (cI, 40, .inl fy)), (n, .inl (cI, 40, .inl fn)), (k, .inl (cI, 40, .inl fk)), (wd, .inl (cI, 16, .inl w))]) [2] [0, 1, 3, 4, 5, 6, 7] hP hD hK hS hA rfl rfl rfl (by decide) (fun hPc hDc => va_runV (C := R_Fi) (As := [.int (nI i)]) (rest := []) ⟨hx, hb, hml, hown, hts⟩ (c_Fi_has q o y n k L.length (nI i) _ (by omega)) (⟨callB_of 1 hts (fs_g kin_Fi_has) rfl rfl rfl (hts _ wi_2) (hts _ wi_279) (by decide +kernel) ⟨Nat.le_of_ble_eq_true rfl, Nat.le_of_ble_eq_true rfl⟩, hts _ wi_167, hts _ wi_168⟩) (fs_preV (q0 := 0) rfl rfl hPc hK hDc) rfl rfl hl.1 rfl (lv_room (Nat.le_of_ble_eq_true rfl)) d_Mc_run_32 ⟨Nat.le_of_ble_eq_true rfl, Nat.le_of_ble_eq_true rfl⟩) rfl (fun r32 _ H locs hp32 hP hD hS => ?_)
  have hP : va_P (dC, dI) vwCl [(mc, .inr (2, [.ref cl, .int a, .int x, .int dn])), (cl, .inl (cI, 16, .inl cs)), (q, .inr (1, [.ref o, .ref y, .ref n, .ref k, .int (nI L.length)])), (o, .inl (cI, 40, .inl fo)), (y, .inl (cI, 40, .inl fy)), (n, .inl (cI, 40, .inl fn)), (k, .inl (cI, 40, .inl fk)), (wd, .inl (cI, 16, .inl w))] H := hP.sub [0, 1, 7, 2, 3, 4, 5, 6] rfl
  have hD : va_D A [(mc, .inr (2, [.ref cl, .int a, .int x, .int dn])), (cl, .inl (cI, 16, .inl cs)), (q, .inr (1, [.ref o, .ref y, .ref n, .ref k, .int (nI L.length)])), (o, .inl (cI, 40, .inl fo)), (y, .inl (cI, 40, .inl fy)), (n, .inl (cI, 40, .inl fn)), (k, .inl (cI, 40, .inl fk)), (wd, .inl (cI, 16, .inl w))] := hD.sub [0, 1, 7, 2, 3, 4, 5, 6] (by decide) rfl
  rcases hp32 with ⟨hc32, rfl⟩ | ⟨hc32, rfl⟩
  · refine lv_if_eq (tgt := 175) hx hb d_Mc_run_35 (by decide) (fun hc => absurd hc (by decide)) (fun _ => ?_)
    have hlt : i < L.length := by obtain ⟨j, hj, e⟩ := hc32; rw [nI_eq (by omega) (by omega)] at e; omega
    have hO := (hok.2 i hlt).1
    have hY := (hok.2 i hlt).2.1
    have hN := (hok.2 i hlt).2.2
    rw [show 40 - c = (39 - c) + 1 from by omega, fx_run, if_pos hlt] at hrun
    refine lv_aload_n hx hb d_Mc_run_38 rfl (lv_at hl 0 rfl) ?_
    refine lv_iload hx hb d_Mc_run_39 (lv_at hl 4 rfl) ?_
    refine va_put (D := (dC, dI)) (ci := 2) (v := .int (nI (c + 1))) (ty := (.int)) (C := R_Mc) (T := T_Mc) (N := 4) hx hb hts uin_Mc t_Mc ok_Mc n_Mc hown hK hP hD hS 0 rfl rfl 3 (by decide) (hts _ wi_103) (fun _ h9 => h9) rfl (by decide +kernel) rfl rfl (Nat.le_of_ble_eq_true rfl) d_Mc_run_41 (fun H locs hP hD hS => ?_)
    have hP : va_P (dC, dI) vwCl [(mc, .inr (2, [.ref cl, .int a, .int x, .int (nI (c + 1))])), (cl, .inl (cI, 16, .inl cs)), (q, .inr (1, [.ref o, .ref y, .ref n, .ref k, .int (nI L.length)])), (o, .inl (cI, 40, .inl fo)), (y, .inl (cI, 40, .inl fy)), (n, .inl (cI, 40, .inl fn)), (k, .inl (cI, 40, .inl fk)), (wd, .inl (cI, 16, .inl w))] H := hP
    have hD : va_D A [(mc, .inr (2, [.ref cl, .int a, .int x, .int (nI (c + 1))])), (cl, .inl (cI, 16, .inl cs)), (q, .inr (1, [.ref o, .ref y, .ref n, .ref k, .int (nI L.length)])), (o, .inl (cI, 40, .inl fo)), (y, .inl (cI, 40, .inl fy)), (n, .inl (cI, 40, .inl fn)), (k, .inl (cI, 40, .inl fk)), (wd, .inl (cI, 16, .inl w))] := hD
    refine lv_aload_n hx hb d_Mc_run_44 rfl (lv_at hl 1 rfl) ?_
    refine va_get (D := (dC, dI)) (ci := 1) (v := .ref o) (C := R_Fi) (T := T_Fi) (N := 5) hx hb hts uin_Fi hown hK hP 2 rfl rfl 0 (by decide) (hts _ wi_31) (fun _ h9 => h9) rfl d_Mc_run_45 ?_
    refine lv_iload_n hx hb d_Mc_run_48 rfl (lv_at hl 3 rfl) ?_
    refine fs_iald (v := nI (fx_O L i)) hx hb hK hP 3 0 rfl rfl i rfl (by decide) (by omega) ((hrep i (by omega)).1) d_Mc_run_49 ?_
    refine lv_istore hx hb d_Mc_run_50 hl (by decide) (lv' := [(5, .int (nI (fx_O L i))), (0, .ref mc), (1, .ref q), (2, .ref wd), (3, .int (nI i)), (4, .int (nI (c + 1)))]) rfl (fun ls hl => ?_)
    refine lv_aload_n hx hb d_Mc_run_52 rfl (lv_at hl 2 rfl) ?_
    refine va_get (D := (dC, dI)) (ci := 1) (v := .ref k) (C := R_Fi) (T := T_Fi) (N := 5) hx hb hts uin_Fi hown hK hP 2 rfl rfl 3 (by decide) (hts _ wi_43) (fun _ h9 => h9) rfl d_Mc_run_53 ?_
    refine lv_iload_n hx hb d_Mc_run_56 rfl (lv_at hl 4 rfl) ?_
    refine fs_iald (v := fx_K L i) hx hb hK hP 6 0 rfl rfl i rfl (by decide) (by omega) ((hrep i (by omega)).2.2.2) d_Mc_run_57 ?_
    refine lv_istore hx hb d_Mc_run_58 hl (by decide) (lv' := [(6, .int (fx_K L i)), (5, .int (nI (fx_O L i))), (0, .ref mc), (1, .ref q), (2, .ref wd), (3, .int (nI i)), (4, .int (nI (c + 1)))]) rfl (fun ls hl => ?_)
    refine lv_iload hx hb d_Mc_run_60 (lv_at hl 1 rfl) ?_
    refine lv_bipush (v := nI 31) hx hb d_Mc_run_62 (by decide) ?_
    refine lv_icmp_ne (tgt := 86) hx hb d_Mc_run_64 (by decide) (fun hc64 => ?_) (fun hc64 => ?_)
    · rw [nI_eq (by omega) (by omega)] at hc64
      refine lv_iload hx hb d_Mc_run_86 (lv_at hl 1 rfl) ?_
      refine lv_bipush (v := nI 22) hx hb d_Mc_run_88 (by decide) ?_
      refine lv_icmp_ne (tgt := 102) hx hb d_Mc_run_90 (by decide) (fun hc90 => ?_) (fun hc90 => ?_)
      · rw [nI_eq (by omega) (by omega)] at hc90
        have hdz : fx_O L i = 22 → ¬ x = 0 := fun h => absurd h hc90
        rw [if_neg (by omega), if_neg (fun h => hdz h.1 h.2)] at hrun
        refine lv_iload hx hb d_Mc_run_102 (lv_at hl 1 rfl) ?_
        refine lv_bipush (v := nI 10) hx hb d_Mc_run_104 (by decide) ?_
        refine lv_icmp_ge (tgt := 125) hx hb d_Mc_run_106 (by decide) (fun hc106 => ?_) (fun hc106 => ?_)
        · rw [nI_leI (by omega) (by omega)] at hc106
          refine lv_iload hx hb d_Mc_run_125 (lv_at hl 1 rfl) ?_
          refine lv_bipush (v := nI 25) hx hb d_Mc_run_127 (by decide) ?_
          refine lv_icmp_ge (tgt := 158) hx hb d_Mc_run_129 (by decide) (fun hc129 => ?_) (fun hc129 => ?_)
          · rw [nI_leI (by omega) (by omega)] at hc129
            refine lv_iload_n hx hb d_Mc_run_158 rfl (lv_at hl 5 rfl) ?_
            refine lv_iconst (v := nI 1) hx hb d_Mc_run_159 (by decide) ?_
            refine lv_iadd hx hb d_Mc_run_160 ?_
            refine fs_eqi (nI_add _ _) ?_
            refine lv_aload_n hx hb d_Mc_run_161 rfl (lv_at hl 2 rfl) ?_
            refine lv_aload_n hx hb d_Mc_run_162 rfl (lv_at hl 3 rfl) ?_
            refine lv_iload_n hx hb d_Mc_run_163 rfl (lv_at hl 5 rfl) ?_
            refine fs_calli (wc := [(mc, .inr (2, [.ref cl, .int a, .int x, .int (nI (c + 1))])), (q, .inr (1, [.ref o, .ref y, .ref n, .ref k, .int (nI L.length)])), (o, .inl (cI, 40, .inl fo)), (y, .inl (cI, 40, .inl fy)), (n, .inl (cI, 40, .inl fn)), (k, .inl (cI, 40, .inl fk))]) (wr := [(cl, .inl (cI, 16, .inl cs)), (wd, .inl (cI, 16, .inl w))]) [0, 2, 3, 4, 5, 6] [1, 7] hP hD hK hS hA rfl rfl rfl (by decide) (fun hPc hDc => va_runV (C := R_Mc) (As := [.ref q, .int (nI i)]) (rest := [.int (nI (i + 1))]) ⟨hx, hb, hml, hown, hts⟩ (c_Mc_distance mc cl a x (nI (c + 1)) q o y n k fo fy fn fk L i _ hrep hok hlt (hgd 5 (by decide) (by decide) i hlt) (by omega)) (⟨callB_of 2 hts (fs_g kin_Mc_distance) rfl rfl rfl (hts _ wi_5) (hts _ wi_292) (by decide +kernel) ⟨Nat.le_of_ble_eq_true rfl, Nat.le_of_ble_eq_true rfl⟩, hts _ wi_294, hts _ sel_Mc_distance⟩) (fs_preV (q0 := 0) rfl rfl hPc hK hDc) rfl rfl hl.1 rfl (lv_room (Nat.le_of_ble_eq_true rfl)) d_Mc_run_164 ⟨Nat.le_of_ble_eq_true rfl, Nat.le_of_ble_eq_true rfl⟩) rfl (fun r164 _ H locs hp164 hP hD hS => ?_)
            have hP : va_P (dC, dI) vwCl [(mc, .inr (2, [.ref cl, .int a, .int x, .int (nI (c + 1))])), (cl, .inl (cI, 16, .inl cs)), (q, .inr (1, [.ref o, .ref y, .ref n, .ref k, .int (nI L.length)])), (o, .inl (cI, 40, .inl fo)), (y, .inl (cI, 40, .inl fy)), (n, .inl (cI, 40, .inl fn)), (k, .inl (cI, 40, .inl fk)), (wd, .inl (cI, 16, .inl w))] H := hP.sub [2, 0, 3, 4, 5, 6, 7, 1] rfl
            have hD : va_D A [(mc, .inr (2, [.ref cl, .int a, .int x, .int (nI (c + 1))])), (cl, .inl (cI, 16, .inl cs)), (q, .inr (1, [.ref o, .ref y, .ref n, .ref k, .int (nI L.length)])), (o, .inl (cI, 40, .inl fo)), (y, .inl (cI, 40, .inl fy)), (n, .inl (cI, 40, .inl fn)), (k, .inl (cI, 40, .inl fk)), (wd, .inl (cI, 16, .inl w))] := hD.sub [2, 0, 3, 4, 5, 6, 7, 1] (by decide) rfl
            subst hp164
            have hdl : fx_d L i a x < 256 := fx_d_le hok hlt (hgd 5 (by decide) (by decide) i hlt)
            refine lv_iadd hx hb d_Mc_run_167 ?_
            refine fs_eqi (nI_add _ _) ?_
            refine lv_istore_n hx hb d_Mc_run_168 rfl hl (by decide) (lv' := [(3, .int (nI (i + 1 + fx_d L i a x))), (6, .int (fx_K L i)), (5, .int (nI (fx_O L i))), (0, .ref mc), (1, .ref q), (2, .ref wd), (4, .int (nI (c + 1)))]) rfl (fun ls hl => ?_)
            refine lv_iinc (v := nI (c + 1 + 1)) (k := 6) hx hb d_Mc_run_169 hl rfl (fs_incN (c + 1) 1) (by decide) (lv' := [(4, .int (nI (c + 1 + 1))), (3, .int (nI (i + 1 + fx_d L i a x))), (6, .int (fx_K L i)), (5, .int (nI (fx_O L i))), (0, .ref mc), (1, .ref q), (2, .ref wd)]) rfl (fun ls hl => ?_)
            refine lv_goto (tgt := 23) hx hb d_Mc_run_172 (by decide) ?_
            exact ih23 (c + 1) a x cs (i + 1 + fx_d L i a x) (nI (c + 1)) _ _ _ (by omega) ⟨by omega, by rw [← hrun, fx_a_hi (by omega), fx_x_hi (by omega), fx_c_hi (by omega), show 40 - (c + 1) = 39 - c from by omega], fun _ => rfl, fun h => absurd h (by omega), by omega, hP, hD, hS, lv_sub hl [4, 5, 6, 1, 0] rfl⟩
          rw [nI_leI (by omega) (by omega)] at hc129
          refine lv_aload_n hx hb d_Mc_run_132 rfl (lv_at hl 2 rfl) ?_
          refine lv_aload_n hx hb d_Mc_run_133 rfl (lv_at hl 2 rfl) ?_
          refine lv_iload hx hb d_Mc_run_134 (lv_at hl 1 rfl) ?_
          refine lv_iload hx hb d_Mc_run_136 (lv_at hl 1 rfl) ?_
          refine lv_bipush (v := nI 19) hx hb d_Mc_run_138 (by decide) ?_
          refine lv_icmp_ge (tgt := 148) hx hb d_Mc_run_140 (by decide) (fun hc140 => ?_) (fun hc140 => ?_)
          · rw [nI_leI (by omega) (by omega)] at hc140
            refine lv_aload_n hx hb d_Mc_run_148 rfl (lv_at hl 2 rfl) ?_
            refine va_get (D := (dC, dI)) (ci := 2) (v := .int x) (C := R_Mc) (T := T_Mc) (N := 4) hx hb hts uin_Mc hown hK hP 0 rfl rfl 2 (by decide) (hts _ wi_102) (fun _ h9 => h9) rfl d_Mc_run_149 ?_
            refine fs_calli (wc := [(mc, .inr (2, [.ref cl, .int a, .int x, .int (nI (c + 1))]))]) (wr := [(cl, .inl (cI, 16, .inl cs)), (q, .inr (1, [.ref o, .ref y, .ref n, .ref k, .int (nI L.length)])), (o, .inl (cI, 40, .inl fo)), (y, .inl (cI, 40, .inl fy)), (n, .inl (cI, 40, .inl fn)), (k, .inl (cI, 40, .inl fk)), (wd, .inl (cI, 16, .inl w))]) [0] [1, 2, 3, 4, 5, 6, 7] hP hD hK hS hA rfl rfl rfl (by decide) (fun hPc hDc => va_runV (C := R_Mc) (As := [.int (nI (fx_O L i)), .int x]) (rest := [.ref mc]) ⟨hx, hb, hml, hown, hts⟩ (c_Mc_result mc cl a x (nI (c + 1)) x (fx_O L i) _ (by omega) (by omega) (fun h => by rcases h with h | h; omega; exact hdz h)) (⟨callB_of 2 hts (fs_g kin_Mc_result) rfl rfl rfl (hts _ wi_5) (hts _ wi_284) (by decide +kernel) ⟨Nat.le_of_ble_eq_true rfl, Nat.le_of_ble_eq_true rfl⟩, hts _ wi_286, hts _ sel_Mc_result⟩) (fs_preV (q0 := 0) rfl rfl hPc hK hDc) rfl rfl hl.1 rfl (lv_room (Nat.le_of_ble_eq_true rfl)) d_Mc_run_152 ⟨Nat.le_of_ble_eq_true rfl, Nat.le_of_ble_eq_true rfl⟩) rfl (fun r152 _ H locs hp152 hP hD hS => ?_)
            have hP : va_P (dC, dI) vwCl [(mc, .inr (2, [.ref cl, .int a, .int x, .int (nI (c + 1))])), (cl, .inl (cI, 16, .inl cs)), (q, .inr (1, [.ref o, .ref y, .ref n, .ref k, .int (nI L.length)])), (o, .inl (cI, 40, .inl fo)), (y, .inl (cI, 40, .inl fy)), (n, .inl (cI, 40, .inl fn)), (k, .inl (cI, 40, .inl fk)), (wd, .inl (cI, 16, .inl w))] H := hP.sub [7, 0, 1, 2, 3, 4, 5, 6] rfl
            have hD : va_D A [(mc, .inr (2, [.ref cl, .int a, .int x, .int (nI (c + 1))])), (cl, .inl (cI, 16, .inl cs)), (q, .inr (1, [.ref o, .ref y, .ref n, .ref k, .int (nI L.length)])), (o, .inl (cI, 40, .inl fo)), (y, .inl (cI, 40, .inl fy)), (n, .inl (cI, 40, .inl fn)), (k, .inl (cI, 40, .inl fk)), (wd, .inl (cI, 16, .inl w))] := hD.sub [7, 0, 1, 2, 3, 4, 5, 6] (by decide) rfl
            subst hp152
            refine va_put (D := (dC, dI)) (ci := 2) (v := .int (fx_val (fx_O L i) a x x)) (ty := (.int)) (C := R_Mc) (T := T_Mc) (N := 4) hx hb hts uin_Mc t_Mc ok_Mc n_Mc hown hK hP hD hS 0 rfl rfl 1 (by decide) (hts _ wi_101) (fun _ h9 => h9) rfl (by decide +kernel) rfl rfl (Nat.le_of_ble_eq_true rfl) d_Mc_run_155 (fun H locs hP hD hS => ?_)
            have hP : va_P (dC, dI) vwCl [(mc, .inr (2, [.ref cl, .int (fx_val (fx_O L i) a x x), .int x, .int (nI (c + 1))])), (cl, .inl (cI, 16, .inl cs)), (q, .inr (1, [.ref o, .ref y, .ref n, .ref k, .int (nI L.length)])), (o, .inl (cI, 40, .inl fo)), (y, .inl (cI, 40, .inl fy)), (n, .inl (cI, 40, .inl fn)), (k, .inl (cI, 40, .inl fk)), (wd, .inl (cI, 16, .inl w))] H := hP
            have hD : va_D A [(mc, .inr (2, [.ref cl, .int (fx_val (fx_O L i) a x x), .int x, .int (nI (c + 1))])), (cl, .inl (cI, 16, .inl cs)), (q, .inr (1, [.ref o, .ref y, .ref n, .ref k, .int (nI L.length)])), (o, .inl (cI, 40, .inl fo)), (y, .inl (cI, 40, .inl fy)), (n, .inl (cI, 40, .inl fn)), (k, .inl (cI, 40, .inl fk)), (wd, .inl (cI, 16, .inl w))] := hD
            refine lv_iload_n hx hb d_Mc_run_158 rfl (lv_at hl 5 rfl) ?_
            refine lv_iconst (v := nI 1) hx hb d_Mc_run_159 (by decide) ?_
            refine lv_iadd hx hb d_Mc_run_160 ?_
            refine fs_eqi (nI_add _ _) ?_
            refine lv_aload_n hx hb d_Mc_run_161 rfl (lv_at hl 2 rfl) ?_
            refine lv_aload_n hx hb d_Mc_run_162 rfl (lv_at hl 3 rfl) ?_
            refine lv_iload_n hx hb d_Mc_run_163 rfl (lv_at hl 5 rfl) ?_
            refine fs_calli (wc := [(mc, .inr (2, [.ref cl, .int (fx_val (fx_O L i) a x x), .int x, .int (nI (c + 1))])), (q, .inr (1, [.ref o, .ref y, .ref n, .ref k, .int (nI L.length)])), (o, .inl (cI, 40, .inl fo)), (y, .inl (cI, 40, .inl fy)), (n, .inl (cI, 40, .inl fn)), (k, .inl (cI, 40, .inl fk))]) (wr := [(cl, .inl (cI, 16, .inl cs)), (wd, .inl (cI, 16, .inl w))]) [0, 2, 3, 4, 5, 6] [1, 7] hP hD hK hS hA rfl rfl rfl (by decide) (fun hPc hDc => va_runV (C := R_Mc) (As := [.ref q, .int (nI i)]) (rest := [.int (nI (i + 1))]) ⟨hx, hb, hml, hown, hts⟩ (c_Mc_distance mc cl (fx_val (fx_O L i) a x x) x (nI (c + 1)) q o y n k fo fy fn fk L i _ hrep hok hlt (hgd 5 (by decide) (by decide) i hlt) (by omega)) (⟨callB_of 2 hts (fs_g kin_Mc_distance) rfl rfl rfl (hts _ wi_5) (hts _ wi_292) (by decide +kernel) ⟨Nat.le_of_ble_eq_true rfl, Nat.le_of_ble_eq_true rfl⟩, hts _ wi_294, hts _ sel_Mc_distance⟩) (fs_preV (q0 := 0) rfl rfl hPc hK hDc) rfl rfl hl.1 rfl (lv_room (Nat.le_of_ble_eq_true rfl)) d_Mc_run_164 ⟨Nat.le_of_ble_eq_true rfl, Nat.le_of_ble_eq_true rfl⟩) rfl (fun r164 _ H locs hp164 hP hD hS => ?_)
            have hP : va_P (dC, dI) vwCl [(mc, .inr (2, [.ref cl, .int (fx_val (fx_O L i) a x x), .int x, .int (nI (c + 1))])), (cl, .inl (cI, 16, .inl cs)), (q, .inr (1, [.ref o, .ref y, .ref n, .ref k, .int (nI L.length)])), (o, .inl (cI, 40, .inl fo)), (y, .inl (cI, 40, .inl fy)), (n, .inl (cI, 40, .inl fn)), (k, .inl (cI, 40, .inl fk)), (wd, .inl (cI, 16, .inl w))] H := hP.sub [2, 0, 3, 4, 5, 6, 7, 1] rfl
            have hD : va_D A [(mc, .inr (2, [.ref cl, .int (fx_val (fx_O L i) a x x), .int x, .int (nI (c + 1))])), (cl, .inl (cI, 16, .inl cs)), (q, .inr (1, [.ref o, .ref y, .ref n, .ref k, .int (nI L.length)])), (o, .inl (cI, 40, .inl fo)), (y, .inl (cI, 40, .inl fy)), (n, .inl (cI, 40, .inl fn)), (k, .inl (cI, 40, .inl fk)), (wd, .inl (cI, 16, .inl w))] := hD.sub [2, 0, 3, 4, 5, 6, 7, 1] (by decide) rfl
            subst hp164
            have hdl : fx_d L i (fx_val (fx_O L i) a x x) x < 256 := fx_d_le hok hlt (hgd 5 (by decide) (by decide) i hlt)
            refine lv_iadd hx hb d_Mc_run_167 ?_
            refine fs_eqi (nI_add _ _) ?_
            refine lv_istore_n hx hb d_Mc_run_168 rfl hl (by decide) (lv' := [(3, .int (nI (i + 1 + fx_d L i (fx_val (fx_O L i) a x x) x))), (6, .int (fx_K L i)), (5, .int (nI (fx_O L i))), (0, .ref mc), (1, .ref q), (2, .ref wd), (4, .int (nI (c + 1)))]) rfl (fun ls hl => ?_)
            refine lv_iinc (v := nI (c + 1 + 1)) (k := 6) hx hb d_Mc_run_169 hl rfl (fs_incN (c + 1) 1) (by decide) (lv' := [(4, .int (nI (c + 1 + 1))), (3, .int (nI (i + 1 + fx_d L i (fx_val (fx_O L i) a x x) x))), (6, .int (fx_K L i)), (5, .int (nI (fx_O L i))), (0, .ref mc), (1, .ref q), (2, .ref wd)]) rfl (fun ls hl => ?_)
            refine lv_goto (tgt := 23) hx hb d_Mc_run_172 (by decide) ?_
            exact ih23 (c + 1) (fx_val (fx_O L i) a x x) x cs (i + 1 + fx_d L i (fx_val (fx_O L i) a x x) x) (nI (c + 1)) _ _ _ (by omega) ⟨by omega, by rw [← hrun, fx_a_mid (by omega) (by omega), fx_x_hi (by omega), fx_c_hi (by omega), fx_d_lt (by omega), fx_d_lt (by omega), fx_val_x (by omega), show 40 - (c + 1) = 39 - c from by omega], fun _ => rfl, fun h => absurd h (by omega), by omega, hP, hD, hS, lv_sub hl [4, 5, 6, 1, 0] rfl⟩
          rw [nI_leI (by omega) (by omega)] at hc140
          refine lv_iload hx hb d_Mc_run_143 (lv_at hl 0 rfl) ?_
          refine lv_goto (tgt := 152) hx hb d_Mc_run_145 (by decide) ?_
          refine fs_calli (wc := [(mc, .inr (2, [.ref cl, .int a, .int x, .int (nI (c + 1))]))]) (wr := [(cl, .inl (cI, 16, .inl cs)), (q, .inr (1, [.ref o, .ref y, .ref n, .ref k, .int (nI L.length)])), (o, .inl (cI, 40, .inl fo)), (y, .inl (cI, 40, .inl fy)), (n, .inl (cI, 40, .inl fn)), (k, .inl (cI, 40, .inl fk)), (wd, .inl (cI, 16, .inl w))]) [0] [1, 2, 3, 4, 5, 6, 7] hP hD hK hS hA rfl rfl rfl (by decide) (fun hPc hDc => va_runV (C := R_Mc) (As := [.int (nI (fx_O L i)), .int (fx_K L i)]) (rest := [.ref mc]) ⟨hx, hb, hml, hown, hts⟩ (c_Mc_result mc cl a x (nI (c + 1)) (fx_K L i) (fx_O L i) _ (by omega) (by omega) (fun h => by rcases h with h | h; have := hgd 3 (by decide) (by decide) i hlt; simp only [fx_brP] at this; rw [fs_eq0]; omega; omega)) (⟨callB_of 2 hts (fs_g kin_Mc_result) rfl rfl rfl (hts _ wi_5) (hts _ wi_284) (by decide +kernel) ⟨Nat.le_of_ble_eq_true rfl, Nat.le_of_ble_eq_true rfl⟩, hts _ wi_286, hts _ sel_Mc_result⟩) (fs_preV (q0 := 0) rfl rfl hPc hK hDc) rfl rfl hl.1 rfl (lv_room (Nat.le_of_ble_eq_true rfl)) d_Mc_run_152 ⟨Nat.le_of_ble_eq_true rfl, Nat.le_of_ble_eq_true rfl⟩) rfl (fun r152 _ H locs hp152 hP hD hS => ?_)
          have hP : va_P (dC, dI) vwCl [(mc, .inr (2, [.ref cl, .int a, .int x, .int (nI (c + 1))])), (cl, .inl (cI, 16, .inl cs)), (q, .inr (1, [.ref o, .ref y, .ref n, .ref k, .int (nI L.length)])), (o, .inl (cI, 40, .inl fo)), (y, .inl (cI, 40, .inl fy)), (n, .inl (cI, 40, .inl fn)), (k, .inl (cI, 40, .inl fk)), (wd, .inl (cI, 16, .inl w))] H := hP.sub [7, 0, 1, 2, 3, 4, 5, 6] rfl
          have hD : va_D A [(mc, .inr (2, [.ref cl, .int a, .int x, .int (nI (c + 1))])), (cl, .inl (cI, 16, .inl cs)), (q, .inr (1, [.ref o, .ref y, .ref n, .ref k, .int (nI L.length)])), (o, .inl (cI, 40, .inl fo)), (y, .inl (cI, 40, .inl fy)), (n, .inl (cI, 40, .inl fn)), (k, .inl (cI, 40, .inl fk)), (wd, .inl (cI, 16, .inl w))] := hD.sub [7, 0, 1, 2, 3, 4, 5, 6] (by decide) rfl
          subst hp152
          refine va_put (D := (dC, dI)) (ci := 2) (v := .int (fx_val (fx_O L i) a (fx_K L i) (fx_K L i))) (ty := (.int)) (C := R_Mc) (T := T_Mc) (N := 4) hx hb hts uin_Mc t_Mc ok_Mc n_Mc hown hK hP hD hS 0 rfl rfl 1 (by decide) (hts _ wi_101) (fun _ h9 => h9) rfl (by decide +kernel) rfl rfl (Nat.le_of_ble_eq_true rfl) d_Mc_run_155 (fun H locs hP hD hS => ?_)
          have hP : va_P (dC, dI) vwCl [(mc, .inr (2, [.ref cl, .int (fx_val (fx_O L i) a (fx_K L i) (fx_K L i)), .int x, .int (nI (c + 1))])), (cl, .inl (cI, 16, .inl cs)), (q, .inr (1, [.ref o, .ref y, .ref n, .ref k, .int (nI L.length)])), (o, .inl (cI, 40, .inl fo)), (y, .inl (cI, 40, .inl fy)), (n, .inl (cI, 40, .inl fn)), (k, .inl (cI, 40, .inl fk)), (wd, .inl (cI, 16, .inl w))] H := hP
          have hD : va_D A [(mc, .inr (2, [.ref cl, .int (fx_val (fx_O L i) a (fx_K L i) (fx_K L i)), .int x, .int (nI (c + 1))])), (cl, .inl (cI, 16, .inl cs)), (q, .inr (1, [.ref o, .ref y, .ref n, .ref k, .int (nI L.length)])), (o, .inl (cI, 40, .inl fo)), (y, .inl (cI, 40, .inl fy)), (n, .inl (cI, 40, .inl fn)), (k, .inl (cI, 40, .inl fk)), (wd, .inl (cI, 16, .inl w))] := hD
          refine lv_iload_n hx hb d_Mc_run_158 rfl (lv_at hl 5 rfl) ?_
          refine lv_iconst (v := nI 1) hx hb d_Mc_run_159 (by decide) ?_
          refine lv_iadd hx hb d_Mc_run_160 ?_
          refine fs_eqi (nI_add _ _) ?_
          refine lv_aload_n hx hb d_Mc_run_161 rfl (lv_at hl 2 rfl) ?_
          refine lv_aload_n hx hb d_Mc_run_162 rfl (lv_at hl 3 rfl) ?_
          refine lv_iload_n hx hb d_Mc_run_163 rfl (lv_at hl 5 rfl) ?_
          refine fs_calli (wc := [(mc, .inr (2, [.ref cl, .int (fx_val (fx_O L i) a (fx_K L i) (fx_K L i)), .int x, .int (nI (c + 1))])), (q, .inr (1, [.ref o, .ref y, .ref n, .ref k, .int (nI L.length)])), (o, .inl (cI, 40, .inl fo)), (y, .inl (cI, 40, .inl fy)), (n, .inl (cI, 40, .inl fn)), (k, .inl (cI, 40, .inl fk))]) (wr := [(cl, .inl (cI, 16, .inl cs)), (wd, .inl (cI, 16, .inl w))]) [0, 2, 3, 4, 5, 6] [1, 7] hP hD hK hS hA rfl rfl rfl (by decide) (fun hPc hDc => va_runV (C := R_Mc) (As := [.ref q, .int (nI i)]) (rest := [.int (nI (i + 1))]) ⟨hx, hb, hml, hown, hts⟩ (c_Mc_distance mc cl (fx_val (fx_O L i) a (fx_K L i) (fx_K L i)) x (nI (c + 1)) q o y n k fo fy fn fk L i _ hrep hok hlt (hgd 5 (by decide) (by decide) i hlt) (by omega)) (⟨callB_of 2 hts (fs_g kin_Mc_distance) rfl rfl rfl (hts _ wi_5) (hts _ wi_292) (by decide +kernel) ⟨Nat.le_of_ble_eq_true rfl, Nat.le_of_ble_eq_true rfl⟩, hts _ wi_294, hts _ sel_Mc_distance⟩) (fs_preV (q0 := 0) rfl rfl hPc hK hDc) rfl rfl hl.1 rfl (lv_room (Nat.le_of_ble_eq_true rfl)) d_Mc_run_164 ⟨Nat.le_of_ble_eq_true rfl, Nat.le_of_ble_eq_true rfl⟩) rfl (fun r164 _ H locs hp164 hP hD hS => ?_)
          have hP : va_P (dC, dI) vwCl [(mc, .inr (2, [.ref cl, .int (fx_val (fx_O L i) a (fx_K L i) (fx_K L i)), .int x, .int (nI (c + 1))])), (cl, .inl (cI, 16, .inl cs)), (q, .inr (1, [.ref o, .ref y, .ref n, .ref k, .int (nI L.length)])), (o, .inl (cI, 40, .inl fo)), (y, .inl (cI, 40, .inl fy)), (n, .inl (cI, 40, .inl fn)), (k, .inl (cI, 40, .inl fk)), (wd, .inl (cI, 16, .inl w))] H := hP.sub [2, 0, 3, 4, 5, 6, 7, 1] rfl
          have hD : va_D A [(mc, .inr (2, [.ref cl, .int (fx_val (fx_O L i) a (fx_K L i) (fx_K L i)), .int x, .int (nI (c + 1))])), (cl, .inl (cI, 16, .inl cs)), (q, .inr (1, [.ref o, .ref y, .ref n, .ref k, .int (nI L.length)])), (o, .inl (cI, 40, .inl fo)), (y, .inl (cI, 40, .inl fy)), (n, .inl (cI, 40, .inl fn)), (k, .inl (cI, 40, .inl fk)), (wd, .inl (cI, 16, .inl w))] := hD.sub [2, 0, 3, 4, 5, 6, 7, 1] (by decide) rfl
          subst hp164
          have hdl : fx_d L i (fx_val (fx_O L i) a (fx_K L i) (fx_K L i)) x < 256 := fx_d_le hok hlt (hgd 5 (by decide) (by decide) i hlt)
          refine lv_iadd hx hb d_Mc_run_167 ?_
          refine fs_eqi (nI_add _ _) ?_
          refine lv_istore_n hx hb d_Mc_run_168 rfl hl (by decide) (lv' := [(3, .int (nI (i + 1 + fx_d L i (fx_val (fx_O L i) a (fx_K L i) (fx_K L i)) x))), (6, .int (fx_K L i)), (5, .int (nI (fx_O L i))), (0, .ref mc), (1, .ref q), (2, .ref wd), (4, .int (nI (c + 1)))]) rfl (fun ls hl => ?_)
          refine lv_iinc (v := nI (c + 1 + 1)) (k := 6) hx hb d_Mc_run_169 hl rfl (fs_incN (c + 1) 1) (by decide) (lv' := [(4, .int (nI (c + 1 + 1))), (3, .int (nI (i + 1 + fx_d L i (fx_val (fx_O L i) a (fx_K L i) (fx_K L i)) x))), (6, .int (fx_K L i)), (5, .int (nI (fx_O L i))), (0, .ref mc), (1, .ref q), (2, .ref wd)]) rfl (fun ls hl => ?_)
          refine lv_goto (tgt := 23) hx hb d_Mc_run_172 (by decide) ?_
          exact ih23 (c + 1) (fx_val (fx_O L i) a (fx_K L i) (fx_K L i)) x cs (i + 1 + fx_d L i (fx_val (fx_O L i) a (fx_K L i) (fx_K L i)) x) (nI (c + 1)) _ _ _ (by omega) ⟨by omega, by rw [← hrun, fx_a_mid (by omega) (by omega), fx_x_hi (by omega), fx_c_hi (by omega), fx_d_lt (by omega), fx_d_lt (by omega), ← fx_val_k (x := x) (by omega), show 40 - (c + 1) = 39 - c from by omega], fun _ => rfl, fun h => absurd h (by omega), by omega, hP, hD, hS, lv_sub hl [4, 5, 6, 1, 0] rfl⟩
        rw [nI_leI (by omega) (by omega)] at hc106
        refine lv_aload_n hx hb d_Mc_run_109 rfl (lv_at hl 2 rfl) ?_
        refine lv_iload hx hb d_Mc_run_110 (lv_at hl 1 rfl) ?_
        refine lv_iload hx hb d_Mc_run_112 (lv_at hl 0 rfl) ?_
        refine lv_aload_n hx hb d_Mc_run_114 rfl (lv_at hl 4 rfl) ?_
        refine lv_aload_n hx hb d_Mc_run_115 rfl (lv_at hl 3 rfl) ?_
        refine va_get (D := (dC, dI)) (ci := 1) (v := .int (nI L.length)) (C := R_Fi) (T := T_Fi) (N := 5) hx hb hts uin_Fi hown hK hP 2 rfl rfl 4 (by decide) (hts _ wi_47) (fun _ h9 => h9) rfl d_Mc_run_116 ?_
        refine fs_callv (wc := [(mc, .inr (2, [.ref cl, .int a, .int x, .int (nI (c + 1))])), (cl, .inl (cI, 16, .inl cs)), (wd, .inl (cI, 16, .inl w))]) (wr := [(q, .inr (1, [.ref o, .ref y, .ref n, .ref k, .int (nI L.length)])), (o, .inl (cI, 40, .inl fo)), (y, .inl (cI, 40, .inl fy)), (n, .inl (cI, 40, .inl fn)), (k, .inl (cI, 40, .inl fk))]) [0, 1, 7] [2, 3, 4, 5, 6] hP hD hK hS hA rfl rfl rfl (by decide) (fun hPc hDc => va_runV (C := R_Mc) (As := [.int (nI (fx_O L i)), .int (fx_K L i), .ref wd, .int (nI L.length)]) (rest := []) ⟨hx, hb, hml, hown, hts⟩ (c_Mc_move mc cl wd a x (nI (c + 1)) (fx_K L i) cs w (fx_O L i) L.length _ (by omega) (fun h => by have := hgd 2 (by decide) (by decide) i hlt; simp only [fx_brP] at this; omega)) (⟨callB_of 4 hts (fs_g kin_Mc_move) rfl rfl rfl (hts _ wi_5) (hts _ wi_280) (by decide +kernel) ⟨Nat.le_of_ble_eq_true rfl, Nat.le_of_ble_eq_true rfl⟩, hts _ wi_282, hts _ sel_Mc_move⟩) (fs_preV (q0 := 0) rfl rfl hPc hK hDc) rfl rfl hl.1 rfl (lv_room (Nat.le_of_ble_eq_true rfl)) d_Mc_run_119 ⟨Nat.le_of_ble_eq_true rfl, Nat.le_of_ble_eq_true rfl⟩) rfl (fun _ H locs hp119 hP hD hS => ?_)
        have hP : va_P (dC, dI) vwCl [(mc, .inr (2, [.ref cl, .int (fx_a (fx_O L i) a x (fx_K L i) cs w L.length), .int (fx_x (fx_O L i) a x (fx_K L i) cs), .int (nI (c + 1))])), (cl, .inl (cI, 16, .inl (fx_c (fx_O L i) a x (fx_K L i) cs))), (q, .inr (1, [.ref o, .ref y, .ref n, .ref k, .int (nI L.length)])), (o, .inl (cI, 40, .inl fo)), (y, .inl (cI, 40, .inl fy)), (n, .inl (cI, 40, .inl fn)), (k, .inl (cI, 40, .inl fk)), (wd, .inl (cI, 16, .inl w))] H := hP.sub [5, 6, 0, 1, 2, 3, 4, 7] rfl
        have hD : va_D A [(mc, .inr (2, [.ref cl, .int (fx_a (fx_O L i) a x (fx_K L i) cs w L.length), .int (fx_x (fx_O L i) a x (fx_K L i) cs), .int (nI (c + 1))])), (cl, .inl (cI, 16, .inl (fx_c (fx_O L i) a x (fx_K L i) cs))), (q, .inr (1, [.ref o, .ref y, .ref n, .ref k, .int (nI L.length)])), (o, .inl (cI, 40, .inl fo)), (y, .inl (cI, 40, .inl fy)), (n, .inl (cI, 40, .inl fn)), (k, .inl (cI, 40, .inl fk)), (wd, .inl (cI, 16, .inl w))] := hD.sub [5, 6, 0, 1, 2, 3, 4, 7] (by decide) rfl
        refine lv_goto (tgt := 158) hx hb d_Mc_run_122 (by decide) ?_
        refine lv_iload_n hx hb d_Mc_run_158 rfl (lv_at hl 5 rfl) ?_
        refine lv_iconst (v := nI 1) hx hb d_Mc_run_159 (by decide) ?_
        refine lv_iadd hx hb d_Mc_run_160 ?_
        refine fs_eqi (nI_add _ _) ?_
        refine lv_aload_n hx hb d_Mc_run_161 rfl (lv_at hl 2 rfl) ?_
        refine lv_aload_n hx hb d_Mc_run_162 rfl (lv_at hl 3 rfl) ?_
        refine lv_iload_n hx hb d_Mc_run_163 rfl (lv_at hl 5 rfl) ?_
        refine fs_calli (wc := [(mc, .inr (2, [.ref cl, .int (fx_a (fx_O L i) a x (fx_K L i) cs w L.length), .int (fx_x (fx_O L i) a x (fx_K L i) cs), .int (nI (c + 1))])), (q, .inr (1, [.ref o, .ref y, .ref n, .ref k, .int (nI L.length)])), (o, .inl (cI, 40, .inl fo)), (y, .inl (cI, 40, .inl fy)), (n, .inl (cI, 40, .inl fn)), (k, .inl (cI, 40, .inl fk))]) (wr := [(cl, .inl (cI, 16, .inl (fx_c (fx_O L i) a x (fx_K L i) cs))), (wd, .inl (cI, 16, .inl w))]) [0, 2, 3, 4, 5, 6] [1, 7] hP hD hK hS hA rfl rfl rfl (by decide) (fun hPc hDc => va_runV (C := R_Mc) (As := [.ref q, .int (nI i)]) (rest := [.int (nI (i + 1))]) ⟨hx, hb, hml, hown, hts⟩ (c_Mc_distance mc cl (fx_a (fx_O L i) a x (fx_K L i) cs w L.length) (fx_x (fx_O L i) a x (fx_K L i) cs) (nI (c + 1)) q o y n k fo fy fn fk L i _ hrep hok hlt (hgd 5 (by decide) (by decide) i hlt) (by omega)) (⟨callB_of 2 hts (fs_g kin_Mc_distance) rfl rfl rfl (hts _ wi_5) (hts _ wi_292) (by decide +kernel) ⟨Nat.le_of_ble_eq_true rfl, Nat.le_of_ble_eq_true rfl⟩, hts _ wi_294, hts _ sel_Mc_distance⟩) (fs_preV (q0 := 0) rfl rfl hPc hK hDc) rfl rfl hl.1 rfl (lv_room (Nat.le_of_ble_eq_true rfl)) d_Mc_run_164 ⟨Nat.le_of_ble_eq_true rfl, Nat.le_of_ble_eq_true rfl⟩) rfl (fun r164 _ H locs hp164 hP hD hS => ?_)
        have hP : va_P (dC, dI) vwCl [(mc, .inr (2, [.ref cl, .int (fx_a (fx_O L i) a x (fx_K L i) cs w L.length), .int (fx_x (fx_O L i) a x (fx_K L i) cs), .int (nI (c + 1))])), (cl, .inl (cI, 16, .inl (fx_c (fx_O L i) a x (fx_K L i) cs))), (q, .inr (1, [.ref o, .ref y, .ref n, .ref k, .int (nI L.length)])), (o, .inl (cI, 40, .inl fo)), (y, .inl (cI, 40, .inl fy)), (n, .inl (cI, 40, .inl fn)), (k, .inl (cI, 40, .inl fk)), (wd, .inl (cI, 16, .inl w))] H := hP.sub [2, 0, 3, 4, 5, 6, 7, 1] rfl
        have hD : va_D A [(mc, .inr (2, [.ref cl, .int (fx_a (fx_O L i) a x (fx_K L i) cs w L.length), .int (fx_x (fx_O L i) a x (fx_K L i) cs), .int (nI (c + 1))])), (cl, .inl (cI, 16, .inl (fx_c (fx_O L i) a x (fx_K L i) cs))), (q, .inr (1, [.ref o, .ref y, .ref n, .ref k, .int (nI L.length)])), (o, .inl (cI, 40, .inl fo)), (y, .inl (cI, 40, .inl fy)), (n, .inl (cI, 40, .inl fn)), (k, .inl (cI, 40, .inl fk)), (wd, .inl (cI, 16, .inl w))] := hD.sub [2, 0, 3, 4, 5, 6, 7, 1] (by decide) rfl
        subst hp164
        have hdl : fx_d L i (fx_a (fx_O L i) a x (fx_K L i) cs w L.length) (fx_x (fx_O L i) a x (fx_K L i) cs) < 256 := fx_d_le hok hlt (hgd 5 (by decide) (by decide) i hlt)
        refine lv_iadd hx hb d_Mc_run_167 ?_
        refine fs_eqi (nI_add _ _) ?_
        refine lv_istore_n hx hb d_Mc_run_168 rfl hl (by decide) (lv' := [(3, .int (nI (i + 1 + fx_d L i (fx_a (fx_O L i) a x (fx_K L i) cs w L.length) (fx_x (fx_O L i) a x (fx_K L i) cs)))), (6, .int (fx_K L i)), (5, .int (nI (fx_O L i))), (0, .ref mc), (1, .ref q), (2, .ref wd), (4, .int (nI (c + 1)))]) rfl (fun ls hl => ?_)
        refine lv_iinc (v := nI (c + 1 + 1)) (k := 6) hx hb d_Mc_run_169 hl rfl (fs_incN (c + 1) 1) (by decide) (lv' := [(4, .int (nI (c + 1 + 1))), (3, .int (nI (i + 1 + fx_d L i (fx_a (fx_O L i) a x (fx_K L i) cs w L.length) (fx_x (fx_O L i) a x (fx_K L i) cs)))), (6, .int (fx_K L i)), (5, .int (nI (fx_O L i))), (0, .ref mc), (1, .ref q), (2, .ref wd)]) rfl (fun ls hl => ?_)
        refine lv_goto (tgt := 23) hx hb d_Mc_run_172 (by decide) ?_
        exact ih23 (c + 1) (fx_a (fx_O L i) a x (fx_K L i) cs w L.length) (fx_x (fx_O L i) a x (fx_K L i) cs) (fx_c (fx_O L i) a x (fx_K L i) cs) (i + 1 + fx_d L i (fx_a (fx_O L i) a x (fx_K L i) cs w L.length) (fx_x (fx_O L i) a x (fx_K L i) cs)) (nI (c + 1)) _ _ _ (by omega) ⟨by omega, by rw [← hrun, fx_d_lt (by omega), fx_d_lt (by omega), show 40 - (c + 1) = 39 - c from by omega], fun _ => rfl, fun h => absurd h (by omega), by omega, hP, hD, hS, lv_sub hl [4, 5, 6, 1, 0] rfl⟩
      rw [nI_eq (by omega) (by omega)] at hc90
      refine lv_aload_n hx hb d_Mc_run_93 rfl (lv_at hl 2 rfl) ?_
      refine va_get (D := (dC, dI)) (ci := 2) (v := .int x) (C := R_Mc) (T := T_Mc) (N := 4) hx hb hts uin_Mc hown hK hP 0 rfl rfl 2 (by decide) (hts _ wi_102) (fun _ h9 => h9) rfl d_Mc_run_94 ?_
      refine lv_if_ne (tgt := 102) hx hb d_Mc_run_97 (by decide) (fun hc97 => ?_) (fun hc97 => ?_)
      · have hdz : fx_O L i = 22 → ¬ x = 0 := fun _ => hc97
        rw [if_neg (by omega), if_neg (fun h => hdz h.1 h.2)] at hrun
        refine lv_iload hx hb d_Mc_run_102 (lv_at hl 1 rfl) ?_
        refine lv_bipush (v := nI 10) hx hb d_Mc_run_104 (by decide) ?_
        refine lv_icmp_ge (tgt := 125) hx hb d_Mc_run_106 (by decide) (fun hc106 => ?_) (fun hc106 => ?_)
        · rw [nI_leI (by omega) (by omega)] at hc106
          refine lv_iload hx hb d_Mc_run_125 (lv_at hl 1 rfl) ?_
          refine lv_bipush (v := nI 25) hx hb d_Mc_run_127 (by decide) ?_
          refine lv_icmp_ge (tgt := 158) hx hb d_Mc_run_129 (by decide) (fun hc129 => ?_) (fun hc129 => ?_)
          · rw [nI_leI (by omega) (by omega)] at hc129
            refine lv_iload_n hx hb d_Mc_run_158 rfl (lv_at hl 5 rfl) ?_
            refine lv_iconst (v := nI 1) hx hb d_Mc_run_159 (by decide) ?_
            refine lv_iadd hx hb d_Mc_run_160 ?_
            refine fs_eqi (nI_add _ _) ?_
            refine lv_aload_n hx hb d_Mc_run_161 rfl (lv_at hl 2 rfl) ?_
            refine lv_aload_n hx hb d_Mc_run_162 rfl (lv_at hl 3 rfl) ?_
            refine lv_iload_n hx hb d_Mc_run_163 rfl (lv_at hl 5 rfl) ?_
            refine fs_calli (wc := [(mc, .inr (2, [.ref cl, .int a, .int x, .int (nI (c + 1))])), (q, .inr (1, [.ref o, .ref y, .ref n, .ref k, .int (nI L.length)])), (o, .inl (cI, 40, .inl fo)), (y, .inl (cI, 40, .inl fy)), (n, .inl (cI, 40, .inl fn)), (k, .inl (cI, 40, .inl fk))]) (wr := [(cl, .inl (cI, 16, .inl cs)), (wd, .inl (cI, 16, .inl w))]) [0, 2, 3, 4, 5, 6] [1, 7] hP hD hK hS hA rfl rfl rfl (by decide) (fun hPc hDc => va_runV (C := R_Mc) (As := [.ref q, .int (nI i)]) (rest := [.int (nI (i + 1))]) ⟨hx, hb, hml, hown, hts⟩ (c_Mc_distance mc cl a x (nI (c + 1)) q o y n k fo fy fn fk L i _ hrep hok hlt (hgd 5 (by decide) (by decide) i hlt) (by omega)) (⟨callB_of 2 hts (fs_g kin_Mc_distance) rfl rfl rfl (hts _ wi_5) (hts _ wi_292) (by decide +kernel) ⟨Nat.le_of_ble_eq_true rfl, Nat.le_of_ble_eq_true rfl⟩, hts _ wi_294, hts _ sel_Mc_distance⟩) (fs_preV (q0 := 0) rfl rfl hPc hK hDc) rfl rfl hl.1 rfl (lv_room (Nat.le_of_ble_eq_true rfl)) d_Mc_run_164 ⟨Nat.le_of_ble_eq_true rfl, Nat.le_of_ble_eq_true rfl⟩) rfl (fun r164 _ H locs hp164 hP hD hS => ?_)
            have hP : va_P (dC, dI) vwCl [(mc, .inr (2, [.ref cl, .int a, .int x, .int (nI (c + 1))])), (cl, .inl (cI, 16, .inl cs)), (q, .inr (1, [.ref o, .ref y, .ref n, .ref k, .int (nI L.length)])), (o, .inl (cI, 40, .inl fo)), (y, .inl (cI, 40, .inl fy)), (n, .inl (cI, 40, .inl fn)), (k, .inl (cI, 40, .inl fk)), (wd, .inl (cI, 16, .inl w))] H := hP.sub [2, 0, 3, 4, 5, 6, 7, 1] rfl
            have hD : va_D A [(mc, .inr (2, [.ref cl, .int a, .int x, .int (nI (c + 1))])), (cl, .inl (cI, 16, .inl cs)), (q, .inr (1, [.ref o, .ref y, .ref n, .ref k, .int (nI L.length)])), (o, .inl (cI, 40, .inl fo)), (y, .inl (cI, 40, .inl fy)), (n, .inl (cI, 40, .inl fn)), (k, .inl (cI, 40, .inl fk)), (wd, .inl (cI, 16, .inl w))] := hD.sub [2, 0, 3, 4, 5, 6, 7, 1] (by decide) rfl
            subst hp164
            have hdl : fx_d L i a x < 256 := fx_d_le hok hlt (hgd 5 (by decide) (by decide) i hlt)
            refine lv_iadd hx hb d_Mc_run_167 ?_
            refine fs_eqi (nI_add _ _) ?_
            refine lv_istore_n hx hb d_Mc_run_168 rfl hl (by decide) (lv' := [(3, .int (nI (i + 1 + fx_d L i a x))), (6, .int (fx_K L i)), (5, .int (nI (fx_O L i))), (0, .ref mc), (1, .ref q), (2, .ref wd), (4, .int (nI (c + 1)))]) rfl (fun ls hl => ?_)
            refine lv_iinc (v := nI (c + 1 + 1)) (k := 6) hx hb d_Mc_run_169 hl rfl (fs_incN (c + 1) 1) (by decide) (lv' := [(4, .int (nI (c + 1 + 1))), (3, .int (nI (i + 1 + fx_d L i a x))), (6, .int (fx_K L i)), (5, .int (nI (fx_O L i))), (0, .ref mc), (1, .ref q), (2, .ref wd)]) rfl (fun ls hl => ?_)
            refine lv_goto (tgt := 23) hx hb d_Mc_run_172 (by decide) ?_
            exact ih23 (c + 1) a x cs (i + 1 + fx_d L i a x) (nI (c + 1)) _ _ _ (by omega) ⟨by omega, by rw [← hrun, fx_a_hi (by omega), fx_x_hi (by omega), fx_c_hi (by omega), show 40 - (c + 1) = 39 - c from by omega], fun _ => rfl, fun h => absurd h (by omega), by omega, hP, hD, hS, lv_sub hl [4, 5, 6, 1, 0] rfl⟩
          rw [nI_leI (by omega) (by omega)] at hc129
          refine lv_aload_n hx hb d_Mc_run_132 rfl (lv_at hl 2 rfl) ?_
          refine lv_aload_n hx hb d_Mc_run_133 rfl (lv_at hl 2 rfl) ?_
          refine lv_iload hx hb d_Mc_run_134 (lv_at hl 1 rfl) ?_
          refine lv_iload hx hb d_Mc_run_136 (lv_at hl 1 rfl) ?_
          refine lv_bipush (v := nI 19) hx hb d_Mc_run_138 (by decide) ?_
          refine lv_icmp_ge (tgt := 148) hx hb d_Mc_run_140 (by decide) (fun hc140 => ?_) (fun hc140 => ?_)
          · rw [nI_leI (by omega) (by omega)] at hc140
            refine lv_aload_n hx hb d_Mc_run_148 rfl (lv_at hl 2 rfl) ?_
            refine va_get (D := (dC, dI)) (ci := 2) (v := .int x) (C := R_Mc) (T := T_Mc) (N := 4) hx hb hts uin_Mc hown hK hP 0 rfl rfl 2 (by decide) (hts _ wi_102) (fun _ h9 => h9) rfl d_Mc_run_149 ?_
            refine fs_calli (wc := [(mc, .inr (2, [.ref cl, .int a, .int x, .int (nI (c + 1))]))]) (wr := [(cl, .inl (cI, 16, .inl cs)), (q, .inr (1, [.ref o, .ref y, .ref n, .ref k, .int (nI L.length)])), (o, .inl (cI, 40, .inl fo)), (y, .inl (cI, 40, .inl fy)), (n, .inl (cI, 40, .inl fn)), (k, .inl (cI, 40, .inl fk)), (wd, .inl (cI, 16, .inl w))]) [0] [1, 2, 3, 4, 5, 6, 7] hP hD hK hS hA rfl rfl rfl (by decide) (fun hPc hDc => va_runV (C := R_Mc) (As := [.int (nI (fx_O L i)), .int x]) (rest := [.ref mc]) ⟨hx, hb, hml, hown, hts⟩ (c_Mc_result mc cl a x (nI (c + 1)) x (fx_O L i) _ (by omega) (by omega) (fun h => by rcases h with h | h; omega; exact hdz h)) (⟨callB_of 2 hts (fs_g kin_Mc_result) rfl rfl rfl (hts _ wi_5) (hts _ wi_284) (by decide +kernel) ⟨Nat.le_of_ble_eq_true rfl, Nat.le_of_ble_eq_true rfl⟩, hts _ wi_286, hts _ sel_Mc_result⟩) (fs_preV (q0 := 0) rfl rfl hPc hK hDc) rfl rfl hl.1 rfl (lv_room (Nat.le_of_ble_eq_true rfl)) d_Mc_run_152 ⟨Nat.le_of_ble_eq_true rfl, Nat.le_of_ble_eq_true rfl⟩) rfl (fun r152 _ H locs hp152 hP hD hS => ?_)
            have hP : va_P (dC, dI) vwCl [(mc, .inr (2, [.ref cl, .int a, .int x, .int (nI (c + 1))])), (cl, .inl (cI, 16, .inl cs)), (q, .inr (1, [.ref o, .ref y, .ref n, .ref k, .int (nI L.length)])), (o, .inl (cI, 40, .inl fo)), (y, .inl (cI, 40, .inl fy)), (n, .inl (cI, 40, .inl fn)), (k, .inl (cI, 40, .inl fk)), (wd, .inl (cI, 16, .inl w))] H := hP.sub [7, 0, 1, 2, 3, 4, 5, 6] rfl
            have hD : va_D A [(mc, .inr (2, [.ref cl, .int a, .int x, .int (nI (c + 1))])), (cl, .inl (cI, 16, .inl cs)), (q, .inr (1, [.ref o, .ref y, .ref n, .ref k, .int (nI L.length)])), (o, .inl (cI, 40, .inl fo)), (y, .inl (cI, 40, .inl fy)), (n, .inl (cI, 40, .inl fn)), (k, .inl (cI, 40, .inl fk)), (wd, .inl (cI, 16, .inl w))] := hD.sub [7, 0, 1, 2, 3, 4, 5, 6] (by decide) rfl
            subst hp152
            refine va_put (D := (dC, dI)) (ci := 2) (v := .int (fx_val (fx_O L i) a x x)) (ty := (.int)) (C := R_Mc) (T := T_Mc) (N := 4) hx hb hts uin_Mc t_Mc ok_Mc n_Mc hown hK hP hD hS 0 rfl rfl 1 (by decide) (hts _ wi_101) (fun _ h9 => h9) rfl (by decide +kernel) rfl rfl (Nat.le_of_ble_eq_true rfl) d_Mc_run_155 (fun H locs hP hD hS => ?_)
            have hP : va_P (dC, dI) vwCl [(mc, .inr (2, [.ref cl, .int (fx_val (fx_O L i) a x x), .int x, .int (nI (c + 1))])), (cl, .inl (cI, 16, .inl cs)), (q, .inr (1, [.ref o, .ref y, .ref n, .ref k, .int (nI L.length)])), (o, .inl (cI, 40, .inl fo)), (y, .inl (cI, 40, .inl fy)), (n, .inl (cI, 40, .inl fn)), (k, .inl (cI, 40, .inl fk)), (wd, .inl (cI, 16, .inl w))] H := hP
            have hD : va_D A [(mc, .inr (2, [.ref cl, .int (fx_val (fx_O L i) a x x), .int x, .int (nI (c + 1))])), (cl, .inl (cI, 16, .inl cs)), (q, .inr (1, [.ref o, .ref y, .ref n, .ref k, .int (nI L.length)])), (o, .inl (cI, 40, .inl fo)), (y, .inl (cI, 40, .inl fy)), (n, .inl (cI, 40, .inl fn)), (k, .inl (cI, 40, .inl fk)), (wd, .inl (cI, 16, .inl w))] := hD
            refine lv_iload_n hx hb d_Mc_run_158 rfl (lv_at hl 5 rfl) ?_
            refine lv_iconst (v := nI 1) hx hb d_Mc_run_159 (by decide) ?_
            refine lv_iadd hx hb d_Mc_run_160 ?_
            refine fs_eqi (nI_add _ _) ?_
            refine lv_aload_n hx hb d_Mc_run_161 rfl (lv_at hl 2 rfl) ?_
            refine lv_aload_n hx hb d_Mc_run_162 rfl (lv_at hl 3 rfl) ?_
            refine lv_iload_n hx hb d_Mc_run_163 rfl (lv_at hl 5 rfl) ?_
            refine fs_calli (wc := [(mc, .inr (2, [.ref cl, .int (fx_val (fx_O L i) a x x), .int x, .int (nI (c + 1))])), (q, .inr (1, [.ref o, .ref y, .ref n, .ref k, .int (nI L.length)])), (o, .inl (cI, 40, .inl fo)), (y, .inl (cI, 40, .inl fy)), (n, .inl (cI, 40, .inl fn)), (k, .inl (cI, 40, .inl fk))]) (wr := [(cl, .inl (cI, 16, .inl cs)), (wd, .inl (cI, 16, .inl w))]) [0, 2, 3, 4, 5, 6] [1, 7] hP hD hK hS hA rfl rfl rfl (by decide) (fun hPc hDc => va_runV (C := R_Mc) (As := [.ref q, .int (nI i)]) (rest := [.int (nI (i + 1))]) ⟨hx, hb, hml, hown, hts⟩ (c_Mc_distance mc cl (fx_val (fx_O L i) a x x) x (nI (c + 1)) q o y n k fo fy fn fk L i _ hrep hok hlt (hgd 5 (by decide) (by decide) i hlt) (by omega)) (⟨callB_of 2 hts (fs_g kin_Mc_distance) rfl rfl rfl (hts _ wi_5) (hts _ wi_292) (by decide +kernel) ⟨Nat.le_of_ble_eq_true rfl, Nat.le_of_ble_eq_true rfl⟩, hts _ wi_294, hts _ sel_Mc_distance⟩) (fs_preV (q0 := 0) rfl rfl hPc hK hDc) rfl rfl hl.1 rfl (lv_room (Nat.le_of_ble_eq_true rfl)) d_Mc_run_164 ⟨Nat.le_of_ble_eq_true rfl, Nat.le_of_ble_eq_true rfl⟩) rfl (fun r164 _ H locs hp164 hP hD hS => ?_)
            have hP : va_P (dC, dI) vwCl [(mc, .inr (2, [.ref cl, .int (fx_val (fx_O L i) a x x), .int x, .int (nI (c + 1))])), (cl, .inl (cI, 16, .inl cs)), (q, .inr (1, [.ref o, .ref y, .ref n, .ref k, .int (nI L.length)])), (o, .inl (cI, 40, .inl fo)), (y, .inl (cI, 40, .inl fy)), (n, .inl (cI, 40, .inl fn)), (k, .inl (cI, 40, .inl fk)), (wd, .inl (cI, 16, .inl w))] H := hP.sub [2, 0, 3, 4, 5, 6, 7, 1] rfl
            have hD : va_D A [(mc, .inr (2, [.ref cl, .int (fx_val (fx_O L i) a x x), .int x, .int (nI (c + 1))])), (cl, .inl (cI, 16, .inl cs)), (q, .inr (1, [.ref o, .ref y, .ref n, .ref k, .int (nI L.length)])), (o, .inl (cI, 40, .inl fo)), (y, .inl (cI, 40, .inl fy)), (n, .inl (cI, 40, .inl fn)), (k, .inl (cI, 40, .inl fk)), (wd, .inl (cI, 16, .inl w))] := hD.sub [2, 0, 3, 4, 5, 6, 7, 1] (by decide) rfl
            subst hp164
            have hdl : fx_d L i (fx_val (fx_O L i) a x x) x < 256 := fx_d_le hok hlt (hgd 5 (by decide) (by decide) i hlt)
            refine lv_iadd hx hb d_Mc_run_167 ?_
            refine fs_eqi (nI_add _ _) ?_
            refine lv_istore_n hx hb d_Mc_run_168 rfl hl (by decide) (lv' := [(3, .int (nI (i + 1 + fx_d L i (fx_val (fx_O L i) a x x) x))), (6, .int (fx_K L i)), (5, .int (nI (fx_O L i))), (0, .ref mc), (1, .ref q), (2, .ref wd), (4, .int (nI (c + 1)))]) rfl (fun ls hl => ?_)
            refine lv_iinc (v := nI (c + 1 + 1)) (k := 6) hx hb d_Mc_run_169 hl rfl (fs_incN (c + 1) 1) (by decide) (lv' := [(4, .int (nI (c + 1 + 1))), (3, .int (nI (i + 1 + fx_d L i (fx_val (fx_O L i) a x x) x))), (6, .int (fx_K L i)), (5, .int (nI (fx_O L i))), (0, .ref mc), (1, .ref q), (2, .ref wd)]) rfl (fun ls hl => ?_)
            refine lv_goto (tgt := 23) hx hb d_Mc_run_172 (by decide) ?_
            exact ih23 (c + 1) (fx_val (fx_O L i) a x x) x cs (i + 1 + fx_d L i (fx_val (fx_O L i) a x x) x) (nI (c + 1)) _ _ _ (by omega) ⟨by omega, by rw [← hrun, fx_a_mid (by omega) (by omega), fx_x_hi (by omega), fx_c_hi (by omega), fx_d_lt (by omega), fx_d_lt (by omega), fx_val_x (by omega), show 40 - (c + 1) = 39 - c from by omega], fun _ => rfl, fun h => absurd h (by omega), by omega, hP, hD, hS, lv_sub hl [4, 5, 6, 1, 0] rfl⟩
          rw [nI_leI (by omega) (by omega)] at hc140
          refine lv_iload hx hb d_Mc_run_143 (lv_at hl 0 rfl) ?_
          refine lv_goto (tgt := 152) hx hb d_Mc_run_145 (by decide) ?_
          refine fs_calli (wc := [(mc, .inr (2, [.ref cl, .int a, .int x, .int (nI (c + 1))]))]) (wr := [(cl, .inl (cI, 16, .inl cs)), (q, .inr (1, [.ref o, .ref y, .ref n, .ref k, .int (nI L.length)])), (o, .inl (cI, 40, .inl fo)), (y, .inl (cI, 40, .inl fy)), (n, .inl (cI, 40, .inl fn)), (k, .inl (cI, 40, .inl fk)), (wd, .inl (cI, 16, .inl w))]) [0] [1, 2, 3, 4, 5, 6, 7] hP hD hK hS hA rfl rfl rfl (by decide) (fun hPc hDc => va_runV (C := R_Mc) (As := [.int (nI (fx_O L i)), .int (fx_K L i)]) (rest := [.ref mc]) ⟨hx, hb, hml, hown, hts⟩ (c_Mc_result mc cl a x (nI (c + 1)) (fx_K L i) (fx_O L i) _ (by omega) (by omega) (fun h => by rcases h with h | h; have := hgd 3 (by decide) (by decide) i hlt; simp only [fx_brP] at this; rw [fs_eq0]; omega; omega)) (⟨callB_of 2 hts (fs_g kin_Mc_result) rfl rfl rfl (hts _ wi_5) (hts _ wi_284) (by decide +kernel) ⟨Nat.le_of_ble_eq_true rfl, Nat.le_of_ble_eq_true rfl⟩, hts _ wi_286, hts _ sel_Mc_result⟩) (fs_preV (q0 := 0) rfl rfl hPc hK hDc) rfl rfl hl.1 rfl (lv_room (Nat.le_of_ble_eq_true rfl)) d_Mc_run_152 ⟨Nat.le_of_ble_eq_true rfl, Nat.le_of_ble_eq_true rfl⟩) rfl (fun r152 _ H locs hp152 hP hD hS => ?_)
          have hP : va_P (dC, dI) vwCl [(mc, .inr (2, [.ref cl, .int a, .int x, .int (nI (c + 1))])), (cl, .inl (cI, 16, .inl cs)), (q, .inr (1, [.ref o, .ref y, .ref n, .ref k, .int (nI L.length)])), (o, .inl (cI, 40, .inl fo)), (y, .inl (cI, 40, .inl fy)), (n, .inl (cI, 40, .inl fn)), (k, .inl (cI, 40, .inl fk)), (wd, .inl (cI, 16, .inl w))] H := hP.sub [7, 0, 1, 2, 3, 4, 5, 6] rfl
          have hD : va_D A [(mc, .inr (2, [.ref cl, .int a, .int x, .int (nI (c + 1))])), (cl, .inl (cI, 16, .inl cs)), (q, .inr (1, [.ref o, .ref y, .ref n, .ref k, .int (nI L.length)])), (o, .inl (cI, 40, .inl fo)), (y, .inl (cI, 40, .inl fy)), (n, .inl (cI, 40, .inl fn)), (k, .inl (cI, 40, .inl fk)), (wd, .inl (cI, 16, .inl w))] := hD.sub [7, 0, 1, 2, 3, 4, 5, 6] (by decide) rfl
          subst hp152
          refine va_put (D := (dC, dI)) (ci := 2) (v := .int (fx_val (fx_O L i) a (fx_K L i) (fx_K L i))) (ty := (.int)) (C := R_Mc) (T := T_Mc) (N := 4) hx hb hts uin_Mc t_Mc ok_Mc n_Mc hown hK hP hD hS 0 rfl rfl 1 (by decide) (hts _ wi_101) (fun _ h9 => h9) rfl (by decide +kernel) rfl rfl (Nat.le_of_ble_eq_true rfl) d_Mc_run_155 (fun H locs hP hD hS => ?_)
          have hP : va_P (dC, dI) vwCl [(mc, .inr (2, [.ref cl, .int (fx_val (fx_O L i) a (fx_K L i) (fx_K L i)), .int x, .int (nI (c + 1))])), (cl, .inl (cI, 16, .inl cs)), (q, .inr (1, [.ref o, .ref y, .ref n, .ref k, .int (nI L.length)])), (o, .inl (cI, 40, .inl fo)), (y, .inl (cI, 40, .inl fy)), (n, .inl (cI, 40, .inl fn)), (k, .inl (cI, 40, .inl fk)), (wd, .inl (cI, 16, .inl w))] H := hP
          have hD : va_D A [(mc, .inr (2, [.ref cl, .int (fx_val (fx_O L i) a (fx_K L i) (fx_K L i)), .int x, .int (nI (c + 1))])), (cl, .inl (cI, 16, .inl cs)), (q, .inr (1, [.ref o, .ref y, .ref n, .ref k, .int (nI L.length)])), (o, .inl (cI, 40, .inl fo)), (y, .inl (cI, 40, .inl fy)), (n, .inl (cI, 40, .inl fn)), (k, .inl (cI, 40, .inl fk)), (wd, .inl (cI, 16, .inl w))] := hD
          refine lv_iload_n hx hb d_Mc_run_158 rfl (lv_at hl 5 rfl) ?_
          refine lv_iconst (v := nI 1) hx hb d_Mc_run_159 (by decide) ?_
          refine lv_iadd hx hb d_Mc_run_160 ?_
          refine fs_eqi (nI_add _ _) ?_
          refine lv_aload_n hx hb d_Mc_run_161 rfl (lv_at hl 2 rfl) ?_
          refine lv_aload_n hx hb d_Mc_run_162 rfl (lv_at hl 3 rfl) ?_
          refine lv_iload_n hx hb d_Mc_run_163 rfl (lv_at hl 5 rfl) ?_
          refine fs_calli (wc := [(mc, .inr (2, [.ref cl, .int (fx_val (fx_O L i) a (fx_K L i) (fx_K L i)), .int x, .int (nI (c + 1))])), (q, .inr (1, [.ref o, .ref y, .ref n, .ref k, .int (nI L.length)])), (o, .inl (cI, 40, .inl fo)), (y, .inl (cI, 40, .inl fy)), (n, .inl (cI, 40, .inl fn)), (k, .inl (cI, 40, .inl fk))]) (wr := [(cl, .inl (cI, 16, .inl cs)), (wd, .inl (cI, 16, .inl w))]) [0, 2, 3, 4, 5, 6] [1, 7] hP hD hK hS hA rfl rfl rfl (by decide) (fun hPc hDc => va_runV (C := R_Mc) (As := [.ref q, .int (nI i)]) (rest := [.int (nI (i + 1))]) ⟨hx, hb, hml, hown, hts⟩ (c_Mc_distance mc cl (fx_val (fx_O L i) a (fx_K L i) (fx_K L i)) x (nI (c + 1)) q o y n k fo fy fn fk L i _ hrep hok hlt (hgd 5 (by decide) (by decide) i hlt) (by omega)) (⟨callB_of 2 hts (fs_g kin_Mc_distance) rfl rfl rfl (hts _ wi_5) (hts _ wi_292) (by decide +kernel) ⟨Nat.le_of_ble_eq_true rfl, Nat.le_of_ble_eq_true rfl⟩, hts _ wi_294, hts _ sel_Mc_distance⟩) (fs_preV (q0 := 0) rfl rfl hPc hK hDc) rfl rfl hl.1 rfl (lv_room (Nat.le_of_ble_eq_true rfl)) d_Mc_run_164 ⟨Nat.le_of_ble_eq_true rfl, Nat.le_of_ble_eq_true rfl⟩) rfl (fun r164 _ H locs hp164 hP hD hS => ?_)
          have hP : va_P (dC, dI) vwCl [(mc, .inr (2, [.ref cl, .int (fx_val (fx_O L i) a (fx_K L i) (fx_K L i)), .int x, .int (nI (c + 1))])), (cl, .inl (cI, 16, .inl cs)), (q, .inr (1, [.ref o, .ref y, .ref n, .ref k, .int (nI L.length)])), (o, .inl (cI, 40, .inl fo)), (y, .inl (cI, 40, .inl fy)), (n, .inl (cI, 40, .inl fn)), (k, .inl (cI, 40, .inl fk)), (wd, .inl (cI, 16, .inl w))] H := hP.sub [2, 0, 3, 4, 5, 6, 7, 1] rfl
          have hD : va_D A [(mc, .inr (2, [.ref cl, .int (fx_val (fx_O L i) a (fx_K L i) (fx_K L i)), .int x, .int (nI (c + 1))])), (cl, .inl (cI, 16, .inl cs)), (q, .inr (1, [.ref o, .ref y, .ref n, .ref k, .int (nI L.length)])), (o, .inl (cI, 40, .inl fo)), (y, .inl (cI, 40, .inl fy)), (n, .inl (cI, 40, .inl fn)), (k, .inl (cI, 40, .inl fk)), (wd, .inl (cI, 16, .inl w))] := hD.sub [2, 0, 3, 4, 5, 6, 7, 1] (by decide) rfl
          subst hp164
          have hdl : fx_d L i (fx_val (fx_O L i) a (fx_K L i) (fx_K L i)) x < 256 := fx_d_le hok hlt (hgd 5 (by decide) (by decide) i hlt)
          refine lv_iadd hx hb d_Mc_run_167 ?_
          refine fs_eqi (nI_add _ _) ?_
          refine lv_istore_n hx hb d_Mc_run_168 rfl hl (by decide) (lv' := [(3, .int (nI (i + 1 + fx_d L i (fx_val (fx_O L i) a (fx_K L i) (fx_K L i)) x))), (6, .int (fx_K L i)), (5, .int (nI (fx_O L i))), (0, .ref mc), (1, .ref q), (2, .ref wd), (4, .int (nI (c + 1)))]) rfl (fun ls hl => ?_)
          refine lv_iinc (v := nI (c + 1 + 1)) (k := 6) hx hb d_Mc_run_169 hl rfl (fs_incN (c + 1) 1) (by decide) (lv' := [(4, .int (nI (c + 1 + 1))), (3, .int (nI (i + 1 + fx_d L i (fx_val (fx_O L i) a (fx_K L i) (fx_K L i)) x))), (6, .int (fx_K L i)), (5, .int (nI (fx_O L i))), (0, .ref mc), (1, .ref q), (2, .ref wd)]) rfl (fun ls hl => ?_)
          refine lv_goto (tgt := 23) hx hb d_Mc_run_172 (by decide) ?_
          exact ih23 (c + 1) (fx_val (fx_O L i) a (fx_K L i) (fx_K L i)) x cs (i + 1 + fx_d L i (fx_val (fx_O L i) a (fx_K L i) (fx_K L i)) x) (nI (c + 1)) _ _ _ (by omega) ⟨by omega, by rw [← hrun, fx_a_mid (by omega) (by omega), fx_x_hi (by omega), fx_c_hi (by omega), fx_d_lt (by omega), fx_d_lt (by omega), ← fx_val_k (x := x) (by omega), show 40 - (c + 1) = 39 - c from by omega], fun _ => rfl, fun h => absurd h (by omega), by omega, hP, hD, hS, lv_sub hl [4, 5, 6, 1, 0] rfl⟩
        rw [nI_leI (by omega) (by omega)] at hc106
        refine lv_aload_n hx hb d_Mc_run_109 rfl (lv_at hl 2 rfl) ?_
        refine lv_iload hx hb d_Mc_run_110 (lv_at hl 1 rfl) ?_
        refine lv_iload hx hb d_Mc_run_112 (lv_at hl 0 rfl) ?_
        refine lv_aload_n hx hb d_Mc_run_114 rfl (lv_at hl 4 rfl) ?_
        refine lv_aload_n hx hb d_Mc_run_115 rfl (lv_at hl 3 rfl) ?_
        refine va_get (D := (dC, dI)) (ci := 1) (v := .int (nI L.length)) (C := R_Fi) (T := T_Fi) (N := 5) hx hb hts uin_Fi hown hK hP 2 rfl rfl 4 (by decide) (hts _ wi_47) (fun _ h9 => h9) rfl d_Mc_run_116 ?_
        refine fs_callv (wc := [(mc, .inr (2, [.ref cl, .int a, .int x, .int (nI (c + 1))])), (cl, .inl (cI, 16, .inl cs)), (wd, .inl (cI, 16, .inl w))]) (wr := [(q, .inr (1, [.ref o, .ref y, .ref n, .ref k, .int (nI L.length)])), (o, .inl (cI, 40, .inl fo)), (y, .inl (cI, 40, .inl fy)), (n, .inl (cI, 40, .inl fn)), (k, .inl (cI, 40, .inl fk))]) [0, 1, 7] [2, 3, 4, 5, 6] hP hD hK hS hA rfl rfl rfl (by decide) (fun hPc hDc => va_runV (C := R_Mc) (As := [.int (nI (fx_O L i)), .int (fx_K L i), .ref wd, .int (nI L.length)]) (rest := []) ⟨hx, hb, hml, hown, hts⟩ (c_Mc_move mc cl wd a x (nI (c + 1)) (fx_K L i) cs w (fx_O L i) L.length _ (by omega) (fun h => by have := hgd 2 (by decide) (by decide) i hlt; simp only [fx_brP] at this; omega)) (⟨callB_of 4 hts (fs_g kin_Mc_move) rfl rfl rfl (hts _ wi_5) (hts _ wi_280) (by decide +kernel) ⟨Nat.le_of_ble_eq_true rfl, Nat.le_of_ble_eq_true rfl⟩, hts _ wi_282, hts _ sel_Mc_move⟩) (fs_preV (q0 := 0) rfl rfl hPc hK hDc) rfl rfl hl.1 rfl (lv_room (Nat.le_of_ble_eq_true rfl)) d_Mc_run_119 ⟨Nat.le_of_ble_eq_true rfl, Nat.le_of_ble_eq_true rfl⟩) rfl (fun _ H locs hp119 hP hD hS => ?_)
        have hP : va_P (dC, dI) vwCl [(mc, .inr (2, [.ref cl, .int (fx_a (fx_O L i) a x (fx_K L i) cs w L.length), .int (fx_x (fx_O L i) a x (fx_K L i) cs), .int (nI (c + 1))])), (cl, .inl (cI, 16, .inl (fx_c (fx_O L i) a x (fx_K L i) cs))), (q, .inr (1, [.ref o, .ref y, .ref n, .ref k, .int (nI L.length)])), (o, .inl (cI, 40, .inl fo)), (y, .inl (cI, 40, .inl fy)), (n, .inl (cI, 40, .inl fn)), (k, .inl (cI, 40, .inl fk)), (wd, .inl (cI, 16, .inl w))] H := hP.sub [5, 6, 0, 1, 2, 3, 4, 7] rfl
        have hD : va_D A [(mc, .inr (2, [.ref cl, .int (fx_a (fx_O L i) a x (fx_K L i) cs w L.length), .int (fx_x (fx_O L i) a x (fx_K L i) cs), .int (nI (c + 1))])), (cl, .inl (cI, 16, .inl (fx_c (fx_O L i) a x (fx_K L i) cs))), (q, .inr (1, [.ref o, .ref y, .ref n, .ref k, .int (nI L.length)])), (o, .inl (cI, 40, .inl fo)), (y, .inl (cI, 40, .inl fy)), (n, .inl (cI, 40, .inl fn)), (k, .inl (cI, 40, .inl fk)), (wd, .inl (cI, 16, .inl w))] := hD.sub [5, 6, 0, 1, 2, 3, 4, 7] (by decide) rfl
        refine lv_goto (tgt := 158) hx hb d_Mc_run_122 (by decide) ?_
        refine lv_iload_n hx hb d_Mc_run_158 rfl (lv_at hl 5 rfl) ?_
        refine lv_iconst (v := nI 1) hx hb d_Mc_run_159 (by decide) ?_
        refine lv_iadd hx hb d_Mc_run_160 ?_
        refine fs_eqi (nI_add _ _) ?_
        refine lv_aload_n hx hb d_Mc_run_161 rfl (lv_at hl 2 rfl) ?_
        refine lv_aload_n hx hb d_Mc_run_162 rfl (lv_at hl 3 rfl) ?_
        refine lv_iload_n hx hb d_Mc_run_163 rfl (lv_at hl 5 rfl) ?_
        refine fs_calli (wc := [(mc, .inr (2, [.ref cl, .int (fx_a (fx_O L i) a x (fx_K L i) cs w L.length), .int (fx_x (fx_O L i) a x (fx_K L i) cs), .int (nI (c + 1))])), (q, .inr (1, [.ref o, .ref y, .ref n, .ref k, .int (nI L.length)])), (o, .inl (cI, 40, .inl fo)), (y, .inl (cI, 40, .inl fy)), (n, .inl (cI, 40, .inl fn)), (k, .inl (cI, 40, .inl fk))]) (wr := [(cl, .inl (cI, 16, .inl (fx_c (fx_O L i) a x (fx_K L i) cs))), (wd, .inl (cI, 16, .inl w))]) [0, 2, 3, 4, 5, 6] [1, 7] hP hD hK hS hA rfl rfl rfl (by decide) (fun hPc hDc => va_runV (C := R_Mc) (As := [.ref q, .int (nI i)]) (rest := [.int (nI (i + 1))]) ⟨hx, hb, hml, hown, hts⟩ (c_Mc_distance mc cl (fx_a (fx_O L i) a x (fx_K L i) cs w L.length) (fx_x (fx_O L i) a x (fx_K L i) cs) (nI (c + 1)) q o y n k fo fy fn fk L i _ hrep hok hlt (hgd 5 (by decide) (by decide) i hlt) (by omega)) (⟨callB_of 2 hts (fs_g kin_Mc_distance) rfl rfl rfl (hts _ wi_5) (hts _ wi_292) (by decide +kernel) ⟨Nat.le_of_ble_eq_true rfl, Nat.le_of_ble_eq_true rfl⟩, hts _ wi_294, hts _ sel_Mc_distance⟩) (fs_preV (q0 := 0) rfl rfl hPc hK hDc) rfl rfl hl.1 rfl (lv_room (Nat.le_of_ble_eq_true rfl)) d_Mc_run_164 ⟨Nat.le_of_ble_eq_true rfl, Nat.le_of_ble_eq_true rfl⟩) rfl (fun r164 _ H locs hp164 hP hD hS => ?_)
        have hP : va_P (dC, dI) vwCl [(mc, .inr (2, [.ref cl, .int (fx_a (fx_O L i) a x (fx_K L i) cs w L.length), .int (fx_x (fx_O L i) a x (fx_K L i) cs), .int (nI (c + 1))])), (cl, .inl (cI, 16, .inl (fx_c (fx_O L i) a x (fx_K L i) cs))), (q, .inr (1, [.ref o, .ref y, .ref n, .ref k, .int (nI L.length)])), (o, .inl (cI, 40, .inl fo)), (y, .inl (cI, 40, .inl fy)), (n, .inl (cI, 40, .inl fn)), (k, .inl (cI, 40, .inl fk)), (wd, .inl (cI, 16, .inl w))] H := hP.sub [2, 0, 3, 4, 5, 6, 7, 1] rfl
        have hD : va_D A [(mc, .inr (2, [.ref cl, .int (fx_a (fx_O L i) a x (fx_K L i) cs w L.length), .int (fx_x (fx_O L i) a x (fx_K L i) cs), .int (nI (c + 1))])), (cl, .inl (cI, 16, .inl (fx_c (fx_O L i) a x (fx_K L i) cs))), (q, .inr (1, [.ref o, .ref y, .ref n, .ref k, .int (nI L.length)])), (o, .inl (cI, 40, .inl fo)), (y, .inl (cI, 40, .inl fy)), (n, .inl (cI, 40, .inl fn)), (k, .inl (cI, 40, .inl fk)), (wd, .inl (cI, 16, .inl w))] := hD.sub [2, 0, 3, 4, 5, 6, 7, 1] (by decide) rfl
        subst hp164
        have hdl : fx_d L i (fx_a (fx_O L i) a x (fx_K L i) cs w L.length) (fx_x (fx_O L i) a x (fx_K L i) cs) < 256 := fx_d_le hok hlt (hgd 5 (by decide) (by decide) i hlt)
        refine lv_iadd hx hb d_Mc_run_167 ?_
        refine fs_eqi (nI_add _ _) ?_
        refine lv_istore_n hx hb d_Mc_run_168 rfl hl (by decide) (lv' := [(3, .int (nI (i + 1 + fx_d L i (fx_a (fx_O L i) a x (fx_K L i) cs w L.length) (fx_x (fx_O L i) a x (fx_K L i) cs)))), (6, .int (fx_K L i)), (5, .int (nI (fx_O L i))), (0, .ref mc), (1, .ref q), (2, .ref wd), (4, .int (nI (c + 1)))]) rfl (fun ls hl => ?_)
        refine lv_iinc (v := nI (c + 1 + 1)) (k := 6) hx hb d_Mc_run_169 hl rfl (fs_incN (c + 1) 1) (by decide) (lv' := [(4, .int (nI (c + 1 + 1))), (3, .int (nI (i + 1 + fx_d L i (fx_a (fx_O L i) a x (fx_K L i) cs w L.length) (fx_x (fx_O L i) a x (fx_K L i) cs)))), (6, .int (fx_K L i)), (5, .int (nI (fx_O L i))), (0, .ref mc), (1, .ref q), (2, .ref wd)]) rfl (fun ls hl => ?_)
        refine lv_goto (tgt := 23) hx hb d_Mc_run_172 (by decide) ?_
        exact ih23 (c + 1) (fx_a (fx_O L i) a x (fx_K L i) cs w L.length) (fx_x (fx_O L i) a x (fx_K L i) cs) (fx_c (fx_O L i) a x (fx_K L i) cs) (i + 1 + fx_d L i (fx_a (fx_O L i) a x (fx_K L i) cs w L.length) (fx_x (fx_O L i) a x (fx_K L i) cs)) (nI (c + 1)) _ _ _ (by omega) ⟨by omega, by rw [← hrun, fx_d_lt (by omega), fx_d_lt (by omega), show 40 - (c + 1) = 39 - c from by omega], fun _ => rfl, fun h => absurd h (by omega), by omega, hP, hD, hS, lv_sub hl [4, 5, 6, 1, 0] rfl⟩
      refine lv_iconst (v := nI 0) hx hb d_Mc_run_100 (by decide) ?_
      rw [if_neg (by omega), if_pos ⟨by omega, hc97⟩] at hrun
      have hw2 : (fx_do L w).2 = c + 1 := by rw [← hrun]
      rw [← hw2] at hP hD
      exact fs_iret hx hb hr hlocks hAe hK hS d_Mc_run_101 (a, x, cs) (by rw [← hrun]; try rfl) hP hD
    rw [nI_eq (by omega) (by omega)] at hc64
    refine lv_aload_n hx hb d_Mc_run_67 rfl (lv_at hl 3 rfl) ?_
    refine va_get (D := (dC, dI)) (ci := 1) (v := .ref y) (C := R_Fi) (T := T_Fi) (N := 5) hx hb hts uin_Fi hown hK hP 2 rfl rfl 1 (by decide) (hts _ wi_35) (fun _ h9 => h9) rfl d_Mc_run_68 ?_
    refine lv_iload_n hx hb d_Mc_run_71 rfl (lv_at hl 5 rfl) ?_
    refine fs_iald (v := nI (fx_Y L i)) hx hb hK hP 4 0 rfl rfl i rfl (by decide) (by omega) ((hrep i (by omega)).2.1) d_Mc_run_72 ?_
    refine lv_if_eq (tgt := 83) hx hb d_Mc_run_73 (by decide) (fun hc73 => ?_) (fun hc73 => ?_)
    · try rw [← nI_0] at hc73
      rw [nI_eq (by omega) (by omega)] at hc73
      refine lv_iload hx hb d_Mc_run_83 (lv_at hl 0 rfl) ?_
      rw [if_pos (by omega), if_pos (by omega)] at hrun
      have hw2 : (fx_do L w).2 = c + 1 := by rw [← hrun]
      rw [← hw2] at hP hD
      exact fs_iret hx hb hr hlocks hAe hK hS d_Mc_run_85 (a, x, cs) (by rw [← hrun]; try rfl) hP hD
    try rw [← nI_0] at hc73
    rw [nI_eq (by omega) (by omega)] at hc73
    refine lv_aload_n hx hb d_Mc_run_76 rfl (lv_at hl 2 rfl) ?_
    refine va_get (D := (dC, dI)) (ci := 2) (v := .int a) (C := R_Mc) (T := T_Mc) (N := 4) hx hb hts uin_Mc hown hK hP 0 rfl rfl 1 (by decide) (hts _ wi_101) (fun _ h9 => h9) rfl d_Mc_run_77 ?_
    refine lv_goto (tgt := 85) hx hb d_Mc_run_80 (by decide) ?_
    rw [if_pos (by omega), if_neg (by omega)] at hrun
    have hw2 : (fx_do L w).2 = c + 1 := by rw [← hrun]
    rw [← hw2] at hP hD
    exact fs_iret hx hb hr hlocks hAe hK hS d_Mc_run_85 (a, x, cs) (by rw [← hrun]; try rfl) hP hD
  refine lv_if_eq (tgt := 175) hx hb d_Mc_run_35 (by decide) (fun _ => ?_) (fun hc => absurd (by decide) hc)
  refine lv_iconst (v := nI 0) hx hb d_Mc_run_175 (by decide) ?_
  have hge : ¬ i < L.length := fun h => hc32 i h rfl
  have hc0 : ¬ c = 0 := fun h => hge (by rw [hz h]; omega)
  rw [show 40 - c = (39 - c) + 1 from by omega, fx_run, if_neg hge] at hrun
  have hw2 : dn = nI (fx_do L w).2 := by rw [← hrun]; exact hdn hc0
  rw [hw2] at hP hD
  exact fs_iret hx hb hr hlocks hAe hK hS d_Mc_run_176 (a, x, cs) (by rw [← hrun]; try rfl) hP hD

end MC
