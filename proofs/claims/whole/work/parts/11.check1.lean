section CK
variable {l : Launch} {dC : Nat → ClassId} {dI : Nat → Nat → Nat} {cI cZ cJ cF : ClassId}
theorem d_Ar_fill_0 : decode b_Ar_fill 0 = .ok (.iconst 0, 1) := by decide +kernel
theorem d_Ar_fill_1 : decode b_Ar_fill 1 = .ok (.istore_n 2, 1) := by decide +kernel
theorem d_Ar_fill_2 : decode b_Ar_fill 2 = .ok (.aload_n 0, 1) := by decide +kernel
theorem d_Ar_fill_3 : decode b_Ar_fill 3 = .ok (.arraylength, 1) := by decide +kernel
theorem d_Ar_fill_4 : decode b_Ar_fill 4 = .ok (.istore_n 3, 1) := by decide +kernel
theorem d_Ar_fill_5 : decode b_Ar_fill 5 = .ok (.iload_n 2, 1) := by decide +kernel
theorem d_Ar_fill_6 : decode b_Ar_fill 6 = .ok (.iload_n 3, 1) := by decide +kernel
theorem d_Ar_fill_7 : decode b_Ar_fill 7 = .ok (.if_icmp .ge 13, 3) := by decide +kernel
theorem d_Ar_fill_10 : decode b_Ar_fill 10 = .ok (.aload_n 0, 1) := by decide +kernel
theorem d_Ar_fill_11 : decode b_Ar_fill 11 = .ok (.iload_n 2, 1) := by decide +kernel
theorem d_Ar_fill_12 : decode b_Ar_fill 12 = .ok (.iload_n 1, 1) := by decide +kernel
theorem d_Ar_fill_13 : decode b_Ar_fill 13 = .ok (.iastore, 1) := by decide +kernel
theorem d_Ar_fill_14 : decode b_Ar_fill 14 = .ok (.iinc 2 1, 3) := by decide +kernel
theorem d_Ar_fill_17 : decode b_Ar_fill 17 = .ok (.goto (-12), 3) := by decide +kernel
theorem d_Ar_fill_20 : decode b_Ar_fill 20 = .ok (.return_, 1) := by decide +kernel
set_option maxHeartbeats 4000000 in
set_option maxRecDepth 100000 in
/-- the row is filled with v -/
theorem c_Ar_fill (a n : Nat) (f : Nat → Int32) (v : Int32) (sz : Nat) (hn : n < 2 ^ 31) : fs_V l y_Ar_fill (k_Ar_fill :: fs_T) { frames := 0, cells := 0, slots := 0, locals := 0 } (dC, dI) vwCl (fs_tys cI cZ cJ cF) [.ref a, .int v] [(a, .inl (cI, n, .inl f))] sz (S := Unit) (fun _ => True) (fun _ => [(a, .inl (cI, n, .inl (fun _ => v)))]) 0 0 := by
  refine fs_head (by decide) (Nat.le_of_ble_eq_true rfl) ?_
  intro p e s m below meth c A ls hx hb hr hts hown hlocks hin hml hK hP hD hS hA hAe hsz hl
  have hl : lv_has ls 4 [(0, .ref a), (1, .int v)] := hl
  have hown : s.vm.findClass R_Ar = some m.cls := hown
  refine lv_iconst (v := nI 0) hx hb d_Ar_fill_0 (by decide) ?_
  refine lv_istore_n hx hb d_Ar_fill_1 rfl hl (by decide) (lv' := [(2, .int (nI 0)), (0, .ref a), (1, .int v)]) rfl (fun ls hl => ?_)
  refine lv_aload_n hx hb d_Ar_fill_2 rfl (lv_at hl 1 rfl) ?_
  refine va_alen (v := nI n) hx hb hK hP 0 0 rfl rfl rfl d_Ar_fill_3 ?_
  refine lv_istore_n hx hb d_Ar_fill_4 rfl hl (by decide) (lv' := [(3, .int (nI n)), (2, .int (nI 0)), (0, .ref a), (1, .int v)]) rfl (fun ls hl => ?_)
  refine fs_loop2 (α1 := Nat) (α2 := Nat → Int32) (fun i g => n - i) (fun i g H locs ls => (i ≤ n) ∧ (∀ j, j < i → g j = v) ∧ va_P (dC, dI) vwCl [(a, .inl (cI, n, .inl g))] H ∧ va_D A [(a, .inl (cI, n, .inl g))] ∧ va_S A s.heap H locs ∧ lv_has ls 4 [(0, .ref a), (1, .int v), (2, .int (nI i)), (3, .int (nI n))]) ?_ 0 f ⟨by omega, fun j hj => absurd hj (by omega), hP, hD, hS, lv_sub hl [2, 3, 1, 0] rfl⟩
  intro i g H locs ls hI ih5
  obtain ⟨hi, hg, hP, hD, hS, hl⟩ := hI
  refine lv_iload_n hx hb d_Ar_fill_5 rfl (lv_at hl 2 rfl) ?_
  refine lv_iload_n hx hb d_Ar_fill_6 rfl (lv_at hl 3 rfl) ?_
  refine lv_icmp_ge (tgt := 20) hx hb d_Ar_fill_7 (by decide) (fun hc7 => ?_) (fun hc7 => ?_)
  · rw [nI_leI (by omega) (by omega)] at hc7
    obtain ⟨hP, hD⟩ := fs_atc 0 (g := fun _ => v) (fun j hj => hg j (by omega)) rfl rfl hP hD
    exact fs_vret hx hb hr hlocks hAe hK hS d_Ar_fill_20 () (trivial) hP hD
  rw [nI_leI (by omega) (by omega)] at hc7
  refine lv_aload_n hx hb d_Ar_fill_10 rfl (lv_at hl 0 rfl) ?_
  refine lv_iload_n hx hb d_Ar_fill_11 rfl (lv_at hl 2 rfl) ?_
  refine lv_iload_n hx hb d_Ar_fill_12 rfl (lv_at hl 1 rfl) ?_
  refine fs_iast hx hb hK hP hD hS 0 0 rfl rfl i rfl hn (by omega) d_Ar_fill_13 (fun H locs hP hD hS => ?_)
  have hP : va_P (dC, dI) vwCl [(a, .inl (cI, n, .inl (upd g i v)))] H := hP
  have hD : va_D A [(a, .inl (cI, n, .inl (upd g i v)))] := hD
  refine lv_iinc (v := nI (i + 1)) (k := 2) hx hb d_Ar_fill_14 hl rfl (fs_incN i 1) (by decide) (lv' := [(2, .int (nI (i + 1))), (0, .ref a), (1, .int v), (3, .int (nI n))]) rfl (fun ls hl => ?_)
  refine lv_goto (tgt := 5) hx hb d_Ar_fill_17 (by decide) ?_
  exact ih5 (i + 1) (upd g i v) _ _ _ (by omega) ⟨by omega, fun j hj => by unfold upd; split; rfl; exact hg j (by omega), hP, hD, hS, lv_sub hl [1, 2, 0, 3] rfl⟩

theorem d_Ck_readsCell_0 : decode b_Ck_readsCell 0 = .ok (.iload_n 0, 1) := by decide +kernel
theorem d_Ck_readsCell_1 : decode b_Ck_readsCell 1 = .ok (.iconst 2, 1) := by decide +kernel
theorem d_Ck_readsCell_2 : decode b_Ck_readsCell 2 = .ok (.if_icmp .eq 8, 3) := by decide +kernel
theorem d_Ck_readsCell_5 : decode b_Ck_readsCell 5 = .ok (.iload_n 0, 1) := by decide +kernel
theorem d_Ck_readsCell_6 : decode b_Ck_readsCell 6 = .ok (.iconst 5, 1) := by decide +kernel
theorem d_Ck_readsCell_7 : decode b_Ck_readsCell 7 = .ok (.if_icmp .ne 7, 3) := by decide +kernel
theorem d_Ck_readsCell_10 : decode b_Ck_readsCell 10 = .ok (.iconst 1, 1) := by decide +kernel
theorem d_Ck_readsCell_11 : decode b_Ck_readsCell 11 = .ok (.goto 4, 3) := by decide +kernel
theorem d_Ck_readsCell_14 : decode b_Ck_readsCell 14 = .ok (.iconst 0, 1) := by decide +kernel
theorem d_Ck_readsCell_15 : decode b_Ck_readsCell 15 = .ok (.ireturn, 1) := by decide +kernel
set_option maxHeartbeats 4000000 in
set_option maxRecDepth 100000 in
theorem c_Ck_readsCell (o : Nat) (sz : Nat) (ho : o < 32) : fs_I l y_Ck_readsCell (k_Ck_readsCell :: fs_T) { frames := 0, cells := 0, slots := 0, locals := 0 } (dC, dI) vwCl (fs_tys cI cZ cJ cF) [.int (nI o)] [] sz (S := Unit) (fun r _ => ((o = 2 ∨ o = 5) ∧ r = nI 1) ∨ (¬ (o = 2 ∨ o = 5) ∧ r = nI 0)) (fun _ => []) 0 0 := by
  refine fs_head (by decide) (Nat.le_of_ble_eq_true rfl) ?_
  intro p e s m below meth c A ls hx hb hr hts hown hlocks hin hml hK hP hD hS hA hAe hsz hl
  have hl : lv_has ls 1 [(0, .int (nI o))] := hl
  have hown : s.vm.findClass R_Ck = some m.cls := hown
  refine lv_iload_n hx hb d_Ck_readsCell_0 rfl (lv_at hl 0 rfl) ?_
  refine lv_iconst (v := nI 2) hx hb d_Ck_readsCell_1 (by decide) ?_
  refine lv_icmp_eq (tgt := 10) hx hb d_Ck_readsCell_2 (by decide) (fun hc2 => ?_) (fun hc2 => ?_)
  · rw [nI_eq (by omega) (by omega)] at hc2
    refine lv_iconst (v := nI 1) hx hb d_Ck_readsCell_10 (by decide) ?_
    refine lv_goto (tgt := 15) hx hb d_Ck_readsCell_11 (by decide) ?_
    exact fs_zret hx hb hr hlocks hAe hK hS d_Ck_readsCell_15 (by decide) () (by first | exact Or.inl ⟨by omega, rfl⟩ | exact Or.inr ⟨by omega, rfl⟩) hP hD
  rw [nI_eq (by omega) (by omega)] at hc2
  refine lv_iload_n hx hb d_Ck_readsCell_5 rfl (lv_at hl 0 rfl) ?_
  refine lv_iconst (v := nI 5) hx hb d_Ck_readsCell_6 (by decide) ?_
  refine lv_icmp_ne (tgt := 14) hx hb d_Ck_readsCell_7 (by decide) (fun hc7 => ?_) (fun hc7 => ?_)
  · rw [nI_eq (by omega) (by omega)] at hc7
    refine lv_iconst (v := nI 0) hx hb d_Ck_readsCell_14 (by decide) ?_
    exact fs_zret hx hb hr hlocks hAe hK hS d_Ck_readsCell_15 (by decide) () (by first | exact Or.inl ⟨by omega, rfl⟩ | exact Or.inr ⟨by omega, rfl⟩) hP hD
  rw [nI_eq (by omega) (by omega)] at hc7
  refine lv_iconst (v := nI 1) hx hb d_Ck_readsCell_10 (by decide) ?_
  refine lv_goto (tgt := 15) hx hb d_Ck_readsCell_11 (by decide) ?_
  exact fs_zret hx hb hr hlocks hAe hK hS d_Ck_readsCell_15 (by decide) () (by first | exact Or.inl ⟨by omega, rfl⟩ | exact Or.inr ⟨by omega, rfl⟩) hP hD

theorem d_Ck_storesCell_0 : decode b_Ck_storesCell 0 = .ok (.iload_n 0, 1) := by decide +kernel
theorem d_Ck_storesCell_1 : decode b_Ck_storesCell 1 = .ok (.bipush 8, 2) := by decide +kernel
theorem d_Ck_storesCell_3 : decode b_Ck_storesCell 3 = .ok (.if_icmp .eq 9, 3) := by decide +kernel
theorem d_Ck_storesCell_6 : decode b_Ck_storesCell 6 = .ok (.iload_n 0, 1) := by decide +kernel
theorem d_Ck_storesCell_7 : decode b_Ck_storesCell 7 = .ok (.bipush 9, 2) := by decide +kernel
theorem d_Ck_storesCell_9 : decode b_Ck_storesCell 9 = .ok (.if_icmp .ne 7, 3) := by decide +kernel
theorem d_Ck_storesCell_12 : decode b_Ck_storesCell 12 = .ok (.iconst 1, 1) := by decide +kernel
theorem d_Ck_storesCell_13 : decode b_Ck_storesCell 13 = .ok (.goto 4, 3) := by decide +kernel
theorem d_Ck_storesCell_16 : decode b_Ck_storesCell 16 = .ok (.iconst 0, 1) := by decide +kernel
theorem d_Ck_storesCell_17 : decode b_Ck_storesCell 17 = .ok (.ireturn, 1) := by decide +kernel
set_option maxHeartbeats 4000000 in
set_option maxRecDepth 100000 in
theorem c_Ck_storesCell (o : Nat) (sz : Nat) (ho : o < 32) : fs_I l y_Ck_storesCell (k_Ck_storesCell :: fs_T) { frames := 0, cells := 0, slots := 0, locals := 0 } (dC, dI) vwCl (fs_tys cI cZ cJ cF) [.int (nI o)] [] sz (S := Unit) (fun r _ => ((o = 8 ∨ o = 9) ∧ r = nI 1) ∨ (¬ (o = 8 ∨ o = 9) ∧ r = nI 0)) (fun _ => []) 0 0 := by
  refine fs_head (by decide) (Nat.le_of_ble_eq_true rfl) ?_
  intro p e s m below meth c A ls hx hb hr hts hown hlocks hin hml hK hP hD hS hA hAe hsz hl
  have hl : lv_has ls 1 [(0, .int (nI o))] := hl
  have hown : s.vm.findClass R_Ck = some m.cls := hown
  refine lv_iload_n hx hb d_Ck_storesCell_0 rfl (lv_at hl 0 rfl) ?_
  refine lv_bipush (v := nI 8) hx hb d_Ck_storesCell_1 (by decide) ?_
  refine lv_icmp_eq (tgt := 12) hx hb d_Ck_storesCell_3 (by decide) (fun hc3 => ?_) (fun hc3 => ?_)
  · rw [nI_eq (by omega) (by omega)] at hc3
    refine lv_iconst (v := nI 1) hx hb d_Ck_storesCell_12 (by decide) ?_
    refine lv_goto (tgt := 17) hx hb d_Ck_storesCell_13 (by decide) ?_
    exact fs_zret hx hb hr hlocks hAe hK hS d_Ck_storesCell_17 (by decide) () (by first | exact Or.inl ⟨by omega, rfl⟩ | exact Or.inr ⟨by omega, rfl⟩) hP hD
  rw [nI_eq (by omega) (by omega)] at hc3
  refine lv_iload_n hx hb d_Ck_storesCell_6 rfl (lv_at hl 0 rfl) ?_
  refine lv_bipush (v := nI 9) hx hb d_Ck_storesCell_7 (by decide) ?_
  refine lv_icmp_ne (tgt := 16) hx hb d_Ck_storesCell_9 (by decide) (fun hc9 => ?_) (fun hc9 => ?_)
  · rw [nI_eq (by omega) (by omega)] at hc9
    refine lv_iconst (v := nI 0) hx hb d_Ck_storesCell_16 (by decide) ?_
    exact fs_zret hx hb hr hlocks hAe hK hS d_Ck_storesCell_17 (by decide) () (by first | exact Or.inl ⟨by omega, rfl⟩ | exact Or.inr ⟨by omega, rfl⟩) hP hD
  rw [nI_eq (by omega) (by omega)] at hc9
  refine lv_iconst (v := nI 1) hx hb d_Ck_storesCell_12 (by decide) ?_
  refine lv_goto (tgt := 17) hx hb d_Ck_storesCell_13 (by decide) ?_
  exact fs_zret hx hb hr hlocks hAe hK hS d_Ck_storesCell_17 (by decide) () (by first | exact Or.inl ⟨by omega, rfl⟩ | exact Or.inr ⟨by omega, rfl⟩) hP hD

theorem d_Ck_takesIndex_0 : decode b_Ck_takesIndex 0 = .ok (.iload_n 0, 1) := by decide +kernel
theorem d_Ck_takesIndex_1 : decode b_Ck_takesIndex 1 = .ok (.ifCond .eq 17, 3) := by decide +kernel
theorem d_Ck_takesIndex_4 : decode b_Ck_takesIndex 4 = .ok (.iload_n 0, 1) := by decide +kernel
theorem d_Ck_takesIndex_5 : decode b_Ck_takesIndex 5 = .ok (.invokestatic 47, 3) := by decide +kernel
theorem d_Ck_takesIndex_8 : decode b_Ck_takesIndex 8 = .ok (.ifCond .ne 10, 3) := by decide +kernel
theorem d_Ck_takesIndex_11 : decode b_Ck_takesIndex 11 = .ok (.iload_n 0, 1) := by decide +kernel
theorem d_Ck_takesIndex_12 : decode b_Ck_takesIndex 12 = .ok (.invokestatic 50, 3) := by decide +kernel
theorem d_Ck_takesIndex_15 : decode b_Ck_takesIndex 15 = .ok (.ifCond .eq 7, 3) := by decide +kernel
theorem d_Ck_takesIndex_18 : decode b_Ck_takesIndex 18 = .ok (.iconst 1, 1) := by decide +kernel
theorem d_Ck_takesIndex_19 : decode b_Ck_takesIndex 19 = .ok (.goto 4, 3) := by decide +kernel
theorem d_Ck_takesIndex_22 : decode b_Ck_takesIndex 22 = .ok (.iconst 0, 1) := by decide +kernel
theorem d_Ck_takesIndex_23 : decode b_Ck_takesIndex 23 = .ok (.ireturn, 1) := by decide +kernel
set_option maxHeartbeats 4000000 in
set_option maxRecDepth 100000 in
theorem c_Ck_takesIndex (o : Nat) (sz : Nat) (ho : o < 32) : fs_I l y_Ck_takesIndex (k_Ck_takesIndex :: fs_T) { frames := 1, cells := 0, slots := 0, locals := 20 } (dC, dI) vwCl (fs_tys cI cZ cJ cF) [.int (nI o)] [] sz (S := Unit) (fun r _ => ((o = 0 ∨ o = 2 ∨ o = 5 ∨ o = 8 ∨ o = 9) ∧ r = nI 1) ∨ (¬ (o = 0 ∨ o = 2 ∨ o = 5 ∨ o = 8 ∨ o = 9) ∧ r = nI 0)) (fun _ => []) 0 0 := by
  refine fs_head (by decide) (Nat.le_of_ble_eq_true rfl) ?_
  intro p e s m below meth c A ls hx hb hr hts hown hlocks hin hml hK hP hD hS hA hAe hsz hl
  have hl : lv_has ls 1 [(0, .int (nI o))] := hl
  have hown : s.vm.findClass R_Ck = some m.cls := hown
  refine lv_iload_n hx hb d_Ck_takesIndex_0 rfl (lv_at hl 0 rfl) ?_
  refine lv_if_eq (tgt := 18) hx hb d_Ck_takesIndex_1 (by decide) (fun hc1 => ?_) (fun hc1 => ?_)
  · try rw [← nI_0] at hc1
    rw [nI_eq (by omega) (by omega)] at hc1
    refine lv_iconst (v := nI 1) hx hb d_Ck_takesIndex_18 (by decide) ?_
    refine lv_goto (tgt := 23) hx hb d_Ck_takesIndex_19 (by decide) ?_
    exact fs_zret hx hb hr hlocks hAe hK hS d_Ck_takesIndex_23 (by decide) () (by first | exact Or.inl ⟨by omega, rfl⟩ | exact Or.inr ⟨by omega, rfl⟩) hP hD
  try rw [← nI_0] at hc1
  rw [nI_eq (by omega) (by omega)] at hc1
  refine lv_iload_n hx hb d_Ck_takesIndex_4 rfl (lv_at hl 0 rfl) ?_
  refine fs_calli (wc := []) (wr := []) [] [] hP hD hK hS hA rfl rfl rfl (by decide) (fun hPc hDc => va_runS (As := [.int (nI o)]) (rest := []) ⟨hx, hb, hml, hown, hts⟩ (c_Ck_readsCell o _ (by omega)) (⟨callB_of 1 hts (fs_g kin_Ck_readsCell) rfl rfl rfl (hts _ wi_4) (hts _ wi_194) (by decide +kernel) ⟨Nat.le_of_ble_eq_true rfl, Nat.le_of_ble_eq_true rfl⟩, hts _ wi_195⟩) (fs_preS hPc hK hDc) rfl rfl hl.1 rfl (lv_room (Nat.le_of_ble_eq_true rfl)) d_Ck_takesIndex_5 ⟨Nat.le_of_ble_eq_true rfl, Nat.le_of_ble_eq_true rfl⟩) rfl (fun r5 _ H locs hp5 hP hD hS => ?_)
  have hP : va_P (dC, dI) vwCl [] H := hP
  have hD : va_D A [] := hD
  rcases hp5 with ⟨hc5, rfl⟩ | ⟨hc5, rfl⟩
  · refine lv_if_ne (tgt := 18) hx hb d_Ck_takesIndex_8 (by decide) (fun _ => ?_) (fun hc => absurd hc (by decide))
    refine lv_iconst (v := nI 1) hx hb d_Ck_takesIndex_18 (by decide) ?_
    refine lv_goto (tgt := 23) hx hb d_Ck_takesIndex_19 (by decide) ?_
    exact fs_zret hx hb hr hlocks hAe hK hS d_Ck_takesIndex_23 (by decide) () (by first | exact Or.inl ⟨by omega, rfl⟩ | exact Or.inr ⟨by omega, rfl⟩) hP hD
  refine lv_if_ne (tgt := 18) hx hb d_Ck_takesIndex_8 (by decide) (fun hc => absurd (by decide) hc) (fun _ => ?_)
  refine lv_iload_n hx hb d_Ck_takesIndex_11 rfl (lv_at hl 0 rfl) ?_
  refine fs_calli (wc := []) (wr := []) [] [] hP hD hK hS hA rfl rfl rfl (by decide) (fun hPc hDc => va_runS (As := [.int (nI o)]) (rest := []) ⟨hx, hb, hml, hown, hts⟩ (c_Ck_storesCell o _ (by omega)) (⟨callB_of 1 hts (fs_g kin_Ck_storesCell) rfl rfl rfl (hts _ wi_4) (hts _ wi_197) (by decide +kernel) ⟨Nat.le_of_ble_eq_true rfl, Nat.le_of_ble_eq_true rfl⟩, hts _ wi_198⟩) (fs_preS hPc hK hDc) rfl rfl hl.1 rfl (lv_room (Nat.le_of_ble_eq_true rfl)) d_Ck_takesIndex_12 ⟨Nat.le_of_ble_eq_true rfl, Nat.le_of_ble_eq_true rfl⟩) rfl (fun r12 _ H locs hp12 hP hD hS => ?_)
  have hP : va_P (dC, dI) vwCl [] H := hP
  have hD : va_D A [] := hD
  rcases hp12 with ⟨hc12, rfl⟩ | ⟨hc12, rfl⟩
  · refine lv_if_eq (tgt := 22) hx hb d_Ck_takesIndex_15 (by decide) (fun hc => absurd hc (by decide)) (fun _ => ?_)
    refine lv_iconst (v := nI 1) hx hb d_Ck_takesIndex_18 (by decide) ?_
    refine lv_goto (tgt := 23) hx hb d_Ck_takesIndex_19 (by decide) ?_
    exact fs_zret hx hb hr hlocks hAe hK hS d_Ck_takesIndex_23 (by decide) () (by first | exact Or.inl ⟨by omega, rfl⟩ | exact Or.inr ⟨by omega, rfl⟩) hP hD
  refine lv_if_eq (tgt := 22) hx hb d_Ck_takesIndex_15 (by decide) (fun _ => ?_) (fun hc => absurd (by decide) hc)
  refine lv_iconst (v := nI 0) hx hb d_Ck_takesIndex_22 (by decide) ?_
  exact fs_zret hx hb hr hlocks hAe hK hS d_Ck_takesIndex_23 (by decide) () (by first | exact Or.inl ⟨by omega, rfl⟩ | exact Or.inr ⟨by omega, rfl⟩) hP hD

theorem d_Ck_leavesFilter_0 : decode b_Ck_leavesFilter 0 = .ok (.aload_n 0, 1) := by decide +kernel
theorem d_Ck_leavesFilter_1 : decode b_Ck_leavesFilter 1 = .ok (.getfield 33, 3) := by decide +kernel
theorem d_Ck_leavesFilter_4 : decode b_Ck_leavesFilter 4 = .ok (.iload_n 1, 1) := by decide +kernel
theorem d_Ck_leavesFilter_5 : decode b_Ck_leavesFilter 5 = .ok (.iaload, 1) := by decide +kernel
theorem d_Ck_leavesFilter_6 : decode b_Ck_leavesFilter 6 = .ok (.istore_n 2, 1) := by decide +kernel
theorem d_Ck_leavesFilter_7 : decode b_Ck_leavesFilter 7 = .ok (.aload_n 0, 1) := by decide +kernel
theorem d_Ck_leavesFilter_8 : decode b_Ck_leavesFilter 8 = .ok (.getfield 19, 3) := by decide +kernel
theorem d_Ck_leavesFilter_11 : decode b_Ck_leavesFilter 11 = .ok (.iconst 1, 1) := by decide +kernel
theorem d_Ck_leavesFilter_12 : decode b_Ck_leavesFilter 12 = .ok (.isub, 1) := by decide +kernel
theorem d_Ck_leavesFilter_13 : decode b_Ck_leavesFilter 13 = .ok (.iload_n 1, 1) := by decide +kernel
theorem d_Ck_leavesFilter_14 : decode b_Ck_leavesFilter 14 = .ok (.isub, 1) := by decide +kernel
theorem d_Ck_leavesFilter_15 : decode b_Ck_leavesFilter 15 = .ok (.istore_n 3, 1) := by decide +kernel
theorem d_Ck_leavesFilter_16 : decode b_Ck_leavesFilter 16 = .ok (.iload_n 2, 1) := by decide +kernel
theorem d_Ck_leavesFilter_17 : decode b_Ck_leavesFilter 17 = .ok (.bipush 25, 2) := by decide +kernel
theorem d_Ck_leavesFilter_19 : decode b_Ck_leavesFilter 19 = .ok (.if_icmp .ne 28, 3) := by decide +kernel
theorem d_Ck_leavesFilter_22 : decode b_Ck_leavesFilter 22 = .ok (.aload_n 0, 1) := by decide +kernel
theorem d_Ck_leavesFilter_23 : decode b_Ck_leavesFilter 23 = .ok (.getfield 36, 3) := by decide +kernel
theorem d_Ck_leavesFilter_26 : decode b_Ck_leavesFilter 26 = .ok (.iload_n 1, 1) := by decide +kernel
theorem d_Ck_leavesFilter_27 : decode b_Ck_leavesFilter 27 = .ok (.iaload, 1) := by decide +kernel
theorem d_Ck_leavesFilter_28 : decode b_Ck_leavesFilter 28 = .ok (.ifCond .lt 13, 3) := by decide +kernel
theorem d_Ck_leavesFilter_31 : decode b_Ck_leavesFilter 31 = .ok (.aload_n 0, 1) := by decide +kernel
theorem d_Ck_leavesFilter_32 : decode b_Ck_leavesFilter 32 = .ok (.getfield 36, 3) := by decide +kernel
theorem d_Ck_leavesFilter_35 : decode b_Ck_leavesFilter 35 = .ok (.iload_n 1, 1) := by decide +kernel
theorem d_Ck_leavesFilter_36 : decode b_Ck_leavesFilter 36 = .ok (.iaload, 1) := by decide +kernel
theorem d_Ck_leavesFilter_37 : decode b_Ck_leavesFilter 37 = .ok (.iload_n 3, 1) := by decide +kernel
theorem d_Ck_leavesFilter_38 : decode b_Ck_leavesFilter 38 = .ok (.if_icmp .lt 7, 3) := by decide +kernel
theorem d_Ck_leavesFilter_41 : decode b_Ck_leavesFilter 41 = .ok (.iconst 1, 1) := by decide +kernel
theorem d_Ck_leavesFilter_42 : decode b_Ck_leavesFilter 42 = .ok (.goto 4, 3) := by decide +kernel
theorem d_Ck_leavesFilter_45 : decode b_Ck_leavesFilter 45 = .ok (.iconst 0, 1) := by decide +kernel
theorem d_Ck_leavesFilter_46 : decode b_Ck_leavesFilter 46 = .ok (.ireturn, 1) := by decide +kernel
theorem d_Ck_leavesFilter_47 : decode b_Ck_leavesFilter 47 = .ok (.iload_n 2, 1) := by decide +kernel
theorem d_Ck_leavesFilter_48 : decode b_Ck_leavesFilter 48 = .ok (.bipush 25, 2) := by decide +kernel
theorem d_Ck_leavesFilter_50 : decode b_Ck_leavesFilter 50 = .ok (.if_icmp .le 33, 3) := by decide +kernel
theorem d_Ck_leavesFilter_53 : decode b_Ck_leavesFilter 53 = .ok (.iload_n 2, 1) := by decide +kernel
theorem d_Ck_leavesFilter_54 : decode b_Ck_leavesFilter 54 = .ok (.bipush 31, 2) := by decide +kernel
theorem d_Ck_leavesFilter_56 : decode b_Ck_leavesFilter 56 = .ok (.if_icmp .ge 27, 3) := by decide +kernel
theorem d_Ck_leavesFilter_59 : decode b_Ck_leavesFilter 59 = .ok (.aload_n 0, 1) := by decide +kernel
theorem d_Ck_leavesFilter_60 : decode b_Ck_leavesFilter 60 = .ok (.getfield 53, 3) := by decide +kernel
theorem d_Ck_leavesFilter_63 : decode b_Ck_leavesFilter 63 = .ok (.iload_n 1, 1) := by decide +kernel
theorem d_Ck_leavesFilter_64 : decode b_Ck_leavesFilter 64 = .ok (.iaload, 1) := by decide +kernel
theorem d_Ck_leavesFilter_65 : decode b_Ck_leavesFilter 65 = .ok (.iload_n 3, 1) := by decide +kernel
theorem d_Ck_leavesFilter_66 : decode b_Ck_leavesFilter 66 = .ok (.if_icmp .ge 13, 3) := by decide +kernel
theorem d_Ck_leavesFilter_69 : decode b_Ck_leavesFilter 69 = .ok (.aload_n 0, 1) := by decide +kernel
theorem d_Ck_leavesFilter_70 : decode b_Ck_leavesFilter 70 = .ok (.getfield 56, 3) := by decide +kernel
theorem d_Ck_leavesFilter_73 : decode b_Ck_leavesFilter 73 = .ok (.iload_n 1, 1) := by decide +kernel
theorem d_Ck_leavesFilter_74 : decode b_Ck_leavesFilter 74 = .ok (.iaload, 1) := by decide +kernel
theorem d_Ck_leavesFilter_75 : decode b_Ck_leavesFilter 75 = .ok (.iload_n 3, 1) := by decide +kernel
theorem d_Ck_leavesFilter_76 : decode b_Ck_leavesFilter 76 = .ok (.if_icmp .lt 7, 3) := by decide +kernel
theorem d_Ck_leavesFilter_79 : decode b_Ck_leavesFilter 79 = .ok (.iconst 1, 1) := by decide +kernel
theorem d_Ck_leavesFilter_80 : decode b_Ck_leavesFilter 80 = .ok (.goto 4, 3) := by decide +kernel
theorem d_Ck_leavesFilter_83 : decode b_Ck_leavesFilter 83 = .ok (.iconst 0, 1) := by decide +kernel
theorem d_Ck_leavesFilter_84 : decode b_Ck_leavesFilter 84 = .ok (.ireturn, 1) := by decide +kernel
set_option maxHeartbeats 4000000 in
set_option maxRecDepth 100000 in
theorem c_Ck_leavesFilter (q o y n k : Nat) (fo fy fn fk : Nat → Int32) (L : fx_Prg) (i : Nat) (sz : Nat) (hrep : fx_rep L fo fy fn fk) (hok : fx_ok L) (hi : i < L.length) : fs_I l y_Ck_leavesFilter (k_Ck_leavesFilter :: fs_T) { frames := 0, cells := 0, slots := 0, locals := 0 } (dC, dI) vwCl (fs_tys cI cZ cJ cF) [.ref q, .int (nI i)] [(q, .inr (1, [.ref o, .ref y, .ref n, .ref k, .int (nI L.length)])), (o, .inl (cI, 40, .inl fo)), (y, .inl (cI, 40, .inl fy)), (n, .inl (cI, 40, .inl fn)), (k, .inl (cI, 40, .inl fk))] sz (S := Unit) (fun r _ => (fx_brP L 5 i ∧ r = nI 1) ∨ (¬ fx_brP L 5 i ∧ r = nI 0)) (fun _ => [(q, .inr (1, [.ref o, .ref y, .ref n, .ref k, .int (nI L.length)])), (o, .inl (cI, 40, .inl fo)), (y, .inl (cI, 40, .inl fy)), (n, .inl (cI, 40, .inl fn)), (k, .inl (cI, 40, .inl fk))]) 0 0 := by
  refine fs_head (by decide) (Nat.le_of_ble_eq_true rfl) ?_
  intro p e s m below meth c A ls hx hb hr hts hown hlocks hin hml hK hP hD hS hA hAe hsz hl
  have hl : lv_has ls 4 [(0, .ref q), (1, .int (nI i))] := hl
  have hown : s.vm.findClass R_Ck = some m.cls := hown
  have hlen := hok.1
  have hO := (hok.2 i hi).1
  have hY := (hok.2 i hi).2.1
  have hN := (hok.2 i hi).2.2
  refine lv_aload_n hx hb d_Ck_leavesFilter_0 rfl (lv_at hl 0 rfl) ?_
  refine va_get (D := (dC, dI)) (ci := 1) (v := .ref o) (C := R_Fi) (T := T_Fi) (N := 5) hx hb hts uin_Fi hown hK hP 0 rfl rfl 0 (by decide) (hts _ wi_32) (fun _ h9 => h9) rfl d_Ck_leavesFilter_1 ?_
  refine lv_iload_n hx hb d_Ck_leavesFilter_4 rfl (lv_at hl 1 rfl) ?_
  refine fs_iald (v := nI (fx_O L i)) hx hb hK hP 1 0 rfl rfl i rfl (by decide) (by omega) ((hrep i (by omega)).1) d_Ck_leavesFilter_5 ?_
  refine lv_istore_n hx hb d_Ck_leavesFilter_6 rfl hl (by decide) (lv' := [(2, .int (nI (fx_O L i))), (0, .ref q), (1, .int (nI i))]) rfl (fun ls hl => ?_)
  refine lv_aload_n hx hb d_Ck_leavesFilter_7 rfl (lv_at hl 1 rfl) ?_
  refine va_get (D := (dC, dI)) (ci := 1) (v := .int (nI L.length)) (C := R_Fi) (T := T_Fi) (N := 5) hx hb hts uin_Fi hown hK hP 0 rfl rfl 4 (by decide) (hts _ wi_48) (fun _ h9 => h9) rfl d_Ck_leavesFilter_8 ?_
  refine lv_iconst (v := nI 1) hx hb d_Ck_leavesFilter_11 (by decide) ?_
  refine lv_isub hx hb d_Ck_leavesFilter_12 ?_
  refine fs_eqi (pk_sub (by omega)) ?_
  refine lv_iload_n hx hb d_Ck_leavesFilter_13 rfl (lv_at hl 2 rfl) ?_
  refine lv_isub hx hb d_Ck_leavesFilter_14 ?_
  refine fs_eqi (pk_sub (by omega)) ?_
  refine lv_istore_n hx hb d_Ck_leavesFilter_15 rfl hl (by decide) (lv' := [(3, .int (nI ((L.length - 1) - i))), (2, .int (nI (fx_O L i))), (0, .ref q), (1, .int (nI i))]) rfl (fun ls hl => ?_)
  refine lv_iload_n hx hb d_Ck_leavesFilter_16 rfl (lv_at hl 1 rfl) ?_
  refine lv_bipush (v := nI 25) hx hb d_Ck_leavesFilter_17 (by decide) ?_
  refine lv_icmp_ne (tgt := 47) hx hb d_Ck_leavesFilter_19 (by decide) (fun hc19 => ?_) (fun hc19 => ?_)
  · rw [nI_eq (by omega) (by omega)] at hc19
    refine lv_iload_n hx hb d_Ck_leavesFilter_47 rfl (lv_at hl 1 rfl) ?_
    refine lv_bipush (v := nI 25) hx hb d_Ck_leavesFilter_48 (by decide) ?_
    refine lv_icmp_le (tgt := 83) hx hb d_Ck_leavesFilter_50 (by decide) (fun hc50 => ?_) (fun hc50 => ?_)
    · rw [nI_leI (by omega) (by omega)] at hc50
      refine lv_iconst (v := nI 0) hx hb d_Ck_leavesFilter_83 (by decide) ?_
      exact fs_zret hx hb hr hlocks hAe hK hS d_Ck_leavesFilter_84 (by decide) () (by first | exact Or.inl ⟨by simp only [fx_brP]; omega, rfl⟩ | exact Or.inr ⟨by simp only [fx_brP]; omega, rfl⟩ | exact Or.inr ⟨by simp [fx_brP], rfl⟩) hP hD
    rw [nI_leI (by omega) (by omega)] at hc50
    refine lv_iload_n hx hb d_Ck_leavesFilter_53 rfl (lv_at hl 1 rfl) ?_
    refine lv_bipush (v := nI 31) hx hb d_Ck_leavesFilter_54 (by decide) ?_
    refine lv_icmp_ge (tgt := 83) hx hb d_Ck_leavesFilter_56 (by decide) (fun hc56 => ?_) (fun hc56 => ?_)
    · rw [nI_leI (by omega) (by omega)] at hc56
      refine lv_iconst (v := nI 0) hx hb d_Ck_leavesFilter_83 (by decide) ?_
      exact fs_zret hx hb hr hlocks hAe hK hS d_Ck_leavesFilter_84 (by decide) () (by first | exact Or.inl ⟨by simp only [fx_brP]; omega, rfl⟩ | exact Or.inr ⟨by simp only [fx_brP]; omega, rfl⟩ | exact Or.inr ⟨by simp [fx_brP], rfl⟩) hP hD
    rw [nI_leI (by omega) (by omega)] at hc56
    refine lv_aload_n hx hb d_Ck_leavesFilter_59 rfl (lv_at hl 2 rfl) ?_
    refine va_get (D := (dC, dI)) (ci := 1) (v := .ref y) (C := R_Fi) (T := T_Fi) (N := 5) hx hb hts uin_Fi hown hK hP 0 rfl rfl 1 (by decide) (hts _ wi_37) (fun _ h9 => h9) rfl d_Ck_leavesFilter_60 ?_
    refine lv_iload_n hx hb d_Ck_leavesFilter_63 rfl (lv_at hl 3 rfl) ?_
    refine fs_iald (v := nI (fx_Y L i)) hx hb hK hP 2 0 rfl rfl i rfl (by decide) (by omega) ((hrep i (by omega)).2.1) d_Ck_leavesFilter_64 ?_
    refine lv_iload_n hx hb d_Ck_leavesFilter_65 rfl (lv_at hl 0 rfl) ?_
    refine lv_icmp_ge (tgt := 79) hx hb d_Ck_leavesFilter_66 (by decide) (fun hc66 => ?_) (fun hc66 => ?_)
    · rw [nI_leI (by omega) (by omega)] at hc66
      refine lv_iconst (v := nI 1) hx hb d_Ck_leavesFilter_79 (by decide) ?_
      refine lv_goto (tgt := 84) hx hb d_Ck_leavesFilter_80 (by decide) ?_
      exact fs_zret hx hb hr hlocks hAe hK hS d_Ck_leavesFilter_84 (by decide) () (by first | exact Or.inl ⟨by simp only [fx_brP]; omega, rfl⟩ | exact Or.inr ⟨by simp only [fx_brP]; omega, rfl⟩ | exact Or.inr ⟨by simp [fx_brP], rfl⟩) hP hD
    rw [nI_leI (by omega) (by omega)] at hc66
    refine lv_aload_n hx hb d_Ck_leavesFilter_69 rfl (lv_at hl 2 rfl) ?_
    refine va_get (D := (dC, dI)) (ci := 1) (v := .ref n) (C := R_Fi) (T := T_Fi) (N := 5) hx hb hts uin_Fi hown hK hP 0 rfl rfl 2 (by decide) (hts _ wi_41) (fun _ h9 => h9) rfl d_Ck_leavesFilter_70 ?_
    refine lv_iload_n hx hb d_Ck_leavesFilter_73 rfl (lv_at hl 3 rfl) ?_
    refine fs_iald (v := nI (fx_N L i)) hx hb hK hP 3 0 rfl rfl i rfl (by decide) (by omega) ((hrep i (by omega)).2.2.1) d_Ck_leavesFilter_74 ?_
    refine lv_iload_n hx hb d_Ck_leavesFilter_75 rfl (lv_at hl 0 rfl) ?_
    refine lv_icmp_lt (tgt := 83) hx hb d_Ck_leavesFilter_76 (by decide) (fun hc76 => ?_) (fun hc76 => ?_)
    · rw [nI_ltI (by omega) (by omega)] at hc76
      refine lv_iconst (v := nI 0) hx hb d_Ck_leavesFilter_83 (by decide) ?_
      exact fs_zret hx hb hr hlocks hAe hK hS d_Ck_leavesFilter_84 (by decide) () (by first | exact Or.inl ⟨by simp only [fx_brP]; omega, rfl⟩ | exact Or.inr ⟨by simp only [fx_brP]; omega, rfl⟩ | exact Or.inr ⟨by simp [fx_brP], rfl⟩) hP hD
    rw [nI_ltI (by omega) (by omega)] at hc76
    refine lv_iconst (v := nI 1) hx hb d_Ck_leavesFilter_79 (by decide) ?_
    refine lv_goto (tgt := 84) hx hb d_Ck_leavesFilter_80 (by decide) ?_
    exact fs_zret hx hb hr hlocks hAe hK hS d_Ck_leavesFilter_84 (by decide) () (by first | exact Or.inl ⟨by simp only [fx_brP]; omega, rfl⟩ | exact Or.inr ⟨by simp only [fx_brP]; omega, rfl⟩ | exact Or.inr ⟨by simp [fx_brP], rfl⟩) hP hD
  rw [nI_eq (by omega) (by omega)] at hc19
  refine lv_aload_n hx hb d_Ck_leavesFilter_22 rfl (lv_at hl 2 rfl) ?_
  refine va_get (D := (dC, dI)) (ci := 1) (v := .ref k) (C := R_Fi) (T := T_Fi) (N := 5) hx hb hts uin_Fi hown hK hP 0 rfl rfl 3 (by decide) (hts _ wi_44) (fun _ h9 => h9) rfl d_Ck_leavesFilter_23 ?_
  refine lv_iload_n hx hb d_Ck_leavesFilter_26 rfl (lv_at hl 3 rfl) ?_
  refine fs_iald (v := fx_K L i) hx hb hK hP 4 0 rfl rfl i rfl (by decide) (by omega) ((hrep i (by omega)).2.2.2) d_Ck_leavesFilter_27 ?_
  refine lv_if_lt (tgt := 41) hx hb d_Ck_leavesFilter_28 (by decide) (fun hc28 => ?_) (fun hc28 => ?_)
  · rw [fs_lt0] at hc28
    refine lv_iconst (v := nI 1) hx hb d_Ck_leavesFilter_41 (by decide) ?_
    refine lv_goto (tgt := 46) hx hb d_Ck_leavesFilter_42 (by decide) ?_
    exact fs_zret hx hb hr hlocks hAe hK hS d_Ck_leavesFilter_46 (by decide) () (by first | exact Or.inl ⟨by simp only [fx_brP]; omega, rfl⟩ | exact Or.inr ⟨by simp only [fx_brP]; omega, rfl⟩ | exact Or.inr ⟨by simp [fx_brP], rfl⟩) hP hD
  rw [fs_lt0] at hc28
  refine lv_aload_n hx hb d_Ck_leavesFilter_31 rfl (lv_at hl 2 rfl) ?_
  refine va_get (D := (dC, dI)) (ci := 1) (v := .ref k) (C := R_Fi) (T := T_Fi) (N := 5) hx hb hts uin_Fi hown hK hP 0 rfl rfl 3 (by decide) (hts _ wi_44) (fun _ h9 => h9) rfl d_Ck_leavesFilter_32 ?_
  refine lv_iload_n hx hb d_Ck_leavesFilter_35 rfl (lv_at hl 3 rfl) ?_
  refine fs_iald (v := fx_K L i) hx hb hK hP 4 0 rfl rfl i rfl (by decide) (by omega) ((hrep i (by omega)).2.2.2) d_Ck_leavesFilter_36 ?_
  refine lv_iload_n hx hb d_Ck_leavesFilter_37 rfl (lv_at hl 0 rfl) ?_
  refine lv_icmp_lt (tgt := 45) hx hb d_Ck_leavesFilter_38 (by decide) (fun hc38 => ?_) (fun hc38 => ?_)
  · rw [fs_ltN (by omega)] at hc38
    refine lv_iconst (v := nI 0) hx hb d_Ck_leavesFilter_45 (by decide) ?_
    exact fs_zret hx hb hr hlocks hAe hK hS d_Ck_leavesFilter_46 (by decide) () (by first | exact Or.inl ⟨by simp only [fx_brP]; omega, rfl⟩ | exact Or.inr ⟨by simp only [fx_brP]; omega, rfl⟩ | exact Or.inr ⟨by simp [fx_brP], rfl⟩) hP hD
  rw [fs_ltN (by omega)] at hc38
  refine lv_iconst (v := nI 1) hx hb d_Ck_leavesFilter_41 (by decide) ?_
  refine lv_goto (tgt := 46) hx hb d_Ck_leavesFilter_42 (by decide) ?_
  exact fs_zret hx hb hr hlocks hAe hK hS d_Ck_leavesFilter_46 (by decide) () (by first | exact Or.inl ⟨by simp only [fx_brP]; omega, rfl⟩ | exact Or.inr ⟨by simp only [fx_brP]; omega, rfl⟩ | exact Or.inr ⟨by simp [fx_brP], rfl⟩) hP hD

theorem d_Ck_isBreach_0 : decode b_Ck_isBreach 0 = .ok (.aload_n 0, 1) := by decide +kernel
theorem d_Ck_isBreach_1 : decode b_Ck_isBreach 1 = .ok (.getfield 33, 3) := by decide +kernel
theorem d_Ck_isBreach_4 : decode b_Ck_isBreach 4 = .ok (.iload_n 1, 1) := by decide +kernel
theorem d_Ck_isBreach_5 : decode b_Ck_isBreach 5 = .ok (.iaload, 1) := by decide +kernel
theorem d_Ck_isBreach_6 : decode b_Ck_isBreach 6 = .ok (.istore_n 3, 1) := by decide +kernel
theorem d_Ck_isBreach_7 : decode b_Ck_isBreach 7 = .ok (.aload_n 0, 1) := by decide +kernel
theorem d_Ck_isBreach_8 : decode b_Ck_isBreach 8 = .ok (.getfield 36, 3) := by decide +kernel
theorem d_Ck_isBreach_11 : decode b_Ck_isBreach 11 = .ok (.iload_n 1, 1) := by decide +kernel
theorem d_Ck_isBreach_12 : decode b_Ck_isBreach 12 = .ok (.iaload, 1) := by decide +kernel
theorem d_Ck_isBreach_13 : decode b_Ck_isBreach 13 = .ok (.istore 4, 2) := by decide +kernel
theorem d_Ck_isBreach_15 : decode b_Ck_isBreach 15 = .ok (.iload_n 2, 1) := by decide +kernel
theorem d_Ck_isBreach_16 : decode b_Ck_isBreach 16 = .ok (.tableswitch 136 2 6 #[36, 61, 78, 108, 114], 36) := by decide +kernel
theorem d_Ck_isBreach_52 : decode b_Ck_isBreach 52 = .ok (.iload_n 3, 1) := by decide +kernel
theorem d_Ck_isBreach_53 : decode b_Ck_isBreach 53 = .ok (.invokestatic 39, 3) := by decide +kernel
theorem d_Ck_isBreach_56 : decode b_Ck_isBreach 56 = .ok (.ifCond .eq 19, 3) := by decide +kernel
theorem d_Ck_isBreach_59 : decode b_Ck_isBreach 59 = .ok (.iload 4, 2) := by decide +kernel
theorem d_Ck_isBreach_61 : decode b_Ck_isBreach 61 = .ok (.ifCond .lt 10, 3) := by decide +kernel
theorem d_Ck_isBreach_64 : decode b_Ck_isBreach 64 = .ok (.iload 4, 2) := by decide +kernel
theorem d_Ck_isBreach_66 : decode b_Ck_isBreach 66 = .ok (.bipush 16, 2) := by decide +kernel
theorem d_Ck_isBreach_68 : decode b_Ck_isBreach 68 = .ok (.if_icmp .lt 7, 3) := by decide +kernel
theorem d_Ck_isBreach_71 : decode b_Ck_isBreach 71 = .ok (.iconst 1, 1) := by decide +kernel
theorem d_Ck_isBreach_72 : decode b_Ck_isBreach 72 = .ok (.goto 4, 3) := by decide +kernel
theorem d_Ck_isBreach_75 : decode b_Ck_isBreach 75 = .ok (.iconst 0, 1) := by decide +kernel
theorem d_Ck_isBreach_76 : decode b_Ck_isBreach 76 = .ok (.ireturn, 1) := by decide +kernel
theorem d_Ck_isBreach_77 : decode b_Ck_isBreach 77 = .ok (.iload_n 3, 1) := by decide +kernel
theorem d_Ck_isBreach_78 : decode b_Ck_isBreach 78 = .ok (.bipush 13, 2) := by decide +kernel
theorem d_Ck_isBreach_80 : decode b_Ck_isBreach 80 = .ok (.if_icmp .ne 12, 3) := by decide +kernel
theorem d_Ck_isBreach_83 : decode b_Ck_isBreach 83 = .ok (.iload 4, 2) := by decide +kernel
theorem d_Ck_isBreach_85 : decode b_Ck_isBreach 85 = .ok (.ifCond .ne 7, 3) := by decide +kernel
theorem d_Ck_isBreach_88 : decode b_Ck_isBreach 88 = .ok (.iconst 1, 1) := by decide +kernel
theorem d_Ck_isBreach_89 : decode b_Ck_isBreach 89 = .ok (.goto 4, 3) := by decide +kernel
theorem d_Ck_isBreach_92 : decode b_Ck_isBreach 92 = .ok (.iconst 0, 1) := by decide +kernel
theorem d_Ck_isBreach_93 : decode b_Ck_isBreach 93 = .ok (.ireturn, 1) := by decide +kernel
theorem d_Ck_isBreach_94 : decode b_Ck_isBreach 94 = .ok (.iload_n 3, 1) := by decide +kernel
theorem d_Ck_isBreach_95 : decode b_Ck_isBreach 95 = .ok (.bipush 17, 2) := by decide +kernel
theorem d_Ck_isBreach_97 : decode b_Ck_isBreach 97 = .ok (.if_icmp .eq 9, 3) := by decide +kernel
theorem d_Ck_isBreach_100 : decode b_Ck_isBreach 100 = .ok (.iload_n 3, 1) := by decide +kernel
theorem d_Ck_isBreach_101 : decode b_Ck_isBreach 101 = .ok (.bipush 18, 2) := by decide +kernel
theorem d_Ck_isBreach_103 : decode b_Ck_isBreach 103 = .ok (.if_icmp .ne 19, 3) := by decide +kernel
theorem d_Ck_isBreach_106 : decode b_Ck_isBreach 106 = .ok (.iload 4, 2) := by decide +kernel
theorem d_Ck_isBreach_108 : decode b_Ck_isBreach 108 = .ok (.ifCond .lt 10, 3) := by decide +kernel
theorem d_Ck_isBreach_111 : decode b_Ck_isBreach 111 = .ok (.iload 4, 2) := by decide +kernel
theorem d_Ck_isBreach_113 : decode b_Ck_isBreach 113 = .ok (.bipush 31, 2) := by decide +kernel
theorem d_Ck_isBreach_115 : decode b_Ck_isBreach 115 = .ok (.if_icmp .le 7, 3) := by decide +kernel
theorem d_Ck_isBreach_118 : decode b_Ck_isBreach 118 = .ok (.iconst 1, 1) := by decide +kernel
theorem d_Ck_isBreach_119 : decode b_Ck_isBreach 119 = .ok (.goto 4, 3) := by decide +kernel
theorem d_Ck_isBreach_122 : decode b_Ck_isBreach 122 = .ok (.iconst 0, 1) := by decide +kernel
theorem d_Ck_isBreach_123 : decode b_Ck_isBreach 123 = .ok (.ireturn, 1) := by decide +kernel
theorem d_Ck_isBreach_124 : decode b_Ck_isBreach 124 = .ok (.aload_n 0, 1) := by decide +kernel
theorem d_Ck_isBreach_125 : decode b_Ck_isBreach 125 = .ok (.iload_n 1, 1) := by decide +kernel
theorem d_Ck_isBreach_126 : decode b_Ck_isBreach 126 = .ok (.invokestatic 43, 3) := by decide +kernel
theorem d_Ck_isBreach_129 : decode b_Ck_isBreach 129 = .ok (.ireturn, 1) := by decide +kernel
theorem d_Ck_isBreach_130 : decode b_Ck_isBreach 130 = .ok (.iload_n 1, 1) := by decide +kernel
theorem d_Ck_isBreach_131 : decode b_Ck_isBreach 131 = .ok (.aload_n 0, 1) := by decide +kernel
theorem d_Ck_isBreach_132 : decode b_Ck_isBreach 132 = .ok (.getfield 19, 3) := by decide +kernel
theorem d_Ck_isBreach_135 : decode b_Ck_isBreach 135 = .ok (.iconst 1, 1) := by decide +kernel
theorem d_Ck_isBreach_136 : decode b_Ck_isBreach 136 = .ok (.isub, 1) := by decide +kernel
theorem d_Ck_isBreach_137 : decode b_Ck_isBreach 137 = .ok (.if_icmp .ne 13, 3) := by decide +kernel
theorem d_Ck_isBreach_140 : decode b_Ck_isBreach 140 = .ok (.iload_n 3, 1) := by decide +kernel
theorem d_Ck_isBreach_141 : decode b_Ck_isBreach 141 = .ok (.bipush 31, 2) := by decide +kernel
theorem d_Ck_isBreach_143 : decode b_Ck_isBreach 143 = .ok (.if_icmp .eq 7, 3) := by decide +kernel
theorem d_Ck_isBreach_146 : decode b_Ck_isBreach 146 = .ok (.iconst 1, 1) := by decide +kernel
theorem d_Ck_isBreach_147 : decode b_Ck_isBreach 147 = .ok (.goto 4, 3) := by decide +kernel
theorem d_Ck_isBreach_150 : decode b_Ck_isBreach 150 = .ok (.iconst 0, 1) := by decide +kernel
theorem d_Ck_isBreach_151 : decode b_Ck_isBreach 151 = .ok (.ireturn, 1) := by decide +kernel
theorem d_Ck_isBreach_152 : decode b_Ck_isBreach 152 = .ok (.iconst 0, 1) := by decide +kernel
theorem d_Ck_isBreach_153 : decode b_Ck_isBreach 153 = .ok (.ireturn, 1) := by decide +kernel
set_option maxHeartbeats 4000000 in
set_option maxRecDepth 100000 in
theorem c_Ck_isBreach (q o y n k : Nat) (fo fy fn fk : Nat → Int32) (L : fx_Prg) (i r : Nat) (sz : Nat) (hrep : fx_rep L fo fy fn fk) (hok : fx_ok L) (hi : i < L.length) (hr6 : r ≤ 6) (hr1 : r ≠ 1) : fs_I l y_Ck_isBreach (k_Ck_isBreach :: fs_T) { frames := 2, cells := 0, slots := 0, locals := 40 } (dC, dI) vwCl (fs_tys cI cZ cJ cF) [.ref q, .int (nI i), .int (nI r)] [(q, .inr (1, [.ref o, .ref y, .ref n, .ref k, .int (nI L.length)])), (o, .inl (cI, 40, .inl fo)), (y, .inl (cI, 40, .inl fy)), (n, .inl (cI, 40, .inl fn)), (k, .inl (cI, 40, .inl fk))] sz (S := Unit) (fun z _ => (fx_brP L r i ∧ z = nI 1) ∨ (¬ fx_brP L r i ∧ z = nI 0)) (fun _ => [(q, .inr (1, [.ref o, .ref y, .ref n, .ref k, .int (nI L.length)])), (o, .inl (cI, 40, .inl fo)), (y, .inl (cI, 40, .inl fy)), (n, .inl (cI, 40, .inl fn)), (k, .inl (cI, 40, .inl fk))]) 0 0 := by
  refine fs_head (by decide) (Nat.le_of_ble_eq_true rfl) ?_
  intro p e s m below meth c A ls hx hb hr hts hown hlocks hin hml hK hP hD hS hA hAe hsz hl
  have hl : lv_has ls 5 [(0, .ref q), (1, .int (nI i)), (2, .int (nI r))] := hl
  have hown : s.vm.findClass R_Ck = some m.cls := hown
  have hlen := hok.1
  have hO := (hok.2 i hi).1
  have hY := (hok.2 i hi).2.1
  have hN := (hok.2 i hi).2.2
  refine lv_aload_n hx hb d_Ck_isBreach_0 rfl (lv_at hl 0 rfl) ?_
  refine va_get (D := (dC, dI)) (ci := 1) (v := .ref o) (C := R_Fi) (T := T_Fi) (N := 5) hx hb hts uin_Fi hown hK hP 0 rfl rfl 0 (by decide) (hts _ wi_32) (fun _ h9 => h9) rfl d_Ck_isBreach_1 ?_
  refine lv_iload_n hx hb d_Ck_isBreach_4 rfl (lv_at hl 1 rfl) ?_
  refine fs_iald (v := nI (fx_O L i)) hx hb hK hP 1 0 rfl rfl i rfl (by decide) (by omega) ((hrep i (by omega)).1) d_Ck_isBreach_5 ?_
  refine lv_istore_n hx hb d_Ck_isBreach_6 rfl hl (by decide) (lv' := [(3, .int (nI (fx_O L i))), (0, .ref q), (1, .int (nI i)), (2, .int (nI r))]) rfl (fun ls hl => ?_)
  refine lv_aload_n hx hb d_Ck_isBreach_7 rfl (lv_at hl 1 rfl) ?_
  refine va_get (D := (dC, dI)) (ci := 1) (v := .ref k) (C := R_Fi) (T := T_Fi) (N := 5) hx hb hts uin_Fi hown hK hP 0 rfl rfl 3 (by decide) (hts _ wi_44) (fun _ h9 => h9) rfl d_Ck_isBreach_8 ?_
  refine lv_iload_n hx hb d_Ck_isBreach_11 rfl (lv_at hl 2 rfl) ?_
  refine fs_iald (v := fx_K L i) hx hb hK hP 4 0 rfl rfl i rfl (by decide) (by omega) ((hrep i (by omega)).2.2.2) d_Ck_isBreach_12 ?_
  refine lv_istore hx hb d_Ck_isBreach_13 hl (by decide) (lv' := [(4, .int (fx_K L i)), (3, .int (nI (fx_O L i))), (0, .ref q), (1, .int (nI i)), (2, .int (nI r))]) rfl (fun ls hl => ?_)
  refine lv_iload_n hx hb d_Ck_isBreach_15 rfl (lv_at hl 4 rfl) ?_
  rcases (show r = 0 ∨ r = 2 ∨ r = 3 ∨ r = 4 ∨ r = 5 ∨ r = 6 from by omega) with hsw | hsw | hsw | hsw | hsw | hsw
  · refine fs_eqi (v := nI 0) (by rw [hsw]) ?_
    refine lv_tableOut (tgt := 152) hx hb d_Ck_isBreach_16 (by decide) (by decide) ?_
    refine lv_iconst (v := nI 0) hx hb d_Ck_isBreach_152 (by decide) ?_
    exact fs_zret hx hb hr hlocks hAe hK hS d_Ck_isBreach_153 (by decide) () (by subst hsw; first | exact Or.inl ⟨by simp only [fx_brP]; omega, rfl⟩ | exact Or.inr ⟨by simp only [fx_brP]; omega, rfl⟩ | exact Or.inr ⟨by simp [fx_brP], rfl⟩) hP hD
  · refine fs_eqi (v := nI 2) (by rw [hsw]) ?_
    refine lv_tableIn (off := 36) (tgt := 52) hx hb d_Ck_isBreach_16 (by decide) (by decide) rfl (by decide) ?_
    refine lv_iload_n hx hb d_Ck_isBreach_52 rfl (lv_at hl 1 rfl) ?_
    refine fs_calli (wc := []) (wr := [(q, .inr (1, [.ref o, .ref y, .ref n, .ref k, .int (nI L.length)])), (o, .inl (cI, 40, .inl fo)), (y, .inl (cI, 40, .inl fy)), (n, .inl (cI, 40, .inl fn)), (k, .inl (cI, 40, .inl fk))]) [] [0, 1, 2, 3, 4] hP hD hK hS hA rfl rfl rfl (by decide) (fun hPc hDc => va_runS (As := [.int (nI (fx_O L i))]) (rest := []) ⟨hx, hb, hml, hown, hts⟩ (c_Ck_takesIndex (fx_O L i) _ (by omega)) (⟨callB_of 1 hts (fs_g kin_Ck_takesIndex) rfl rfl rfl (hts _ wi_4) (hts _ wi_211) (by decide +kernel) ⟨Nat.le_of_ble_eq_true rfl, Nat.le_of_ble_eq_true rfl⟩, hts _ wi_212⟩) (fs_preS hPc hK hDc) rfl rfl hl.1 rfl (lv_room (Nat.le_of_ble_eq_true rfl)) d_Ck_isBreach_53 ⟨Nat.le_of_ble_eq_true rfl, Nat.le_of_ble_eq_true rfl⟩) rfl (fun r53 _ H locs hp53 hP hD hS => ?_)
    have hP : va_P (dC, dI) vwCl [(q, .inr (1, [.ref o, .ref y, .ref n, .ref k, .int (nI L.length)])), (o, .inl (cI, 40, .inl fo)), (y, .inl (cI, 40, .inl fy)), (n, .inl (cI, 40, .inl fn)), (k, .inl (cI, 40, .inl fk))] H := hP
    have hD : va_D A [(q, .inr (1, [.ref o, .ref y, .ref n, .ref k, .int (nI L.length)])), (o, .inl (cI, 40, .inl fo)), (y, .inl (cI, 40, .inl fy)), (n, .inl (cI, 40, .inl fn)), (k, .inl (cI, 40, .inl fk))] := hD
    rcases hp53 with ⟨hc53, rfl⟩ | ⟨hc53, rfl⟩
    · refine lv_if_eq (tgt := 75) hx hb d_Ck_isBreach_56 (by decide) (fun hc => absurd hc (by decide)) (fun _ => ?_)
      refine lv_iload hx hb d_Ck_isBreach_59 (lv_at hl 0 rfl) ?_
      refine lv_if_lt (tgt := 71) hx hb d_Ck_isBreach_61 (by decide) (fun hc61 => ?_) (fun hc61 => ?_)
      · rw [fs_lt0] at hc61
        refine lv_iconst (v := nI 1) hx hb d_Ck_isBreach_71 (by decide) ?_
        refine lv_goto (tgt := 76) hx hb d_Ck_isBreach_72 (by decide) ?_
        exact fs_zret hx hb hr hlocks hAe hK hS d_Ck_isBreach_76 (by decide) () (by subst hsw; first | exact Or.inl ⟨by simp only [fx_brP]; omega, rfl⟩ | exact Or.inr ⟨by simp only [fx_brP]; omega, rfl⟩ | exact Or.inr ⟨by simp [fx_brP], rfl⟩) hP hD
      rw [fs_lt0] at hc61
      refine lv_iload hx hb d_Ck_isBreach_64 (lv_at hl 0 rfl) ?_
      refine lv_bipush (v := nI 16) hx hb d_Ck_isBreach_66 (by decide) ?_
      refine lv_icmp_lt (tgt := 75) hx hb d_Ck_isBreach_68 (by decide) (fun hc68 => ?_) (fun hc68 => ?_)
      · rw [fs_ltN (by omega)] at hc68
        refine lv_iconst (v := nI 0) hx hb d_Ck_isBreach_75 (by decide) ?_
        exact fs_zret hx hb hr hlocks hAe hK hS d_Ck_isBreach_76 (by decide) () (by subst hsw; first | exact Or.inl ⟨by simp only [fx_brP]; omega, rfl⟩ | exact Or.inr ⟨by simp only [fx_brP]; omega, rfl⟩ | exact Or.inr ⟨by simp [fx_brP], rfl⟩) hP hD
      rw [fs_ltN (by omega)] at hc68
      refine lv_iconst (v := nI 1) hx hb d_Ck_isBreach_71 (by decide) ?_
      refine lv_goto (tgt := 76) hx hb d_Ck_isBreach_72 (by decide) ?_
      exact fs_zret hx hb hr hlocks hAe hK hS d_Ck_isBreach_76 (by decide) () (by subst hsw; first | exact Or.inl ⟨by simp only [fx_brP]; omega, rfl⟩ | exact Or.inr ⟨by simp only [fx_brP]; omega, rfl⟩ | exact Or.inr ⟨by simp [fx_brP], rfl⟩) hP hD
    refine lv_if_eq (tgt := 75) hx hb d_Ck_isBreach_56 (by decide) (fun _ => ?_) (fun hc => absurd (by decide) hc)
    refine lv_iconst (v := nI 0) hx hb d_Ck_isBreach_75 (by decide) ?_
    exact fs_zret hx hb hr hlocks hAe hK hS d_Ck_isBreach_76 (by decide) () (by subst hsw; first | exact Or.inl ⟨by simp only [fx_brP]; omega, rfl⟩ | exact Or.inr ⟨by simp only [fx_brP]; omega, rfl⟩ | exact Or.inr ⟨by simp [fx_brP], rfl⟩) hP hD
  · refine fs_eqi (v := nI 3) (by rw [hsw]) ?_
    refine lv_tableIn (off := 61) (tgt := 77) hx hb d_Ck_isBreach_16 (by decide) (by decide) rfl (by decide) ?_
    refine lv_iload_n hx hb d_Ck_isBreach_77 rfl (lv_at hl 1 rfl) ?_
    refine lv_bipush (v := nI 13) hx hb d_Ck_isBreach_78 (by decide) ?_
    refine lv_icmp_ne (tgt := 92) hx hb d_Ck_isBreach_80 (by decide) (fun hc80 => ?_) (fun hc80 => ?_)
    · rw [nI_eq (by omega) (by omega)] at hc80
      refine lv_iconst (v := nI 0) hx hb d_Ck_isBreach_92 (by decide) ?_
      exact fs_zret hx hb hr hlocks hAe hK hS d_Ck_isBreach_93 (by decide) () (by subst hsw; first | exact Or.inl ⟨by simp only [fx_brP]; omega, rfl⟩ | exact Or.inr ⟨by simp only [fx_brP]; omega, rfl⟩ | exact Or.inr ⟨by simp [fx_brP], rfl⟩) hP hD
    rw [nI_eq (by omega) (by omega)] at hc80
    refine lv_iload hx hb d_Ck_isBreach_83 (lv_at hl 0 rfl) ?_
    refine lv_if_ne (tgt := 92) hx hb d_Ck_isBreach_85 (by decide) (fun hc85 => ?_) (fun hc85 => ?_)
    · rw [fs_eq0] at hc85
      refine lv_iconst (v := nI 0) hx hb d_Ck_isBreach_92 (by decide) ?_
      exact fs_zret hx hb hr hlocks hAe hK hS d_Ck_isBreach_93 (by decide) () (by subst hsw; first | exact Or.inl ⟨by simp only [fx_brP]; omega, rfl⟩ | exact Or.inr ⟨by simp only [fx_brP]; omega, rfl⟩ | exact Or.inr ⟨by simp [fx_brP], rfl⟩) hP hD
    rw [fs_eq0] at hc85
    refine lv_iconst (v := nI 1) hx hb d_Ck_isBreach_88 (by decide) ?_
    refine lv_goto (tgt := 93) hx hb d_Ck_isBreach_89 (by decide) ?_
    exact fs_zret hx hb hr hlocks hAe hK hS d_Ck_isBreach_93 (by decide) () (by subst hsw; first | exact Or.inl ⟨by simp only [fx_brP]; omega, rfl⟩ | exact Or.inr ⟨by simp only [fx_brP]; omega, rfl⟩ | exact Or.inr ⟨by simp [fx_brP], rfl⟩) hP hD
  · refine fs_eqi (v := nI 4) (by rw [hsw]) ?_
    refine lv_tableIn (off := 78) (tgt := 94) hx hb d_Ck_isBreach_16 (by decide) (by decide) rfl (by decide) ?_
    refine lv_iload_n hx hb d_Ck_isBreach_94 rfl (lv_at hl 1 rfl) ?_
    refine lv_bipush (v := nI 17) hx hb d_Ck_isBreach_95 (by decide) ?_
    refine lv_icmp_eq (tgt := 106) hx hb d_Ck_isBreach_97 (by decide) (fun hc97 => ?_) (fun hc97 => ?_)
    · rw [nI_eq (by omega) (by omega)] at hc97
      refine lv_iload hx hb d_Ck_isBreach_106 (lv_at hl 0 rfl) ?_
      refine lv_if_lt (tgt := 118) hx hb d_Ck_isBreach_108 (by decide) (fun hc108 => ?_) (fun hc108 => ?_)
      · rw [fs_lt0] at hc108
        refine lv_iconst (v := nI 1) hx hb d_Ck_isBreach_118 (by decide) ?_
        refine lv_goto (tgt := 123) hx hb d_Ck_isBreach_119 (by decide) ?_
        exact fs_zret hx hb hr hlocks hAe hK hS d_Ck_isBreach_123 (by decide) () (by subst hsw; first | exact Or.inl ⟨by simp only [fx_brP]; omega, rfl⟩ | exact Or.inr ⟨by simp only [fx_brP]; omega, rfl⟩ | exact Or.inr ⟨by simp [fx_brP], rfl⟩) hP hD
      rw [fs_lt0] at hc108
      refine lv_iload hx hb d_Ck_isBreach_111 (lv_at hl 0 rfl) ?_
      refine lv_bipush (v := nI 31) hx hb d_Ck_isBreach_113 (by decide) ?_
      refine lv_icmp_le (tgt := 122) hx hb d_Ck_isBreach_115 (by decide) (fun hc115 => ?_) (fun hc115 => ?_)
      · rw [fs_leN (by omega)] at hc115
        refine lv_iconst (v := nI 0) hx hb d_Ck_isBreach_122 (by decide) ?_
        exact fs_zret hx hb hr hlocks hAe hK hS d_Ck_isBreach_123 (by decide) () (by subst hsw; first | exact Or.inl ⟨by simp only [fx_brP]; omega, rfl⟩ | exact Or.inr ⟨by simp only [fx_brP]; omega, rfl⟩ | exact Or.inr ⟨by simp [fx_brP], rfl⟩) hP hD
      rw [fs_leN (by omega)] at hc115
      refine lv_iconst (v := nI 1) hx hb d_Ck_isBreach_118 (by decide) ?_
      refine lv_goto (tgt := 123) hx hb d_Ck_isBreach_119 (by decide) ?_
      exact fs_zret hx hb hr hlocks hAe hK hS d_Ck_isBreach_123 (by decide) () (by subst hsw; first | exact Or.inl ⟨by simp only [fx_brP]; omega, rfl⟩ | exact Or.inr ⟨by simp only [fx_brP]; omega, rfl⟩ | exact Or.inr ⟨by simp [fx_brP], rfl⟩) hP hD
    rw [nI_eq (by omega) (by omega)] at hc97
    refine lv_iload_n hx hb d_Ck_isBreach_100 rfl (lv_at hl 1 rfl) ?_
    refine lv_bipush (v := nI 18) hx hb d_Ck_isBreach_101 (by decide) ?_
    refine lv_icmp_ne (tgt := 122) hx hb d_Ck_isBreach_103 (by decide) (fun hc103 => ?_) (fun hc103 => ?_)
    · rw [nI_eq (by omega) (by omega)] at hc103
      refine lv_iconst (v := nI 0) hx hb d_Ck_isBreach_122 (by decide) ?_
      exact fs_zret hx hb hr hlocks hAe hK hS d_Ck_isBreach_123 (by decide) () (by subst hsw; first | exact Or.inl ⟨by simp only [fx_brP]; omega, rfl⟩ | exact Or.inr ⟨by simp only [fx_brP]; omega, rfl⟩ | exact Or.inr ⟨by simp [fx_brP], rfl⟩) hP hD
    rw [nI_eq (by omega) (by omega)] at hc103
    refine lv_iload hx hb d_Ck_isBreach_106 (lv_at hl 0 rfl) ?_
    refine lv_if_lt (tgt := 118) hx hb d_Ck_isBreach_108 (by decide) (fun hc108 => ?_) (fun hc108 => ?_)
    · rw [fs_lt0] at hc108
      refine lv_iconst (v := nI 1) hx hb d_Ck_isBreach_118 (by decide) ?_
      refine lv_goto (tgt := 123) hx hb d_Ck_isBreach_119 (by decide) ?_
      exact fs_zret hx hb hr hlocks hAe hK hS d_Ck_isBreach_123 (by decide) () (by subst hsw; first | exact Or.inl ⟨by simp only [fx_brP]; omega, rfl⟩ | exact Or.inr ⟨by simp only [fx_brP]; omega, rfl⟩ | exact Or.inr ⟨by simp [fx_brP], rfl⟩) hP hD
    rw [fs_lt0] at hc108
    refine lv_iload hx hb d_Ck_isBreach_111 (lv_at hl 0 rfl) ?_
    refine lv_bipush (v := nI 31) hx hb d_Ck_isBreach_113 (by decide) ?_
    refine lv_icmp_le (tgt := 122) hx hb d_Ck_isBreach_115 (by decide) (fun hc115 => ?_) (fun hc115 => ?_)
    · rw [fs_leN (by omega)] at hc115
      refine lv_iconst (v := nI 0) hx hb d_Ck_isBreach_122 (by decide) ?_
      exact fs_zret hx hb hr hlocks hAe hK hS d_Ck_isBreach_123 (by decide) () (by subst hsw; first | exact Or.inl ⟨by simp only [fx_brP]; omega, rfl⟩ | exact Or.inr ⟨by simp only [fx_brP]; omega, rfl⟩ | exact Or.inr ⟨by simp [fx_brP], rfl⟩) hP hD
    rw [fs_leN (by omega)] at hc115
    refine lv_iconst (v := nI 1) hx hb d_Ck_isBreach_118 (by decide) ?_
    refine lv_goto (tgt := 123) hx hb d_Ck_isBreach_119 (by decide) ?_
    exact fs_zret hx hb hr hlocks hAe hK hS d_Ck_isBreach_123 (by decide) () (by subst hsw; first | exact Or.inl ⟨by simp only [fx_brP]; omega, rfl⟩ | exact Or.inr ⟨by simp only [fx_brP]; omega, rfl⟩ | exact Or.inr ⟨by simp [fx_brP], rfl⟩) hP hD
  · refine fs_eqi (v := nI 5) (by rw [hsw]) ?_
    refine lv_tableIn (off := 108) (tgt := 124) hx hb d_Ck_isBreach_16 (by decide) (by decide) rfl (by decide) ?_
    refine lv_aload_n hx hb d_Ck_isBreach_124 rfl (lv_at hl 2 rfl) ?_
    refine lv_iload_n hx hb d_Ck_isBreach_125 rfl (lv_at hl 3 rfl) ?_
    refine fs_calli (wc := [(q, .inr (1, [.ref o, .ref y, .ref n, .ref k, .int (nI L.length)])), (o, .inl (cI, 40, .inl fo)), (y, .inl (cI, 40, .inl fy)), (n, .inl (cI, 40, .inl fn)), (k, .inl (cI, 40, .inl fk))]) (wr := []) [0, 1, 2, 3, 4] [] hP hD hK hS hA rfl rfl rfl (by decide) (fun hPc hDc => va_runS (As := [.ref q, .int (nI i)]) (rest := []) ⟨hx, hb, hml, hown, hts⟩ (c_Ck_leavesFilter q o y n k fo fy fn fk L i _ hrep hok hi) (⟨callB_of 2 hts (fs_g kin_Ck_leavesFilter) rfl rfl rfl (hts _ wi_4) (hts _ wi_214) (by decide +kernel) ⟨Nat.le_of_ble_eq_true rfl, Nat.le_of_ble_eq_true rfl⟩, hts _ wi_215⟩) (fs_preS hPc hK hDc) rfl rfl hl.1 rfl (lv_room (Nat.le_of_ble_eq_true rfl)) d_Ck_isBreach_126 ⟨Nat.le_of_ble_eq_true rfl, Nat.le_of_ble_eq_true rfl⟩) rfl (fun r126 _ H locs hp126 hP hD hS => ?_)
    have hP : va_P (dC, dI) vwCl [(q, .inr (1, [.ref o, .ref y, .ref n, .ref k, .int (nI L.length)])), (o, .inl (cI, 40, .inl fo)), (y, .inl (cI, 40, .inl fy)), (n, .inl (cI, 40, .inl fn)), (k, .inl (cI, 40, .inl fk))] H := hP
    have hD : va_D A [(q, .inr (1, [.ref o, .ref y, .ref n, .ref k, .int (nI L.length)])), (o, .inl (cI, 40, .inl fo)), (y, .inl (cI, 40, .inl fy)), (n, .inl (cI, 40, .inl fn)), (k, .inl (cI, 40, .inl fk))] := hD
    rcases hp126 with ⟨hc126, rfl⟩ | ⟨hc126, rfl⟩
    · exact fs_zret hx hb hr hlocks hAe hK hS d_Ck_isBreach_129 (by decide) () (by subst hsw; first | exact Or.inl ⟨by assumption, rfl⟩ | exact Or.inr ⟨by assumption, rfl⟩) hP hD
    exact fs_zret hx hb hr hlocks hAe hK hS d_Ck_isBreach_129 (by decide) () (by subst hsw; first | exact Or.inl ⟨by assumption, rfl⟩ | exact Or.inr ⟨by assumption, rfl⟩) hP hD
  · refine fs_eqi (v := nI 6) (by rw [hsw]) ?_
    refine lv_tableIn (off := 114) (tgt := 130) hx hb d_Ck_isBreach_16 (by decide) (by decide) rfl (by decide) ?_
    refine lv_iload_n hx hb d_Ck_isBreach_130 rfl (lv_at hl 3 rfl) ?_
    refine lv_aload_n hx hb d_Ck_isBreach_131 rfl (lv_at hl 2 rfl) ?_
    refine va_get (D := (dC, dI)) (ci := 1) (v := .int (nI L.length)) (C := R_Fi) (T := T_Fi) (N := 5) hx hb hts uin_Fi hown hK hP 0 rfl rfl 4 (by decide) (hts _ wi_48) (fun _ h9 => h9) rfl d_Ck_isBreach_132 ?_
    refine lv_iconst (v := nI 1) hx hb d_Ck_isBreach_135 (by decide) ?_
    refine lv_isub hx hb d_Ck_isBreach_136 ?_
    refine fs_eqi (pk_sub (by omega)) ?_
    refine lv_icmp_ne (tgt := 150) hx hb d_Ck_isBreach_137 (by decide) (fun hc137 => ?_) (fun hc137 => ?_)
    · rw [nI_eq (by omega) (by omega)] at hc137
      refine lv_iconst (v := nI 0) hx hb d_Ck_isBreach_150 (by decide) ?_
      exact fs_zret hx hb hr hlocks hAe hK hS d_Ck_isBreach_151 (by decide) () (by subst hsw; first | exact Or.inl ⟨by simp only [fx_brP]; omega, rfl⟩ | exact Or.inr ⟨by simp only [fx_brP]; omega, rfl⟩ | exact Or.inr ⟨by simp [fx_brP], rfl⟩) hP hD
    rw [nI_eq (by omega) (by omega)] at hc137
    refine lv_iload_n hx hb d_Ck_isBreach_140 rfl (lv_at hl 1 rfl) ?_
    refine lv_bipush (v := nI 31) hx hb d_Ck_isBreach_141 (by decide) ?_
    refine lv_icmp_eq (tgt := 150) hx hb d_Ck_isBreach_143 (by decide) (fun hc143 => ?_) (fun hc143 => ?_)
    · rw [nI_eq (by omega) (by omega)] at hc143
      refine lv_iconst (v := nI 0) hx hb d_Ck_isBreach_150 (by decide) ?_
      exact fs_zret hx hb hr hlocks hAe hK hS d_Ck_isBreach_151 (by decide) () (by subst hsw; first | exact Or.inl ⟨by simp only [fx_brP]; omega, rfl⟩ | exact Or.inr ⟨by simp only [fx_brP]; omega, rfl⟩ | exact Or.inr ⟨by simp [fx_brP], rfl⟩) hP hD
    rw [nI_eq (by omega) (by omega)] at hc143
    refine lv_iconst (v := nI 1) hx hb d_Ck_isBreach_146 (by decide) ?_
    refine lv_goto (tgt := 151) hx hb d_Ck_isBreach_147 (by decide) ?_
    exact fs_zret hx hb hr hlocks hAe hK hS d_Ck_isBreach_151 (by decide) () (by subst hsw; first | exact Or.inl ⟨by simp only [fx_brP]; omega, rfl⟩ | exact Or.inr ⟨by simp only [fx_brP]; omega, rfl⟩ | exact Or.inr ⟨by simp [fx_brP], rfl⟩) hP hD

end CK
