section CK2
variable {l : Launch} {dC : Nat → ClassId} {dI : Nat → Nat → Nat} {cI cZ cJ cF : ClassId}
theorem fx_ps_lt {L : fx_Prg} {i j : Nat} {g : Nat → Int32} {cs : Int32} (h : fx_O L i < 25) : fx_mt g (i + 1) cs j = fx_ps L i g cs j := by
  unfold fx_mt fx_ps
  by_cases e : j = i + 1
  · rw [if_pos e, if_pos ⟨by omega, (fx_to_lt h).mpr e⟩]
  · rw [if_neg e, if_neg (fun q => e ((fx_to_lt h).mp q.2))]
theorem fx_ps_25 {L : fx_Prg} {i j : Nat} {g : Nat → Int32} {cs : Int32} (h : fx_O L i = 25) : fx_mt g (i + 1 + (fx_K L i).toNatClampNeg) cs j = fx_ps L i g cs j := by
  unfold fx_mt fx_ps
  by_cases e : j = i + 1 + (fx_K L i).toNatClampNeg
  · rw [if_pos e, if_pos ⟨by omega, (fx_to_25 h).mpr e⟩]
  · rw [if_neg e, if_neg (fun q => e ((fx_to_25 h).mp q.2))]
theorem fx_ps_gt {L : fx_Prg} {i j : Nat} {g : Nat → Int32} {cs : Int32} (h : 25 < fx_O L i) (h31 : fx_O L i ≠ 31) : fx_mt (fx_mt g (i + 1 + fx_Y L i) cs) (i + 1 + fx_N L i) cs j = fx_ps L i g cs j := by
  unfold fx_mt fx_ps
  by_cases e : j = i + 1 + fx_Y L i ∨ j = i + 1 + fx_N L i
  · rw [if_pos (c := fx_O L i ≠ 31 ∧ fx_to L i j = true) ⟨h31, (fx_to_gt h).mpr e⟩]
    by_cases e2 : j = i + 1 + fx_N L i
    · rw [if_pos e2]
      by_cases e1 : j = i + 1 + fx_Y L i
      · rw [if_pos e1, Int32.and_assoc, Int32.and_self]
      · rw [if_neg e1]
    · rw [if_neg e2, if_pos (by omega)]
  · rw [if_neg (c := fx_O L i ≠ 31 ∧ fx_to L i j = true) (fun q => e ((fx_to_gt h).mp q.2)), if_neg (by omega), if_neg (by omega)]
theorem d_Ck_meet_0 : decode b_Ck_meet 0 = .ok (.iload_n 1, 1) := by decide +kernel
theorem d_Ck_meet_1 : decode b_Ck_meet 1 = .ok (.ifCond .lt 19, 3) := by decide +kernel
theorem d_Ck_meet_4 : decode b_Ck_meet 4 = .ok (.iload_n 1, 1) := by decide +kernel
theorem d_Ck_meet_5 : decode b_Ck_meet 5 = .ok (.bipush 40, 2) := by decide +kernel
theorem d_Ck_meet_7 : decode b_Ck_meet 7 = .ok (.if_icmp .ge 13, 3) := by decide +kernel
theorem d_Ck_meet_10 : decode b_Ck_meet 10 = .ok (.aload_n 0, 1) := by decide +kernel
theorem d_Ck_meet_11 : decode b_Ck_meet 11 = .ok (.getfield 9, 3) := by decide +kernel
theorem d_Ck_meet_14 : decode b_Ck_meet 14 = .ok (.iload_n 1, 1) := by decide +kernel
theorem d_Ck_meet_15 : decode b_Ck_meet 15 = .ok (.dup2, 1) := by decide +kernel
theorem d_Ck_meet_16 : decode b_Ck_meet 16 = .ok (.iaload, 1) := by decide +kernel
theorem d_Ck_meet_17 : decode b_Ck_meet 17 = .ok (.iload_n 2, 1) := by decide +kernel
theorem d_Ck_meet_18 : decode b_Ck_meet 18 = .ok (.iand, 1) := by decide +kernel
theorem d_Ck_meet_19 : decode b_Ck_meet 19 = .ok (.iastore, 1) := by decide +kernel
theorem d_Ck_meet_20 : decode b_Ck_meet 20 = .ok (.return_, 1) := by decide +kernel
set_option maxHeartbeats 4000000 in
set_option maxRecDepth 100000 in
theorem c_Ck_meet (ck st t : Nat) (g : Nat → Int32) (cs : Int32) (sz : Nat) (ht : t < 2 ^ 31) : fs_V l y_Ck_meet (k_Ck_meet :: fs_T) { frames := 0, cells := 0, slots := 0, locals := 0 } (dC, dI) vwCl (fs_tys cI cZ cJ cF) [.ref ck, .int (nI t), .int cs] [(ck, .inr (0, [.ref st])), (st, .inl (cI, 40, .inl g))] sz (S := Unit) (fun _ => True) (fun _ => [(ck, .inr (0, [.ref st])), (st, .inl (cI, 40, .inl (fx_mt g t cs)))]) 0 0 := by
  refine fs_head (by decide) (Nat.le_of_ble_eq_true rfl) ?_
  intro p e s m below meth c A ls hx hb hr hts hown hlocks hin hml hK hP hD hS hA hAe hsz hl
  have hl : lv_has ls 3 [(0, .ref ck), (1, .int (nI t)), (2, .int cs)] := hl
  have hown : s.vm.findClass R_Ck = some m.cls := hown
  refine lv_iload_n hx hb d_Ck_meet_0 rfl (lv_at hl 1 rfl) ?_
  refine lv_if_lt (tgt := 20) hx hb d_Ck_meet_1 (by decide) (fun hc => absurd hc (nI_pos (by omega))) (fun _ => ?_)
  refine lv_iload_n hx hb d_Ck_meet_4 rfl (lv_at hl 1 rfl) ?_
  refine lv_bipush (v := nI 40) hx hb d_Ck_meet_5 (by decide) ?_
  refine lv_icmp_ge (tgt := 20) hx hb d_Ck_meet_7 (by decide) (fun hc7 => ?_) (fun hc7 => ?_)
  · rw [nI_leI (by omega) (by omega)] at hc7
    obtain ⟨hP, hD⟩ := fs_atc 1 (g := fx_mt g t cs) (fun j hj => by unfold fx_mt; rw [if_neg (by omega)]) rfl rfl hP hD
    exact fs_vret hx hb hr hlocks hAe hK hS d_Ck_meet_20 () (trivial) hP hD
  rw [nI_leI (by omega) (by omega)] at hc7
  refine lv_aload_n hx hb d_Ck_meet_10 rfl (lv_at hl 0 rfl) ?_
  refine va_get (D := (dC, dI)) (ci := 0) (v := .ref st) (C := R_Ck) (T := T_Ck) (N := 1) hx hb hts uin_Ck hown hK hP 0 rfl rfl 0 (by decide) (hts _ wi_90) (fun _ h9 => h9) rfl d_Ck_meet_11 ?_
  refine lv_iload_n hx hb d_Ck_meet_14 rfl (lv_at hl 1 rfl) ?_
  refine lv_dup2_11 hx hb d_Ck_meet_15 rfl rfl ?_
  refine fs_iald (v := g t) hx hb hK hP 1 0 rfl rfl t rfl (by decide) (by omega) rfl d_Ck_meet_16 ?_
  refine lv_iload_n hx hb d_Ck_meet_17 rfl (lv_at hl 2 rfl) ?_
  refine lv_iand hx hb d_Ck_meet_18 ?_
  refine fs_iast hx hb hK hP hD hS 1 0 rfl rfl t rfl (by decide) (by omega) d_Ck_meet_19 (fun H locs hP hD hS => ?_)
  have hP : va_P (dC, dI) vwCl [(ck, .inr (0, [.ref st])), (st, .inl (cI, 40, .inl (upd g t ((g t) &&& cs))))] H := hP
  have hD : va_D A [(ck, .inr (0, [.ref st])), (st, .inl (cI, 40, .inl (upd g t ((g t) &&& cs))))] := hD
  obtain ⟨hP, hD⟩ := fs_atc 1 (g := fx_mt g t cs) (fun j hj => by unfold fx_mt upd; by_cases e : j = t <;> simp [e]) rfl rfl hP hD
  exact fs_vret hx hb hr hlocks hAe hK hS d_Ck_meet_20 () (trivial) hP hD

theorem d_Ck_passOn_0 : decode b_Ck_passOn 0 = .ok (.aload_n 1, 1) := by decide +kernel
theorem d_Ck_passOn_1 : decode b_Ck_passOn 1 = .ok (.getfield 33, 3) := by decide +kernel
theorem d_Ck_passOn_4 : decode b_Ck_passOn 4 = .ok (.iload_n 2, 1) := by decide +kernel
theorem d_Ck_passOn_5 : decode b_Ck_passOn 5 = .ok (.iaload, 1) := by decide +kernel
theorem d_Ck_passOn_6 : decode b_Ck_passOn 6 = .ok (.istore 4, 2) := by decide +kernel
theorem d_Ck_passOn_8 : decode b_Ck_passOn 8 = .ok (.iload 4, 2) := by decide +kernel
theorem d_Ck_passOn_10 : decode b_Ck_passOn 10 = .ok (.bipush 25, 2) := by decide +kernel
theorem d_Ck_passOn_12 : decode b_Ck_passOn 12 = .ok (.if_icmp .ge 14, 3) := by decide +kernel
theorem d_Ck_passOn_15 : decode b_Ck_passOn 15 = .ok (.aload_n 0, 1) := by decide +kernel
theorem d_Ck_passOn_16 : decode b_Ck_passOn 16 = .ok (.iload_n 2, 1) := by decide +kernel
theorem d_Ck_passOn_17 : decode b_Ck_passOn 17 = .ok (.iconst 1, 1) := by decide +kernel
theorem d_Ck_passOn_18 : decode b_Ck_passOn 18 = .ok (.iadd, 1) := by decide +kernel
theorem d_Ck_passOn_19 : decode b_Ck_passOn 19 = .ok (.iload_n 3, 1) := by decide +kernel
theorem d_Ck_passOn_20 : decode b_Ck_passOn 20 = .ok (.invokevirtual 70, 3) := by decide +kernel
theorem d_Ck_passOn_23 : decode b_Ck_passOn 23 = .ok (.goto 65, 3) := by decide +kernel
theorem d_Ck_passOn_26 : decode b_Ck_passOn 26 = .ok (.iload 4, 2) := by decide +kernel
theorem d_Ck_passOn_28 : decode b_Ck_passOn 28 = .ok (.bipush 25, 2) := by decide +kernel
theorem d_Ck_passOn_30 : decode b_Ck_passOn 30 = .ok (.if_icmp .ne 21, 3) := by decide +kernel
theorem d_Ck_passOn_33 : decode b_Ck_passOn 33 = .ok (.aload_n 0, 1) := by decide +kernel
theorem d_Ck_passOn_34 : decode b_Ck_passOn 34 = .ok (.iload_n 2, 1) := by decide +kernel
theorem d_Ck_passOn_35 : decode b_Ck_passOn 35 = .ok (.iconst 1, 1) := by decide +kernel
theorem d_Ck_passOn_36 : decode b_Ck_passOn 36 = .ok (.iadd, 1) := by decide +kernel
theorem d_Ck_passOn_37 : decode b_Ck_passOn 37 = .ok (.aload_n 1, 1) := by decide +kernel
theorem d_Ck_passOn_38 : decode b_Ck_passOn 38 = .ok (.getfield 36, 3) := by decide +kernel
theorem d_Ck_passOn_41 : decode b_Ck_passOn 41 = .ok (.iload_n 2, 1) := by decide +kernel
theorem d_Ck_passOn_42 : decode b_Ck_passOn 42 = .ok (.iaload, 1) := by decide +kernel
theorem d_Ck_passOn_43 : decode b_Ck_passOn 43 = .ok (.iadd, 1) := by decide +kernel
theorem d_Ck_passOn_44 : decode b_Ck_passOn 44 = .ok (.iload_n 3, 1) := by decide +kernel
theorem d_Ck_passOn_45 : decode b_Ck_passOn 45 = .ok (.invokevirtual 70, 3) := by decide +kernel
theorem d_Ck_passOn_48 : decode b_Ck_passOn 48 = .ok (.goto 40, 3) := by decide +kernel
theorem d_Ck_passOn_51 : decode b_Ck_passOn 51 = .ok (.iload 4, 2) := by decide +kernel
theorem d_Ck_passOn_53 : decode b_Ck_passOn 53 = .ok (.bipush 31, 2) := by decide +kernel
theorem d_Ck_passOn_55 : decode b_Ck_passOn 55 = .ok (.if_icmp .ge 33, 3) := by decide +kernel
theorem d_Ck_passOn_58 : decode b_Ck_passOn 58 = .ok (.aload_n 0, 1) := by decide +kernel
theorem d_Ck_passOn_59 : decode b_Ck_passOn 59 = .ok (.iload_n 2, 1) := by decide +kernel
theorem d_Ck_passOn_60 : decode b_Ck_passOn 60 = .ok (.iconst 1, 1) := by decide +kernel
theorem d_Ck_passOn_61 : decode b_Ck_passOn 61 = .ok (.iadd, 1) := by decide +kernel
theorem d_Ck_passOn_62 : decode b_Ck_passOn 62 = .ok (.aload_n 1, 1) := by decide +kernel
theorem d_Ck_passOn_63 : decode b_Ck_passOn 63 = .ok (.getfield 53, 3) := by decide +kernel
theorem d_Ck_passOn_66 : decode b_Ck_passOn 66 = .ok (.iload_n 2, 1) := by decide +kernel
theorem d_Ck_passOn_67 : decode b_Ck_passOn 67 = .ok (.iaload, 1) := by decide +kernel
theorem d_Ck_passOn_68 : decode b_Ck_passOn 68 = .ok (.iadd, 1) := by decide +kernel
theorem d_Ck_passOn_69 : decode b_Ck_passOn 69 = .ok (.iload_n 3, 1) := by decide +kernel
theorem d_Ck_passOn_70 : decode b_Ck_passOn 70 = .ok (.invokevirtual 70, 3) := by decide +kernel
theorem d_Ck_passOn_73 : decode b_Ck_passOn 73 = .ok (.aload_n 0, 1) := by decide +kernel
theorem d_Ck_passOn_74 : decode b_Ck_passOn 74 = .ok (.iload_n 2, 1) := by decide +kernel
theorem d_Ck_passOn_75 : decode b_Ck_passOn 75 = .ok (.iconst 1, 1) := by decide +kernel
theorem d_Ck_passOn_76 : decode b_Ck_passOn 76 = .ok (.iadd, 1) := by decide +kernel
theorem d_Ck_passOn_77 : decode b_Ck_passOn 77 = .ok (.aload_n 1, 1) := by decide +kernel
theorem d_Ck_passOn_78 : decode b_Ck_passOn 78 = .ok (.getfield 56, 3) := by decide +kernel
theorem d_Ck_passOn_81 : decode b_Ck_passOn 81 = .ok (.iload_n 2, 1) := by decide +kernel
theorem d_Ck_passOn_82 : decode b_Ck_passOn 82 = .ok (.iaload, 1) := by decide +kernel
theorem d_Ck_passOn_83 : decode b_Ck_passOn 83 = .ok (.iadd, 1) := by decide +kernel
theorem d_Ck_passOn_84 : decode b_Ck_passOn 84 = .ok (.iload_n 3, 1) := by decide +kernel
theorem d_Ck_passOn_85 : decode b_Ck_passOn 85 = .ok (.invokevirtual 70, 3) := by decide +kernel
theorem d_Ck_passOn_88 : decode b_Ck_passOn 88 = .ok (.return_, 1) := by decide +kernel
set_option maxHeartbeats 4000000 in
set_option maxRecDepth 100000 in
theorem c_Ck_passOn (ck st : Nat) (g : Nat → Int32) (q o y n k : Nat) (fo fy fn fk : Nat → Int32) (L : fx_Prg) (i : Nat) (cs : Int32) (sz : Nat) (hrep : fx_rep L fo fy fn fk) (hok : fx_ok L) (hi : i < L.length) (hg5 : ¬ fx_brP L 5 i) : fs_V l y_Ck_passOn (k_Ck_passOn :: fs_T) { frames := 1, cells := 0, slots := 0, locals := 22 } (dC, dI) vwCl (fs_tys cI cZ cJ cF) [.ref ck, .ref q, .int (nI i), .int cs] [(ck, .inr (0, [.ref st])), (st, .inl (cI, 40, .inl g)), (q, .inr (1, [.ref o, .ref y, .ref n, .ref k, .int (nI L.length)])), (o, .inl (cI, 40, .inl fo)), (y, .inl (cI, 40, .inl fy)), (n, .inl (cI, 40, .inl fn)), (k, .inl (cI, 40, .inl fk))] sz (S := Unit) (fun _ => True) (fun _ => [(ck, .inr (0, [.ref st])), (st, .inl (cI, 40, .inl (fx_ps L i g cs))), (q, .inr (1, [.ref o, .ref y, .ref n, .ref k, .int (nI L.length)])), (o, .inl (cI, 40, .inl fo)), (y, .inl (cI, 40, .inl fy)), (n, .inl (cI, 40, .inl fn)), (k, .inl (cI, 40, .inl fk))]) 0 0 := by
  refine fs_head (by decide) (Nat.le_of_ble_eq_true rfl) ?_
  intro p e s m below meth c A ls hx hb hr hts hown hlocks hin hml hK hP hD hS hA hAe hsz hl
  have hl : lv_has ls 5 [(0, .ref ck), (1, .ref q), (2, .int (nI i)), (3, .int cs)] := hl
  have hown : s.vm.findClass R_Ck = some m.cls := hown
  have hlen := hok.1
  have hO := (hok.2 i hi).1
  have hY := (hok.2 i hi).2.1
  have hN := (hok.2 i hi).2.2
  refine lv_aload_n hx hb d_Ck_passOn_0 rfl (lv_at hl 1 rfl) ?_
  refine va_get (D := (dC, dI)) (ci := 1) (v := .ref o) (C := R_Fi) (T := T_Fi) (N := 5) hx hb hts uin_Fi hown hK hP 2 rfl rfl 0 (by decide) (hts _ wi_32) (fun _ h9 => h9) rfl d_Ck_passOn_1 ?_
  refine lv_iload_n hx hb d_Ck_passOn_4 rfl (lv_at hl 2 rfl) ?_
  refine fs_iald (v := nI (fx_O L i)) hx hb hK hP 3 0 rfl rfl i rfl (by decide) (by omega) ((hrep i (by omega)).1) d_Ck_passOn_5 ?_
  refine lv_istore hx hb d_Ck_passOn_6 hl (by decide) (lv' := [(4, .int (nI (fx_O L i))), (0, .ref ck), (1, .ref q), (2, .int (nI i)), (3, .int cs)]) rfl (fun ls hl => ?_)
  refine lv_iload hx hb d_Ck_passOn_8 (lv_at hl 0 rfl) ?_
  refine lv_bipush (v := nI 25) hx hb d_Ck_passOn_10 (by decide) ?_
  refine lv_icmp_ge (tgt := 26) hx hb d_Ck_passOn_12 (by decide) (fun hc12 => ?_) (fun hc12 => ?_)
  · rw [nI_leI (by omega) (by omega)] at hc12
    refine lv_iload hx hb d_Ck_passOn_26 (lv_at hl 0 rfl) ?_
    refine lv_bipush (v := nI 25) hx hb d_Ck_passOn_28 (by decide) ?_
    refine lv_icmp_ne (tgt := 51) hx hb d_Ck_passOn_30 (by decide) (fun hc30 => ?_) (fun hc30 => ?_)
    · rw [nI_eq (by omega) (by omega)] at hc30
      refine lv_iload hx hb d_Ck_passOn_51 (lv_at hl 0 rfl) ?_
      refine lv_bipush (v := nI 31) hx hb d_Ck_passOn_53 (by decide) ?_
      refine lv_icmp_ge (tgt := 88) hx hb d_Ck_passOn_55 (by decide) (fun hc55 => ?_) (fun hc55 => ?_)
      · rw [nI_leI (by omega) (by omega)] at hc55
        obtain ⟨hP, hD⟩ := fs_atc 1 (g := fx_ps L i g cs) (fun j hj => by unfold fx_ps; rw [if_neg (fun h => h.1 (by omega))]) rfl rfl hP hD
        exact fs_vret hx hb hr hlocks hAe hK hS d_Ck_passOn_88 () (trivial) hP hD
      rw [nI_leI (by omega) (by omega)] at hc55
      refine lv_aload_n hx hb d_Ck_passOn_58 rfl (lv_at hl 1 rfl) ?_
      refine lv_iload_n hx hb d_Ck_passOn_59 rfl (lv_at hl 3 rfl) ?_
      refine lv_iconst (v := nI 1) hx hb d_Ck_passOn_60 (by decide) ?_
      refine lv_iadd hx hb d_Ck_passOn_61 ?_
      refine fs_eqi (nI_add _ _) ?_
      refine lv_aload_n hx hb d_Ck_passOn_62 rfl (lv_at hl 2 rfl) ?_
      refine va_get (D := (dC, dI)) (ci := 1) (v := .ref y) (C := R_Fi) (T := T_Fi) (N := 5) hx hb hts uin_Fi hown hK hP 2 rfl rfl 1 (by decide) (hts _ wi_37) (fun _ h9 => h9) rfl d_Ck_passOn_63 ?_
      refine lv_iload_n hx hb d_Ck_passOn_66 rfl (lv_at hl 3 rfl) ?_
      refine fs_iald (v := nI (fx_Y L i)) hx hb hK hP 4 0 rfl rfl i rfl (by decide) (by omega) ((hrep i (by omega)).2.1) d_Ck_passOn_67 ?_
      refine lv_iadd hx hb d_Ck_passOn_68 ?_
      refine fs_eqi (nI_add _ _) ?_
      refine lv_iload_n hx hb d_Ck_passOn_69 rfl (lv_at hl 4 rfl) ?_
      refine fs_callv (wc := [(ck, .inr (0, [.ref st])), (st, .inl (cI, 40, .inl g))]) (wr := [(q, .inr (1, [.ref o, .ref y, .ref n, .ref k, .int (nI L.length)])), (o, .inl (cI, 40, .inl fo)), (y, .inl (cI, 40, .inl fy)), (n, .inl (cI, 40, .inl fn)), (k, .inl (cI, 40, .inl fk))]) [0, 1] [2, 3, 4, 5, 6] hP hD hK hS hA rfl rfl rfl (by decide) (fun hPc hDc => va_runV (C := R_Ck) (As := [.int (nI (i + 1 + fx_Y L i)), .int cs]) (rest := []) ⟨hx, hb, hml, hown, hts⟩ (c_Ck_meet ck st (i + 1 + fx_Y L i) g cs _ (by omega)) (⟨callB_of 2 hts (fs_g kin_Ck_meet) rfl rfl rfl (hts _ wi_4) (hts _ wi_204) (by decide +kernel) ⟨Nat.le_of_ble_eq_true rfl, Nat.le_of_ble_eq_true rfl⟩, hts _ wi_206, hts _ sel_Ck_meet⟩) (fs_preV (q0 := 0) rfl rfl hPc hK hDc) rfl rfl hl.1 rfl (lv_room (Nat.le_of_ble_eq_true rfl)) d_Ck_passOn_70 ⟨Nat.le_of_ble_eq_true rfl, Nat.le_of_ble_eq_true rfl⟩) rfl (fun _ H locs hp70 hP hD hS => ?_)
      have hP : va_P (dC, dI) vwCl [(ck, .inr (0, [.ref st])), (st, .inl (cI, 40, .inl (fx_mt g (i + 1 + fx_Y L i) cs))), (q, .inr (1, [.ref o, .ref y, .ref n, .ref k, .int (nI L.length)])), (o, .inl (cI, 40, .inl fo)), (y, .inl (cI, 40, .inl fy)), (n, .inl (cI, 40, .inl fn)), (k, .inl (cI, 40, .inl fk))] H := hP.sub [5, 6, 0, 1, 2, 3, 4] rfl
      have hD : va_D A [(ck, .inr (0, [.ref st])), (st, .inl (cI, 40, .inl (fx_mt g (i + 1 + fx_Y L i) cs))), (q, .inr (1, [.ref o, .ref y, .ref n, .ref k, .int (nI L.length)])), (o, .inl (cI, 40, .inl fo)), (y, .inl (cI, 40, .inl fy)), (n, .inl (cI, 40, .inl fn)), (k, .inl (cI, 40, .inl fk))] := hD.sub [5, 6, 0, 1, 2, 3, 4] (by decide) rfl
      refine lv_aload_n hx hb d_Ck_passOn_73 rfl (lv_at hl 1 rfl) ?_
      refine lv_iload_n hx hb d_Ck_passOn_74 rfl (lv_at hl 3 rfl) ?_
      refine lv_iconst (v := nI 1) hx hb d_Ck_passOn_75 (by decide) ?_
      refine lv_iadd hx hb d_Ck_passOn_76 ?_
      refine fs_eqi (nI_add _ _) ?_
      refine lv_aload_n hx hb d_Ck_passOn_77 rfl (lv_at hl 2 rfl) ?_
      refine va_get (D := (dC, dI)) (ci := 1) (v := .ref n) (C := R_Fi) (T := T_Fi) (N := 5) hx hb hts uin_Fi hown hK hP 2 rfl rfl 2 (by decide) (hts _ wi_41) (fun _ h9 => h9) rfl d_Ck_passOn_78 ?_
      refine lv_iload_n hx hb d_Ck_passOn_81 rfl (lv_at hl 3 rfl) ?_
      refine fs_iald (v := nI (fx_N L i)) hx hb hK hP 5 0 rfl rfl i rfl (by decide) (by omega) ((hrep i (by omega)).2.2.1) d_Ck_passOn_82 ?_
      refine lv_iadd hx hb d_Ck_passOn_83 ?_
      refine fs_eqi (nI_add _ _) ?_
      refine lv_iload_n hx hb d_Ck_passOn_84 rfl (lv_at hl 4 rfl) ?_
      refine fs_callv (wc := [(ck, .inr (0, [.ref st])), (st, .inl (cI, 40, .inl (fx_mt g (i + 1 + fx_Y L i) cs)))]) (wr := [(q, .inr (1, [.ref o, .ref y, .ref n, .ref k, .int (nI L.length)])), (o, .inl (cI, 40, .inl fo)), (y, .inl (cI, 40, .inl fy)), (n, .inl (cI, 40, .inl fn)), (k, .inl (cI, 40, .inl fk))]) [0, 1] [2, 3, 4, 5, 6] hP hD hK hS hA rfl rfl rfl (by decide) (fun hPc hDc => va_runV (C := R_Ck) (As := [.int (nI (i + 1 + fx_N L i)), .int cs]) (rest := []) ⟨hx, hb, hml, hown, hts⟩ (c_Ck_meet ck st (i + 1 + fx_N L i) (fx_mt g (i + 1 + fx_Y L i) cs) cs _ (by omega)) (⟨callB_of 2 hts (fs_g kin_Ck_meet) rfl rfl rfl (hts _ wi_4) (hts _ wi_204) (by decide +kernel) ⟨Nat.le_of_ble_eq_true rfl, Nat.le_of_ble_eq_true rfl⟩, hts _ wi_206, hts _ sel_Ck_meet⟩) (fs_preV (q0 := 0) rfl rfl hPc hK hDc) rfl rfl hl.1 rfl (lv_room (Nat.le_of_ble_eq_true rfl)) d_Ck_passOn_85 ⟨Nat.le_of_ble_eq_true rfl, Nat.le_of_ble_eq_true rfl⟩) rfl (fun _ H locs hp85 hP hD hS => ?_)
      have hP : va_P (dC, dI) vwCl [(ck, .inr (0, [.ref st])), (st, .inl (cI, 40, .inl (fx_mt (fx_mt g (i + 1 + fx_Y L i) cs) (i + 1 + fx_N L i) cs))), (q, .inr (1, [.ref o, .ref y, .ref n, .ref k, .int (nI L.length)])), (o, .inl (cI, 40, .inl fo)), (y, .inl (cI, 40, .inl fy)), (n, .inl (cI, 40, .inl fn)), (k, .inl (cI, 40, .inl fk))] H := hP.sub [5, 6, 0, 1, 2, 3, 4] rfl
      have hD : va_D A [(ck, .inr (0, [.ref st])), (st, .inl (cI, 40, .inl (fx_mt (fx_mt g (i + 1 + fx_Y L i) cs) (i + 1 + fx_N L i) cs))), (q, .inr (1, [.ref o, .ref y, .ref n, .ref k, .int (nI L.length)])), (o, .inl (cI, 40, .inl fo)), (y, .inl (cI, 40, .inl fy)), (n, .inl (cI, 40, .inl fn)), (k, .inl (cI, 40, .inl fk))] := hD.sub [5, 6, 0, 1, 2, 3, 4] (by decide) rfl
      obtain ⟨hP, hD⟩ := fs_atc 1 (g := fx_ps L i g cs) (fun j hj => fx_ps_gt (by omega) (by omega)) rfl rfl hP hD
      exact fs_vret hx hb hr hlocks hAe hK hS d_Ck_passOn_88 () (trivial) hP hD
    rw [nI_eq (by omega) (by omega)] at hc30
    refine lv_aload_n hx hb d_Ck_passOn_33 rfl (lv_at hl 1 rfl) ?_
    refine lv_iload_n hx hb d_Ck_passOn_34 rfl (lv_at hl 3 rfl) ?_
    refine lv_iconst (v := nI 1) hx hb d_Ck_passOn_35 (by decide) ?_
    refine lv_iadd hx hb d_Ck_passOn_36 ?_
    refine fs_eqi (nI_add _ _) ?_
    refine lv_aload_n hx hb d_Ck_passOn_37 rfl (lv_at hl 2 rfl) ?_
    refine va_get (D := (dC, dI)) (ci := 1) (v := .ref k) (C := R_Fi) (T := T_Fi) (N := 5) hx hb hts uin_Fi hown hK hP 2 rfl rfl 3 (by decide) (hts _ wi_44) (fun _ h9 => h9) rfl d_Ck_passOn_38 ?_
    refine lv_iload_n hx hb d_Ck_passOn_41 rfl (lv_at hl 3 rfl) ?_
    refine fs_iald (v := fx_K L i) hx hb hK hP 6 0 rfl rfl i rfl (by decide) (by omega) ((hrep i (by omega)).2.2.2) d_Ck_passOn_42 ?_
    refine lv_iadd hx hb d_Ck_passOn_43 ?_
    have hk0 : 0 ≤ (fx_K L i).toInt := by simp only [fx_brP] at hg5; omega
    have hk1 : (fx_K L i).toInt < 40 := by simp only [fx_brP] at hg5; omega
    have hk2 := fs_clampI hk0
    have hk3 := fs_clampN hk0
    refine fs_eqi (v := nI (i + 1 + (fx_K L i).toNatClampNeg)) (by have h := nI_add (i + 1) (fx_K L i).toNatClampNeg; rw [← hk3] at h; exact h) ?_
    refine lv_iload_n hx hb d_Ck_passOn_44 rfl (lv_at hl 4 rfl) ?_
    refine fs_callv (wc := [(ck, .inr (0, [.ref st])), (st, .inl (cI, 40, .inl g))]) (wr := [(q, .inr (1, [.ref o, .ref y, .ref n, .ref k, .int (nI L.length)])), (o, .inl (cI, 40, .inl fo)), (y, .inl (cI, 40, .inl fy)), (n, .inl (cI, 40, .inl fn)), (k, .inl (cI, 40, .inl fk))]) [0, 1] [2, 3, 4, 5, 6] hP hD hK hS hA rfl rfl rfl (by decide) (fun hPc hDc => va_runV (C := R_Ck) (As := [.int (nI (i + 1 + (fx_K L i).toNatClampNeg)), .int cs]) (rest := []) ⟨hx, hb, hml, hown, hts⟩ (c_Ck_meet ck st (i + 1 + (fx_K L i).toNatClampNeg) g cs _ (by omega)) (⟨callB_of 2 hts (fs_g kin_Ck_meet) rfl rfl rfl (hts _ wi_4) (hts _ wi_204) (by decide +kernel) ⟨Nat.le_of_ble_eq_true rfl, Nat.le_of_ble_eq_true rfl⟩, hts _ wi_206, hts _ sel_Ck_meet⟩) (fs_preV (q0 := 0) rfl rfl hPc hK hDc) rfl rfl hl.1 rfl (lv_room (Nat.le_of_ble_eq_true rfl)) d_Ck_passOn_45 ⟨Nat.le_of_ble_eq_true rfl, Nat.le_of_ble_eq_true rfl⟩) rfl (fun _ H locs hp45 hP hD hS => ?_)
    have hP : va_P (dC, dI) vwCl [(ck, .inr (0, [.ref st])), (st, .inl (cI, 40, .inl (fx_mt g (i + 1 + (fx_K L i).toNatClampNeg) cs))), (q, .inr (1, [.ref o, .ref y, .ref n, .ref k, .int (nI L.length)])), (o, .inl (cI, 40, .inl fo)), (y, .inl (cI, 40, .inl fy)), (n, .inl (cI, 40, .inl fn)), (k, .inl (cI, 40, .inl fk))] H := hP.sub [5, 6, 0, 1, 2, 3, 4] rfl
    have hD : va_D A [(ck, .inr (0, [.ref st])), (st, .inl (cI, 40, .inl (fx_mt g (i + 1 + (fx_K L i).toNatClampNeg) cs))), (q, .inr (1, [.ref o, .ref y, .ref n, .ref k, .int (nI L.length)])), (o, .inl (cI, 40, .inl fo)), (y, .inl (cI, 40, .inl fy)), (n, .inl (cI, 40, .inl fn)), (k, .inl (cI, 40, .inl fk))] := hD.sub [5, 6, 0, 1, 2, 3, 4] (by decide) rfl
    refine lv_goto (tgt := 88) hx hb d_Ck_passOn_48 (by decide) ?_
    obtain ⟨hP, hD⟩ := fs_atc 1 (g := fx_ps L i g cs) (fun j hj => fx_ps_25 (by omega)) rfl rfl hP hD
    exact fs_vret hx hb hr hlocks hAe hK hS d_Ck_passOn_88 () (trivial) hP hD
  rw [nI_leI (by omega) (by omega)] at hc12
  refine lv_aload_n hx hb d_Ck_passOn_15 rfl (lv_at hl 1 rfl) ?_
  refine lv_iload_n hx hb d_Ck_passOn_16 rfl (lv_at hl 3 rfl) ?_
  refine lv_iconst (v := nI 1) hx hb d_Ck_passOn_17 (by decide) ?_
  refine lv_iadd hx hb d_Ck_passOn_18 ?_
  refine fs_eqi (nI_add _ _) ?_
  refine lv_iload_n hx hb d_Ck_passOn_19 rfl (lv_at hl 4 rfl) ?_
  refine fs_callv (wc := [(ck, .inr (0, [.ref st])), (st, .inl (cI, 40, .inl g))]) (wr := [(q, .inr (1, [.ref o, .ref y, .ref n, .ref k, .int (nI L.length)])), (o, .inl (cI, 40, .inl fo)), (y, .inl (cI, 40, .inl fy)), (n, .inl (cI, 40, .inl fn)), (k, .inl (cI, 40, .inl fk))]) [0, 1] [2, 3, 4, 5, 6] hP hD hK hS hA rfl rfl rfl (by decide) (fun hPc hDc => va_runV (C := R_Ck) (As := [.int (nI (i + 1)), .int cs]) (rest := []) ⟨hx, hb, hml, hown, hts⟩ (c_Ck_meet ck st (i + 1) g cs _ (by omega)) (⟨callB_of 2 hts (fs_g kin_Ck_meet) rfl rfl rfl (hts _ wi_4) (hts _ wi_204) (by decide +kernel) ⟨Nat.le_of_ble_eq_true rfl, Nat.le_of_ble_eq_true rfl⟩, hts _ wi_206, hts _ sel_Ck_meet⟩) (fs_preV (q0 := 0) rfl rfl hPc hK hDc) rfl rfl hl.1 rfl (lv_room (Nat.le_of_ble_eq_true rfl)) d_Ck_passOn_20 ⟨Nat.le_of_ble_eq_true rfl, Nat.le_of_ble_eq_true rfl⟩) rfl (fun _ H locs hp20 hP hD hS => ?_)
  have hP : va_P (dC, dI) vwCl [(ck, .inr (0, [.ref st])), (st, .inl (cI, 40, .inl (fx_mt g (i + 1) cs))), (q, .inr (1, [.ref o, .ref y, .ref n, .ref k, .int (nI L.length)])), (o, .inl (cI, 40, .inl fo)), (y, .inl (cI, 40, .inl fy)), (n, .inl (cI, 40, .inl fn)), (k, .inl (cI, 40, .inl fk))] H := hP.sub [5, 6, 0, 1, 2, 3, 4] rfl
  have hD : va_D A [(ck, .inr (0, [.ref st])), (st, .inl (cI, 40, .inl (fx_mt g (i + 1) cs))), (q, .inr (1, [.ref o, .ref y, .ref n, .ref k, .int (nI L.length)])), (o, .inl (cI, 40, .inl fo)), (y, .inl (cI, 40, .inl fy)), (n, .inl (cI, 40, .inl fn)), (k, .inl (cI, 40, .inl fk))] := hD.sub [5, 6, 0, 1, 2, 3, 4] (by decide) rfl
  refine lv_goto (tgt := 88) hx hb d_Ck_passOn_23 (by decide) ?_
  obtain ⟨hP, hD⟩ := fs_atc 1 (g := fx_ps L i g cs) (fun j hj => fx_ps_lt (by omega)) rfl rfl hP hD
  exact fs_vret hx hb hr hlocks hAe hK hS d_Ck_passOn_88 () (trivial) hP hD

theorem d_Ck_firstEarlyRead_0 : decode b_Ck_firstEarlyRead 0 = .ok (.aload_n 0, 1) := by decide +kernel
theorem d_Ck_firstEarlyRead_1 : decode b_Ck_firstEarlyRead 1 = .ok (.getfield 9, 3) := by decide +kernel
theorem d_Ck_firstEarlyRead_4 : decode b_Ck_firstEarlyRead 4 = .ok (.ldc 59, 2) := by decide +kernel
theorem d_Ck_firstEarlyRead_6 : decode b_Ck_firstEarlyRead 6 = .ok (.invokestatic 60, 3) := by decide +kernel
theorem d_Ck_firstEarlyRead_9 : decode b_Ck_firstEarlyRead 9 = .ok (.aload_n 0, 1) := by decide +kernel
theorem d_Ck_firstEarlyRead_10 : decode b_Ck_firstEarlyRead 10 = .ok (.getfield 9, 3) := by decide +kernel
theorem d_Ck_firstEarlyRead_13 : decode b_Ck_firstEarlyRead 13 = .ok (.iconst 0, 1) := by decide +kernel
theorem d_Ck_firstEarlyRead_14 : decode b_Ck_firstEarlyRead 14 = .ok (.iconst 0, 1) := by decide +kernel
theorem d_Ck_firstEarlyRead_15 : decode b_Ck_firstEarlyRead 15 = .ok (.iastore, 1) := by decide +kernel
theorem d_Ck_firstEarlyRead_16 : decode b_Ck_firstEarlyRead 16 = .ok (.iconst 0, 1) := by decide +kernel
theorem d_Ck_firstEarlyRead_17 : decode b_Ck_firstEarlyRead 17 = .ok (.istore_n 2, 1) := by decide +kernel
theorem d_Ck_firstEarlyRead_18 : decode b_Ck_firstEarlyRead 18 = .ok (.iload_n 2, 1) := by decide +kernel
theorem d_Ck_firstEarlyRead_19 : decode b_Ck_firstEarlyRead 19 = .ok (.aload_n 1, 1) := by decide +kernel
theorem d_Ck_firstEarlyRead_20 : decode b_Ck_firstEarlyRead 20 = .ok (.getfield 19, 3) := by decide +kernel
theorem d_Ck_firstEarlyRead_23 : decode b_Ck_firstEarlyRead 23 = .ok (.if_icmp .ge 81, 3) := by decide +kernel
theorem d_Ck_firstEarlyRead_26 : decode b_Ck_firstEarlyRead 26 = .ok (.aload_n 1, 1) := by decide +kernel
theorem d_Ck_firstEarlyRead_27 : decode b_Ck_firstEarlyRead 27 = .ok (.getfield 33, 3) := by decide +kernel
theorem d_Ck_firstEarlyRead_30 : decode b_Ck_firstEarlyRead 30 = .ok (.iload_n 2, 1) := by decide +kernel
theorem d_Ck_firstEarlyRead_31 : decode b_Ck_firstEarlyRead 31 = .ok (.iaload, 1) := by decide +kernel
theorem d_Ck_firstEarlyRead_32 : decode b_Ck_firstEarlyRead 32 = .ok (.istore_n 3, 1) := by decide +kernel
theorem d_Ck_firstEarlyRead_33 : decode b_Ck_firstEarlyRead 33 = .ok (.iconst 1, 1) := by decide +kernel
theorem d_Ck_firstEarlyRead_34 : decode b_Ck_firstEarlyRead 34 = .ok (.aload_n 1, 1) := by decide +kernel
theorem d_Ck_firstEarlyRead_35 : decode b_Ck_firstEarlyRead 35 = .ok (.getfield 36, 3) := by decide +kernel
theorem d_Ck_firstEarlyRead_38 : decode b_Ck_firstEarlyRead 38 = .ok (.iload_n 2, 1) := by decide +kernel
theorem d_Ck_firstEarlyRead_39 : decode b_Ck_firstEarlyRead 39 = .ok (.iaload, 1) := by decide +kernel
theorem d_Ck_firstEarlyRead_40 : decode b_Ck_firstEarlyRead 40 = .ok (.bipush 15, 2) := by decide +kernel
theorem d_Ck_firstEarlyRead_42 : decode b_Ck_firstEarlyRead 42 = .ok (.iand, 1) := by decide +kernel
theorem d_Ck_firstEarlyRead_43 : decode b_Ck_firstEarlyRead 43 = .ok (.ishl, 1) := by decide +kernel
theorem d_Ck_firstEarlyRead_44 : decode b_Ck_firstEarlyRead 44 = .ok (.istore 4, 2) := by decide +kernel
theorem d_Ck_firstEarlyRead_46 : decode b_Ck_firstEarlyRead 46 = .ok (.iload_n 3, 1) := by decide +kernel
theorem d_Ck_firstEarlyRead_47 : decode b_Ck_firstEarlyRead 47 = .ok (.invokestatic 47, 3) := by decide +kernel
theorem d_Ck_firstEarlyRead_50 : decode b_Ck_firstEarlyRead 50 = .ok (.ifCond .eq 17, 3) := by decide +kernel
theorem d_Ck_firstEarlyRead_53 : decode b_Ck_firstEarlyRead 53 = .ok (.aload_n 0, 1) := by decide +kernel
theorem d_Ck_firstEarlyRead_54 : decode b_Ck_firstEarlyRead 54 = .ok (.getfield 9, 3) := by decide +kernel
theorem d_Ck_firstEarlyRead_57 : decode b_Ck_firstEarlyRead 57 = .ok (.iload_n 2, 1) := by decide +kernel
theorem d_Ck_firstEarlyRead_58 : decode b_Ck_firstEarlyRead 58 = .ok (.iaload, 1) := by decide +kernel
theorem d_Ck_firstEarlyRead_59 : decode b_Ck_firstEarlyRead 59 = .ok (.iload 4, 2) := by decide +kernel
theorem d_Ck_firstEarlyRead_61 : decode b_Ck_firstEarlyRead 61 = .ok (.iand, 1) := by decide +kernel
theorem d_Ck_firstEarlyRead_62 : decode b_Ck_firstEarlyRead 62 = .ok (.ifCond .ne 5, 3) := by decide +kernel
theorem d_Ck_firstEarlyRead_65 : decode b_Ck_firstEarlyRead 65 = .ok (.iload_n 2, 1) := by decide +kernel
theorem d_Ck_firstEarlyRead_66 : decode b_Ck_firstEarlyRead 66 = .ok (.ireturn, 1) := by decide +kernel
theorem d_Ck_firstEarlyRead_67 : decode b_Ck_firstEarlyRead 67 = .ok (.aload_n 0, 1) := by decide +kernel
theorem d_Ck_firstEarlyRead_68 : decode b_Ck_firstEarlyRead 68 = .ok (.aload_n 1, 1) := by decide +kernel
theorem d_Ck_firstEarlyRead_69 : decode b_Ck_firstEarlyRead 69 = .ok (.iload_n 2, 1) := by decide +kernel
theorem d_Ck_firstEarlyRead_70 : decode b_Ck_firstEarlyRead 70 = .ok (.iload_n 3, 1) := by decide +kernel
theorem d_Ck_firstEarlyRead_71 : decode b_Ck_firstEarlyRead 71 = .ok (.invokestatic 50, 3) := by decide +kernel
theorem d_Ck_firstEarlyRead_74 : decode b_Ck_firstEarlyRead 74 = .ok (.ifCond .eq 15, 3) := by decide +kernel
theorem d_Ck_firstEarlyRead_77 : decode b_Ck_firstEarlyRead 77 = .ok (.aload_n 0, 1) := by decide +kernel
theorem d_Ck_firstEarlyRead_78 : decode b_Ck_firstEarlyRead 78 = .ok (.getfield 9, 3) := by decide +kernel
theorem d_Ck_firstEarlyRead_81 : decode b_Ck_firstEarlyRead 81 = .ok (.iload_n 2, 1) := by decide +kernel
theorem d_Ck_firstEarlyRead_82 : decode b_Ck_firstEarlyRead 82 = .ok (.iaload, 1) := by decide +kernel
theorem d_Ck_firstEarlyRead_83 : decode b_Ck_firstEarlyRead 83 = .ok (.iload 4, 2) := by decide +kernel
theorem d_Ck_firstEarlyRead_85 : decode b_Ck_firstEarlyRead 85 = .ok (.ior, 1) := by decide +kernel
theorem d_Ck_firstEarlyRead_86 : decode b_Ck_firstEarlyRead 86 = .ok (.goto 9, 3) := by decide +kernel
theorem d_Ck_firstEarlyRead_89 : decode b_Ck_firstEarlyRead 89 = .ok (.aload_n 0, 1) := by decide +kernel
theorem d_Ck_firstEarlyRead_90 : decode b_Ck_firstEarlyRead 90 = .ok (.getfield 9, 3) := by decide +kernel
theorem d_Ck_firstEarlyRead_93 : decode b_Ck_firstEarlyRead 93 = .ok (.iload_n 2, 1) := by decide +kernel
theorem d_Ck_firstEarlyRead_94 : decode b_Ck_firstEarlyRead 94 = .ok (.iaload, 1) := by decide +kernel
theorem d_Ck_firstEarlyRead_95 : decode b_Ck_firstEarlyRead 95 = .ok (.invokevirtual 66, 3) := by decide +kernel
theorem d_Ck_firstEarlyRead_98 : decode b_Ck_firstEarlyRead 98 = .ok (.iinc 2 1, 3) := by decide +kernel
theorem d_Ck_firstEarlyRead_101 : decode b_Ck_firstEarlyRead 101 = .ok (.goto (-83), 3) := by decide +kernel
theorem d_Ck_firstEarlyRead_104 : decode b_Ck_firstEarlyRead 104 = .ok (.iconst (-1), 1) := by decide +kernel
theorem d_Ck_firstEarlyRead_105 : decode b_Ck_firstEarlyRead 105 = .ok (.ireturn, 1) := by decide +kernel
set_option maxHeartbeats 4000000 in
set_option maxRecDepth 100000 in
theorem c_Ck_firstEarlyRead (ck st : Nat) (g : Nat → Int32) (q o y n k : Nat) (fo fy fn fk : Nat → Int32) (L : fx_Prg) (sz : Nat) (hrep : fx_rep L fo fy fn fk) (hok : fx_ok L) (hgd : fx_good L) : fs_I l y_Ck_firstEarlyRead (k_Ck_firstEarlyRead :: fs_T) { frames := 2, cells := 0, slots := 0, locals := 46 } (dC, dI) vwCl (fs_tys cI cZ cJ cF) [.ref ck, .ref q] [(ck, .inr (0, [.ref st])), (st, .inl (cI, 40, .inl g)), (q, .inr (1, [.ref o, .ref y, .ref n, .ref k, .int (nI L.length)])), (o, .inl (cI, 40, .inl fo)), (y, .inl (cI, 40, .inl fy)), (n, .inl (cI, 40, .inl fn)), (k, .inl (cI, 40, .inl fk))] sz (S := Nat → Int32) (fun r _ => (fx_fst (fx_early L) L.length = none ∧ r = (-1)) ∨ ∃ i, fx_fst (fx_early L) L.length = some i ∧ r = nI i) (fun u => [(ck, .inr (0, [.ref st])), (st, .inl (cI, 40, .inl u)), (q, .inr (1, [.ref o, .ref y, .ref n, .ref k, .int (nI L.length)])), (o, .inl (cI, 40, .inl fo)), (y, .inl (cI, 40, .inl fy)), (n, .inl (cI, 40, .inl fn)), (k, .inl (cI, 40, .inl fk))]) 0 0 := by
  refine fs_head (by decide) (Nat.le_of_ble_eq_true rfl) ?_
  intro p e s m below meth c A ls hx hb hr hts hown hlocks hin hml hK hP hD hS hA hAe hsz hl
  have hl : lv_has ls 5 [(0, .ref ck), (1, .ref q)] := hl
  have hown : s.vm.findClass R_Ck = some m.cls := hown
  have hlen := hok.1
  refine lv_aload_n hx hb d_Ck_firstEarlyRead_0 rfl (lv_at hl 0 rfl) ?_
  refine va_get (D := (dC, dI)) (ci := 0) (v := .ref st) (C := R_Ck) (T := T_Ck) (N := 1) hx hb hts uin_Ck hown hK hP 0 rfl rfl 0 (by decide) (hts _ wi_90) (fun _ h9 => h9) rfl d_Ck_firstEarlyRead_1 ?_
  refine lv_ldc (v := nI 65535) hx hb hown (hts _ wi_190) d_Ck_firstEarlyRead_4 ?_
  refine fs_callv (wc := [(st, .inl (cI, 40, .inl g))]) (wr := [(ck, .inr (0, [.ref st])), (q, .inr (1, [.ref o, .ref y, .ref n, .ref k, .int (nI L.length)])), (o, .inl (cI, 40, .inl fo)), (y, .inl (cI, 40, .inl fy)), (n, .inl (cI, 40, .inl fn)), (k, .inl (cI, 40, .inl fk))]) [1] [0, 2, 3, 4, 5, 6] hP hD hK hS hA rfl rfl rfl (by decide) (fun hPc hDc => va_runS (As := [.ref st, .int (nI 65535)]) (rest := []) ⟨hx, hb, hml, hown, hts⟩ (c_Ar_fill st 40 g (nI 65535) _ (by decide)) (⟨callB_of 2 hts (fs_g kin_Ar_fill) rfl rfl rfl (hts _ wi_7) (hts _ wi_191) (by decide +kernel) ⟨Nat.le_of_ble_eq_true rfl, Nat.le_of_ble_eq_true rfl⟩, hts _ wi_192⟩) (fs_preS hPc hK hDc) rfl rfl hl.1 rfl (lv_room (Nat.le_of_ble_eq_true rfl)) d_Ck_firstEarlyRead_6 ⟨Nat.le_of_ble_eq_true rfl, Nat.le_of_ble_eq_true rfl⟩) rfl (fun _ H locs hp6 hP hD hS => ?_)
  have hP : va_P (dC, dI) vwCl [(ck, .inr (0, [.ref st])), (st, .inl (cI, 40, .inl (fun _ => nI 65535))), (q, .inr (1, [.ref o, .ref y, .ref n, .ref k, .int (nI L.length)])), (o, .inl (cI, 40, .inl fo)), (y, .inl (cI, 40, .inl fy)), (n, .inl (cI, 40, .inl fn)), (k, .inl (cI, 40, .inl fk))] H := hP.sub [0, 6, 1, 2, 3, 4, 5] rfl
  have hD : va_D A [(ck, .inr (0, [.ref st])), (st, .inl (cI, 40, .inl (fun _ => nI 65535))), (q, .inr (1, [.ref o, .ref y, .ref n, .ref k, .int (nI L.length)])), (o, .inl (cI, 40, .inl fo)), (y, .inl (cI, 40, .inl fy)), (n, .inl (cI, 40, .inl fn)), (k, .inl (cI, 40, .inl fk))] := hD.sub [0, 6, 1, 2, 3, 4, 5] (by decide) rfl
  refine lv_aload_n hx hb d_Ck_firstEarlyRead_9 rfl (lv_at hl 0 rfl) ?_
  refine va_get (D := (dC, dI)) (ci := 0) (v := .ref st) (C := R_Ck) (T := T_Ck) (N := 1) hx hb hts uin_Ck hown hK hP 0 rfl rfl 0 (by decide) (hts _ wi_90) (fun _ h9 => h9) rfl d_Ck_firstEarlyRead_10 ?_
  refine lv_iconst (v := nI 0) hx hb d_Ck_firstEarlyRead_13 (by decide) ?_
  refine lv_iconst (v := nI 0) hx hb d_Ck_firstEarlyRead_14 (by decide) ?_
  refine fs_iast hx hb hK hP hD hS 1 0 rfl rfl 0 rfl (by decide) (by omega) d_Ck_firstEarlyRead_15 (fun H locs hP hD hS => ?_)
  have hP : va_P (dC, dI) vwCl [(ck, .inr (0, [.ref st])), (st, .inl (cI, 40, .inl (upd (fun _ => nI 65535) 0 (nI 0)))), (q, .inr (1, [.ref o, .ref y, .ref n, .ref k, .int (nI L.length)])), (o, .inl (cI, 40, .inl fo)), (y, .inl (cI, 40, .inl fy)), (n, .inl (cI, 40, .inl fn)), (k, .inl (cI, 40, .inl fk))] H := hP
  have hD : va_D A [(ck, .inr (0, [.ref st])), (st, .inl (cI, 40, .inl (upd (fun _ => nI 65535) 0 (nI 0)))), (q, .inr (1, [.ref o, .ref y, .ref n, .ref k, .int (nI L.length)])), (o, .inl (cI, 40, .inl fo)), (y, .inl (cI, 40, .inl fy)), (n, .inl (cI, 40, .inl fn)), (k, .inl (cI, 40, .inl fk))] := hD
  refine lv_iconst (v := nI 0) hx hb d_Ck_firstEarlyRead_16 (by decide) ?_
  refine lv_istore_n hx hb d_Ck_firstEarlyRead_17 rfl hl (by decide) (lv' := [(2, .int (nI 0)), (0, .ref ck), (1, .ref q)]) rfl (fun ls hl => ?_)
  refine fs_loop2 (α1 := Nat) (α2 := Nat → Int32) (fun i g => L.length - i) (fun i g H locs ls => (i ≤ L.length) ∧ (fx_bits L i g) ∧ (∀ j, j < i → fx_early L j = false) ∧ va_P (dC, dI) vwCl [(ck, .inr (0, [.ref st])), (st, .inl (cI, 40, .inl g)), (q, .inr (1, [.ref o, .ref y, .ref n, .ref k, .int (nI L.length)])), (o, .inl (cI, 40, .inl fo)), (y, .inl (cI, 40, .inl fy)), (n, .inl (cI, 40, .inl fn)), (k, .inl (cI, 40, .inl fk))] H ∧ va_D A [(ck, .inr (0, [.ref st])), (st, .inl (cI, 40, .inl g)), (q, .inr (1, [.ref o, .ref y, .ref n, .ref k, .int (nI L.length)])), (o, .inl (cI, 40, .inl fo)), (y, .inl (cI, 40, .inl fy)), (n, .inl (cI, 40, .inl fn)), (k, .inl (cI, 40, .inl fk))] ∧ va_S A s.heap H locs ∧ lv_has ls 5 [(0, .ref ck), (1, .ref q), (2, .int (nI i))]) ?_ 0 (upd (fun _ => nI 65535) 0 (nI 0)) ⟨by omega, fx_bits0 L, fun j hj => absurd hj (by omega), hP, hD, hS, lv_sub hl [1, 2, 0] rfl⟩
  intro i g H locs ls hI ih18
  obtain ⟨hi, hbits, hno, hP, hD, hS, hl⟩ := hI
  refine lv_iload_n hx hb d_Ck_firstEarlyRead_18 rfl (lv_at hl 2 rfl) ?_
  refine lv_aload_n hx hb d_Ck_firstEarlyRead_19 rfl (lv_at hl 1 rfl) ?_
  refine va_get (D := (dC, dI)) (ci := 1) (v := .int (nI L.length)) (C := R_Fi) (T := T_Fi) (N := 5) hx hb hts uin_Fi hown hK hP 2 rfl rfl 4 (by decide) (hts _ wi_48) (fun _ h9 => h9) rfl d_Ck_firstEarlyRead_20 ?_
  refine lv_icmp_ge (tgt := 104) hx hb d_Ck_firstEarlyRead_23 (by decide) (fun hc23 => ?_) (fun hc23 => ?_)
  · rw [nI_leI (by omega) (by omega)] at hc23
    refine lv_iconst (v := (-1)) hx hb d_Ck_firstEarlyRead_104 (by decide) ?_
    exact fs_iret hx hb hr hlocks hAe hK hS d_Ck_firstEarlyRead_105 g (Or.inl ⟨fx_fst_none (fun j hj => hno j (by omega)), rfl⟩) hP hD
  rw [nI_leI (by omega) (by omega)] at hc23
  have hi2 : i < L.length := by omega
  have hO := (hok.2 i hi2).1
  refine lv_aload_n hx hb d_Ck_firstEarlyRead_26 rfl (lv_at hl 1 rfl) ?_
  refine va_get (D := (dC, dI)) (ci := 1) (v := .ref o) (C := R_Fi) (T := T_Fi) (N := 5) hx hb hts uin_Fi hown hK hP 2 rfl rfl 0 (by decide) (hts _ wi_32) (fun _ h9 => h9) rfl d_Ck_firstEarlyRead_27 ?_
  refine lv_iload_n hx hb d_Ck_firstEarlyRead_30 rfl (lv_at hl 2 rfl) ?_
  refine fs_iald (v := nI (fx_O L i)) hx hb hK hP 3 0 rfl rfl i rfl (by decide) (by omega) ((hrep i (by omega)).1) d_Ck_firstEarlyRead_31 ?_
  refine lv_istore_n hx hb d_Ck_firstEarlyRead_32 rfl hl (by decide) (lv' := [(3, .int (nI (fx_O L i))), (0, .ref ck), (1, .ref q), (2, .int (nI i))]) rfl (fun ls hl => ?_)
  refine lv_iconst (v := nI 1) hx hb d_Ck_firstEarlyRead_33 (by decide) ?_
  refine lv_aload_n hx hb d_Ck_firstEarlyRead_34 rfl (lv_at hl 2 rfl) ?_
  refine va_get (D := (dC, dI)) (ci := 1) (v := .ref k) (C := R_Fi) (T := T_Fi) (N := 5) hx hb hts uin_Fi hown hK hP 2 rfl rfl 3 (by decide) (hts _ wi_44) (fun _ h9 => h9) rfl d_Ck_firstEarlyRead_35 ?_
  refine lv_iload_n hx hb d_Ck_firstEarlyRead_38 rfl (lv_at hl 3 rfl) ?_
  refine fs_iald (v := fx_K L i) hx hb hK hP 6 0 rfl rfl i rfl (by decide) (by omega) ((hrep i (by omega)).2.2.2) d_Ck_firstEarlyRead_39 ?_
  refine lv_bipush (v := nI 15) hx hb d_Ck_firstEarlyRead_40 (by decide) ?_
  refine lv_iand hx hb d_Ck_firstEarlyRead_42 ?_
  refine lv_ishl hx hb d_Ck_firstEarlyRead_43 ?_
  refine fs_eqi (v := fx_cell (fx_K L i)) rfl ?_
  refine lv_istore hx hb d_Ck_firstEarlyRead_44 hl (by decide) (lv' := [(4, .int (fx_cell (fx_K L i))), (3, .int (nI (fx_O L i))), (0, .ref ck), (1, .ref q), (2, .int (nI i))]) rfl (fun ls hl => ?_)
  refine lv_iload_n hx hb d_Ck_firstEarlyRead_46 rfl (lv_at hl 1 rfl) ?_
  refine fs_calli (wc := []) (wr := [(ck, .inr (0, [.ref st])), (st, .inl (cI, 40, .inl g)), (q, .inr (1, [.ref o, .ref y, .ref n, .ref k, .int (nI L.length)])), (o, .inl (cI, 40, .inl fo)), (y, .inl (cI, 40, .inl fy)), (n, .inl (cI, 40, .inl fn)), (k, .inl (cI, 40, .inl fk))]) [] [0, 1, 2, 3, 4, 5, 6] hP hD hK hS hA rfl rfl rfl (by decide) (fun hPc hDc => va_runS (As := [.int (nI (fx_O L i))]) (rest := []) ⟨hx, hb, hml, hown, hts⟩ (c_Ck_readsCell (fx_O L i) _ (by omega)) (⟨callB_of 1 hts (fs_g kin_Ck_readsCell) rfl rfl rfl (hts _ wi_4) (hts _ wi_194) (by decide +kernel) ⟨Nat.le_of_ble_eq_true rfl, Nat.le_of_ble_eq_true rfl⟩, hts _ wi_195⟩) (fs_preS hPc hK hDc) rfl rfl hl.1 rfl (lv_room (Nat.le_of_ble_eq_true rfl)) d_Ck_firstEarlyRead_47 ⟨Nat.le_of_ble_eq_true rfl, Nat.le_of_ble_eq_true rfl⟩) rfl (fun r47 _ H locs hp47 hP hD hS => ?_)
  have hP : va_P (dC, dI) vwCl [(ck, .inr (0, [.ref st])), (st, .inl (cI, 40, .inl g)), (q, .inr (1, [.ref o, .ref y, .ref n, .ref k, .int (nI L.length)])), (o, .inl (cI, 40, .inl fo)), (y, .inl (cI, 40, .inl fy)), (n, .inl (cI, 40, .inl fn)), (k, .inl (cI, 40, .inl fk))] H := hP
  have hD : va_D A [(ck, .inr (0, [.ref st])), (st, .inl (cI, 40, .inl g)), (q, .inr (1, [.ref o, .ref y, .ref n, .ref k, .int (nI L.length)])), (o, .inl (cI, 40, .inl fo)), (y, .inl (cI, 40, .inl fy)), (n, .inl (cI, 40, .inl fn)), (k, .inl (cI, 40, .inl fk))] := hD
  rcases hp47 with ⟨hc47, rfl⟩ | ⟨hc47, rfl⟩
  · refine lv_if_eq (tgt := 67) hx hb d_Ck_firstEarlyRead_50 (by decide) (fun hc => absurd hc (by decide)) (fun _ => ?_)
    refine lv_aload_n hx hb d_Ck_firstEarlyRead_53 rfl (lv_at hl 2 rfl) ?_
    refine va_get (D := (dC, dI)) (ci := 0) (v := .ref st) (C := R_Ck) (T := T_Ck) (N := 1) hx hb hts uin_Ck hown hK hP 0 rfl rfl 0 (by decide) (hts _ wi_90) (fun _ h9 => h9) rfl d_Ck_firstEarlyRead_54 ?_
    refine lv_iload_n hx hb d_Ck_firstEarlyRead_57 rfl (lv_at hl 4 rfl) ?_
    refine fs_iald (v := g i) hx hb hK hP 1 0 rfl rfl i rfl (by decide) (by omega) rfl d_Ck_firstEarlyRead_58 ?_
    refine lv_iload hx hb d_Ck_firstEarlyRead_59 (lv_at hl 0 rfl) ?_
    refine lv_iand hx hb d_Ck_firstEarlyRead_61 ?_
    refine lv_if_ne (tgt := 67) hx hb d_Ck_firstEarlyRead_62 (by decide) (fun hc62 => ?_) (fun hc62 => ?_)
    · have hK9 : ∃ b, b < 16 ∧ fx_K L i = nI b := fs_of (by decide) (by have := hgd 2 (by decide) (by decide) i hi2; simp only [fx_brP] at this; omega) (by have := hgd 2 (by decide) (by decide) i hi2; simp only [fx_brP] at this; omega)
      obtain ⟨b, hb16, hKb⟩ := hK9
      have hE : fx_early L i = false := by unfold fx_early; rw [hKb, fx_cell_and hb16, hbits i (by omega) b hb16] at hc62; rw [hKb]; revert hc62; cases fx_cm L (nI b) i i <;> simp
      refine lv_aload_n hx hb d_Ck_firstEarlyRead_67 rfl (lv_at hl 2 rfl) ?_
      refine lv_aload_n hx hb d_Ck_firstEarlyRead_68 rfl (lv_at hl 3 rfl) ?_
      refine lv_iload_n hx hb d_Ck_firstEarlyRead_69 rfl (lv_at hl 4 rfl) ?_
      refine lv_iload_n hx hb d_Ck_firstEarlyRead_70 rfl (lv_at hl 1 rfl) ?_
      refine fs_calli (wc := []) (wr := [(ck, .inr (0, [.ref st])), (st, .inl (cI, 40, .inl g)), (q, .inr (1, [.ref o, .ref y, .ref n, .ref k, .int (nI L.length)])), (o, .inl (cI, 40, .inl fo)), (y, .inl (cI, 40, .inl fy)), (n, .inl (cI, 40, .inl fn)), (k, .inl (cI, 40, .inl fk))]) [] [0, 1, 2, 3, 4, 5, 6] hP hD hK hS hA rfl rfl rfl (by decide) (fun hPc hDc => va_runS (As := [.int (nI (fx_O L i))]) (rest := [.int (nI i), .ref q, .ref ck]) ⟨hx, hb, hml, hown, hts⟩ (c_Ck_storesCell (fx_O L i) _ (by omega)) (⟨callB_of 1 hts (fs_g kin_Ck_storesCell) rfl rfl rfl (hts _ wi_4) (hts _ wi_197) (by decide +kernel) ⟨Nat.le_of_ble_eq_true rfl, Nat.le_of_ble_eq_true rfl⟩, hts _ wi_198⟩) (fs_preS hPc hK hDc) rfl rfl hl.1 rfl (lv_room (Nat.le_of_ble_eq_true rfl)) d_Ck_firstEarlyRead_71 ⟨Nat.le_of_ble_eq_true rfl, Nat.le_of_ble_eq_true rfl⟩) rfl (fun r71 _ H locs hp71 hP hD hS => ?_)
      have hP : va_P (dC, dI) vwCl [(ck, .inr (0, [.ref st])), (st, .inl (cI, 40, .inl g)), (q, .inr (1, [.ref o, .ref y, .ref n, .ref k, .int (nI L.length)])), (o, .inl (cI, 40, .inl fo)), (y, .inl (cI, 40, .inl fy)), (n, .inl (cI, 40, .inl fn)), (k, .inl (cI, 40, .inl fk))] H := hP
      have hD : va_D A [(ck, .inr (0, [.ref st])), (st, .inl (cI, 40, .inl g)), (q, .inr (1, [.ref o, .ref y, .ref n, .ref k, .int (nI L.length)])), (o, .inl (cI, 40, .inl fo)), (y, .inl (cI, 40, .inl fy)), (n, .inl (cI, 40, .inl fn)), (k, .inl (cI, 40, .inl fk))] := hD
      rcases hp71 with ⟨hc71, rfl⟩ | ⟨hc71, rfl⟩
      · refine lv_if_eq (tgt := 89) hx hb d_Ck_firstEarlyRead_74 (by decide) (fun hc => absurd hc (by decide)) (fun _ => ?_)
        refine lv_aload_n hx hb d_Ck_firstEarlyRead_77 rfl (lv_at hl 2 rfl) ?_
        refine va_get (D := (dC, dI)) (ci := 0) (v := .ref st) (C := R_Ck) (T := T_Ck) (N := 1) hx hb hts uin_Ck hown hK hP 0 rfl rfl 0 (by decide) (hts _ wi_90) (fun _ h9 => h9) rfl d_Ck_firstEarlyRead_78 ?_
        refine lv_iload_n hx hb d_Ck_firstEarlyRead_81 rfl (lv_at hl 4 rfl) ?_
        refine fs_iald (v := g i) hx hb hK hP 1 0 rfl rfl i rfl (by decide) (by omega) rfl d_Ck_firstEarlyRead_82 ?_
        refine lv_iload hx hb d_Ck_firstEarlyRead_83 (lv_at hl 0 rfl) ?_
        refine lv_ior hx hb d_Ck_firstEarlyRead_85 ?_
        refine lv_goto (tgt := 95) hx hb d_Ck_firstEarlyRead_86 (by decide) ?_
        refine fs_callv (wc := [(ck, .inr (0, [.ref st])), (st, .inl (cI, 40, .inl g)), (q, .inr (1, [.ref o, .ref y, .ref n, .ref k, .int (nI L.length)])), (o, .inl (cI, 40, .inl fo)), (y, .inl (cI, 40, .inl fy)), (n, .inl (cI, 40, .inl fn)), (k, .inl (cI, 40, .inl fk))]) (wr := []) [0, 1, 2, 3, 4, 5, 6] [] hP hD hK hS hA rfl rfl rfl (by decide) (fun hPc hDc => va_runV (C := R_Ck) (As := [.ref q, .int (nI i), .int ((g i) ||| (fx_cell (fx_K L i)))]) (rest := []) ⟨hx, hb, hml, hown, hts⟩ (c_Ck_passOn ck st g q o y n k fo fy fn fk L i ((g i) ||| (fx_cell (fx_K L i))) _ hrep hok hi2 (hgd 5 (by decide) (by decide) i hi2)) (⟨callB_of 3 hts (fs_g kin_Ck_passOn) rfl rfl rfl (hts _ wi_4) (hts _ wi_200) (by decide +kernel) ⟨Nat.le_of_ble_eq_true rfl, Nat.le_of_ble_eq_true rfl⟩, hts _ wi_202, hts _ sel_Ck_passOn⟩) (fs_preV (q0 := 0) rfl rfl hPc hK hDc) rfl rfl hl.1 rfl (lv_room (Nat.le_of_ble_eq_true rfl)) d_Ck_firstEarlyRead_95 ⟨Nat.le_of_ble_eq_true rfl, Nat.le_of_ble_eq_true rfl⟩) rfl (fun _ H locs hp95 hP hD hS => ?_)
        have hP : va_P (dC, dI) vwCl [(ck, .inr (0, [.ref st])), (st, .inl (cI, 40, .inl (fx_ps L i g ((g i) ||| (fx_cell (fx_K L i)))))), (q, .inr (1, [.ref o, .ref y, .ref n, .ref k, .int (nI L.length)])), (o, .inl (cI, 40, .inl fo)), (y, .inl (cI, 40, .inl fy)), (n, .inl (cI, 40, .inl fn)), (k, .inl (cI, 40, .inl fk))] H := hP
        have hD : va_D A [(ck, .inr (0, [.ref st])), (st, .inl (cI, 40, .inl (fx_ps L i g ((g i) ||| (fx_cell (fx_K L i)))))), (q, .inr (1, [.ref o, .ref y, .ref n, .ref k, .int (nI L.length)])), (o, .inl (cI, 40, .inl fo)), (y, .inl (cI, 40, .inl fy)), (n, .inl (cI, 40, .inl fn)), (k, .inl (cI, 40, .inl fk))] := hD
        refine lv_iinc (v := nI (i + 1)) (k := 4) hx hb d_Ck_firstEarlyRead_98 hl rfl (fs_incN i 1) (by decide) (lv' := [(2, .int (nI (i + 1))), (4, .int (fx_cell (fx_K L i))), (3, .int (nI (fx_O L i))), (0, .ref ck), (1, .ref q)]) rfl (fun ls hl => ?_)
        refine lv_goto (tgt := 18) hx hb d_Ck_firstEarlyRead_101 (by decide) ?_
        exact ih18 (i + 1) (fx_ps L i g ((g i) ||| (fx_cell (fx_K L i)))) _ _ _ (by omega) ⟨by omega, by obtain ⟨b, hb16, hKb⟩ := ((fs_of (by decide) (by have := hgd 2 (by decide) (by decide) i hi2; simp only [fx_brP] at this; omega) (by have := hgd 2 (by decide) (by decide) i hi2; simp only [fx_brP] at this; omega) : ∃ b, b < 16 ∧ fx_K L i = nI b)); exact fx_bits_st hbits (by omega) hc71 hb16 hKb, fun j hj => by rcases Nat.lt_succ_iff_lt_or_eq.mp hj with h | h; exact hno j h; rw [h]; exact hE, hP, hD, hS, lv_sub hl [3, 4, 0] rfl⟩
      refine lv_if_eq (tgt := 89) hx hb d_Ck_firstEarlyRead_74 (by decide) (fun _ => ?_) (fun hc => absurd (by decide) hc)
      refine lv_aload_n hx hb d_Ck_firstEarlyRead_89 rfl (lv_at hl 2 rfl) ?_
      refine va_get (D := (dC, dI)) (ci := 0) (v := .ref st) (C := R_Ck) (T := T_Ck) (N := 1) hx hb hts uin_Ck hown hK hP 0 rfl rfl 0 (by decide) (hts _ wi_90) (fun _ h9 => h9) rfl d_Ck_firstEarlyRead_90 ?_
      refine lv_iload_n hx hb d_Ck_firstEarlyRead_93 rfl (lv_at hl 4 rfl) ?_
      refine fs_iald (v := g i) hx hb hK hP 1 0 rfl rfl i rfl (by decide) (by omega) rfl d_Ck_firstEarlyRead_94 ?_
      refine fs_callv (wc := [(ck, .inr (0, [.ref st])), (st, .inl (cI, 40, .inl g)), (q, .inr (1, [.ref o, .ref y, .ref n, .ref k, .int (nI L.length)])), (o, .inl (cI, 40, .inl fo)), (y, .inl (cI, 40, .inl fy)), (n, .inl (cI, 40, .inl fn)), (k, .inl (cI, 40, .inl fk))]) (wr := []) [0, 1, 2, 3, 4, 5, 6] [] hP hD hK hS hA rfl rfl rfl (by decide) (fun hPc hDc => va_runV (C := R_Ck) (As := [.ref q, .int (nI i), .int (g i)]) (rest := []) ⟨hx, hb, hml, hown, hts⟩ (c_Ck_passOn ck st g q o y n k fo fy fn fk L i (g i) _ hrep hok hi2 (hgd 5 (by decide) (by decide) i hi2)) (⟨callB_of 3 hts (fs_g kin_Ck_passOn) rfl rfl rfl (hts _ wi_4) (hts _ wi_200) (by decide +kernel) ⟨Nat.le_of_ble_eq_true rfl, Nat.le_of_ble_eq_true rfl⟩, hts _ wi_202, hts _ sel_Ck_passOn⟩) (fs_preV (q0 := 0) rfl rfl hPc hK hDc) rfl rfl hl.1 rfl (lv_room (Nat.le_of_ble_eq_true rfl)) d_Ck_firstEarlyRead_95 ⟨Nat.le_of_ble_eq_true rfl, Nat.le_of_ble_eq_true rfl⟩) rfl (fun _ H locs hp95 hP hD hS => ?_)
      have hP : va_P (dC, dI) vwCl [(ck, .inr (0, [.ref st])), (st, .inl (cI, 40, .inl (fx_ps L i g (g i)))), (q, .inr (1, [.ref o, .ref y, .ref n, .ref k, .int (nI L.length)])), (o, .inl (cI, 40, .inl fo)), (y, .inl (cI, 40, .inl fy)), (n, .inl (cI, 40, .inl fn)), (k, .inl (cI, 40, .inl fk))] H := hP
      have hD : va_D A [(ck, .inr (0, [.ref st])), (st, .inl (cI, 40, .inl (fx_ps L i g (g i)))), (q, .inr (1, [.ref o, .ref y, .ref n, .ref k, .int (nI L.length)])), (o, .inl (cI, 40, .inl fo)), (y, .inl (cI, 40, .inl fy)), (n, .inl (cI, 40, .inl fn)), (k, .inl (cI, 40, .inl fk))] := hD
      refine lv_iinc (v := nI (i + 1)) (k := 4) hx hb d_Ck_firstEarlyRead_98 hl rfl (fs_incN i 1) (by decide) (lv' := [(2, .int (nI (i + 1))), (4, .int (fx_cell (fx_K L i))), (3, .int (nI (fx_O L i))), (0, .ref ck), (1, .ref q)]) rfl (fun ls hl => ?_)
      refine lv_goto (tgt := 18) hx hb d_Ck_firstEarlyRead_101 (by decide) ?_
      exact ih18 (i + 1) (fx_ps L i g (g i)) _ _ _ (by omega) ⟨by omega, fx_bits_no hbits (by omega) hc71, fun j hj => by rcases Nat.lt_succ_iff_lt_or_eq.mp hj with h | h; exact hno j h; rw [h]; exact hE, hP, hD, hS, lv_sub hl [3, 4, 0] rfl⟩
    refine lv_iload_n hx hb d_Ck_firstEarlyRead_65 rfl (lv_at hl 4 rfl) ?_
    have hK9 : ∃ b, b < 16 ∧ fx_K L i = nI b := fs_of (by decide) (by have := hgd 2 (by decide) (by decide) i hi2; simp only [fx_brP] at this; omega) (by have := hgd 2 (by decide) (by decide) i hi2; simp only [fx_brP] at this; omega)
    obtain ⟨b, hb16, hKb⟩ := hK9
    have hE : fx_early L i = true := by unfold fx_early; rw [hKb, fx_cell_and hb16, hbits i (by omega) b hb16] at hc62; rw [hKb]; have e : (fx_O L i == 2 || fx_O L i == 5) = true := (by simp; omega); rw [e]; revert hc62; cases fx_cm L (nI b) i i <;> simp
    exact fs_iret hx hb hr hlocks hAe hK hS d_Ck_firstEarlyRead_66 g (Or.inr ⟨i, fx_fst_some hi2 hE hno, rfl⟩) hP hD
  refine lv_if_eq (tgt := 67) hx hb d_Ck_firstEarlyRead_50 (by decide) (fun _ => ?_) (fun hc => absurd (by decide) hc)
  have hE : fx_early L i = false := by unfold fx_early; have e : (fx_O L i == 2 || fx_O L i == 5) = false := (by simp; omega); rw [e]; rfl
  refine lv_aload_n hx hb d_Ck_firstEarlyRead_67 rfl (lv_at hl 2 rfl) ?_
  refine lv_aload_n hx hb d_Ck_firstEarlyRead_68 rfl (lv_at hl 3 rfl) ?_
  refine lv_iload_n hx hb d_Ck_firstEarlyRead_69 rfl (lv_at hl 4 rfl) ?_
  refine lv_iload_n hx hb d_Ck_firstEarlyRead_70 rfl (lv_at hl 1 rfl) ?_
  refine fs_calli (wc := []) (wr := [(ck, .inr (0, [.ref st])), (st, .inl (cI, 40, .inl g)), (q, .inr (1, [.ref o, .ref y, .ref n, .ref k, .int (nI L.length)])), (o, .inl (cI, 40, .inl fo)), (y, .inl (cI, 40, .inl fy)), (n, .inl (cI, 40, .inl fn)), (k, .inl (cI, 40, .inl fk))]) [] [0, 1, 2, 3, 4, 5, 6] hP hD hK hS hA rfl rfl rfl (by decide) (fun hPc hDc => va_runS (As := [.int (nI (fx_O L i))]) (rest := [.int (nI i), .ref q, .ref ck]) ⟨hx, hb, hml, hown, hts⟩ (c_Ck_storesCell (fx_O L i) _ (by omega)) (⟨callB_of 1 hts (fs_g kin_Ck_storesCell) rfl rfl rfl (hts _ wi_4) (hts _ wi_197) (by decide +kernel) ⟨Nat.le_of_ble_eq_true rfl, Nat.le_of_ble_eq_true rfl⟩, hts _ wi_198⟩) (fs_preS hPc hK hDc) rfl rfl hl.1 rfl (lv_room (Nat.le_of_ble_eq_true rfl)) d_Ck_firstEarlyRead_71 ⟨Nat.le_of_ble_eq_true rfl, Nat.le_of_ble_eq_true rfl⟩) rfl (fun r71 _ H locs hp71 hP hD hS => ?_)
  have hP : va_P (dC, dI) vwCl [(ck, .inr (0, [.ref st])), (st, .inl (cI, 40, .inl g)), (q, .inr (1, [.ref o, .ref y, .ref n, .ref k, .int (nI L.length)])), (o, .inl (cI, 40, .inl fo)), (y, .inl (cI, 40, .inl fy)), (n, .inl (cI, 40, .inl fn)), (k, .inl (cI, 40, .inl fk))] H := hP
  have hD : va_D A [(ck, .inr (0, [.ref st])), (st, .inl (cI, 40, .inl g)), (q, .inr (1, [.ref o, .ref y, .ref n, .ref k, .int (nI L.length)])), (o, .inl (cI, 40, .inl fo)), (y, .inl (cI, 40, .inl fy)), (n, .inl (cI, 40, .inl fn)), (k, .inl (cI, 40, .inl fk))] := hD
  rcases hp71 with ⟨hc71, rfl⟩ | ⟨hc71, rfl⟩
  · refine lv_if_eq (tgt := 89) hx hb d_Ck_firstEarlyRead_74 (by decide) (fun hc => absurd hc (by decide)) (fun _ => ?_)
    refine lv_aload_n hx hb d_Ck_firstEarlyRead_77 rfl (lv_at hl 2 rfl) ?_
    refine va_get (D := (dC, dI)) (ci := 0) (v := .ref st) (C := R_Ck) (T := T_Ck) (N := 1) hx hb hts uin_Ck hown hK hP 0 rfl rfl 0 (by decide) (hts _ wi_90) (fun _ h9 => h9) rfl d_Ck_firstEarlyRead_78 ?_
    refine lv_iload_n hx hb d_Ck_firstEarlyRead_81 rfl (lv_at hl 4 rfl) ?_
    refine fs_iald (v := g i) hx hb hK hP 1 0 rfl rfl i rfl (by decide) (by omega) rfl d_Ck_firstEarlyRead_82 ?_
    refine lv_iload hx hb d_Ck_firstEarlyRead_83 (lv_at hl 0 rfl) ?_
    refine lv_ior hx hb d_Ck_firstEarlyRead_85 ?_
    refine lv_goto (tgt := 95) hx hb d_Ck_firstEarlyRead_86 (by decide) ?_
    refine fs_callv (wc := [(ck, .inr (0, [.ref st])), (st, .inl (cI, 40, .inl g)), (q, .inr (1, [.ref o, .ref y, .ref n, .ref k, .int (nI L.length)])), (o, .inl (cI, 40, .inl fo)), (y, .inl (cI, 40, .inl fy)), (n, .inl (cI, 40, .inl fn)), (k, .inl (cI, 40, .inl fk))]) (wr := []) [0, 1, 2, 3, 4, 5, 6] [] hP hD hK hS hA rfl rfl rfl (by decide) (fun hPc hDc => va_runV (C := R_Ck) (As := [.ref q, .int (nI i), .int ((g i) ||| (fx_cell (fx_K L i)))]) (rest := []) ⟨hx, hb, hml, hown, hts⟩ (c_Ck_passOn ck st g q o y n k fo fy fn fk L i ((g i) ||| (fx_cell (fx_K L i))) _ hrep hok hi2 (hgd 5 (by decide) (by decide) i hi2)) (⟨callB_of 3 hts (fs_g kin_Ck_passOn) rfl rfl rfl (hts _ wi_4) (hts _ wi_200) (by decide +kernel) ⟨Nat.le_of_ble_eq_true rfl, Nat.le_of_ble_eq_true rfl⟩, hts _ wi_202, hts _ sel_Ck_passOn⟩) (fs_preV (q0 := 0) rfl rfl hPc hK hDc) rfl rfl hl.1 rfl (lv_room (Nat.le_of_ble_eq_true rfl)) d_Ck_firstEarlyRead_95 ⟨Nat.le_of_ble_eq_true rfl, Nat.le_of_ble_eq_true rfl⟩) rfl (fun _ H locs hp95 hP hD hS => ?_)
    have hP : va_P (dC, dI) vwCl [(ck, .inr (0, [.ref st])), (st, .inl (cI, 40, .inl (fx_ps L i g ((g i) ||| (fx_cell (fx_K L i)))))), (q, .inr (1, [.ref o, .ref y, .ref n, .ref k, .int (nI L.length)])), (o, .inl (cI, 40, .inl fo)), (y, .inl (cI, 40, .inl fy)), (n, .inl (cI, 40, .inl fn)), (k, .inl (cI, 40, .inl fk))] H := hP
    have hD : va_D A [(ck, .inr (0, [.ref st])), (st, .inl (cI, 40, .inl (fx_ps L i g ((g i) ||| (fx_cell (fx_K L i)))))), (q, .inr (1, [.ref o, .ref y, .ref n, .ref k, .int (nI L.length)])), (o, .inl (cI, 40, .inl fo)), (y, .inl (cI, 40, .inl fy)), (n, .inl (cI, 40, .inl fn)), (k, .inl (cI, 40, .inl fk))] := hD
    refine lv_iinc (v := nI (i + 1)) (k := 4) hx hb d_Ck_firstEarlyRead_98 hl rfl (fs_incN i 1) (by decide) (lv' := [(2, .int (nI (i + 1))), (4, .int (fx_cell (fx_K L i))), (3, .int (nI (fx_O L i))), (0, .ref ck), (1, .ref q)]) rfl (fun ls hl => ?_)
    refine lv_goto (tgt := 18) hx hb d_Ck_firstEarlyRead_101 (by decide) ?_
    exact ih18 (i + 1) (fx_ps L i g ((g i) ||| (fx_cell (fx_K L i)))) _ _ _ (by omega) ⟨by omega, by obtain ⟨b, hb16, hKb⟩ := ((fs_of (by decide) (by have := hgd 2 (by decide) (by decide) i hi2; simp only [fx_brP] at this; omega) (by have := hgd 2 (by decide) (by decide) i hi2; simp only [fx_brP] at this; omega) : ∃ b, b < 16 ∧ fx_K L i = nI b)); exact fx_bits_st hbits (by omega) hc71 hb16 hKb, fun j hj => by rcases Nat.lt_succ_iff_lt_or_eq.mp hj with h | h; exact hno j h; rw [h]; exact hE, hP, hD, hS, lv_sub hl [3, 4, 0] rfl⟩
  refine lv_if_eq (tgt := 89) hx hb d_Ck_firstEarlyRead_74 (by decide) (fun _ => ?_) (fun hc => absurd (by decide) hc)
  refine lv_aload_n hx hb d_Ck_firstEarlyRead_89 rfl (lv_at hl 2 rfl) ?_
  refine va_get (D := (dC, dI)) (ci := 0) (v := .ref st) (C := R_Ck) (T := T_Ck) (N := 1) hx hb hts uin_Ck hown hK hP 0 rfl rfl 0 (by decide) (hts _ wi_90) (fun _ h9 => h9) rfl d_Ck_firstEarlyRead_90 ?_
  refine lv_iload_n hx hb d_Ck_firstEarlyRead_93 rfl (lv_at hl 4 rfl) ?_
  refine fs_iald (v := g i) hx hb hK hP 1 0 rfl rfl i rfl (by decide) (by omega) rfl d_Ck_firstEarlyRead_94 ?_
  refine fs_callv (wc := [(ck, .inr (0, [.ref st])), (st, .inl (cI, 40, .inl g)), (q, .inr (1, [.ref o, .ref y, .ref n, .ref k, .int (nI L.length)])), (o, .inl (cI, 40, .inl fo)), (y, .inl (cI, 40, .inl fy)), (n, .inl (cI, 40, .inl fn)), (k, .inl (cI, 40, .inl fk))]) (wr := []) [0, 1, 2, 3, 4, 5, 6] [] hP hD hK hS hA rfl rfl rfl (by decide) (fun hPc hDc => va_runV (C := R_Ck) (As := [.ref q, .int (nI i), .int (g i)]) (rest := []) ⟨hx, hb, hml, hown, hts⟩ (c_Ck_passOn ck st g q o y n k fo fy fn fk L i (g i) _ hrep hok hi2 (hgd 5 (by decide) (by decide) i hi2)) (⟨callB_of 3 hts (fs_g kin_Ck_passOn) rfl rfl rfl (hts _ wi_4) (hts _ wi_200) (by decide +kernel) ⟨Nat.le_of_ble_eq_true rfl, Nat.le_of_ble_eq_true rfl⟩, hts _ wi_202, hts _ sel_Ck_passOn⟩) (fs_preV (q0 := 0) rfl rfl hPc hK hDc) rfl rfl hl.1 rfl (lv_room (Nat.le_of_ble_eq_true rfl)) d_Ck_firstEarlyRead_95 ⟨Nat.le_of_ble_eq_true rfl, Nat.le_of_ble_eq_true rfl⟩) rfl (fun _ H locs hp95 hP hD hS => ?_)
  have hP : va_P (dC, dI) vwCl [(ck, .inr (0, [.ref st])), (st, .inl (cI, 40, .inl (fx_ps L i g (g i)))), (q, .inr (1, [.ref o, .ref y, .ref n, .ref k, .int (nI L.length)])), (o, .inl (cI, 40, .inl fo)), (y, .inl (cI, 40, .inl fy)), (n, .inl (cI, 40, .inl fn)), (k, .inl (cI, 40, .inl fk))] H := hP
  have hD : va_D A [(ck, .inr (0, [.ref st])), (st, .inl (cI, 40, .inl (fx_ps L i g (g i)))), (q, .inr (1, [.ref o, .ref y, .ref n, .ref k, .int (nI L.length)])), (o, .inl (cI, 40, .inl fo)), (y, .inl (cI, 40, .inl fy)), (n, .inl (cI, 40, .inl fn)), (k, .inl (cI, 40, .inl fk))] := hD
  refine lv_iinc (v := nI (i + 1)) (k := 4) hx hb d_Ck_firstEarlyRead_98 hl rfl (fs_incN i 1) (by decide) (lv' := [(2, .int (nI (i + 1))), (4, .int (fx_cell (fx_K L i))), (3, .int (nI (fx_O L i))), (0, .ref ck), (1, .ref q)]) rfl (fun ls hl => ?_)
  refine lv_goto (tgt := 18) hx hb d_Ck_firstEarlyRead_101 (by decide) ?_
  exact ih18 (i + 1) (fx_ps L i g (g i)) _ _ _ (by omega) ⟨by omega, fx_bits_no hbits (by omega) hc71, fun j hj => by rcases Nat.lt_succ_iff_lt_or_eq.mp hj with h | h; exact hno j h; rw [h]; exact hE, hP, hD, hS, lv_sub hl [3, 4, 0] rfl⟩

theorem d_Ck_firstBreach_0 : decode b_Ck_firstBreach 0 = .ok (.iload_n 2, 1) := by decide +kernel
theorem d_Ck_firstBreach_1 : decode b_Ck_firstBreach 1 = .ok (.iconst 1, 1) := by decide +kernel
theorem d_Ck_firstBreach_2 : decode b_Ck_firstBreach 2 = .ok (.if_icmp .ne 16, 3) := by decide +kernel
theorem d_Ck_firstBreach_5 : decode b_Ck_firstBreach 5 = .ok (.aload_n 1, 1) := by decide +kernel
theorem d_Ck_firstBreach_6 : decode b_Ck_firstBreach 6 = .ok (.getfield 19, 3) := by decide +kernel
theorem d_Ck_firstBreach_9 : decode b_Ck_firstBreach 9 = .ok (.ifCond .ne 7, 3) := by decide +kernel
theorem d_Ck_firstBreach_12 : decode b_Ck_firstBreach 12 = .ok (.iconst 0, 1) := by decide +kernel
theorem d_Ck_firstBreach_13 : decode b_Ck_firstBreach 13 = .ok (.goto 4, 3) := by decide +kernel
theorem d_Ck_firstBreach_16 : decode b_Ck_firstBreach 16 = .ok (.iconst (-1), 1) := by decide +kernel
theorem d_Ck_firstBreach_17 : decode b_Ck_firstBreach 17 = .ok (.ireturn, 1) := by decide +kernel
theorem d_Ck_firstBreach_18 : decode b_Ck_firstBreach 18 = .ok (.iload_n 2, 1) := by decide +kernel
theorem d_Ck_firstBreach_19 : decode b_Ck_firstBreach 19 = .ok (.bipush 7, 2) := by decide +kernel
theorem d_Ck_firstBreach_21 : decode b_Ck_firstBreach 21 = .ok (.if_icmp .ne 9, 3) := by decide +kernel
theorem d_Ck_firstBreach_24 : decode b_Ck_firstBreach 24 = .ok (.aload_n 0, 1) := by decide +kernel
theorem d_Ck_firstBreach_25 : decode b_Ck_firstBreach 25 = .ok (.aload_n 1, 1) := by decide +kernel
theorem d_Ck_firstBreach_26 : decode b_Ck_firstBreach 26 = .ok (.invokevirtual 25, 3) := by decide +kernel
theorem d_Ck_firstBreach_29 : decode b_Ck_firstBreach 29 = .ok (.ireturn, 1) := by decide +kernel
theorem d_Ck_firstBreach_30 : decode b_Ck_firstBreach 30 = .ok (.iconst 0, 1) := by decide +kernel
theorem d_Ck_firstBreach_31 : decode b_Ck_firstBreach 31 = .ok (.istore_n 3, 1) := by decide +kernel
theorem d_Ck_firstBreach_32 : decode b_Ck_firstBreach 32 = .ok (.iload_n 3, 1) := by decide +kernel
theorem d_Ck_firstBreach_33 : decode b_Ck_firstBreach 33 = .ok (.aload_n 1, 1) := by decide +kernel
theorem d_Ck_firstBreach_34 : decode b_Ck_firstBreach 34 = .ok (.getfield 19, 3) := by decide +kernel
theorem d_Ck_firstBreach_37 : decode b_Ck_firstBreach 37 = .ok (.if_icmp .ge 20, 3) := by decide +kernel
theorem d_Ck_firstBreach_40 : decode b_Ck_firstBreach 40 = .ok (.aload_n 1, 1) := by decide +kernel
theorem d_Ck_firstBreach_41 : decode b_Ck_firstBreach 41 = .ok (.iload_n 3, 1) := by decide +kernel
theorem d_Ck_firstBreach_42 : decode b_Ck_firstBreach 42 = .ok (.iload_n 2, 1) := by decide +kernel
theorem d_Ck_firstBreach_43 : decode b_Ck_firstBreach 43 = .ok (.invokestatic 29, 3) := by decide +kernel
theorem d_Ck_firstBreach_46 : decode b_Ck_firstBreach 46 = .ok (.ifCond .eq 5, 3) := by decide +kernel
theorem d_Ck_firstBreach_49 : decode b_Ck_firstBreach 49 = .ok (.iload_n 3, 1) := by decide +kernel
theorem d_Ck_firstBreach_50 : decode b_Ck_firstBreach 50 = .ok (.ireturn, 1) := by decide +kernel
theorem d_Ck_firstBreach_51 : decode b_Ck_firstBreach 51 = .ok (.iinc 3 1, 3) := by decide +kernel
theorem d_Ck_firstBreach_54 : decode b_Ck_firstBreach 54 = .ok (.goto (-22), 3) := by decide +kernel
theorem d_Ck_firstBreach_57 : decode b_Ck_firstBreach 57 = .ok (.iconst (-1), 1) := by decide +kernel
theorem d_Ck_firstBreach_58 : decode b_Ck_firstBreach 58 = .ok (.ireturn, 1) := by decide +kernel
set_option maxHeartbeats 4000000 in
set_option maxRecDepth 100000 in
theorem c_Ck_firstBreach (ck st : Nat) (g : Nat → Int32) (q o y n k : Nat) (fo fy fn fk : Nat → Int32) (L : fx_Prg) (r : Nat) (sz : Nat) (hrep : fx_rep L fo fy fn fk) (hok : fx_ok L) (hr7 : r ≤ 7) (hg7 : r = 7 → fx_good L) : fs_I l y_Ck_firstBreach (k_Ck_firstBreach :: fs_T) { frames := 3, cells := 0, slots := 0, locals := 70 } (dC, dI) vwCl (fs_tys cI cZ cJ cF) [.ref ck, .ref q, .int (nI r)] [(ck, .inr (0, [.ref st])), (st, .inl (cI, 40, .inl g)), (q, .inr (1, [.ref o, .ref y, .ref n, .ref k, .int (nI L.length)])), (o, .inl (cI, 40, .inl fo)), (y, .inl (cI, 40, .inl fy)), (n, .inl (cI, 40, .inl fn)), (k, .inl (cI, 40, .inl fk))] sz (S := Nat → Int32) (fun z _ => (fx_at L r = none ∧ z = (-1)) ∨ ∃ i, fx_at L r = some i ∧ z = nI i) (fun u => [(ck, .inr (0, [.ref st])), (st, .inl (cI, 40, .inl u)), (q, .inr (1, [.ref o, .ref y, .ref n, .ref k, .int (nI L.length)])), (o, .inl (cI, 40, .inl fo)), (y, .inl (cI, 40, .inl fy)), (n, .inl (cI, 40, .inl fn)), (k, .inl (cI, 40, .inl fk))]) 0 0 := by
  refine fs_head (by decide) (Nat.le_of_ble_eq_true rfl) ?_
  intro p e s m below meth c A ls hx hb hr hts hown hlocks hin hml hK hP hD hS hA hAe hsz hl
  have hl : lv_has ls 4 [(0, .ref ck), (1, .ref q), (2, .int (nI r))] := hl
  have hown : s.vm.findClass R_Ck = some m.cls := hown
  have hlen := hok.1
  refine lv_iload_n hx hb d_Ck_firstBreach_0 rfl (lv_at hl 2 rfl) ?_
  refine lv_iconst (v := nI 1) hx hb d_Ck_firstBreach_1 (by decide) ?_
  refine lv_icmp_ne (tgt := 18) hx hb d_Ck_firstBreach_2 (by decide) (fun hc2 => ?_) (fun hc2 => ?_)
  · rw [nI_eq (by omega) (by omega)] at hc2
    refine lv_iload_n hx hb d_Ck_firstBreach_18 rfl (lv_at hl 2 rfl) ?_
    refine lv_bipush (v := nI 7) hx hb d_Ck_firstBreach_19 (by decide) ?_
    refine lv_icmp_ne (tgt := 30) hx hb d_Ck_firstBreach_21 (by decide) (fun hc21 => ?_) (fun hc21 => ?_)
    · rw [nI_eq (by omega) (by omega)] at hc21
      refine lv_iconst (v := nI 0) hx hb d_Ck_firstBreach_30 (by decide) ?_
      refine lv_istore_n hx hb d_Ck_firstBreach_31 rfl hl (by decide) (lv' := [(3, .int (nI 0)), (0, .ref ck), (1, .ref q), (2, .int (nI r))]) rfl (fun ls hl => ?_)
      refine fs_loop1 (α1 := Nat) (fun i => L.length - i) (fun i H locs ls => (i ≤ L.length) ∧ (∀ j, j < i → fx_br L r j = false) ∧ va_P (dC, dI) vwCl [(ck, .inr (0, [.ref st])), (st, .inl (cI, 40, .inl g)), (q, .inr (1, [.ref o, .ref y, .ref n, .ref k, .int (nI L.length)])), (o, .inl (cI, 40, .inl fo)), (y, .inl (cI, 40, .inl fy)), (n, .inl (cI, 40, .inl fn)), (k, .inl (cI, 40, .inl fk))] H ∧ va_D A [(ck, .inr (0, [.ref st])), (st, .inl (cI, 40, .inl g)), (q, .inr (1, [.ref o, .ref y, .ref n, .ref k, .int (nI L.length)])), (o, .inl (cI, 40, .inl fo)), (y, .inl (cI, 40, .inl fy)), (n, .inl (cI, 40, .inl fn)), (k, .inl (cI, 40, .inl fk))] ∧ va_S A s.heap H locs ∧ lv_has ls 4 [(0, .ref ck), (1, .ref q), (2, .int (nI r)), (3, .int (nI i))]) ?_ 0 ⟨by omega, fun j hj => absurd hj (by omega), hP, hD, hS, lv_sub hl [1, 2, 3, 0] rfl⟩
      intro i H locs ls hI ih32
      obtain ⟨hi, hno, hP, hD, hS, hl⟩ := hI
      refine lv_iload_n hx hb d_Ck_firstBreach_32 rfl (lv_at hl 3 rfl) ?_
      refine lv_aload_n hx hb d_Ck_firstBreach_33 rfl (lv_at hl 1 rfl) ?_
      refine va_get (D := (dC, dI)) (ci := 1) (v := .int (nI L.length)) (C := R_Fi) (T := T_Fi) (N := 5) hx hb hts uin_Fi hown hK hP 2 rfl rfl 4 (by decide) (hts _ wi_48) (fun _ h9 => h9) rfl d_Ck_firstBreach_34 ?_
      refine lv_icmp_ge (tgt := 57) hx hb d_Ck_firstBreach_37 (by decide) (fun hc37 => ?_) (fun hc37 => ?_)
      · rw [nI_leI (by omega) (by omega)] at hc37
        refine lv_iconst (v := (-1)) hx hb d_Ck_firstBreach_57 (by decide) ?_
        exact fs_iret hx hb hr hlocks hAe hK hS d_Ck_firstBreach_58 g (by have e : fx_at L r = fx_fst (fx_br L r) L.length := (by unfold fx_at; rw [if_neg (by omega), if_neg (by omega)]); rw [e]; exact Or.inl ⟨fx_fst_none (fun j hj => hno j (by omega)), rfl⟩) hP hD
      rw [nI_leI (by omega) (by omega)] at hc37
      refine lv_aload_n hx hb d_Ck_firstBreach_40 rfl (lv_at hl 1 rfl) ?_
      refine lv_iload_n hx hb d_Ck_firstBreach_41 rfl (lv_at hl 3 rfl) ?_
      refine lv_iload_n hx hb d_Ck_firstBreach_42 rfl (lv_at hl 2 rfl) ?_
      refine fs_calli (wc := [(q, .inr (1, [.ref o, .ref y, .ref n, .ref k, .int (nI L.length)])), (o, .inl (cI, 40, .inl fo)), (y, .inl (cI, 40, .inl fy)), (n, .inl (cI, 40, .inl fn)), (k, .inl (cI, 40, .inl fk))]) (wr := [(ck, .inr (0, [.ref st])), (st, .inl (cI, 40, .inl g))]) [2, 3, 4, 5, 6] [0, 1] hP hD hK hS hA rfl rfl rfl (by decide) (fun hPc hDc => va_runS (As := [.ref q, .int (nI i), .int (nI r)]) (rest := []) ⟨hx, hb, hml, hown, hts⟩ (c_Ck_isBreach q o y n k fo fy fn fk L i r _ hrep hok (by omega) (by omega) (by omega)) (⟨callB_of 3 hts (fs_g kin_Ck_isBreach) rfl rfl rfl (hts _ wi_4) (hts _ wi_208) (by decide +kernel) ⟨Nat.le_of_ble_eq_true rfl, Nat.le_of_ble_eq_true rfl⟩, hts _ wi_209⟩) (fs_preS hPc hK hDc) rfl rfl hl.1 rfl (lv_room (Nat.le_of_ble_eq_true rfl)) d_Ck_firstBreach_43 ⟨Nat.le_of_ble_eq_true rfl, Nat.le_of_ble_eq_true rfl⟩) rfl (fun r43 _ H locs hp43 hP hD hS => ?_)
      have hP : va_P (dC, dI) vwCl [(ck, .inr (0, [.ref st])), (st, .inl (cI, 40, .inl g)), (q, .inr (1, [.ref o, .ref y, .ref n, .ref k, .int (nI L.length)])), (o, .inl (cI, 40, .inl fo)), (y, .inl (cI, 40, .inl fy)), (n, .inl (cI, 40, .inl fn)), (k, .inl (cI, 40, .inl fk))] H := hP
      have hD : va_D A [(ck, .inr (0, [.ref st])), (st, .inl (cI, 40, .inl g)), (q, .inr (1, [.ref o, .ref y, .ref n, .ref k, .int (nI L.length)])), (o, .inl (cI, 40, .inl fo)), (y, .inl (cI, 40, .inl fy)), (n, .inl (cI, 40, .inl fn)), (k, .inl (cI, 40, .inl fk))] := hD
      rcases hp43 with ⟨hc43, rfl⟩ | ⟨hc43, rfl⟩
      · refine lv_if_eq (tgt := 51) hx hb d_Ck_firstBreach_46 (by decide) (fun hc => absurd hc (by decide)) (fun _ => ?_)
        refine lv_iload_n hx hb d_Ck_firstBreach_49 rfl (lv_at hl 3 rfl) ?_
        exact fs_iret hx hb hr hlocks hAe hK hS d_Ck_firstBreach_50 g (by have e : fx_at L r = fx_fst (fx_br L r) L.length := (by unfold fx_at; rw [if_neg (by omega), if_neg (by omega)]); rw [e]; exact Or.inr ⟨i, fx_fst_some (by omega) (fx_br_t.mpr hc43) hno, rfl⟩) hP hD
      refine lv_if_eq (tgt := 51) hx hb d_Ck_firstBreach_46 (by decide) (fun _ => ?_) (fun hc => absurd (by decide) hc)
      refine lv_iinc (v := nI (i + 1)) (k := 3) hx hb d_Ck_firstBreach_51 hl rfl (fs_incN i 1) (by decide) (lv' := [(3, .int (nI (i + 1))), (0, .ref ck), (1, .ref q), (2, .int (nI r))]) rfl (fun ls hl => ?_)
      refine lv_goto (tgt := 32) hx hb d_Ck_firstBreach_54 (by decide) ?_
      exact ih32 (i + 1) _ _ _ (by omega) ⟨by omega, fun j hj => by rcases Nat.lt_succ_iff_lt_or_eq.mp hj with h | h; exact hno j h; rw [h]; exact fx_br_f.mpr hc43, hP, hD, hS, lv_sub hl [1, 2, 3, 0] rfl⟩
    rw [nI_eq (by omega) (by omega)] at hc21
    refine lv_aload_n hx hb d_Ck_firstBreach_24 rfl (lv_at hl 0 rfl) ?_
    refine lv_aload_n hx hb d_Ck_firstBreach_25 rfl (lv_at hl 1 rfl) ?_
    refine fs_calli (wc := [(ck, .inr (0, [.ref st])), (st, .inl (cI, 40, .inl g)), (q, .inr (1, [.ref o, .ref y, .ref n, .ref k, .int (nI L.length)])), (o, .inl (cI, 40, .inl fo)), (y, .inl (cI, 40, .inl fy)), (n, .inl (cI, 40, .inl fn)), (k, .inl (cI, 40, .inl fk))]) (wr := []) [0, 1, 2, 3, 4, 5, 6] [] hP hD hK hS hA rfl rfl rfl (by decide) (fun hPc hDc => va_runV (C := R_Ck) (As := [.ref q]) (rest := []) ⟨hx, hb, hml, hown, hts⟩ (c_Ck_firstEarlyRead ck st g q o y n k fo fy fn fk L _ hrep hok (hg7 (by omega))) (⟨callB_of 1 hts (fs_g kin_Ck_firstEarlyRead) rfl rfl rfl (hts _ wi_4) (hts _ wi_186) (by decide +kernel) ⟨Nat.le_of_ble_eq_true rfl, Nat.le_of_ble_eq_true rfl⟩, hts _ wi_188, hts _ sel_Ck_firstEarlyRead⟩) (fs_preV (q0 := 0) rfl rfl hPc hK hDc) rfl rfl hl.1 rfl (lv_room (Nat.le_of_ble_eq_true rfl)) d_Ck_firstBreach_26 ⟨Nat.le_of_ble_eq_true rfl, Nat.le_of_ble_eq_true rfl⟩) rfl (fun r26 u H locs hp26 hP hD hS => ?_)
    have hP : va_P (dC, dI) vwCl [(ck, .inr (0, [.ref st])), (st, .inl (cI, 40, .inl u)), (q, .inr (1, [.ref o, .ref y, .ref n, .ref k, .int (nI L.length)])), (o, .inl (cI, 40, .inl fo)), (y, .inl (cI, 40, .inl fy)), (n, .inl (cI, 40, .inl fn)), (k, .inl (cI, 40, .inl fk))] H := hP
    have hD : va_D A [(ck, .inr (0, [.ref st])), (st, .inl (cI, 40, .inl u)), (q, .inr (1, [.ref o, .ref y, .ref n, .ref k, .int (nI L.length)])), (o, .inl (cI, 40, .inl fo)), (y, .inl (cI, 40, .inl fy)), (n, .inl (cI, 40, .inl fn)), (k, .inl (cI, 40, .inl fk))] := hD
    exact fs_iret hx hb hr hlocks hAe hK hS d_Ck_firstBreach_29 u (by subst hc21; exact hp26) hP hD
  rw [nI_eq (by omega) (by omega)] at hc2
  refine lv_aload_n hx hb d_Ck_firstBreach_5 rfl (lv_at hl 1 rfl) ?_
  refine va_get (D := (dC, dI)) (ci := 1) (v := .int (nI L.length)) (C := R_Fi) (T := T_Fi) (N := 5) hx hb hts uin_Fi hown hK hP 2 rfl rfl 4 (by decide) (hts _ wi_48) (fun _ h9 => h9) rfl d_Ck_firstBreach_6 ?_
  refine lv_if_ne (tgt := 16) hx hb d_Ck_firstBreach_9 (by decide) (fun hc9 => ?_) (fun hc9 => ?_)
  · try rw [← nI_0] at hc9
    rw [nI_eq (by omega) (by omega)] at hc9
    refine lv_iconst (v := (-1)) hx hb d_Ck_firstBreach_16 (by decide) ?_
    exact fs_iret hx hb hr hlocks hAe hK hS d_Ck_firstBreach_17 g (by subst hc2; have e : fx_at L 1 = (if L.length = 0 then some 0 else none) := (by unfold fx_at; rw [if_pos rfl]); rw [e]; first | (rw [if_pos (by omega)]; exact Or.inr ⟨0, rfl, rfl⟩) | (rw [if_neg (by omega)]; exact Or.inl ⟨rfl, rfl⟩)) hP hD
  try rw [← nI_0] at hc9
  rw [nI_eq (by omega) (by omega)] at hc9
  refine lv_iconst (v := nI 0) hx hb d_Ck_firstBreach_12 (by decide) ?_
  refine lv_goto (tgt := 17) hx hb d_Ck_firstBreach_13 (by decide) ?_
  exact fs_iret hx hb hr hlocks hAe hK hS d_Ck_firstBreach_17 g (by subst hc2; have e : fx_at L 1 = (if L.length = 0 then some 0 else none) := (by unfold fx_at; rw [if_pos rfl]); rw [e]; first | (rw [if_pos (by omega)]; exact Or.inr ⟨0, rfl, rfl⟩) | (rw [if_neg (by omega)]; exact Or.inl ⟨rfl, rfl⟩)) hP hD

theorem fx_at_lt {L : fx_Prg} {r i : Nat} (hlen : L.length ≤ 40) (h : fx_at L r = some i) : i < 40 := by
  unfold fx_at at h
  split at h
  · split at h
    · cases h; omega
    · cases h
  · split at h
    · have := (fx_fst_of_some h).1; omega
    · have := (fx_fst_of_some h).1; omega
theorem fx_nm1 {n : Nat} (h : n < 2 ^ 31) : ¬ nI n = (-1) := by
  intro e
  have h1 := nI_toInt h
  rw [e] at h1
  have h2 : (-1 : Int32).toInt = -1 := by decide
  omega
theorem d_Ck_faultOf_0 : decode b_Ck_faultOf 0 = .ok (.iconst 1, 1) := by decide +kernel
theorem d_Ck_faultOf_1 : decode b_Ck_faultOf 1 = .ok (.istore_n 2, 1) := by decide +kernel
theorem d_Ck_faultOf_2 : decode b_Ck_faultOf 2 = .ok (.iload_n 2, 1) := by decide +kernel
theorem d_Ck_faultOf_3 : decode b_Ck_faultOf 3 = .ok (.bipush 7, 2) := by decide +kernel
theorem d_Ck_faultOf_5 : decode b_Ck_faultOf 5 = .ok (.if_icmp .gt 21, 3) := by decide +kernel
theorem d_Ck_faultOf_8 : decode b_Ck_faultOf 8 = .ok (.aload_n 0, 1) := by decide +kernel
theorem d_Ck_faultOf_9 : decode b_Ck_faultOf 9 = .ok (.aload_n 1, 1) := by decide +kernel
theorem d_Ck_faultOf_10 : decode b_Ck_faultOf 10 = .ok (.iload_n 2, 1) := by decide +kernel
theorem d_Ck_faultOf_11 : decode b_Ck_faultOf 11 = .ok (.invokevirtual 15, 3) := by decide +kernel
theorem d_Ck_faultOf_14 : decode b_Ck_faultOf 14 = .ok (.iconst (-1), 1) := by decide +kernel
theorem d_Ck_faultOf_15 : decode b_Ck_faultOf 15 = .ok (.if_icmp .eq 5, 3) := by decide +kernel
theorem d_Ck_faultOf_18 : decode b_Ck_faultOf 18 = .ok (.iload_n 2, 1) := by decide +kernel
theorem d_Ck_faultOf_19 : decode b_Ck_faultOf 19 = .ok (.ireturn, 1) := by decide +kernel
theorem d_Ck_faultOf_20 : decode b_Ck_faultOf 20 = .ok (.iinc 2 1, 3) := by decide +kernel
theorem d_Ck_faultOf_23 : decode b_Ck_faultOf 23 = .ok (.goto (-21), 3) := by decide +kernel
theorem d_Ck_faultOf_26 : decode b_Ck_faultOf 26 = .ok (.iconst 0, 1) := by decide +kernel
theorem d_Ck_faultOf_27 : decode b_Ck_faultOf 27 = .ok (.ireturn, 1) := by decide +kernel
set_option maxHeartbeats 4000000 in
set_option maxRecDepth 100000 in
theorem c_Ck_faultOf (ck st : Nat) (g : Nat → Int32) (q o y n k : Nat) (fo fy fn fk : Nat → Int32) (L : fx_Prg) (sz : Nat) (hrep : fx_rep L fo fy fn fk) (hok : fx_ok L) : fs_I l y_Ck_faultOf (k_Ck_faultOf :: fs_T) { frames := 4, cells := 0, slots := 0, locals := 93 } (dC, dI) vwCl (fs_tys cI cZ cJ cF) [.ref ck, .ref q] [(ck, .inr (0, [.ref st])), (st, .inl (cI, 40, .inl g)), (q, .inr (1, [.ref o, .ref y, .ref n, .ref k, .int (nI L.length)])), (o, .inl (cI, 40, .inl fo)), (y, .inl (cI, 40, .inl fy)), (n, .inl (cI, 40, .inl fn)), (k, .inl (cI, 40, .inl fk))] sz (S := Nat → Int32) (fun z _ => z = nI (fx_chk L % 8)) (fun u => [(ck, .inr (0, [.ref st])), (st, .inl (cI, 40, .inl u)), (q, .inr (1, [.ref o, .ref y, .ref n, .ref k, .int (nI L.length)])), (o, .inl (cI, 40, .inl fo)), (y, .inl (cI, 40, .inl fy)), (n, .inl (cI, 40, .inl fn)), (k, .inl (cI, 40, .inl fk))]) 0 0 := by
  refine fs_head (by decide) (Nat.le_of_ble_eq_true rfl) ?_
  intro p e s m below meth c A ls hx hb hr hts hown hlocks hin hml hK hP hD hS hA hAe hsz hl
  have hl : lv_has ls 3 [(0, .ref ck), (1, .ref q)] := hl
  have hown : s.vm.findClass R_Ck = some m.cls := hown
  have hlen := hok.1
  refine lv_iconst (v := nI 1) hx hb d_Ck_faultOf_0 (by decide) ?_
  refine lv_istore_n hx hb d_Ck_faultOf_1 rfl hl (by decide) (lv' := [(2, .int (nI 1)), (0, .ref ck), (1, .ref q)]) rfl (fun ls hl => ?_)
  refine fs_loop2 (α1 := Nat) (α2 := Nat → Int32) (fun r g => 8 - r) (fun r g H locs ls => (1 ≤ r) ∧ (r ≤ 8) ∧ (∀ t, 1 ≤ t → t < r → fx_at L t = none) ∧ va_P (dC, dI) vwCl [(ck, .inr (0, [.ref st])), (st, .inl (cI, 40, .inl g)), (q, .inr (1, [.ref o, .ref y, .ref n, .ref k, .int (nI L.length)])), (o, .inl (cI, 40, .inl fo)), (y, .inl (cI, 40, .inl fy)), (n, .inl (cI, 40, .inl fn)), (k, .inl (cI, 40, .inl fk))] H ∧ va_D A [(ck, .inr (0, [.ref st])), (st, .inl (cI, 40, .inl g)), (q, .inr (1, [.ref o, .ref y, .ref n, .ref k, .int (nI L.length)])), (o, .inl (cI, 40, .inl fo)), (y, .inl (cI, 40, .inl fy)), (n, .inl (cI, 40, .inl fn)), (k, .inl (cI, 40, .inl fk))] ∧ va_S A s.heap H locs ∧ lv_has ls 3 [(0, .ref ck), (1, .ref q), (2, .int (nI r))]) ?_ 1 g ⟨by omega, by omega, fun t h1 h2 => absurd h2 (by omega), hP, hD, hS, lv_sub hl [1, 2, 0] rfl⟩
  intro r g H locs ls hI ih2
  obtain ⟨hr1, hr8, hno, hP, hD, hS, hl⟩ := hI
  refine lv_iload_n hx hb d_Ck_faultOf_2 rfl (lv_at hl 2 rfl) ?_
  refine lv_bipush (v := nI 7) hx hb d_Ck_faultOf_3 (by decide) ?_
  refine lv_icmp_gt (tgt := 26) hx hb d_Ck_faultOf_5 (by decide) (fun hc5 => ?_) (fun hc5 => ?_)
  · rw [nI_ltI (by omega) (by omega)] at hc5
    refine lv_iconst (v := nI 0) hx hb d_Ck_faultOf_26 (by decide) ?_
    exact fs_iret hx hb hr hlocks hAe hK hS d_Ck_faultOf_27 g (by rw [fx_chk_none (fun t h1 h2 => hno t h1 (by omega))]) hP hD
  rw [nI_ltI (by omega) (by omega)] at hc5
  refine lv_aload_n hx hb d_Ck_faultOf_8 rfl (lv_at hl 0 rfl) ?_
  refine lv_aload_n hx hb d_Ck_faultOf_9 rfl (lv_at hl 1 rfl) ?_
  refine lv_iload_n hx hb d_Ck_faultOf_10 rfl (lv_at hl 2 rfl) ?_
  refine fs_calli (wc := [(ck, .inr (0, [.ref st])), (st, .inl (cI, 40, .inl g)), (q, .inr (1, [.ref o, .ref y, .ref n, .ref k, .int (nI L.length)])), (o, .inl (cI, 40, .inl fo)), (y, .inl (cI, 40, .inl fy)), (n, .inl (cI, 40, .inl fn)), (k, .inl (cI, 40, .inl fk))]) (wr := []) [0, 1, 2, 3, 4, 5, 6] [] hP hD hK hS hA rfl rfl rfl (by decide) (fun hPc hDc => va_runV (C := R_Ck) (As := [.ref q, .int (nI r)]) (rest := []) ⟨hx, hb, hml, hown, hts⟩ (c_Ck_firstBreach ck st g q o y n k fo fy fn fk L r _ hrep hok (by omega) (fun _ t h2 h6 => fx_at_no h2 h6 (hno t (by omega) (by omega)))) (⟨callB_of 2 hts (fs_g kin_Ck_firstBreach) rfl rfl rfl (hts _ wi_4) (hts _ wi_182) (by decide +kernel) ⟨Nat.le_of_ble_eq_true rfl, Nat.le_of_ble_eq_true rfl⟩, hts _ wi_183, hts _ wi_184⟩) (fs_preV (q0 := 0) rfl rfl hPc hK hDc) rfl rfl hl.1 rfl (lv_room (Nat.le_of_ble_eq_true rfl)) d_Ck_faultOf_11 ⟨Nat.le_of_ble_eq_true rfl, Nat.le_of_ble_eq_true rfl⟩) rfl (fun r11 u H locs hp11 hP hD hS => ?_)
  have hP : va_P (dC, dI) vwCl [(ck, .inr (0, [.ref st])), (st, .inl (cI, 40, .inl u)), (q, .inr (1, [.ref o, .ref y, .ref n, .ref k, .int (nI L.length)])), (o, .inl (cI, 40, .inl fo)), (y, .inl (cI, 40, .inl fy)), (n, .inl (cI, 40, .inl fn)), (k, .inl (cI, 40, .inl fk))] H := hP
  have hD : va_D A [(ck, .inr (0, [.ref st])), (st, .inl (cI, 40, .inl u)), (q, .inr (1, [.ref o, .ref y, .ref n, .ref k, .int (nI L.length)])), (o, .inl (cI, 40, .inl fo)), (y, .inl (cI, 40, .inl fy)), (n, .inl (cI, 40, .inl fn)), (k, .inl (cI, 40, .inl fk))] := hD
  rcases hp11 with ⟨hat, rfl⟩ | ⟨i, hat, rfl⟩
  · refine lv_iconst (v := (-1)) hx hb d_Ck_faultOf_14 (by decide) ?_
    refine lv_icmp_eq (tgt := 20) hx hb d_Ck_faultOf_15 (by decide) (fun _ => ?_) (fun hc => absurd rfl hc)
    refine lv_iinc (v := nI (r + 1)) (k := 2) hx hb d_Ck_faultOf_20 hl rfl (fs_incN r 1) (by decide) (lv' := [(2, .int (nI (r + 1))), (0, .ref ck), (1, .ref q)]) rfl (fun ls hl => ?_)
    refine lv_goto (tgt := 2) hx hb d_Ck_faultOf_23 (by decide) ?_
    exact ih2 (r + 1) u _ _ _ (by omega) ⟨by omega, by omega, fun t h1 h2 => by rcases Nat.lt_succ_iff_lt_or_eq.mp h2 with h | h; exact hno t h1 h; rw [h]; exact hat, hP, hD, hS, lv_sub hl [1, 2, 0] rfl⟩
  have hi40 : i < 40 := fx_at_lt hlen hat
  refine lv_iconst (v := (-1)) hx hb d_Ck_faultOf_14 (by decide) ?_
  refine lv_icmp_eq (tgt := 20) hx hb d_Ck_faultOf_15 (by decide) (fun hc => absurd hc (fx_nm1 (by omega))) (fun _ => ?_)
  refine lv_iload_n hx hb d_Ck_faultOf_18 rfl (lv_at hl 2 rfl) ?_
  exact fs_iret hx hb hr hlocks hAe hK hS d_Ck_faultOf_19 u (by rw [fx_chk_some hr1 (by omega) hat hno]; congr 1; omega) hP hD

end CK2
