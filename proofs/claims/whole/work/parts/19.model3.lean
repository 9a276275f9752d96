section MO3
variable {l : Launch} {dC : Nat → ClassId} {dI : Nat → Nat → Nat} {cI cZ cJ cF : ClassId}
theorem d_Mo_value_0 : decode b_Mo_value 0 = .ok (.iload_n 0, 1) := by decide +kernel
theorem d_Mo_value_1 : decode b_Mo_value 1 = .ok (.tableswitch 141 10 23 #[71, 75, 79, 83, 94, 98, 102, 106, 110, 114, 118, 122, 126, 137], 71) := by decide +kernel
theorem d_Mo_value_72 : decode b_Mo_value 72 = .ok (.iload_n 1, 1) := by decide +kernel
theorem d_Mo_value_73 : decode b_Mo_value 73 = .ok (.iload_n 2, 1) := by decide +kernel
theorem d_Mo_value_74 : decode b_Mo_value 74 = .ok (.iadd, 1) := by decide +kernel
theorem d_Mo_value_75 : decode b_Mo_value 75 = .ok (.ireturn, 1) := by decide +kernel
theorem d_Mo_value_76 : decode b_Mo_value 76 = .ok (.iload_n 1, 1) := by decide +kernel
theorem d_Mo_value_77 : decode b_Mo_value 77 = .ok (.iload_n 2, 1) := by decide +kernel
theorem d_Mo_value_78 : decode b_Mo_value 78 = .ok (.isub, 1) := by decide +kernel
theorem d_Mo_value_79 : decode b_Mo_value 79 = .ok (.ireturn, 1) := by decide +kernel
theorem d_Mo_value_80 : decode b_Mo_value 80 = .ok (.iload_n 1, 1) := by decide +kernel
theorem d_Mo_value_81 : decode b_Mo_value 81 = .ok (.iload_n 2, 1) := by decide +kernel
theorem d_Mo_value_82 : decode b_Mo_value 82 = .ok (.imul, 1) := by decide +kernel
theorem d_Mo_value_83 : decode b_Mo_value 83 = .ok (.ireturn, 1) := by decide +kernel
theorem d_Mo_value_84 : decode b_Mo_value 84 = .ok (.iload_n 1, 1) := by decide +kernel
theorem d_Mo_value_85 : decode b_Mo_value 85 = .ok (.invokestatic 75, 3) := by decide +kernel
theorem d_Mo_value_88 : decode b_Mo_value 88 = .ok (.iload_n 2, 1) := by decide +kernel
theorem d_Mo_value_89 : decode b_Mo_value 89 = .ok (.invokestatic 75, 3) := by decide +kernel
theorem d_Mo_value_92 : decode b_Mo_value 92 = .ok (.ldiv, 1) := by decide +kernel
theorem d_Mo_value_93 : decode b_Mo_value 93 = .ok (.l2i, 1) := by decide +kernel
theorem d_Mo_value_94 : decode b_Mo_value 94 = .ok (.ireturn, 1) := by decide +kernel
theorem d_Mo_value_95 : decode b_Mo_value 95 = .ok (.iload_n 1, 1) := by decide +kernel
theorem d_Mo_value_96 : decode b_Mo_value 96 = .ok (.iload_n 2, 1) := by decide +kernel
theorem d_Mo_value_97 : decode b_Mo_value 97 = .ok (.iand, 1) := by decide +kernel
theorem d_Mo_value_98 : decode b_Mo_value 98 = .ok (.ireturn, 1) := by decide +kernel
theorem d_Mo_value_99 : decode b_Mo_value 99 = .ok (.iload_n 1, 1) := by decide +kernel
theorem d_Mo_value_100 : decode b_Mo_value 100 = .ok (.iload_n 2, 1) := by decide +kernel
theorem d_Mo_value_101 : decode b_Mo_value 101 = .ok (.ior, 1) := by decide +kernel
theorem d_Mo_value_102 : decode b_Mo_value 102 = .ok (.ireturn, 1) := by decide +kernel
theorem d_Mo_value_103 : decode b_Mo_value 103 = .ok (.iload_n 1, 1) := by decide +kernel
theorem d_Mo_value_104 : decode b_Mo_value 104 = .ok (.iload_n 2, 1) := by decide +kernel
theorem d_Mo_value_105 : decode b_Mo_value 105 = .ok (.ixor, 1) := by decide +kernel
theorem d_Mo_value_106 : decode b_Mo_value 106 = .ok (.ireturn, 1) := by decide +kernel
theorem d_Mo_value_107 : decode b_Mo_value 107 = .ok (.iload_n 1, 1) := by decide +kernel
theorem d_Mo_value_108 : decode b_Mo_value 108 = .ok (.iload_n 2, 1) := by decide +kernel
theorem d_Mo_value_109 : decode b_Mo_value 109 = .ok (.ishl, 1) := by decide +kernel
theorem d_Mo_value_110 : decode b_Mo_value 110 = .ok (.ireturn, 1) := by decide +kernel
theorem d_Mo_value_111 : decode b_Mo_value 111 = .ok (.iload_n 1, 1) := by decide +kernel
theorem d_Mo_value_112 : decode b_Mo_value 112 = .ok (.iload_n 2, 1) := by decide +kernel
theorem d_Mo_value_113 : decode b_Mo_value 113 = .ok (.iushr, 1) := by decide +kernel
theorem d_Mo_value_114 : decode b_Mo_value 114 = .ok (.ireturn, 1) := by decide +kernel
theorem d_Mo_value_115 : decode b_Mo_value 115 = .ok (.iload_n 1, 1) := by decide +kernel
theorem d_Mo_value_116 : decode b_Mo_value 116 = .ok (.iload_n 3, 1) := by decide +kernel
theorem d_Mo_value_117 : decode b_Mo_value 117 = .ok (.iadd, 1) := by decide +kernel
theorem d_Mo_value_118 : decode b_Mo_value 118 = .ok (.ireturn, 1) := by decide +kernel
theorem d_Mo_value_119 : decode b_Mo_value 119 = .ok (.iload_n 1, 1) := by decide +kernel
theorem d_Mo_value_120 : decode b_Mo_value 120 = .ok (.iload_n 3, 1) := by decide +kernel
theorem d_Mo_value_121 : decode b_Mo_value 121 = .ok (.isub, 1) := by decide +kernel
theorem d_Mo_value_122 : decode b_Mo_value 122 = .ok (.ireturn, 1) := by decide +kernel
theorem d_Mo_value_123 : decode b_Mo_value 123 = .ok (.iload_n 1, 1) := by decide +kernel
theorem d_Mo_value_124 : decode b_Mo_value 124 = .ok (.iload_n 3, 1) := by decide +kernel
theorem d_Mo_value_125 : decode b_Mo_value 125 = .ok (.imul, 1) := by decide +kernel
theorem d_Mo_value_126 : decode b_Mo_value 126 = .ok (.ireturn, 1) := by decide +kernel
theorem d_Mo_value_127 : decode b_Mo_value 127 = .ok (.iload_n 1, 1) := by decide +kernel
theorem d_Mo_value_128 : decode b_Mo_value 128 = .ok (.invokestatic 75, 3) := by decide +kernel
theorem d_Mo_value_131 : decode b_Mo_value 131 = .ok (.iload_n 3, 1) := by decide +kernel
theorem d_Mo_value_132 : decode b_Mo_value 132 = .ok (.invokestatic 75, 3) := by decide +kernel
theorem d_Mo_value_135 : decode b_Mo_value 135 = .ok (.ldiv, 1) := by decide +kernel
theorem d_Mo_value_136 : decode b_Mo_value 136 = .ok (.l2i, 1) := by decide +kernel
theorem d_Mo_value_137 : decode b_Mo_value 137 = .ok (.ireturn, 1) := by decide +kernel
theorem d_Mo_value_138 : decode b_Mo_value 138 = .ok (.iload_n 1, 1) := by decide +kernel
theorem d_Mo_value_139 : decode b_Mo_value 139 = .ok (.iload_n 3, 1) := by decide +kernel
theorem d_Mo_value_140 : decode b_Mo_value 140 = .ok (.iand, 1) := by decide +kernel
theorem d_Mo_value_141 : decode b_Mo_value 141 = .ok (.ireturn, 1) := by decide +kernel
theorem d_Mo_value_142 : decode b_Mo_value 142 = .ok (.iload_n 1, 1) := by decide +kernel
theorem d_Mo_value_143 : decode b_Mo_value 143 = .ok (.ineg, 1) := by decide +kernel
theorem d_Mo_value_144 : decode b_Mo_value 144 = .ok (.ireturn, 1) := by decide +kernel
set_option maxHeartbeats 4000000 in
set_option maxRecDepth 100000 in
theorem c_Mo_value (o : Nat) (a k x : Int32) (sz : Nat) (h10 : 10 ≤ o) (h24 : o ≤ 24) (hz13 : o = 13 → ¬ k = 0) (hz22 : o = 22 → ¬ x = 0) : fs_I l y_Mo_value (k_Mo_value :: fs_T) { frames := 1, cells := 0, slots := 0, locals := 20 } (dC, dI) vwCl (fs_tys cI cZ cJ cF) [.int (nI o), .int a, .int k, .int x] [] sz (S := Unit) (fun r _ => r = fx_val o a k x) (fun _ => []) 0 0 := by
  refine fs_head (by decide) (Nat.le_of_ble_eq_true rfl) ?_
  intro p e s m below meth c A ls hx hb hr hts hown hlocks hin hml hK hP hD hS hA hAe hsz hl
  have hl : lv_has ls 4 [(0, .int (nI o)), (1, .int a), (2, .int k), (3, .int x)] := hl
  have hown : s.vm.findClass R_Mo = some m.cls := hown
  refine lv_iload_n hx hb d_Mo_value_0 rfl (lv_at hl 0 rfl) ?_
  rcases (show o = 10 ∨ o = 11 ∨ o = 12 ∨ o = 13 ∨ o = 14 ∨ o = 15 ∨ o = 16 ∨ o = 17 ∨ o = 18 ∨ o = 19 ∨ o = 20 ∨ o = 21 ∨ o = 22 ∨ o = 23 ∨ o = 24 from by omega) with hsw | hsw | hsw | hsw | hsw | hsw | hsw | hsw | hsw | hsw | hsw | hsw | hsw | hsw | hsw
  · refine fs_eqi (v := nI 10) (by rw [hsw]) ?_
    refine lv_tableIn (off := 71) (tgt := 72) hx hb d_Mo_value_1 (by decide) (by decide) rfl (by decide) ?_
    refine lv_iload_n hx hb d_Mo_value_72 rfl (lv_at hl 1 rfl) ?_
    refine lv_iload_n hx hb d_Mo_value_73 rfl (lv_at hl 2 rfl) ?_
    refine lv_iadd hx hb d_Mo_value_74 ?_
    exact fs_iret hx hb hr hlocks hAe hK hS d_Mo_value_75 () (by rw [hsw]; rfl) hP hD
  · refine fs_eqi (v := nI 11) (by rw [hsw]) ?_
    refine lv_tableIn (off := 75) (tgt := 76) hx hb d_Mo_value_1 (by decide) (by decide) rfl (by decide) ?_
    refine lv_iload_n hx hb d_Mo_value_76 rfl (lv_at hl 1 rfl) ?_
    refine lv_iload_n hx hb d_Mo_value_77 rfl (lv_at hl 2 rfl) ?_
    refine lv_isub hx hb d_Mo_value_78 ?_
    exact fs_iret hx hb hr hlocks hAe hK hS d_Mo_value_79 () (by rw [hsw]; rfl) hP hD
  · refine fs_eqi (v := nI 12) (by rw [hsw]) ?_
    refine lv_tableIn (off := 79) (tgt := 80) hx hb d_Mo_value_1 (by decide) (by decide) rfl (by decide) ?_
    refine lv_iload_n hx hb d_Mo_value_80 rfl (lv_at hl 1 rfl) ?_
    refine lv_iload_n hx hb d_Mo_value_81 rfl (lv_at hl 2 rfl) ?_
    refine lv_imul hx hb d_Mo_value_82 ?_
    exact fs_iret hx hb hr hlocks hAe hK hS d_Mo_value_83 () (by rw [hsw]; rfl) hP hD
  · refine fs_eqi (v := nI 13) (by rw [hsw]) ?_
    refine lv_tableIn (off := 83) (tgt := 84) hx hb d_Mo_value_1 (by decide) (by decide) rfl (by decide) ?_
    refine lv_iload_n hx hb d_Mo_value_84 rfl (lv_at hl 1 rfl) ?_
    refine fs_calll (wc := []) (wr := []) [] [] hP hD hK hS hA rfl rfl rfl (by decide) (fun hPc hDc => va_runS (As := [.int a]) (rest := []) ⟨hx, hb, hml, hown, hts⟩ (c_Mo_plain a _) (⟨callB_of 1 hts (fs_g kin_Mo_plain) rfl rfl rfl (hts _ wi_6) (hts _ wi_550) (by decide +kernel) ⟨Nat.le_of_ble_eq_true rfl, Nat.le_of_ble_eq_true rfl⟩, hts _ wi_551⟩) (fs_preS hPc hK hDc) rfl rfl hl.1 rfl (lv_room (Nat.le_of_ble_eq_true rfl)) d_Mo_value_85 ⟨Nat.le_of_ble_eq_true rfl, Nat.le_of_ble_eq_true rfl⟩) rfl (fun r85 _ H locs hp85 hP hD hS => ?_)
    have hP : va_P (dC, dI) vwCl [] H := hP
    have hD : va_D A [] := hD
    subst hp85
    refine lv_iload_n hx hb d_Mo_value_88 rfl (lv_at hl 2 rfl) ?_
    refine fs_calll (wc := []) (wr := []) [] [] hP hD hK hS hA rfl rfl rfl (by decide) (fun hPc hDc => va_runS (As := [.int k]) (rest := [.long (fx_pl a)]) ⟨hx, hb, hml, hown, hts⟩ (c_Mo_plain k _) (⟨callB_of 1 hts (fs_g kin_Mo_plain) rfl rfl rfl (hts _ wi_6) (hts _ wi_550) (by decide +kernel) ⟨Nat.le_of_ble_eq_true rfl, Nat.le_of_ble_eq_true rfl⟩, hts _ wi_551⟩) (fs_preS hPc hK hDc) rfl rfl hl.1 rfl (lv_room (Nat.le_of_ble_eq_true rfl)) d_Mo_value_89 ⟨Nat.le_of_ble_eq_true rfl, Nat.le_of_ble_eq_true rfl⟩) rfl (fun r89 _ H locs hp89 hP hD hS => ?_)
    have hP : va_P (dC, dI) vwCl [] H := hP
    have hD : va_D A [] := hD
    subst hp89
    refine lv_ldiv hx hb d_Mo_value_92 (fx_pl_ne (hz13 hsw)) ?_
    refine lv_l2i hx hb d_Mo_value_93 rfl ?_
    exact fs_iret hx hb hr hlocks hAe hK hS d_Mo_value_94 () (by rw [hsw]; rfl) hP hD
  · refine fs_eqi (v := nI 14) (by rw [hsw]) ?_
    refine lv_tableIn (off := 94) (tgt := 95) hx hb d_Mo_value_1 (by decide) (by decide) rfl (by decide) ?_
    refine lv_iload_n hx hb d_Mo_value_95 rfl (lv_at hl 1 rfl) ?_
    refine lv_iload_n hx hb d_Mo_value_96 rfl (lv_at hl 2 rfl) ?_
    refine lv_iand hx hb d_Mo_value_97 ?_
    exact fs_iret hx hb hr hlocks hAe hK hS d_Mo_value_98 () (by rw [hsw]; rfl) hP hD
  · refine fs_eqi (v := nI 15) (by rw [hsw]) ?_
    refine lv_tableIn (off := 98) (tgt := 99) hx hb d_Mo_value_1 (by decide) (by decide) rfl (by decide) ?_
    refine lv_iload_n hx hb d_Mo_value_99 rfl (lv_at hl 1 rfl) ?_
    refine lv_iload_n hx hb d_Mo_value_100 rfl (lv_at hl 2 rfl) ?_
    refine lv_ior hx hb d_Mo_value_101 ?_
    exact fs_iret hx hb hr hlocks hAe hK hS d_Mo_value_102 () (by rw [hsw]; rfl) hP hD
  · refine fs_eqi (v := nI 16) (by rw [hsw]) ?_
    refine lv_tableIn (off := 102) (tgt := 103) hx hb d_Mo_value_1 (by decide) (by decide) rfl (by decide) ?_
    refine lv_iload_n hx hb d_Mo_value_103 rfl (lv_at hl 1 rfl) ?_
    refine lv_iload_n hx hb d_Mo_value_104 rfl (lv_at hl 2 rfl) ?_
    refine lv_ixor hx hb d_Mo_value_105 ?_
    exact fs_iret hx hb hr hlocks hAe hK hS d_Mo_value_106 () (by rw [hsw]; rfl) hP hD
  · refine fs_eqi (v := nI 17) (by rw [hsw]) ?_
    refine lv_tableIn (off := 106) (tgt := 107) hx hb d_Mo_value_1 (by decide) (by decide) rfl (by decide) ?_
    refine lv_iload_n hx hb d_Mo_value_107 rfl (lv_at hl 1 rfl) ?_
    refine lv_iload_n hx hb d_Mo_value_108 rfl (lv_at hl 2 rfl) ?_
    refine lv_ishl hx hb d_Mo_value_109 ?_
    exact fs_iret hx hb hr hlocks hAe hK hS d_Mo_value_110 () (by rw [hsw]; rfl) hP hD
  · refine fs_eqi (v := nI 18) (by rw [hsw]) ?_
    refine lv_tableIn (off := 110) (tgt := 111) hx hb d_Mo_value_1 (by decide) (by decide) rfl (by decide) ?_
    refine lv_iload_n hx hb d_Mo_value_111 rfl (lv_at hl 1 rfl) ?_
    refine lv_iload_n hx hb d_Mo_value_112 rfl (lv_at hl 2 rfl) ?_
    refine lv_iushr hx hb d_Mo_value_113 rfl ?_
    exact fs_iret hx hb hr hlocks hAe hK hS d_Mo_value_114 () (by rw [hsw]; rfl) hP hD
  · refine fs_eqi (v := nI 19) (by rw [hsw]) ?_
    refine lv_tableIn (off := 114) (tgt := 115) hx hb d_Mo_value_1 (by decide) (by decide) rfl (by decide) ?_
    refine lv_iload_n hx hb d_Mo_value_115 rfl (lv_at hl 1 rfl) ?_
    refine lv_iload_n hx hb d_Mo_value_116 rfl (lv_at hl 3 rfl) ?_
    refine lv_iadd hx hb d_Mo_value_117 ?_
    exact fs_iret hx hb hr hlocks hAe hK hS d_Mo_value_118 () (by rw [hsw]; rfl) hP hD
  · refine fs_eqi (v := nI 20) (by rw [hsw]) ?_
    refine lv_tableIn (off := 118) (tgt := 119) hx hb d_Mo_value_1 (by decide) (by decide) rfl (by decide) ?_
    refine lv_iload_n hx hb d_Mo_value_119 rfl (lv_at hl 1 rfl) ?_
    refine lv_iload_n hx hb d_Mo_value_120 rfl (lv_at hl 3 rfl) ?_
    refine lv_isub hx hb d_Mo_value_121 ?_
    exact fs_iret hx hb hr hlocks hAe hK hS d_Mo_value_122 () (by rw [hsw]; rfl) hP hD
  · refine fs_eqi (v := nI 21) (by rw [hsw]) ?_
    refine lv_tableIn (off := 122) (tgt := 123) hx hb d_Mo_value_1 (by decide) (by decide) rfl (by decide) ?_
    refine lv_iload_n hx hb d_Mo_value_123 rfl (lv_at hl 1 rfl) ?_
    refine lv_iload_n hx hb d_Mo_value_124 rfl (lv_at hl 3 rfl) ?_
    refine lv_imul hx hb d_Mo_value_125 ?_
    exact fs_iret hx hb hr hlocks hAe hK hS d_Mo_value_126 () (by rw [hsw]; rfl) hP hD
  · refine fs_eqi (v := nI 22) (by rw [hsw]) ?_
    refine lv_tableIn (off := 126) (tgt := 127) hx hb d_Mo_value_1 (by decide) (by decide) rfl (by decide) ?_
    refine lv_iload_n hx hb d_Mo_value_127 rfl (lv_at hl 1 rfl) ?_
    refine fs_calll (wc := []) (wr := []) [] [] hP hD hK hS hA rfl rfl rfl (by decide) (fun hPc hDc => va_runS (As := [.int a]) (rest := []) ⟨hx, hb, hml, hown, hts⟩ (c_Mo_plain a _) (⟨callB_of 1 hts (fs_g kin_Mo_plain) rfl rfl rfl (hts _ wi_6) (hts _ wi_550) (by decide +kernel) ⟨Nat.le_of_ble_eq_true rfl, Nat.le_of_ble_eq_true rfl⟩, hts _ wi_551⟩) (fs_preS hPc hK hDc) rfl rfl hl.1 rfl (lv_room (Nat.le_of_ble_eq_true rfl)) d_Mo_value_128 ⟨Nat.le_of_ble_eq_true rfl, Nat.le_of_ble_eq_true rfl⟩) rfl (fun r128 _ H locs hp128 hP hD hS => ?_)
    have hP : va_P (dC, dI) vwCl [] H := hP
    have hD : va_D A [] := hD
    subst hp128
    refine lv_iload_n hx hb d_Mo_value_131 rfl (lv_at hl 3 rfl) ?_
    refine fs_calll (wc := []) (wr := []) [] [] hP hD hK hS hA rfl rfl rfl (by decide) (fun hPc hDc => va_runS (As := [.int x]) (rest := [.long (fx_pl a)]) ⟨hx, hb, hml, hown, hts⟩ (c_Mo_plain x _) (⟨callB_of 1 hts (fs_g kin_Mo_plain) rfl rfl rfl (hts _ wi_6) (hts _ wi_550) (by decide +kernel) ⟨Nat.le_of_ble_eq_true rfl, Nat.le_of_ble_eq_true rfl⟩, hts _ wi_551⟩) (fs_preS hPc hK hDc) rfl rfl hl.1 rfl (lv_room (Nat.le_of_ble_eq_true rfl)) d_Mo_value_132 ⟨Nat.le_of_ble_eq_true rfl, Nat.le_of_ble_eq_true rfl⟩) rfl (fun r132 _ H locs hp132 hP hD hS => ?_)
    have hP : va_P (dC, dI) vwCl [] H := hP
    have hD : va_D A [] := hD
    subst hp132
    refine lv_ldiv hx hb d_Mo_value_135 (fx_pl_ne (hz22 hsw)) ?_
    refine lv_l2i hx hb d_Mo_value_136 rfl ?_
    exact fs_iret hx hb hr hlocks hAe hK hS d_Mo_value_137 () (by rw [hsw]; rfl) hP hD
  · refine fs_eqi (v := nI 23) (by rw [hsw]) ?_
    refine lv_tableIn (off := 137) (tgt := 138) hx hb d_Mo_value_1 (by decide) (by decide) rfl (by decide) ?_
    refine lv_iload_n hx hb d_Mo_value_138 rfl (lv_at hl 1 rfl) ?_
    refine lv_iload_n hx hb d_Mo_value_139 rfl (lv_at hl 3 rfl) ?_
    refine lv_iand hx hb d_Mo_value_140 ?_
    exact fs_iret hx hb hr hlocks hAe hK hS d_Mo_value_141 () (by rw [hsw]; rfl) hP hD
  · refine fs_eqi (v := nI 24) (by rw [hsw]) ?_
    refine lv_tableOut (tgt := 142) hx hb d_Mo_value_1 (by decide) (by decide) ?_
    refine lv_iload_n hx hb d_Mo_value_142 rfl (lv_at hl 1 rfl) ?_
    refine lv_ineg hx hb d_Mo_value_143 ?_
    exact fs_iret hx hb hr hlocks hAe hK hS d_Mo_value_144 () (by rw [hsw]; rfl) hP hD

theorem d_Mo_asked_0 : decode b_Mo_asked 0 = .ok (.iload_n 0, 1) := by decide +kernel
theorem d_Mo_asked_1 : decode b_Mo_asked 1 = .ok (.tableswitch 90 26 29 #[31, 42, 60, 78], 31) := by decide +kernel
theorem d_Mo_asked_32 : decode b_Mo_asked 32 = .ok (.iload_n 1, 1) := by decide +kernel
theorem d_Mo_asked_33 : decode b_Mo_asked 33 = .ok (.iload_n 2, 1) := by decide +kernel
theorem d_Mo_asked_34 : decode b_Mo_asked 34 = .ok (.if_icmp .ne 7, 3) := by decide +kernel
theorem d_Mo_asked_37 : decode b_Mo_asked 37 = .ok (.iconst 1, 1) := by decide +kernel
theorem d_Mo_asked_38 : decode b_Mo_asked 38 = .ok (.goto 4, 3) := by decide +kernel
theorem d_Mo_asked_41 : decode b_Mo_asked 41 = .ok (.iconst 0, 1) := by decide +kernel
theorem d_Mo_asked_42 : decode b_Mo_asked 42 = .ok (.ireturn, 1) := by decide +kernel
theorem d_Mo_asked_43 : decode b_Mo_asked 43 = .ok (.iload_n 1, 1) := by decide +kernel
theorem d_Mo_asked_44 : decode b_Mo_asked 44 = .ok (.invokestatic 75, 3) := by decide +kernel
theorem d_Mo_asked_47 : decode b_Mo_asked 47 = .ok (.iload_n 2, 1) := by decide +kernel
theorem d_Mo_asked_48 : decode b_Mo_asked 48 = .ok (.invokestatic 75, 3) := by decide +kernel
theorem d_Mo_asked_51 : decode b_Mo_asked 51 = .ok (.lcmp, 1) := by decide +kernel
theorem d_Mo_asked_52 : decode b_Mo_asked 52 = .ok (.ifCond .le 7, 3) := by decide +kernel
theorem d_Mo_asked_55 : decode b_Mo_asked 55 = .ok (.iconst 1, 1) := by decide +kernel
theorem d_Mo_asked_56 : decode b_Mo_asked 56 = .ok (.goto 4, 3) := by decide +kernel
theorem d_Mo_asked_59 : decode b_Mo_asked 59 = .ok (.iconst 0, 1) := by decide +kernel
theorem d_Mo_asked_60 : decode b_Mo_asked 60 = .ok (.ireturn, 1) := by decide +kernel
theorem d_Mo_asked_61 : decode b_Mo_asked 61 = .ok (.iload_n 1, 1) := by decide +kernel
theorem d_Mo_asked_62 : decode b_Mo_asked 62 = .ok (.invokestatic 75, 3) := by decide +kernel
theorem d_Mo_asked_65 : decode b_Mo_asked 65 = .ok (.iload_n 2, 1) := by decide +kernel
theorem d_Mo_asked_66 : decode b_Mo_asked 66 = .ok (.invokestatic 75, 3) := by decide +kernel
theorem d_Mo_asked_69 : decode b_Mo_asked 69 = .ok (.lcmp, 1) := by decide +kernel
theorem d_Mo_asked_70 : decode b_Mo_asked 70 = .ok (.ifCond .lt 7, 3) := by decide +kernel
theorem d_Mo_asked_73 : decode b_Mo_asked 73 = .ok (.iconst 1, 1) := by decide +kernel
theorem d_Mo_asked_74 : decode b_Mo_asked 74 = .ok (.goto 4, 3) := by decide +kernel
theorem d_Mo_asked_77 : decode b_Mo_asked 77 = .ok (.iconst 0, 1) := by decide +kernel
theorem d_Mo_asked_78 : decode b_Mo_asked 78 = .ok (.ireturn, 1) := by decide +kernel
theorem d_Mo_asked_79 : decode b_Mo_asked 79 = .ok (.iload_n 1, 1) := by decide +kernel
theorem d_Mo_asked_80 : decode b_Mo_asked 80 = .ok (.iload_n 2, 1) := by decide +kernel
theorem d_Mo_asked_81 : decode b_Mo_asked 81 = .ok (.iand, 1) := by decide +kernel
theorem d_Mo_asked_82 : decode b_Mo_asked 82 = .ok (.ifCond .eq 7, 3) := by decide +kernel
theorem d_Mo_asked_85 : decode b_Mo_asked 85 = .ok (.iconst 1, 1) := by decide +kernel
theorem d_Mo_asked_86 : decode b_Mo_asked 86 = .ok (.goto 4, 3) := by decide +kernel
theorem d_Mo_asked_89 : decode b_Mo_asked 89 = .ok (.iconst 0, 1) := by decide +kernel
theorem d_Mo_asked_90 : decode b_Mo_asked 90 = .ok (.ireturn, 1) := by decide +kernel
theorem d_Mo_asked_91 : decode b_Mo_asked 91 = .ok (.iload_n 1, 1) := by decide +kernel
theorem d_Mo_asked_92 : decode b_Mo_asked 92 = .ok (.iload_n 3, 1) := by decide +kernel
theorem d_Mo_asked_93 : decode b_Mo_asked 93 = .ok (.if_icmp .ne 7, 3) := by decide +kernel
theorem d_Mo_asked_96 : decode b_Mo_asked 96 = .ok (.iconst 1, 1) := by decide +kernel
theorem d_Mo_asked_97 : decode b_Mo_asked 97 = .ok (.goto 4, 3) := by decide +kernel
theorem d_Mo_asked_100 : decode b_Mo_asked 100 = .ok (.iconst 0, 1) := by decide +kernel
theorem d_Mo_asked_101 : decode b_Mo_asked 101 = .ok (.ireturn, 1) := by decide +kernel
set_option maxHeartbeats 4000000 in
set_option maxRecDepth 100000 in
theorem c_Mo_asked (o : Nat) (a k x : Int32) (sz : Nat) (h26 : 26 ≤ o) (h30 : o ≤ 30) : fs_I l y_Mo_asked (k_Mo_asked :: fs_T) { frames := 1, cells := 0, slots := 0, locals := 20 } (dC, dI) vwCl (fs_tys cI cZ cJ cF) [.int (nI o), .int a, .int k, .int x] [] sz (S := Unit) (fun r _ => (fx_ask o a k x = true ∧ r = nI 1) ∨ (fx_ask o a k x = false ∧ r = nI 0)) (fun _ => []) 0 0 := by
  refine fs_head (by decide) (Nat.le_of_ble_eq_true rfl) ?_
  intro p e s m below meth c A ls hx hb hr hts hown hlocks hin hml hK hP hD hS hA hAe hsz hl
  have hl : lv_has ls 4 [(0, .int (nI o)), (1, .int a), (2, .int k), (3, .int x)] := hl
  have hown : s.vm.findClass R_Mo = some m.cls := hown
  refine lv_iload_n hx hb d_Mo_asked_0 rfl (lv_at hl 0 rfl) ?_
  rcases (show o = 26 ∨ o = 27 ∨ o = 28 ∨ o = 29 ∨ o = 30 from by omega) with hsw | hsw | hsw | hsw | hsw
  · refine fs_eqi (v := nI 26) (by rw [hsw]) ?_
    refine lv_tableIn (off := 31) (tgt := 32) hx hb d_Mo_asked_1 (by decide) (by decide) rfl (by decide) ?_
    refine lv_iload_n hx hb d_Mo_asked_32 rfl (lv_at hl 1 rfl) ?_
    refine lv_iload_n hx hb d_Mo_asked_33 rfl (lv_at hl 2 rfl) ?_
    refine lv_icmp_ne (tgt := 41) hx hb d_Mo_asked_34 (by decide) (fun hc34 => ?_) (fun hc34 => ?_)
    · refine lv_iconst (v := nI 0) hx hb d_Mo_asked_41 (by decide) ?_
      exact fs_zret hx hb hr hlocks hAe hK hS d_Mo_asked_42 (by decide) () (Or.inr ⟨by rw [hsw]; exact decide_eq_false hc34, rfl⟩) hP hD
    refine lv_iconst (v := nI 1) hx hb d_Mo_asked_37 (by decide) ?_
    refine lv_goto (tgt := 42) hx hb d_Mo_asked_38 (by decide) ?_
    exact fs_zret hx hb hr hlocks hAe hK hS d_Mo_asked_42 (by decide) () (Or.inl ⟨by rw [hsw]; exact decide_eq_true hc34, rfl⟩) hP hD
  · refine fs_eqi (v := nI 27) (by rw [hsw]) ?_
    refine lv_tableIn (off := 42) (tgt := 43) hx hb d_Mo_asked_1 (by decide) (by decide) rfl (by decide) ?_
    refine lv_iload_n hx hb d_Mo_asked_43 rfl (lv_at hl 1 rfl) ?_
    refine fs_calll (wc := []) (wr := []) [] [] hP hD hK hS hA rfl rfl rfl (by decide) (fun hPc hDc => va_runS (As := [.int a]) (rest := []) ⟨hx, hb, hml, hown, hts⟩ (c_Mo_plain a _) (⟨callB_of 1 hts (fs_g kin_Mo_plain) rfl rfl rfl (hts _ wi_6) (hts _ wi_550) (by decide +kernel) ⟨Nat.le_of_ble_eq_true rfl, Nat.le_of_ble_eq_true rfl⟩, hts _ wi_551⟩) (fs_preS hPc hK hDc) rfl rfl hl.1 rfl (lv_room (Nat.le_of_ble_eq_true rfl)) d_Mo_asked_44 ⟨Nat.le_of_ble_eq_true rfl, Nat.le_of_ble_eq_true rfl⟩) rfl (fun r44 _ H locs hp44 hP hD hS => ?_)
    have hP : va_P (dC, dI) vwCl [] H := hP
    have hD : va_D A [] := hD
    subst hp44
    refine lv_iload_n hx hb d_Mo_asked_47 rfl (lv_at hl 2 rfl) ?_
    refine fs_calll (wc := []) (wr := []) [] [] hP hD hK hS hA rfl rfl rfl (by decide) (fun hPc hDc => va_runS (As := [.int k]) (rest := [.long (fx_pl a)]) ⟨hx, hb, hml, hown, hts⟩ (c_Mo_plain k _) (⟨callB_of 1 hts (fs_g kin_Mo_plain) rfl rfl rfl (hts _ wi_6) (hts _ wi_550) (by decide +kernel) ⟨Nat.le_of_ble_eq_true rfl, Nat.le_of_ble_eq_true rfl⟩, hts _ wi_551⟩) (fs_preS hPc hK hDc) rfl rfl hl.1 rfl (lv_room (Nat.le_of_ble_eq_true rfl)) d_Mo_asked_48 ⟨Nat.le_of_ble_eq_true rfl, Nat.le_of_ble_eq_true rfl⟩) rfl (fun r48 _ H locs hp48 hP hD hS => ?_)
    have hP : va_P (dC, dI) vwCl [] H := hP
    have hD : va_D A [] := hD
    subst hp48
    refine W.lcmp hx hb d_Mo_asked_51 ?_
    refine lv_if_le (tgt := 59) hx hb d_Mo_asked_52 (by decide) (fun hc52 => ?_) (fun hc52 => ?_)
    · refine lv_iconst (v := nI 0) hx hb d_Mo_asked_59 (by decide) ?_
      exact fs_zret hx hb hr hlocks hAe hK hS d_Mo_asked_60 (by decide) () (Or.inr ⟨by rw [hsw]; exact decide_eq_false ((fx_cmp_le _ _).mp hc52), rfl⟩) hP hD
    refine lv_iconst (v := nI 1) hx hb d_Mo_asked_55 (by decide) ?_
    refine lv_goto (tgt := 60) hx hb d_Mo_asked_56 (by decide) ?_
    exact fs_zret hx hb hr hlocks hAe hK hS d_Mo_asked_60 (by decide) () (Or.inl ⟨by rw [hsw]; exact decide_eq_true (Decidable.not_not.mp (fun q => hc52 ((fx_cmp_le _ _).mpr q))), rfl⟩) hP hD
  · refine fs_eqi (v := nI 28) (by rw [hsw]) ?_
    refine lv_tableIn (off := 60) (tgt := 61) hx hb d_Mo_asked_1 (by decide) (by decide) rfl (by decide) ?_
    refine lv_iload_n hx hb d_Mo_asked_61 rfl (lv_at hl 1 rfl) ?_
    refine fs_calll (wc := []) (wr := []) [] [] hP hD hK hS hA rfl rfl rfl (by decide) (fun hPc hDc => va_runS (As := [.int a]) (rest := []) ⟨hx, hb, hml, hown, hts⟩ (c_Mo_plain a _) (⟨callB_of 1 hts (fs_g kin_Mo_plain) rfl rfl rfl (hts _ wi_6) (hts _ wi_550) (by decide +kernel) ⟨Nat.le_of_ble_eq_true rfl, Nat.le_of_ble_eq_true rfl⟩, hts _ wi_551⟩) (fs_preS hPc hK hDc) rfl rfl hl.1 rfl (lv_room (Nat.le_of_ble_eq_true rfl)) d_Mo_asked_62 ⟨Nat.le_of_ble_eq_true rfl, Nat.le_of_ble_eq_true rfl⟩) rfl (fun r62 _ H locs hp62 hP hD hS => ?_)
    have hP : va_P (dC, dI) vwCl [] H := hP
    have hD : va_D A [] := hD
    subst hp62
    refine lv_iload_n hx hb d_Mo_asked_65 rfl (lv_at hl 2 rfl) ?_
    refine fs_calll (wc := []) (wr := []) [] [] hP hD hK hS hA rfl rfl rfl (by decide) (fun hPc hDc => va_runS (As := [.int k]) (rest := [.long (fx_pl a)]) ⟨hx, hb, hml, hown, hts⟩ (c_Mo_plain k _) (⟨callB_of 1 hts (fs_g kin_Mo_plain) rfl rfl rfl (hts _ wi_6) (hts _ wi_550) (by decide +kernel) ⟨Nat.le_of_ble_eq_true rfl, Nat.le_of_ble_eq_true rfl⟩, hts _ wi_551⟩) (fs_preS hPc hK hDc) rfl rfl hl.1 rfl (lv_room (Nat.le_of_ble_eq_true rfl)) d_Mo_asked_66 ⟨Nat.le_of_ble_eq_true rfl, Nat.le_of_ble_eq_true rfl⟩) rfl (fun r66 _ H locs hp66 hP hD hS => ?_)
    have hP : va_P (dC, dI) vwCl [] H := hP
    have hD : va_D A [] := hD
    subst hp66
    refine W.lcmp hx hb d_Mo_asked_69 ?_
    refine lv_if_lt (tgt := 77) hx hb d_Mo_asked_70 (by decide) (fun hc70 => ?_) (fun hc70 => ?_)
    · refine lv_iconst (v := nI 0) hx hb d_Mo_asked_77 (by decide) ?_
      exact fs_zret hx hb hr hlocks hAe hK hS d_Mo_asked_78 (by decide) () (Or.inr ⟨by rw [hsw]; exact decide_eq_false ((fx_cmp_lt _ _).mp hc70), rfl⟩) hP hD
    refine lv_iconst (v := nI 1) hx hb d_Mo_asked_73 (by decide) ?_
    refine lv_goto (tgt := 78) hx hb d_Mo_asked_74 (by decide) ?_
    exact fs_zret hx hb hr hlocks hAe hK hS d_Mo_asked_78 (by decide) () (Or.inl ⟨by rw [hsw]; exact decide_eq_true (Decidable.not_not.mp (fun q => hc70 ((fx_cmp_lt _ _).mpr q))), rfl⟩) hP hD
  · refine fs_eqi (v := nI 29) (by rw [hsw]) ?_
    refine lv_tableIn (off := 78) (tgt := 79) hx hb d_Mo_asked_1 (by decide) (by decide) rfl (by decide) ?_
    refine lv_iload_n hx hb d_Mo_asked_79 rfl (lv_at hl 1 rfl) ?_
    refine lv_iload_n hx hb d_Mo_asked_80 rfl (lv_at hl 2 rfl) ?_
    refine lv_iand hx hb d_Mo_asked_81 ?_
    refine lv_if_eq (tgt := 89) hx hb d_Mo_asked_82 (by decide) (fun hc82 => ?_) (fun hc82 => ?_)
    · refine lv_iconst (v := nI 0) hx hb d_Mo_asked_89 (by decide) ?_
      exact fs_zret hx hb hr hlocks hAe hK hS d_Mo_asked_90 (by decide) () (Or.inr ⟨by rw [hsw]; show (!decide (a &&& k = 0)) = false; rw [decide_eq_true hc82]; rfl, rfl⟩) hP hD
    refine lv_iconst (v := nI 1) hx hb d_Mo_asked_85 (by decide) ?_
    refine lv_goto (tgt := 90) hx hb d_Mo_asked_86 (by decide) ?_
    exact fs_zret hx hb hr hlocks hAe hK hS d_Mo_asked_90 (by decide) () (Or.inl ⟨by rw [hsw]; show (!decide (a &&& k = 0)) = true; rw [decide_eq_false hc82]; rfl, rfl⟩) hP hD
  · refine fs_eqi (v := nI 30) (by rw [hsw]) ?_
    refine lv_tableOut (tgt := 91) hx hb d_Mo_asked_1 (by decide) (by decide) ?_
    refine lv_iload_n hx hb d_Mo_asked_91 rfl (lv_at hl 1 rfl) ?_
    refine lv_iload_n hx hb d_Mo_asked_92 rfl (lv_at hl 3 rfl) ?_
    refine lv_icmp_ne (tgt := 100) hx hb d_Mo_asked_93 (by decide) (fun hc93 => ?_) (fun hc93 => ?_)
    · refine lv_iconst (v := nI 0) hx hb d_Mo_asked_100 (by decide) ?_
      exact fs_zret hx hb hr hlocks hAe hK hS d_Mo_asked_101 (by decide) () (Or.inr ⟨by rw [hsw]; exact decide_eq_false hc93, rfl⟩) hP hD
    refine lv_iconst (v := nI 1) hx hb d_Mo_asked_96 (by decide) ?_
    refine lv_goto (tgt := 101) hx hb d_Mo_asked_97 (by decide) ?_
    exact fs_zret hx hb hr hlocks hAe hK hS d_Mo_asked_101 (by decide) () (Or.inl ⟨by rw [hsw]; exact decide_eq_true hc93, rfl⟩) hP hD

theorem fx_run_out {L : fx_Prg} {w cs : Nat → Int32} {a x : Int32} {i c : Nat} (h : ¬ i < L.length) : ∀ n, fx_run L w n a x cs i c = (0, c)
  | 0 => rfl
  | n + 1 => by rw [fx_run, if_neg h]
theorem d_Mo_run_0 : decode b_Mo_run 0 = .ok (.iconst 0, 1) := by decide +kernel
theorem d_Mo_run_1 : decode b_Mo_run 1 = .ok (.istore_n 2, 1) := by decide +kernel
theorem d_Mo_run_2 : decode b_Mo_run 2 = .ok (.iconst 0, 1) := by decide +kernel
theorem d_Mo_run_3 : decode b_Mo_run 3 = .ok (.istore_n 3, 1) := by decide +kernel
theorem d_Mo_run_4 : decode b_Mo_run 4 = .ok (.iconst 0, 1) := by decide +kernel
theorem d_Mo_run_5 : decode b_Mo_run 5 = .ok (.istore 4, 2) := by decide +kernel
theorem d_Mo_run_7 : decode b_Mo_run 7 = .ok (.aload_n 0, 1) := by decide +kernel
theorem d_Mo_run_8 : decode b_Mo_run 8 = .ok (.iconst 0, 1) := by decide +kernel
theorem d_Mo_run_9 : decode b_Mo_run 9 = .ok (.putfield 79, 3) := by decide +kernel
theorem d_Mo_run_12 : decode b_Mo_run 12 = .ok (.iconst 0, 1) := by decide +kernel
theorem d_Mo_run_13 : decode b_Mo_run 13 = .ok (.istore 5, 2) := by decide +kernel
theorem d_Mo_run_15 : decode b_Mo_run 15 = .ok (.iload 5, 2) := by decide +kernel
theorem d_Mo_run_17 : decode b_Mo_run 17 = .ok (.bipush 16, 2) := by decide +kernel
theorem d_Mo_run_19 : decode b_Mo_run 19 = .ok (.if_icmp .ge 17, 3) := by decide +kernel
theorem d_Mo_run_22 : decode b_Mo_run 22 = .ok (.aload_n 0, 1) := by decide +kernel
theorem d_Mo_run_23 : decode b_Mo_run 23 = .ok (.getfield 28, 3) := by decide +kernel
theorem d_Mo_run_26 : decode b_Mo_run 26 = .ok (.iload 5, 2) := by decide +kernel
theorem d_Mo_run_28 : decode b_Mo_run 28 = .ok (.iconst 0, 1) := by decide +kernel
theorem d_Mo_run_29 : decode b_Mo_run 29 = .ok (.iastore, 1) := by decide +kernel
theorem d_Mo_run_30 : decode b_Mo_run 30 = .ok (.iinc 5 1, 3) := by decide +kernel
theorem d_Mo_run_33 : decode b_Mo_run 33 = .ok (.goto (-18), 3) := by decide +kernel
theorem d_Mo_run_36 : decode b_Mo_run 36 = .ok (.iload 4, 2) := by decide +kernel
theorem d_Mo_run_38 : decode b_Mo_run 38 = .ok (.aload_n 0, 1) := by decide +kernel
theorem d_Mo_run_39 : decode b_Mo_run 39 = .ok (.getfield 22, 3) := by decide +kernel
theorem d_Mo_run_42 : decode b_Mo_run 42 = .ok (.iload_n 1, 1) := by decide +kernel
theorem d_Mo_run_43 : decode b_Mo_run 43 = .ok (.iaload, 1) := by decide +kernel
theorem d_Mo_run_44 : decode b_Mo_run 44 = .ok (.if_icmp .ge 297, 3) := by decide +kernel
theorem d_Mo_run_47 : decode b_Mo_run 47 = .ok (.bipush 40, 2) := by decide +kernel
theorem d_Mo_run_49 : decode b_Mo_run 49 = .ok (.iload_n 1, 1) := by decide +kernel
theorem d_Mo_run_50 : decode b_Mo_run 50 = .ok (.imul, 1) := by decide +kernel
theorem d_Mo_run_51 : decode b_Mo_run 51 = .ok (.iload 4, 2) := by decide +kernel
theorem d_Mo_run_53 : decode b_Mo_run 53 = .ok (.iadd, 1) := by decide +kernel
theorem d_Mo_run_54 : decode b_Mo_run 54 = .ok (.istore 5, 2) := by decide +kernel
theorem d_Mo_run_56 : decode b_Mo_run 56 = .ok (.aload_n 0, 1) := by decide +kernel
theorem d_Mo_run_57 : decode b_Mo_run 57 = .ok (.getfield 7, 3) := by decide +kernel
theorem d_Mo_run_60 : decode b_Mo_run 60 = .ok (.iload 5, 2) := by decide +kernel
theorem d_Mo_run_62 : decode b_Mo_run 62 = .ok (.iaload, 1) := by decide +kernel
theorem d_Mo_run_63 : decode b_Mo_run 63 = .ok (.istore 6, 2) := by decide +kernel
theorem d_Mo_run_65 : decode b_Mo_run 65 = .ok (.aload_n 0, 1) := by decide +kernel
theorem d_Mo_run_66 : decode b_Mo_run 66 = .ok (.getfield 19, 3) := by decide +kernel
theorem d_Mo_run_69 : decode b_Mo_run 69 = .ok (.iload 5, 2) := by decide +kernel
theorem d_Mo_run_71 : decode b_Mo_run 71 = .ok (.iaload, 1) := by decide +kernel
theorem d_Mo_run_72 : decode b_Mo_run 72 = .ok (.istore 7, 2) := by decide +kernel
theorem d_Mo_run_74 : decode b_Mo_run 74 = .ok (.aload_n 0, 1) := by decide +kernel
theorem d_Mo_run_75 : decode b_Mo_run 75 = .ok (.dup, 1) := by decide +kernel
theorem d_Mo_run_76 : decode b_Mo_run 76 = .ok (.getfield 79, 3) := by decide +kernel
theorem d_Mo_run_79 : decode b_Mo_run 79 = .ok (.iconst 1, 1) := by decide +kernel
theorem d_Mo_run_80 : decode b_Mo_run 80 = .ok (.iadd, 1) := by decide +kernel
theorem d_Mo_run_81 : decode b_Mo_run 81 = .ok (.putfield 79, 3) := by decide +kernel
theorem d_Mo_run_84 : decode b_Mo_run 84 = .ok (.iinc 4 1, 3) := by decide +kernel
theorem d_Mo_run_87 : decode b_Mo_run 87 = .ok (.iload 6, 2) := by decide +kernel
theorem d_Mo_run_89 : decode b_Mo_run 89 = .ok (.bipush 31, 2) := by decide +kernel
theorem d_Mo_run_91 : decode b_Mo_run 91 = .ok (.if_icmp .ne 20, 3) := by decide +kernel
theorem d_Mo_run_94 : decode b_Mo_run 94 = .ok (.aload_n 0, 1) := by decide +kernel
theorem d_Mo_run_95 : decode b_Mo_run 95 = .ok (.getfield 13, 3) := by decide +kernel
theorem d_Mo_run_98 : decode b_Mo_run 98 = .ok (.iload 5, 2) := by decide +kernel
theorem d_Mo_run_100 : decode b_Mo_run 100 = .ok (.iaload, 1) := by decide +kernel
theorem d_Mo_run_101 : decode b_Mo_run 101 = .ok (.ifCond .eq 7, 3) := by decide +kernel
theorem d_Mo_run_104 : decode b_Mo_run 104 = .ok (.iload_n 2, 1) := by decide +kernel
theorem d_Mo_run_105 : decode b_Mo_run 105 = .ok (.goto 5, 3) := by decide +kernel
theorem d_Mo_run_108 : decode b_Mo_run 108 = .ok (.iload 7, 2) := by decide +kernel
theorem d_Mo_run_110 : decode b_Mo_run 110 = .ok (.ireturn, 1) := by decide +kernel
theorem d_Mo_run_111 : decode b_Mo_run 111 = .ok (.iload 6, 2) := by decide +kernel
theorem d_Mo_run_113 : decode b_Mo_run 113 = .ok (.bipush 22, 2) := by decide +kernel
theorem d_Mo_run_115 : decode b_Mo_run 115 = .ok (.if_icmp .ne 9, 3) := by decide +kernel
theorem d_Mo_run_118 : decode b_Mo_run 118 = .ok (.iload_n 3, 1) := by decide +kernel
theorem d_Mo_run_119 : decode b_Mo_run 119 = .ok (.ifCond .ne 5, 3) := by decide +kernel
theorem d_Mo_run_122 : decode b_Mo_run 122 = .ok (.iconst 0, 1) := by decide +kernel
theorem d_Mo_run_123 : decode b_Mo_run 123 = .ok (.ireturn, 1) := by decide +kernel
theorem d_Mo_run_124 : decode b_Mo_run 124 = .ok (.iload 6, 2) := by decide +kernel
theorem d_Mo_run_126 : decode b_Mo_run 126 = .ok (.bipush 25, 2) := by decide +kernel
theorem d_Mo_run_128 : decode b_Mo_run 128 = .ok (.if_icmp .ne 13, 3) := by decide +kernel
theorem d_Mo_run_131 : decode b_Mo_run 131 = .ok (.iload 4, 2) := by decide +kernel
theorem d_Mo_run_133 : decode b_Mo_run 133 = .ok (.iload 7, 2) := by decide +kernel
theorem d_Mo_run_135 : decode b_Mo_run 135 = .ok (.iadd, 1) := by decide +kernel
theorem d_Mo_run_136 : decode b_Mo_run 136 = .ok (.istore 4, 2) := by decide +kernel
theorem d_Mo_run_138 : decode b_Mo_run 138 = .ok (.goto 200, 3) := by decide +kernel
theorem d_Mo_run_141 : decode b_Mo_run 141 = .ok (.iload 6, 2) := by decide +kernel
theorem d_Mo_run_143 : decode b_Mo_run 143 = .ok (.bipush 25, 2) := by decide +kernel
theorem d_Mo_run_145 : decode b_Mo_run 145 = .ok (.if_icmp .le 40, 3) := by decide +kernel
theorem d_Mo_run_148 : decode b_Mo_run 148 = .ok (.iload 4, 2) := by decide +kernel
theorem d_Mo_run_150 : decode b_Mo_run 150 = .ok (.iload 6, 2) := by decide +kernel
theorem d_Mo_run_152 : decode b_Mo_run 152 = .ok (.iload_n 2, 1) := by decide +kernel
theorem d_Mo_run_153 : decode b_Mo_run 153 = .ok (.iload 7, 2) := by decide +kernel
theorem d_Mo_run_155 : decode b_Mo_run 155 = .ok (.iload_n 3, 1) := by decide +kernel
theorem d_Mo_run_156 : decode b_Mo_run 156 = .ok (.invokestatic 82, 3) := by decide +kernel
theorem d_Mo_run_159 : decode b_Mo_run 159 = .ok (.ifCond .eq 13, 3) := by decide +kernel
theorem d_Mo_run_162 : decode b_Mo_run 162 = .ok (.aload_n 0, 1) := by decide +kernel
theorem d_Mo_run_163 : decode b_Mo_run 163 = .ok (.getfield 13, 3) := by decide +kernel
theorem d_Mo_run_166 : decode b_Mo_run 166 = .ok (.iload 5, 2) := by decide +kernel
theorem d_Mo_run_168 : decode b_Mo_run 168 = .ok (.iaload, 1) := by decide +kernel
theorem d_Mo_run_169 : decode b_Mo_run 169 = .ok (.goto 10, 3) := by decide +kernel
theorem d_Mo_run_172 : decode b_Mo_run 172 = .ok (.aload_n 0, 1) := by decide +kernel
theorem d_Mo_run_173 : decode b_Mo_run 173 = .ok (.getfield 16, 3) := by decide +kernel
theorem d_Mo_run_176 : decode b_Mo_run 176 = .ok (.iload 5, 2) := by decide +kernel
theorem d_Mo_run_178 : decode b_Mo_run 178 = .ok (.iaload, 1) := by decide +kernel
theorem d_Mo_run_179 : decode b_Mo_run 179 = .ok (.iadd, 1) := by decide +kernel
theorem d_Mo_run_180 : decode b_Mo_run 180 = .ok (.istore 4, 2) := by decide +kernel
theorem d_Mo_run_182 : decode b_Mo_run 182 = .ok (.goto 156, 3) := by decide +kernel
theorem d_Mo_run_185 : decode b_Mo_run 185 = .ok (.iload 6, 2) := by decide +kernel
theorem d_Mo_run_187 : decode b_Mo_run 187 = .ok (.bipush 10, 2) := by decide +kernel
theorem d_Mo_run_189 : decode b_Mo_run 189 = .ok (.if_icmp .lt 16, 3) := by decide +kernel
theorem d_Mo_run_192 : decode b_Mo_run 192 = .ok (.iload 6, 2) := by decide +kernel
theorem d_Mo_run_194 : decode b_Mo_run 194 = .ok (.iload_n 2, 1) := by decide +kernel
theorem d_Mo_run_195 : decode b_Mo_run 195 = .ok (.iload 7, 2) := by decide +kernel
theorem d_Mo_run_197 : decode b_Mo_run 197 = .ok (.iload_n 3, 1) := by decide +kernel
theorem d_Mo_run_198 : decode b_Mo_run 198 = .ok (.invokestatic 86, 3) := by decide +kernel
theorem d_Mo_run_201 : decode b_Mo_run 201 = .ok (.istore_n 2, 1) := by decide +kernel
theorem d_Mo_run_202 : decode b_Mo_run 202 = .ok (.goto 136, 3) := by decide +kernel
theorem d_Mo_run_205 : decode b_Mo_run 205 = .ok (.iload 6, 2) := by decide +kernel
theorem d_Mo_run_207 : decode b_Mo_run 207 = .ok (.ifCond .ne 14, 3) := by decide +kernel
theorem d_Mo_run_210 : decode b_Mo_run 210 = .ok (.aload_n 0, 1) := by decide +kernel
theorem d_Mo_run_211 : decode b_Mo_run 211 = .ok (.getfield 25, 3) := by decide +kernel
theorem d_Mo_run_214 : decode b_Mo_run 214 = .ok (.iload 7, 2) := by decide +kernel
theorem d_Mo_run_216 : decode b_Mo_run 216 = .ok (.iaload, 1) := by decide +kernel
theorem d_Mo_run_217 : decode b_Mo_run 217 = .ok (.istore_n 2, 1) := by decide +kernel
theorem d_Mo_run_218 : decode b_Mo_run 218 = .ok (.goto 120, 3) := by decide +kernel
theorem d_Mo_run_221 : decode b_Mo_run 221 = .ok (.iload 6, 2) := by decide +kernel
theorem d_Mo_run_223 : decode b_Mo_run 223 = .ok (.iconst 1, 1) := by decide +kernel
theorem d_Mo_run_224 : decode b_Mo_run 224 = .ok (.if_icmp .ne 9, 3) := by decide +kernel
theorem d_Mo_run_227 : decode b_Mo_run 227 = .ok (.iload 7, 2) := by decide +kernel
theorem d_Mo_run_229 : decode b_Mo_run 229 = .ok (.istore_n 2, 1) := by decide +kernel
theorem d_Mo_run_230 : decode b_Mo_run 230 = .ok (.goto 108, 3) := by decide +kernel
theorem d_Mo_run_233 : decode b_Mo_run 233 = .ok (.iload 6, 2) := by decide +kernel
theorem d_Mo_run_235 : decode b_Mo_run 235 = .ok (.iconst 2, 1) := by decide +kernel
theorem d_Mo_run_236 : decode b_Mo_run 236 = .ok (.if_icmp .ne 14, 3) := by decide +kernel
theorem d_Mo_run_239 : decode b_Mo_run 239 = .ok (.aload_n 0, 1) := by decide +kernel
theorem d_Mo_run_240 : decode b_Mo_run 240 = .ok (.getfield 28, 3) := by decide +kernel
theorem d_Mo_run_243 : decode b_Mo_run 243 = .ok (.iload 7, 2) := by decide +kernel
theorem d_Mo_run_245 : decode b_Mo_run 245 = .ok (.iaload, 1) := by decide +kernel
theorem d_Mo_run_246 : decode b_Mo_run 246 = .ok (.istore_n 2, 1) := by decide +kernel
theorem d_Mo_run_247 : decode b_Mo_run 247 = .ok (.goto 91, 3) := by decide +kernel
theorem d_Mo_run_250 : decode b_Mo_run 250 = .ok (.iload 6, 2) := by decide +kernel
theorem d_Mo_run_252 : decode b_Mo_run 252 = .ok (.iconst 3, 1) := by decide +kernel
theorem d_Mo_run_253 : decode b_Mo_run 253 = .ok (.if_icmp .ne 13, 3) := by decide +kernel
theorem d_Mo_run_256 : decode b_Mo_run 256 = .ok (.aload_n 0, 1) := by decide +kernel
theorem d_Mo_run_257 : decode b_Mo_run 257 = .ok (.getfield 22, 3) := by decide +kernel
theorem d_Mo_run_260 : decode b_Mo_run 260 = .ok (.iload_n 1, 1) := by decide +kernel
theorem d_Mo_run_261 : decode b_Mo_run 261 = .ok (.iaload, 1) := by decide +kernel
theorem d_Mo_run_262 : decode b_Mo_run 262 = .ok (.istore_n 2, 1) := by decide +kernel
theorem d_Mo_run_263 : decode b_Mo_run 263 = .ok (.goto 75, 3) := by decide +kernel
theorem d_Mo_run_266 : decode b_Mo_run 266 = .ok (.iload 6, 2) := by decide +kernel
theorem d_Mo_run_268 : decode b_Mo_run 268 = .ok (.iconst 4, 1) := by decide +kernel
theorem d_Mo_run_269 : decode b_Mo_run 269 = .ok (.if_icmp .ne 9, 3) := by decide +kernel
theorem d_Mo_run_272 : decode b_Mo_run 272 = .ok (.iload 7, 2) := by decide +kernel
theorem d_Mo_run_274 : decode b_Mo_run 274 = .ok (.istore_n 3, 1) := by decide +kernel
theorem d_Mo_run_275 : decode b_Mo_run 275 = .ok (.goto 63, 3) := by decide +kernel
theorem d_Mo_run_278 : decode b_Mo_run 278 = .ok (.iload 6, 2) := by decide +kernel
theorem d_Mo_run_280 : decode b_Mo_run 280 = .ok (.iconst 5, 1) := by decide +kernel
theorem d_Mo_run_281 : decode b_Mo_run 281 = .ok (.if_icmp .ne 14, 3) := by decide +kernel
theorem d_Mo_run_284 : decode b_Mo_run 284 = .ok (.aload_n 0, 1) := by decide +kernel
theorem d_Mo_run_285 : decode b_Mo_run 285 = .ok (.getfield 28, 3) := by decide +kernel
theorem d_Mo_run_288 : decode b_Mo_run 288 = .ok (.iload 7, 2) := by decide +kernel
theorem d_Mo_run_290 : decode b_Mo_run 290 = .ok (.iaload, 1) := by decide +kernel
theorem d_Mo_run_291 : decode b_Mo_run 291 = .ok (.istore_n 3, 1) := by decide +kernel
theorem d_Mo_run_292 : decode b_Mo_run 292 = .ok (.goto 46, 3) := by decide +kernel
theorem d_Mo_run_295 : decode b_Mo_run 295 = .ok (.iload 6, 2) := by decide +kernel
theorem d_Mo_run_297 : decode b_Mo_run 297 = .ok (.bipush 6, 2) := by decide +kernel
theorem d_Mo_run_299 : decode b_Mo_run 299 = .ok (.if_icmp .ne 8, 3) := by decide +kernel
theorem d_Mo_run_302 : decode b_Mo_run 302 = .ok (.iload_n 2, 1) := by decide +kernel
theorem d_Mo_run_303 : decode b_Mo_run 303 = .ok (.istore_n 3, 1) := by decide +kernel
theorem d_Mo_run_304 : decode b_Mo_run 304 = .ok (.goto 34, 3) := by decide +kernel
theorem d_Mo_run_307 : decode b_Mo_run 307 = .ok (.iload 6, 2) := by decide +kernel
theorem d_Mo_run_309 : decode b_Mo_run 309 = .ok (.bipush 7, 2) := by decide +kernel
theorem d_Mo_run_311 : decode b_Mo_run 311 = .ok (.if_icmp .ne 8, 3) := by decide +kernel
theorem d_Mo_run_314 : decode b_Mo_run 314 = .ok (.iload_n 3, 1) := by decide +kernel
theorem d_Mo_run_315 : decode b_Mo_run 315 = .ok (.istore_n 2, 1) := by decide +kernel
theorem d_Mo_run_316 : decode b_Mo_run 316 = .ok (.goto 22, 3) := by decide +kernel
theorem d_Mo_run_319 : decode b_Mo_run 319 = .ok (.aload_n 0, 1) := by decide +kernel
theorem d_Mo_run_320 : decode b_Mo_run 320 = .ok (.getfield 28, 3) := by decide +kernel
theorem d_Mo_run_323 : decode b_Mo_run 323 = .ok (.iload 7, 2) := by decide +kernel
theorem d_Mo_run_325 : decode b_Mo_run 325 = .ok (.iload 6, 2) := by decide +kernel
theorem d_Mo_run_327 : decode b_Mo_run 327 = .ok (.bipush 8, 2) := by decide +kernel
theorem d_Mo_run_329 : decode b_Mo_run 329 = .ok (.if_icmp .ne 7, 3) := by decide +kernel
theorem d_Mo_run_332 : decode b_Mo_run 332 = .ok (.iload_n 2, 1) := by decide +kernel
theorem d_Mo_run_333 : decode b_Mo_run 333 = .ok (.goto 4, 3) := by decide +kernel
theorem d_Mo_run_336 : decode b_Mo_run 336 = .ok (.iload_n 3, 1) := by decide +kernel
theorem d_Mo_run_337 : decode b_Mo_run 337 = .ok (.iastore, 1) := by decide +kernel
theorem d_Mo_run_338 : decode b_Mo_run 338 = .ok (.goto (-302), 3) := by decide +kernel
theorem d_Mo_run_341 : decode b_Mo_run 341 = .ok (.iconst 0, 1) := by decide +kernel
theorem d_Mo_run_342 : decode b_Mo_run 342 = .ok (.ireturn, 1) := by decide +kernel
set_option maxHeartbeats 4000000 in
set_option maxRecDepth 100000 in
theorem c_Mo_run (mo mop mye mno mnu msz stk mre mce mco xc xa xm xv cnt : Nat) (stp thr : Int32) (fo fy fn fk zs w cs : Nat → Int32) (L : fx_Prg) (f : Nat) (sz : Nat) (hf : f < 8) (hzs : zs f = nI L.length) (hrep : fx_rep L (fun i => fo (40 * f + i)) (fun i => fy (40 * f + i)) (fun i => fn (40 * f + i)) (fun i => fk (40 * f + i))) (hok : fx_ok L) (hgd : fx_good L) : fs_I l y_Mo_run (k_Mo_run :: fs_T) { frames := 2, cells := 0, slots := 0, locals := 43 } (dC, dI) vwCl (fs_tys cI cZ cJ cF) [.ref mo, .int (nI f)] [(mo, .inr (5, [.ref mop, .ref mye, .ref mno, .ref mnu, .ref msz, .int (nI stk), .ref mre, .ref mce, .ref mco, .ref xc, .ref xa, .ref xm, .ref xv, .int (nI cnt), .int stp, .int thr])), (mop, .inl (cI, 320, .inl fo)), (mye, .inl (cI, 320, .inl fy)), (mno, .inl (cI, 320, .inl fn)), (mnu, .inl (cI, 320, .inl fk)), (msz, .inl (cI, 8, .inl zs)), (mre, .inl (cI, 16, .inl w)), (mce, .inl (cI, 16, .inl cs))] sz (S := Nat → Int32) (fun r _ => r = (fx_do L w).1) (fun u => [(mo, .inr (5, [.ref mop, .ref mye, .ref mno, .ref mnu, .ref msz, .int (nI stk), .ref mre, .ref mce, .ref mco, .ref xc, .ref xa, .ref xm, .ref xv, .int (nI cnt), .int (nI ((fx_do L w).2)), .int thr])), (mop, .inl (cI, 320, .inl fo)), (mye, .inl (cI, 320, .inl fy)), (mno, .inl (cI, 320, .inl fn)), (mnu, .inl (cI, 320, .inl fk)), (msz, .inl (cI, 8, .inl zs)), (mre, .inl (cI, 16, .inl w)), (mce, .inl (cI, 16, .inl u))]) 0 0 := by
  refine fs_head (by decide) (Nat.le_of_ble_eq_true rfl) ?_
  intro p e s m below meth c A ls hx hb hr hts hown hlocks hin hml hK hP hD hS hA hAe hsz hl
  have hl : lv_has ls 8 [(0, .ref mo), (1, .int (nI f))] := hl
  have hown : s.vm.findClass R_Mo = some m.cls := hown
  have hlen := hok.1
  refine lv_iconst (v := nI 0) hx hb d_Mo_run_0 (by decide) ?_
  refine lv_istore_n hx hb d_Mo_run_1 rfl hl (by decide) (lv' := [(2, .int (nI 0)), (0, .ref mo), (1, .int (nI f))]) rfl (fun ls hl => ?_)
  refine lv_iconst (v := nI 0) hx hb d_Mo_run_2 (by decide) ?_
  refine lv_istore_n hx hb d_Mo_run_3 rfl hl (by decide) (lv' := [(3, .int (nI 0)), (2, .int (nI 0)), (0, .ref mo), (1, .int (nI f))]) rfl (fun ls hl => ?_)
  refine lv_iconst (v := nI 0) hx hb d_Mo_run_4 (by decide) ?_
  refine lv_istore hx hb d_Mo_run_5 hl (by decide) (lv' := [(4, .int (nI 0)), (3, .int (nI 0)), (2, .int (nI 0)), (0, .ref mo), (1, .int (nI f))]) rfl (fun ls hl => ?_)
  refine lv_aload_n hx hb d_Mo_run_7 rfl (lv_at hl 3 rfl) ?_
  refine lv_iconst (v := nI 0) hx hb d_Mo_run_8 (by decide) ?_
  refine va_put (D := (dC, dI)) (ci := 5) (v := .int (nI 0)) (ty := (.int)) (C := R_Mo) (T := T_Mo) (N := 16) hx hb hts uin_Mo t_Mo ok_Mo n_Mo hown hK hP hD hS 0 rfl rfl 14 (by decide) (hts _ wi_444) (fun _ h9 => h9) rfl (by decide +kernel) rfl rfl (Nat.le_of_ble_eq_true rfl) d_Mo_run_9 (fun H locs hP hD hS => ?_)
  have hP : va_P (dC, dI) vwCl [(mo, .inr (5, [.ref mop, .ref mye, .ref mno, .ref mnu, .ref msz, .int (nI stk), .ref mre, .ref mce, .ref mco, .ref xc, .ref xa, .ref xm, .ref xv, .int (nI cnt), .int (nI 0), .int thr])), (mop, .inl (cI, 320, .inl fo)), (mye, .inl (cI, 320, .inl fy)), (mno, .inl (cI, 320, .inl fn)), (mnu, .inl (cI, 320, .inl fk)), (msz, .inl (cI, 8, .inl zs)), (mre, .inl (cI, 16, .inl w)), (mce, .inl (cI, 16, .inl cs))] H := hP
  have hD : va_D A [(mo, .inr (5, [.ref mop, .ref mye, .ref mno, .ref mnu, .ref msz, .int (nI stk), .ref mre, .ref mce, .ref mco, .ref xc, .ref xa, .ref xm, .ref xv, .int (nI cnt), .int (nI 0), .int thr])), (mop, .inl (cI, 320, .inl fo)), (mye, .inl (cI, 320, .inl fy)), (mno, .inl (cI, 320, .inl fn)), (mnu, .inl (cI, 320, .inl fk)), (msz, .inl (cI, 8, .inl zs)), (mre, .inl (cI, 16, .inl w)), (mce, .inl (cI, 16, .inl cs))] := hD
  refine lv_iconst (v := nI 0) hx hb d_Mo_run_12 (by decide) ?_
  refine lv_istore hx hb d_Mo_run_13 hl (by decide) (lv' := [(5, .int (nI 0)), (4, .int (nI 0)), (3, .int (nI 0)), (2, .int (nI 0)), (0, .ref mo), (1, .int (nI f))]) rfl (fun ls hl => ?_)
  refine fs_loop2 (α1 := Nat) (α2 := Nat → Int32) (fun c g => 16 - c) (fun c g H locs ls => (c ≤ 16) ∧ (∀ t, t < c → g t = nI 0) ∧ va_P (dC, dI) vwCl [(mo, .inr (5, [.ref mop, .ref mye, .ref mno, .ref mnu, .ref msz, .int (nI stk), .ref mre, .ref mce, .ref mco, .ref xc, .ref xa, .ref xm, .ref xv, .int (nI cnt), .int (nI 0), .int thr])), (mop, .inl (cI, 320, .inl fo)), (mye, .inl (cI, 320, .inl fy)), (mno, .inl (cI, 320, .inl fn)), (mnu, .inl (cI, 320, .inl fk)), (msz, .inl (cI, 8, .inl zs)), (mre, .inl (cI, 16, .inl w)), (mce, .inl (cI, 16, .inl g))] H ∧ va_D A [(mo, .inr (5, [.ref mop, .ref mye, .ref mno, .ref mnu, .ref msz, .int (nI stk), .ref mre, .ref mce, .ref mco, .ref xc, .ref xa, .ref xm, .ref xv, .int (nI cnt), .int (nI 0), .int thr])), (mop, .inl (cI, 320, .inl fo)), (mye, .inl (cI, 320, .inl fy)), (mno, .inl (cI, 320, .inl fn)), (mnu, .inl (cI, 320, .inl fk)), (msz, .inl (cI, 8, .inl zs)), (mre, .inl (cI, 16, .inl w)), (mce, .inl (cI, 16, .inl g))] ∧ va_S A s.heap H locs ∧ lv_has ls 8 [(0, .ref mo), (1, .int (nI f)), (2, .int (nI 0)), (3, .int (nI 0)), (4, .int (nI 0)), (5, .int (nI c))]) ?_ 0 cs ⟨by omega, fun t ht => absurd ht (by omega), hP, hD, hS, lv_sub hl [4, 5, 3, 2, 1, 0] rfl⟩
  intro c g H locs ls hI ih15
  obtain ⟨hc, hg, hP, hD, hS, hl⟩ := hI
  refine lv_iload hx hb d_Mo_run_15 (lv_at hl 5 rfl) ?_
  refine lv_bipush (v := nI 16) hx hb d_Mo_run_17 (by decide) ?_
  refine lv_icmp_ge (tgt := 36) hx hb d_Mo_run_19 (by decide) (fun hc19 => ?_) (fun hc19 => ?_)
  · rw [nI_leI (by omega) (by omega)] at hc19
    obtain ⟨hP, hD⟩ := fs_atc 7 (g := fun _ => nI 0) (fun j hj => hg j (by omega)) rfl rfl hP hD
    refine fs_loop5 (α1 := Nat) (α2 := Int32) (α3 := Int32) (α4 := Nat → Int32) (α5 := Nat) (fun c a x cs i => 40 - c) (fun c a x cs i H locs ls => (c ≤ 40) ∧ (c ≤ i) ∧ (fx_run L w (40 - c) a x cs i c = fx_do L w) ∧ (i ≤ 256 * c) ∧ va_P (dC, dI) vwCl [(mo, .inr (5, [.ref mop, .ref mye, .ref mno, .ref mnu, .ref msz, .int (nI stk), .ref mre, .ref mce, .ref mco, .ref xc, .ref xa, .ref xm, .ref xv, .int (nI cnt), .int (nI c), .int thr])), (mop, .inl (cI, 320, .inl fo)), (mye, .inl (cI, 320, .inl fy)), (mno, .inl (cI, 320, .inl fn)), (mnu, .inl (cI, 320, .inl fk)), (msz, .inl (cI, 8, .inl zs)), (mre, .inl (cI, 16, .inl w)), (mce, .inl (cI, 16, .inl cs))] H ∧ va_D A [(mo, .inr (5, [.ref mop, .ref mye, .ref mno, .ref mnu, .ref msz, .int (nI stk), .ref mre, .ref mce, .ref mco, .ref xc, .ref xa, .ref xm, .ref xv, .int (nI cnt), .int (nI c), .int thr])), (mop, .inl (cI, 320, .inl fo)), (mye, .inl (cI, 320, .inl fy)), (mno, .inl (cI, 320, .inl fn)), (mnu, .inl (cI, 320, .inl fk)), (msz, .inl (cI, 8, .inl zs)), (mre, .inl (cI, 16, .inl w)), (mce, .inl (cI, 16, .inl cs))] ∧ va_S A s.heap H locs ∧ lv_has ls 8 [(0, .ref mo), (1, .int (nI f)), (2, .int a), (3, .int x), (4, .int (nI i))]) ?_ 0 (nI 0) (nI 0) (fun _ => nI 0) 0 ⟨by omega, by omega, rfl, by omega, hP, hD, hS, lv_sub hl [0, 1, 2, 3, 4] rfl⟩
    intro c a x cs i H locs ls hI ih36
    obtain ⟨hc, hci, hrun, hib, hP, hD, hS, hl⟩ := hI
    refine lv_iload hx hb d_Mo_run_36 (lv_at hl 4 rfl) ?_
    refine lv_aload_n hx hb d_Mo_run_38 rfl (lv_at hl 0 rfl) ?_
    refine va_get (D := (dC, dI)) (ci := 5) (v := .ref msz) (C := R_Mo) (T := T_Mo) (N := 16) hx hb hts uin_Mo hown hK hP 0 rfl rfl 4 (by decide) (hts _ wi_434) (fun _ h9 => h9) rfl d_Mo_run_39 ?_
    refine lv_iload_n hx hb d_Mo_run_42 rfl (lv_at hl 1 rfl) ?_
    refine fs_iald (v := nI L.length) hx hb hK hP 5 0 rfl rfl f rfl (by decide) (by omega) hzs d_Mo_run_43 ?_
    refine lv_icmp_ge (tgt := 341) hx hb d_Mo_run_44 (by decide) (fun hc44 => ?_) (fun hc44 => ?_)
    · rw [nI_leI (by omega) (by omega)] at hc44
      refine lv_iconst (v := nI 0) hx hb d_Mo_run_341 (by decide) ?_
      rw [fx_run_out (by omega)] at hrun
      have hw2 : (fx_do L w).2 = c := by rw [← hrun]
      rw [← hw2] at hP hD
      exact fs_iret hx hb hr hlocks hAe hK hS d_Mo_run_342 cs (by rw [← hrun]; try rfl) hP hD
    rw [nI_leI (by omega) (by omega)] at hc44
    have hlt : i < L.length := by omega
    have hO := (hok.2 i hlt).1
    have hY := (hok.2 i hlt).2.1
    have hN := (hok.2 i hlt).2.2
    rw [show 40 - c = (39 - c) + 1 from by omega, fx_run, if_pos hlt] at hrun
    refine lv_bipush (v := nI 40) hx hb d_Mo_run_47 (by decide) ?_
    refine lv_iload_n hx hb d_Mo_run_49 rfl (lv_at hl 1 rfl) ?_
    refine lv_imul hx hb d_Mo_run_50 ?_
    refine fs_eqi (pk_mul _ _) ?_
    refine lv_iload hx hb d_Mo_run_51 (lv_at hl 4 rfl) ?_
    refine lv_iadd hx hb d_Mo_run_53 ?_
    refine fs_eqi (nI_add _ _) ?_
    refine lv_istore hx hb d_Mo_run_54 hl (by decide) (lv' := [(5, .int (nI (40 * f + i))), (0, .ref mo), (1, .int (nI f)), (2, .int a), (3, .int x), (4, .int (nI i))]) rfl (fun ls hl => ?_)
    refine lv_aload_n hx hb d_Mo_run_56 rfl (lv_at hl 1 rfl) ?_
    refine va_get (D := (dC, dI)) (ci := 5) (v := .ref mop) (C := R_Mo) (T := T_Mo) (N := 16) hx hb hts uin_Mo hown hK hP 0 rfl rfl 0 (by decide) (hts _ wi_430) (fun _ h9 => h9) rfl d_Mo_run_57 ?_
    refine lv_iload hx hb d_Mo_run_60 (lv_at hl 0 rfl) ?_
    refine fs_iald (v := nI (fx_O L i)) hx hb hK hP 1 0 rfl rfl (40 * f + i) rfl (by decide) (by omega) ((hrep i (by omega)).1) d_Mo_run_62 ?_
    refine lv_istore hx hb d_Mo_run_63 hl (by decide) (lv' := [(6, .int (nI (fx_O L i))), (5, .int (nI (40 * f + i))), (0, .ref mo), (1, .int (nI f)), (2, .int a), (3, .int x), (4, .int (nI i))]) rfl (fun ls hl => ?_)
    refine lv_aload_n hx hb d_Mo_run_65 rfl (lv_at hl 2 rfl) ?_
    refine va_get (D := (dC, dI)) (ci := 5) (v := .ref mnu) (C := R_Mo) (T := T_Mo) (N := 16) hx hb hts uin_Mo hown hK hP 0 rfl rfl 3 (by decide) (hts _ wi_433) (fun _ h9 => h9) rfl d_Mo_run_66 ?_
    refine lv_iload hx hb d_Mo_run_69 (lv_at hl 1 rfl) ?_
    refine fs_iald (v := fx_K L i) hx hb hK hP 4 0 rfl rfl (40 * f + i) rfl (by decide) (by omega) ((hrep i (by omega)).2.2.2) d_Mo_run_71 ?_
    refine lv_istore hx hb d_Mo_run_72 hl (by decide) (lv' := [(7, .int (fx_K L i)), (6, .int (nI (fx_O L i))), (5, .int (nI (40 * f + i))), (0, .ref mo), (1, .int (nI f)), (2, .int a), (3, .int x), (4, .int (nI i))]) rfl (fun ls hl => ?_)
    refine lv_aload_n hx hb d_Mo_run_74 rfl (lv_at hl 3 rfl) ?_
    refine lv_dup hx hb d_Mo_run_75 rfl ?_
    refine va_get (D := (dC, dI)) (ci := 5) (v := .int (nI c)) (C := R_Mo) (T := T_Mo) (N := 16) hx hb hts uin_Mo hown hK hP 0 rfl rfl 14 (by decide) (hts _ wi_444) (fun _ h9 => h9) rfl d_Mo_run_76 ?_
    refine lv_iconst (v := nI 1) hx hb d_Mo_run_79 (by decide) ?_
    refine lv_iadd hx hb d_Mo_run_80 ?_
    refine fs_eqi (nI_add _ _) ?_
    refine va_put (D := (dC, dI)) (ci := 5) (v := .int (nI (c + 1))) (ty := (.int)) (C := R_Mo) (T := T_Mo) (N := 16) hx hb hts uin_Mo t_Mo ok_Mo n_Mo hown hK hP hD hS 0 rfl rfl 14 (by decide) (hts _ wi_444) (fun _ h9 => h9) rfl (by decide +kernel) rfl rfl (Nat.le_of_ble_eq_true rfl) d_Mo_run_81 (fun H locs hP hD hS => ?_)
    have hP : va_P (dC, dI) vwCl [(mo, .inr (5, [.ref mop, .ref mye, .ref mno, .ref mnu, .ref msz, .int (nI stk), .ref mre, .ref mce, .ref mco, .ref xc, .ref xa, .ref xm, .ref xv, .int (nI cnt), .int (nI (c + 1)), .int thr])), (mop, .inl (cI, 320, .inl fo)), (mye, .inl (cI, 320, .inl fy)), (mno, .inl (cI, 320, .inl fn)), (mnu, .inl (cI, 320, .inl fk)), (msz, .inl (cI, 8, .inl zs)), (mre, .inl (cI, 16, .inl w)), (mce, .inl (cI, 16, .inl cs))] H := hP
    have hD : va_D A [(mo, .inr (5, [.ref mop, .ref mye, .ref mno, .ref mnu, .ref msz, .int (nI stk), .ref mre, .ref mce, .ref mco, .ref xc, .ref xa, .ref xm, .ref xv, .int (nI cnt), .int (nI (c + 1)), .int thr])), (mop, .inl (cI, 320, .inl fo)), (mye, .inl (cI, 320, .inl fy)), (mno, .inl (cI, 320, .inl fn)), (mnu, .inl (cI, 320, .inl fk)), (msz, .inl (cI, 8, .inl zs)), (mre, .inl (cI, 16, .inl w)), (mce, .inl (cI, 16, .inl cs))] := hD
    refine lv_iinc (v := nI (i + 1)) (k := 7) hx hb d_Mo_run_84 hl rfl (fs_incN i 1) (by decide) (lv' := [(4, .int (nI (i + 1))), (7, .int (fx_K L i)), (6, .int (nI (fx_O L i))), (5, .int (nI (40 * f + i))), (0, .ref mo), (1, .int (nI f)), (2, .int a), (3, .int x)]) rfl (fun ls hl => ?_)
    refine lv_iload hx hb d_Mo_run_87 (lv_at hl 2 rfl) ?_
    refine lv_bipush (v := nI 31) hx hb d_Mo_run_89 (by decide) ?_
    refine lv_icmp_ne (tgt := 111) hx hb d_Mo_run_91 (by decide) (fun hc91 => ?_) (fun hc91 => ?_)
    · rw [nI_eq (by omega) (by omega)] at hc91
      refine lv_iload hx hb d_Mo_run_111 (lv_at hl 2 rfl) ?_
      refine lv_bipush (v := nI 22) hx hb d_Mo_run_113 (by decide) ?_
      refine lv_icmp_ne (tgt := 124) hx hb d_Mo_run_115 (by decide) (fun hc115 => ?_) (fun hc115 => ?_)
      · rw [nI_eq (by omega) (by omega)] at hc115
        have hdz : fx_O L i = 22 → ¬ x = 0 := fun h => absurd h hc115
        rw [if_neg (by omega), if_neg (fun h => hdz h.1 h.2)] at hrun
        refine lv_iload hx hb d_Mo_run_124 (lv_at hl 2 rfl) ?_
        refine lv_bipush (v := nI 25) hx hb d_Mo_run_126 (by decide) ?_
        refine lv_icmp_ne (tgt := 141) hx hb d_Mo_run_128 (by decide) (fun hc128 => ?_) (fun hc128 => ?_)
        · rw [nI_eq (by omega) (by omega)] at hc128
          refine lv_iload hx hb d_Mo_run_141 (lv_at hl 2 rfl) ?_
          refine lv_bipush (v := nI 25) hx hb d_Mo_run_143 (by decide) ?_
          refine lv_icmp_le (tgt := 185) hx hb d_Mo_run_145 (by decide) (fun hc145 => ?_) (fun hc145 => ?_)
          · rw [nI_leI (by omega) (by omega)] at hc145
            refine lv_iload hx hb d_Mo_run_185 (lv_at hl 2 rfl) ?_
            refine lv_bipush (v := nI 10) hx hb d_Mo_run_187 (by decide) ?_
            refine lv_icmp_lt (tgt := 205) hx hb d_Mo_run_189 (by decide) (fun hc189 => ?_) (fun hc189 => ?_)
            · rw [nI_ltI (by omega) (by omega)] at hc189
              refine lv_iload hx hb d_Mo_run_205 (lv_at hl 2 rfl) ?_
              refine lv_if_ne (tgt := 221) hx hb d_Mo_run_207 (by decide) (fun hc207 => ?_) (fun hc207 => ?_)
              · try rw [← nI_0] at hc207
                rw [nI_eq (by omega) (by omega)] at hc207
                refine lv_iload hx hb d_Mo_run_221 (lv_at hl 2 rfl) ?_
                refine lv_iconst (v := nI 1) hx hb d_Mo_run_223 (by decide) ?_
                refine lv_icmp_ne (tgt := 233) hx hb d_Mo_run_224 (by decide) (fun hc224 => ?_) (fun hc224 => ?_)
                · rw [nI_eq (by omega) (by omega)] at hc224
                  refine lv_iload hx hb d_Mo_run_233 (lv_at hl 2 rfl) ?_
                  refine lv_iconst (v := nI 2) hx hb d_Mo_run_235 (by decide) ?_
                  refine lv_icmp_ne (tgt := 250) hx hb d_Mo_run_236 (by decide) (fun hc236 => ?_) (fun hc236 => ?_)
                  · rw [nI_eq (by omega) (by omega)] at hc236
                    refine lv_iload hx hb d_Mo_run_250 (lv_at hl 2 rfl) ?_
                    refine lv_iconst (v := nI 3) hx hb d_Mo_run_252 (by decide) ?_
                    refine lv_icmp_ne (tgt := 266) hx hb d_Mo_run_253 (by decide) (fun hc253 => ?_) (fun hc253 => ?_)
                    · rw [nI_eq (by omega) (by omega)] at hc253
                      refine lv_iload hx hb d_Mo_run_266 (lv_at hl 2 rfl) ?_
                      refine lv_iconst (v := nI 4) hx hb d_Mo_run_268 (by decide) ?_
                      refine lv_icmp_ne (tgt := 278) hx hb d_Mo_run_269 (by decide) (fun hc269 => ?_) (fun hc269 => ?_)
                      · rw [nI_eq (by omega) (by omega)] at hc269
                        refine lv_iload hx hb d_Mo_run_278 (lv_at hl 2 rfl) ?_
                        refine lv_iconst (v := nI 5) hx hb d_Mo_run_280 (by decide) ?_
                        refine lv_icmp_ne (tgt := 295) hx hb d_Mo_run_281 (by decide) (fun hc281 => ?_) (fun hc281 => ?_)
                        · rw [nI_eq (by omega) (by omega)] at hc281
                          refine lv_iload hx hb d_Mo_run_295 (lv_at hl 2 rfl) ?_
                          refine lv_bipush (v := nI 6) hx hb d_Mo_run_297 (by decide) ?_
                          refine lv_icmp_ne (tgt := 307) hx hb d_Mo_run_299 (by decide) (fun hc299 => ?_) (fun hc299 => ?_)
                          · rw [nI_eq (by omega) (by omega)] at hc299
                            refine lv_iload hx hb d_Mo_run_307 (lv_at hl 2 rfl) ?_
                            refine lv_bipush (v := nI 7) hx hb d_Mo_run_309 (by decide) ?_
                            refine lv_icmp_ne (tgt := 319) hx hb d_Mo_run_311 (by decide) (fun hc311 => ?_) (fun hc311 => ?_)
                            · rw [nI_eq (by omega) (by omega)] at hc311
                              have hkr : 0 ≤ (fx_K L i).toInt ∧ (fx_K L i).toInt < 16 := by have := hgd 2 (by decide) (by decide) i hlt; simp only [fx_brP] at this; omega
                              refine lv_aload_n hx hb d_Mo_run_319 rfl (lv_at hl 4 rfl) ?_
                              refine va_get (D := (dC, dI)) (ci := 5) (v := .ref mce) (C := R_Mo) (T := T_Mo) (N := 16) hx hb hts uin_Mo hown hK hP 0 rfl rfl 7 (by decide) (hts _ wi_437) (fun _ h9 => h9) rfl d_Mo_run_320 ?_
                              refine lv_iload hx hb d_Mo_run_323 (lv_at hl 1 rfl) ?_
                              refine lv_iload hx hb d_Mo_run_325 (lv_at hl 2 rfl) ?_
                              refine lv_bipush (v := nI 8) hx hb d_Mo_run_327 (by decide) ?_
                              refine lv_icmp_ne (tgt := 336) hx hb d_Mo_run_329 (by decide) (fun hc329 => ?_) (fun hc329 => ?_)
                              · rw [nI_eq (by omega) (by omega)] at hc329
                                refine lv_iload_n hx hb d_Mo_run_336 rfl (lv_at hl 7 rfl) ?_
                                refine fs_iast hx hb hK hP hD hS 7 0 rfl rfl ((fx_K L i).toNatClampNeg) (fs_clampN hkr.1) (by decide) (by have := fs_clampI hkr.1; omega) d_Mo_run_337 (fun H locs hP hD hS => ?_)
                                have hP : va_P (dC, dI) vwCl [(mo, .inr (5, [.ref mop, .ref mye, .ref mno, .ref mnu, .ref msz, .int (nI stk), .ref mre, .ref mce, .ref mco, .ref xc, .ref xa, .ref xm, .ref xv, .int (nI cnt), .int (nI (c + 1)), .int thr])), (mop, .inl (cI, 320, .inl fo)), (mye, .inl (cI, 320, .inl fy)), (mno, .inl (cI, 320, .inl fn)), (mnu, .inl (cI, 320, .inl fk)), (msz, .inl (cI, 8, .inl zs)), (mre, .inl (cI, 16, .inl w)), (mce, .inl (cI, 16, .inl (upd cs ((fx_K L i).toNatClampNeg) x)))] H := hP
                                have hD : va_D A [(mo, .inr (5, [.ref mop, .ref mye, .ref mno, .ref mnu, .ref msz, .int (nI stk), .ref mre, .ref mce, .ref mco, .ref xc, .ref xa, .ref xm, .ref xv, .int (nI cnt), .int (nI (c + 1)), .int thr])), (mop, .inl (cI, 320, .inl fo)), (mye, .inl (cI, 320, .inl fy)), (mno, .inl (cI, 320, .inl fn)), (mnu, .inl (cI, 320, .inl fk)), (msz, .inl (cI, 8, .inl zs)), (mre, .inl (cI, 16, .inl w)), (mce, .inl (cI, 16, .inl (upd cs ((fx_K L i).toNatClampNeg) x)))] := hD
                                refine lv_goto (tgt := 36) hx hb d_Mo_run_338 (by decide) ?_
                                exact ih36 (c + 1) a x (upd cs ((fx_K L i).toNatClampNeg) x) (i + 1) _ _ _ (by omega) ⟨by omega, by omega, by rw [← hrun, fx_d_lt (by omega), show fx_O L i = 9 from (by omega), show 40 - (c + 1) = 39 - c from by omega]; rfl, by omega, hP, hD, hS, lv_sub hl [4, 5, 6, 7, 0] rfl⟩
                              rw [nI_eq (by omega) (by omega)] at hc329
                              refine lv_iload_n hx hb d_Mo_run_332 rfl (lv_at hl 6 rfl) ?_
                              refine lv_goto (tgt := 337) hx hb d_Mo_run_333 (by decide) ?_
                              refine fs_iast hx hb hK hP hD hS 7 0 rfl rfl ((fx_K L i).toNatClampNeg) (fs_clampN hkr.1) (by decide) (by have := fs_clampI hkr.1; omega) d_Mo_run_337 (fun H locs hP hD hS => ?_)
                              have hP : va_P (dC, dI) vwCl [(mo, .inr (5, [.ref mop, .ref mye, .ref mno, .ref mnu, .ref msz, .int (nI stk), .ref mre, .ref mce, .ref mco, .ref xc, .ref xa, .ref xm, .ref xv, .int (nI cnt), .int (nI (c + 1)), .int thr])), (mop, .inl (cI, 320, .inl fo)), (mye, .inl (cI, 320, .inl fy)), (mno, .inl (cI, 320, .inl fn)), (mnu, .inl (cI, 320, .inl fk)), (msz, .inl (cI, 8, .inl zs)), (mre, .inl (cI, 16, .inl w)), (mce, .inl (cI, 16, .inl (upd cs ((fx_K L i).toNatClampNeg) a)))] H := hP
                              have hD : va_D A [(mo, .inr (5, [.ref mop, .ref mye, .ref mno, .ref mnu, .ref msz, .int (nI stk), .ref mre, .ref mce, .ref mco, .ref xc, .ref xa, .ref xm, .ref xv, .int (nI cnt), .int (nI (c + 1)), .int thr])), (mop, .inl (cI, 320, .inl fo)), (mye, .inl (cI, 320, .inl fy)), (mno, .inl (cI, 320, .inl fn)), (mnu, .inl (cI, 320, .inl fk)), (msz, .inl (cI, 8, .inl zs)), (mre, .inl (cI, 16, .inl w)), (mce, .inl (cI, 16, .inl (upd cs ((fx_K L i).toNatClampNeg) a)))] := hD
                              refine lv_goto (tgt := 36) hx hb d_Mo_run_338 (by decide) ?_
                              exact ih36 (c + 1) a x (upd cs ((fx_K L i).toNatClampNeg) a) (i + 1) _ _ _ (by omega) ⟨by omega, by omega, by rw [← hrun, fx_d_lt (by omega), show fx_O L i = 8 from (by omega), show 40 - (c + 1) = 39 - c from by omega]; rfl, by omega, hP, hD, hS, lv_sub hl [4, 5, 6, 7, 0] rfl⟩
                            rw [nI_eq (by omega) (by omega)] at hc311
                            refine lv_iload_n hx hb d_Mo_run_314 rfl (lv_at hl 7 rfl) ?_
                            refine lv_istore_n hx hb d_Mo_run_315 rfl hl (by decide) (lv' := [(2, .int x), (4, .int (nI (i + 1))), (7, .int (fx_K L i)), (6, .int (nI (fx_O L i))), (5, .int (nI (40 * f + i))), (0, .ref mo), (1, .int (nI f)), (3, .int x)]) rfl (fun ls hl => ?_)
                            refine lv_goto (tgt := 338) hx hb d_Mo_run_316 (by decide) ?_
                            refine lv_goto (tgt := 36) hx hb d_Mo_run_338 (by decide) ?_
                            exact ih36 (c + 1) x x cs (i + 1) _ _ _ (by omega) ⟨by omega, by omega, by rw [← hrun, fx_d_lt (by omega), show fx_O L i = 7 from (by omega), show 40 - (c + 1) = 39 - c from by omega]; rfl, by omega, hP, hD, hS, lv_sub hl [5, 6, 0, 7, 1] rfl⟩
                          rw [nI_eq (by omega) (by omega)] at hc299
                          refine lv_iload_n hx hb d_Mo_run_302 rfl (lv_at hl 6 rfl) ?_
                          refine lv_istore_n hx hb d_Mo_run_303 rfl hl (by decide) (lv' := [(3, .int a), (4, .int (nI (i + 1))), (7, .int (fx_K L i)), (6, .int (nI (fx_O L i))), (5, .int (nI (40 * f + i))), (0, .ref mo), (1, .int (nI f)), (2, .int a)]) rfl (fun ls hl => ?_)
                          refine lv_goto (tgt := 338) hx hb d_Mo_run_304 (by decide) ?_
                          refine lv_goto (tgt := 36) hx hb d_Mo_run_338 (by decide) ?_
                          exact ih36 (c + 1) a a cs (i + 1) _ _ _ (by omega) ⟨by omega, by omega, by rw [← hrun, fx_d_lt (by omega), show fx_O L i = 6 from (by omega), show 40 - (c + 1) = 39 - c from by omega]; rfl, by omega, hP, hD, hS, lv_sub hl [5, 6, 7, 0, 1] rfl⟩
                        rw [nI_eq (by omega) (by omega)] at hc281
                        have hkr : 0 ≤ (fx_K L i).toInt ∧ (fx_K L i).toInt < 16 := by have := hgd 2 (by decide) (by decide) i hlt; simp only [fx_brP] at this; omega
                        refine lv_aload_n hx hb d_Mo_run_284 rfl (lv_at hl 4 rfl) ?_
                        refine va_get (D := (dC, dI)) (ci := 5) (v := .ref mce) (C := R_Mo) (T := T_Mo) (N := 16) hx hb hts uin_Mo hown hK hP 0 rfl rfl 7 (by decide) (hts _ wi_437) (fun _ h9 => h9) rfl d_Mo_run_285 ?_
                        refine lv_iload hx hb d_Mo_run_288 (lv_at hl 1 rfl) ?_
                        refine fs_iald (v := cs ((fx_K L i).toNatClampNeg)) hx hb hK hP 7 0 rfl rfl ((fx_K L i).toNatClampNeg) (fs_clampN hkr.1) (by decide) (by have := fs_clampI hkr.1; omega) rfl d_Mo_run_290 ?_
                        refine lv_istore_n hx hb d_Mo_run_291 rfl hl (by decide) (lv' := [(3, .int (cs ((fx_K L i).toNatClampNeg))), (4, .int (nI (i + 1))), (7, .int (fx_K L i)), (6, .int (nI (fx_O L i))), (5, .int (nI (40 * f + i))), (0, .ref mo), (1, .int (nI f)), (2, .int a)]) rfl (fun ls hl => ?_)
                        refine lv_goto (tgt := 338) hx hb d_Mo_run_292 (by decide) ?_
                        refine lv_goto (tgt := 36) hx hb d_Mo_run_338 (by decide) ?_
                        exact ih36 (c + 1) a (cs ((fx_K L i).toNatClampNeg)) cs (i + 1) _ _ _ (by omega) ⟨by omega, by omega, by rw [← hrun, fx_d_lt (by omega), show fx_O L i = 5 from (by omega), show 40 - (c + 1) = 39 - c from by omega]; rfl, by omega, hP, hD, hS, lv_sub hl [5, 6, 7, 0, 1] rfl⟩
                      rw [nI_eq (by omega) (by omega)] at hc269
                      refine lv_iload hx hb d_Mo_run_272 (lv_at hl 1 rfl) ?_
                      refine lv_istore_n hx hb d_Mo_run_274 rfl hl (by decide) (lv' := [(3, .int (fx_K L i)), (4, .int (nI (i + 1))), (7, .int (fx_K L i)), (6, .int (nI (fx_O L i))), (5, .int (nI (40 * f + i))), (0, .ref mo), (1, .int (nI f)), (2, .int a)]) rfl (fun ls hl => ?_)
                      refine lv_goto (tgt := 338) hx hb d_Mo_run_275 (by decide) ?_
                      refine lv_goto (tgt := 36) hx hb d_Mo_run_338 (by decide) ?_
                      exact ih36 (c + 1) a (fx_K L i) cs (i + 1) _ _ _ (by omega) ⟨by omega, by omega, by rw [← hrun, fx_d_lt (by omega), show fx_O L i = 4 from (by omega), show 40 - (c + 1) = 39 - c from by omega]; rfl, by omega, hP, hD, hS, lv_sub hl [5, 6, 7, 0, 1] rfl⟩
                    rw [nI_eq (by omega) (by omega)] at hc253
                    refine lv_aload_n hx hb d_Mo_run_256 rfl (lv_at hl 4 rfl) ?_
                    refine va_get (D := (dC, dI)) (ci := 5) (v := .ref msz) (C := R_Mo) (T := T_Mo) (N := 16) hx hb hts uin_Mo hown hK hP 0 rfl rfl 4 (by decide) (hts _ wi_434) (fun _ h9 => h9) rfl d_Mo_run_257 ?_
                    refine lv_iload_n hx hb d_Mo_run_260 rfl (lv_at hl 5 rfl) ?_
                    refine fs_iald (v := nI L.length) hx hb hK hP 5 0 rfl rfl f rfl (by decide) (by omega) hzs d_Mo_run_261 ?_
                    refine lv_istore_n hx hb d_Mo_run_262 rfl hl (by decide) (lv' := [(2, .int (nI L.length)), (4, .int (nI (i + 1))), (7, .int (fx_K L i)), (6, .int (nI (fx_O L i))), (5, .int (nI (40 * f + i))), (0, .ref mo), (1, .int (nI f)), (3, .int x)]) rfl (fun ls hl => ?_)
                    refine lv_goto (tgt := 338) hx hb d_Mo_run_263 (by decide) ?_
                    refine lv_goto (tgt := 36) hx hb d_Mo_run_338 (by decide) ?_
                    exact ih36 (c + 1) (nI L.length) x cs (i + 1) _ _ _ (by omega) ⟨by omega, by omega, by rw [← hrun, fx_d_lt (by omega), show fx_O L i = 3 from (by omega), show 40 - (c + 1) = 39 - c from by omega]; rfl, by omega, hP, hD, hS, lv_sub hl [5, 6, 0, 7, 1] rfl⟩
                  rw [nI_eq (by omega) (by omega)] at hc236
                  have hkr : 0 ≤ (fx_K L i).toInt ∧ (fx_K L i).toInt < 16 := by have := hgd 2 (by decide) (by decide) i hlt; simp only [fx_brP] at this; omega
                  refine lv_aload_n hx hb d_Mo_run_239 rfl (lv_at hl 4 rfl) ?_
                  refine va_get (D := (dC, dI)) (ci := 5) (v := .ref mce) (C := R_Mo) (T := T_Mo) (N := 16) hx hb hts uin_Mo hown hK hP 0 rfl rfl 7 (by decide) (hts _ wi_437) (fun _ h9 => h9) rfl d_Mo_run_240 ?_
                  refine lv_iload hx hb d_Mo_run_243 (lv_at hl 1 rfl) ?_
                  refine fs_iald (v := cs ((fx_K L i).toNatClampNeg)) hx hb hK hP 7 0 rfl rfl ((fx_K L i).toNatClampNeg) (fs_clampN hkr.1) (by decide) (by have := fs_clampI hkr.1; omega) rfl d_Mo_run_245 ?_
                  refine lv_istore_n hx hb d_Mo_run_246 rfl hl (by decide) (lv' := [(2, .int (cs ((fx_K L i).toNatClampNeg))), (4, .int (nI (i + 1))), (7, .int (fx_K L i)), (6, .int (nI (fx_O L i))), (5, .int (nI (40 * f + i))), (0, .ref mo), (1, .int (nI f)), (3, .int x)]) rfl (fun ls hl => ?_)
                  refine lv_goto (tgt := 338) hx hb d_Mo_run_247 (by decide) ?_
                  refine lv_goto (tgt := 36) hx hb d_Mo_run_338 (by decide) ?_
                  exact ih36 (c + 1) (cs ((fx_K L i).toNatClampNeg)) x cs (i + 1) _ _ _ (by omega) ⟨by omega, by omega, by rw [← hrun, fx_d_lt (by omega), show fx_O L i = 2 from (by omega), show 40 - (c + 1) = 39 - c from by omega]; rfl, by omega, hP, hD, hS, lv_sub hl [5, 6, 0, 7, 1] rfl⟩
                rw [nI_eq (by omega) (by omega)] at hc224
                refine lv_iload hx hb d_Mo_run_227 (lv_at hl 1 rfl) ?_
                refine lv_istore_n hx hb d_Mo_run_229 rfl hl (by decide) (lv' := [(2, .int (fx_K L i)), (4, .int (nI (i + 1))), (7, .int (fx_K L i)), (6, .int (nI (fx_O L i))), (5, .int (nI (40 * f + i))), (0, .ref mo), (1, .int (nI f)), (3, .int x)]) rfl (fun ls hl => ?_)
                refine lv_goto (tgt := 338) hx hb d_Mo_run_230 (by decide) ?_
                refine lv_goto (tgt := 36) hx hb d_Mo_run_338 (by decide) ?_
                exact ih36 (c + 1) (fx_K L i) x cs (i + 1) _ _ _ (by omega) ⟨by omega, by omega, by rw [← hrun, fx_d_lt (by omega), show fx_O L i = 1 from (by omega), show 40 - (c + 1) = 39 - c from by omega]; rfl, by omega, hP, hD, hS, lv_sub hl [5, 6, 0, 7, 1] rfl⟩
              try rw [← nI_0] at hc207
              rw [nI_eq (by omega) (by omega)] at hc207
              have hkr : 0 ≤ (fx_K L i).toInt ∧ (fx_K L i).toInt < 16 := by have := hgd 2 (by decide) (by decide) i hlt; simp only [fx_brP] at this; omega
              refine lv_aload_n hx hb d_Mo_run_210 rfl (lv_at hl 4 rfl) ?_
              refine va_get (D := (dC, dI)) (ci := 5) (v := .ref mre) (C := R_Mo) (T := T_Mo) (N := 16) hx hb hts uin_Mo hown hK hP 0 rfl rfl 6 (by decide) (hts _ wi_436) (fun _ h9 => h9) rfl d_Mo_run_211 ?_
              refine lv_iload hx hb d_Mo_run_214 (lv_at hl 1 rfl) ?_
              refine fs_iald (v := w ((fx_K L i).toNatClampNeg)) hx hb hK hP 6 0 rfl rfl ((fx_K L i).toNatClampNeg) (fs_clampN hkr.1) (by decide) (by have := fs_clampI hkr.1; omega) rfl d_Mo_run_216 ?_
              refine lv_istore_n hx hb d_Mo_run_217 rfl hl (by decide) (lv' := [(2, .int (w ((fx_K L i).toNatClampNeg))), (4, .int (nI (i + 1))), (7, .int (fx_K L i)), (6, .int (nI (fx_O L i))), (5, .int (nI (40 * f + i))), (0, .ref mo), (1, .int (nI f)), (3, .int x)]) rfl (fun ls hl => ?_)
              refine lv_goto (tgt := 338) hx hb d_Mo_run_218 (by decide) ?_
              refine lv_goto (tgt := 36) hx hb d_Mo_run_338 (by decide) ?_
              exact ih36 (c + 1) (w ((fx_K L i).toNatClampNeg)) x cs (i + 1) _ _ _ (by omega) ⟨by omega, by omega, by rw [← hrun, fx_d_lt (by omega), show fx_O L i = 0 from (by omega), show 40 - (c + 1) = 39 - c from by omega]; rfl, by omega, hP, hD, hS, lv_sub hl [5, 6, 0, 7, 1] rfl⟩
            rw [nI_ltI (by omega) (by omega)] at hc189
            refine lv_iload hx hb d_Mo_run_192 (lv_at hl 2 rfl) ?_
            refine lv_iload_n hx hb d_Mo_run_194 rfl (lv_at hl 6 rfl) ?_
            refine lv_iload hx hb d_Mo_run_195 (lv_at hl 1 rfl) ?_
            refine lv_iload_n hx hb d_Mo_run_197 rfl (lv_at hl 7 rfl) ?_
            refine fs_calli (wc := []) (wr := [(mo, .inr (5, [.ref mop, .ref mye, .ref mno, .ref mnu, .ref msz, .int (nI stk), .ref mre, .ref mce, .ref mco, .ref xc, .ref xa, .ref xm, .ref xv, .int (nI cnt), .int (nI (c + 1)), .int thr])), (mop, .inl (cI, 320, .inl fo)), (mye, .inl (cI, 320, .inl fy)), (mno, .inl (cI, 320, .inl fn)), (mnu, .inl (cI, 320, .inl fk)), (msz, .inl (cI, 8, .inl zs)), (mre, .inl (cI, 16, .inl w)), (mce, .inl (cI, 16, .inl cs))]) [] [0, 1, 2, 3, 4, 5, 6, 7] hP hD hK hS hA rfl rfl rfl (by decide) (fun hPc hDc => va_runS (As := [.int (nI (fx_O L i)), .int a, .int (fx_K L i), .int x]) (rest := []) ⟨hx, hb, hml, hown, hts⟩ (c_Mo_value (fx_O L i) a (fx_K L i) x _ (by omega) (by omega) (fun h => by have := hgd 3 (by decide) (by decide) i hlt; simp only [fx_brP] at this; rw [fs_eq0]; omega) hdz) (⟨callB_of 4 hts (fs_g kin_Mo_value) rfl rfl rfl (hts _ wi_6) (hts _ wi_554) (by decide +kernel) ⟨Nat.le_of_ble_eq_true rfl, Nat.le_of_ble_eq_true rfl⟩, hts _ wi_555⟩) (fs_preS hPc hK hDc) rfl rfl hl.1 rfl (lv_room (Nat.le_of_ble_eq_true rfl)) d_Mo_run_198 ⟨Nat.le_of_ble_eq_true rfl, Nat.le_of_ble_eq_true rfl⟩) rfl (fun r198 _ H locs hp198 hP hD hS => ?_)
            have hP : va_P (dC, dI) vwCl [(mo, .inr (5, [.ref mop, .ref mye, .ref mno, .ref mnu, .ref msz, .int (nI stk), .ref mre, .ref mce, .ref mco, .ref xc, .ref xa, .ref xm, .ref xv, .int (nI cnt), .int (nI (c + 1)), .int thr])), (mop, .inl (cI, 320, .inl fo)), (mye, .inl (cI, 320, .inl fy)), (mno, .inl (cI, 320, .inl fn)), (mnu, .inl (cI, 320, .inl fk)), (msz, .inl (cI, 8, .inl zs)), (mre, .inl (cI, 16, .inl w)), (mce, .inl (cI, 16, .inl cs))] H := hP
            have hD : va_D A [(mo, .inr (5, [.ref mop, .ref mye, .ref mno, .ref mnu, .ref msz, .int (nI stk), .ref mre, .ref mce, .ref mco, .ref xc, .ref xa, .ref xm, .ref xv, .int (nI cnt), .int (nI (c + 1)), .int thr])), (mop, .inl (cI, 320, .inl fo)), (mye, .inl (cI, 320, .inl fy)), (mno, .inl (cI, 320, .inl fn)), (mnu, .inl (cI, 320, .inl fk)), (msz, .inl (cI, 8, .inl zs)), (mre, .inl (cI, 16, .inl w)), (mce, .inl (cI, 16, .inl cs))] := hD
            subst hp198
            refine lv_istore_n hx hb d_Mo_run_201 rfl hl (by decide) (lv' := [(2, .int (fx_val (fx_O L i) a (fx_K L i) x)), (4, .int (nI (i + 1))), (7, .int (fx_K L i)), (6, .int (nI (fx_O L i))), (5, .int (nI (40 * f + i))), (0, .ref mo), (1, .int (nI f)), (3, .int x)]) rfl (fun ls hl => ?_)
            refine lv_goto (tgt := 338) hx hb d_Mo_run_202 (by decide) ?_
            refine lv_goto (tgt := 36) hx hb d_Mo_run_338 (by decide) ?_
            exact ih36 (c + 1) (fx_val (fx_O L i) a (fx_K L i) x) x cs (i + 1) _ _ _ (by omega) ⟨by omega, by omega, by rw [← hrun, fx_a_mid (by omega) (by omega), fx_x_hi (by omega), fx_c_hi (by omega), fx_d_lt (by omega), show 40 - (c + 1) = 39 - c from by omega]; try rfl, by omega, hP, hD, hS, lv_sub hl [5, 6, 0, 7, 1] rfl⟩
          rw [nI_leI (by omega) (by omega)] at hc145
          refine lv_iload hx hb d_Mo_run_148 (lv_at hl 0 rfl) ?_
          refine lv_iload hx hb d_Mo_run_150 (lv_at hl 2 rfl) ?_
          refine lv_iload_n hx hb d_Mo_run_152 rfl (lv_at hl 6 rfl) ?_
          refine lv_iload hx hb d_Mo_run_153 (lv_at hl 1 rfl) ?_
          refine lv_iload_n hx hb d_Mo_run_155 rfl (lv_at hl 7 rfl) ?_
          refine fs_calli (wc := []) (wr := [(mo, .inr (5, [.ref mop, .ref mye, .ref mno, .ref mnu, .ref msz, .int (nI stk), .ref mre, .ref mce, .ref mco, .ref xc, .ref xa, .ref xm, .ref xv, .int (nI cnt), .int (nI (c + 1)), .int thr])), (mop, .inl (cI, 320, .inl fo)), (mye, .inl (cI, 320, .inl fy)), (mno, .inl (cI, 320, .inl fn)), (mnu, .inl (cI, 320, .inl fk)), (msz, .inl (cI, 8, .inl zs)), (mre, .inl (cI, 16, .inl w)), (mce, .inl (cI, 16, .inl cs))]) [] [0, 1, 2, 3, 4, 5, 6, 7] hP hD hK hS hA rfl rfl rfl (by decide) (fun hPc hDc => va_runS (As := [.int (nI (fx_O L i)), .int a, .int (fx_K L i), .int x]) (rest := [.int (nI (i + 1))]) ⟨hx, hb, hml, hown, hts⟩ (c_Mo_asked (fx_O L i) a (fx_K L i) x _ (by omega) (by omega)) (⟨callB_of 4 hts (fs_g kin_Mo_asked) rfl rfl rfl (hts _ wi_6) (hts _ wi_547) (by decide +kernel) ⟨Nat.le_of_ble_eq_true rfl, Nat.le_of_ble_eq_true rfl⟩, hts _ wi_548⟩) (fs_preS hPc hK hDc) rfl rfl hl.1 rfl (lv_room (Nat.le_of_ble_eq_true rfl)) d_Mo_run_156 ⟨Nat.le_of_ble_eq_true rfl, Nat.le_of_ble_eq_true rfl⟩) rfl (fun r156 _ H locs hp156 hP hD hS => ?_)
          have hP : va_P (dC, dI) vwCl [(mo, .inr (5, [.ref mop, .ref mye, .ref mno, .ref mnu, .ref msz, .int (nI stk), .ref mre, .ref mce, .ref mco, .ref xc, .ref xa, .ref xm, .ref xv, .int (nI cnt), .int (nI (c + 1)), .int thr])), (mop, .inl (cI, 320, .inl fo)), (mye, .inl (cI, 320, .inl fy)), (mno, .inl (cI, 320, .inl fn)), (mnu, .inl (cI, 320, .inl fk)), (msz, .inl (cI, 8, .inl zs)), (mre, .inl (cI, 16, .inl w)), (mce, .inl (cI, 16, .inl cs))] H := hP
          have hD : va_D A [(mo, .inr (5, [.ref mop, .ref mye, .ref mno, .ref mnu, .ref msz, .int (nI stk), .ref mre, .ref mce, .ref mco, .ref xc, .ref xa, .ref xm, .ref xv, .int (nI cnt), .int (nI (c + 1)), .int thr])), (mop, .inl (cI, 320, .inl fo)), (mye, .inl (cI, 320, .inl fy)), (mno, .inl (cI, 320, .inl fn)), (mnu, .inl (cI, 320, .inl fk)), (msz, .inl (cI, 8, .inl zs)), (mre, .inl (cI, 16, .inl w)), (mce, .inl (cI, 16, .inl cs))] := hD
          rcases hp156 with ⟨hc156, rfl⟩ | ⟨hc156, rfl⟩
          · refine lv_if_eq (tgt := 172) hx hb d_Mo_run_159 (by decide) (fun hc => absurd hc (by decide)) (fun _ => ?_)
            refine lv_aload_n hx hb d_Mo_run_162 rfl (lv_at hl 4 rfl) ?_
            refine va_get (D := (dC, dI)) (ci := 5) (v := .ref mye) (C := R_Mo) (T := T_Mo) (N := 16) hx hb hts uin_Mo hown hK hP 0 rfl rfl 1 (by decide) (hts _ wi_431) (fun _ h9 => h9) rfl d_Mo_run_163 ?_
            refine lv_iload hx hb d_Mo_run_166 (lv_at hl 3 rfl) ?_
            refine fs_iald (v := nI (fx_Y L i)) hx hb hK hP 2 0 rfl rfl (40 * f + i) rfl (by decide) (by omega) ((hrep i (by omega)).2.1) d_Mo_run_168 ?_
            refine lv_goto (tgt := 179) hx hb d_Mo_run_169 (by decide) ?_
            refine lv_iadd hx hb d_Mo_run_179 ?_
            refine fs_eqi (nI_add _ _) ?_
            refine lv_istore hx hb d_Mo_run_180 hl (by decide) (lv' := [(4, .int (nI (i + 1 + fx_Y L i))), (7, .int (fx_K L i)), (6, .int (nI (fx_O L i))), (5, .int (nI (40 * f + i))), (0, .ref mo), (1, .int (nI f)), (2, .int a), (3, .int x)]) rfl (fun ls hl => ?_)
            refine lv_goto (tgt := 338) hx hb d_Mo_run_182 (by decide) ?_
            refine lv_goto (tgt := 36) hx hb d_Mo_run_338 (by decide) ?_
            exact ih36 (c + 1) a x cs (i + 1 + fx_Y L i) _ _ _ (by omega) ⟨by omega, by omega, by rw [← hrun, fx_a_hi (by omega), fx_x_hi (by omega), fx_c_hi (by omega), fx_d_y (by omega) hc156, show 40 - (c + 1) = 39 - c from by omega], by omega, hP, hD, hS, lv_sub hl [4, 5, 6, 7, 0] rfl⟩
          refine lv_if_eq (tgt := 172) hx hb d_Mo_run_159 (by decide) (fun _ => ?_) (fun hc => absurd (by decide) hc)
          refine lv_aload_n hx hb d_Mo_run_172 rfl (lv_at hl 4 rfl) ?_
          refine va_get (D := (dC, dI)) (ci := 5) (v := .ref mno) (C := R_Mo) (T := T_Mo) (N := 16) hx hb hts uin_Mo hown hK hP 0 rfl rfl 2 (by decide) (hts _ wi_432) (fun _ h9 => h9) rfl d_Mo_run_173 ?_
          refine lv_iload hx hb d_Mo_run_176 (lv_at hl 3 rfl) ?_
          refine fs_iald (v := nI (fx_N L i)) hx hb hK hP 3 0 rfl rfl (40 * f + i) rfl (by decide) (by omega) ((hrep i (by omega)).2.2.1) d_Mo_run_178 ?_
          refine lv_iadd hx hb d_Mo_run_179 ?_
          refine fs_eqi (nI_add _ _) ?_
          refine lv_istore hx hb d_Mo_run_180 hl (by decide) (lv' := [(4, .int (nI (i + 1 + fx_N L i))), (7, .int (fx_K L i)), (6, .int (nI (fx_O L i))), (5, .int (nI (40 * f + i))), (0, .ref mo), (1, .int (nI f)), (2, .int a), (3, .int x)]) rfl (fun ls hl => ?_)
          refine lv_goto (tgt := 338) hx hb d_Mo_run_182 (by decide) ?_
          refine lv_goto (tgt := 36) hx hb d_Mo_run_338 (by decide) ?_
          exact ih36 (c + 1) a x cs (i + 1 + fx_N L i) _ _ _ (by omega) ⟨by omega, by omega, by rw [← hrun, fx_a_hi (by omega), fx_x_hi (by omega), fx_c_hi (by omega), fx_d_n (by omega) hc156, show 40 - (c + 1) = 39 - c from by omega], by omega, hP, hD, hS, lv_sub hl [4, 5, 6, 7, 0] rfl⟩
        rw [nI_eq (by omega) (by omega)] at hc128
        refine lv_iload hx hb d_Mo_run_131 (lv_at hl 0 rfl) ?_
        refine lv_iload hx hb d_Mo_run_133 (lv_at hl 1 rfl) ?_
        refine lv_iadd hx hb d_Mo_run_135 ?_
        have hg5 := hgd 5 (by decide) (by decide) i hlt
        have hk0 : 0 ≤ (fx_K L i).toInt := by simp only [fx_brP] at hg5; omega
        have hk1 : (fx_K L i).toInt < 40 := by simp only [fx_brP] at hg5; omega
        have hk2 := fs_clampI hk0
        have hk3 := fs_clampN hk0
        refine fs_eqi (v := nI (i + 1 + (fx_K L i).toNatClampNeg)) (by have h := nI_add (i + 1) (fx_K L i).toNatClampNeg; rw [← hk3] at h; exact h) ?_
        refine lv_istore hx hb d_Mo_run_136 hl (by decide) (lv' := [(4, .int (nI (i + 1 + (fx_K L i).toNatClampNeg))), (7, .int (fx_K L i)), (6, .int (nI (fx_O L i))), (5, .int (nI (40 * f + i))), (0, .ref mo), (1, .int (nI f)), (2, .int a), (3, .int x)]) rfl (fun ls hl => ?_)
        refine lv_goto (tgt := 338) hx hb d_Mo_run_138 (by decide) ?_
        refine lv_goto (tgt := 36) hx hb d_Mo_run_338 (by decide) ?_
        exact ih36 (c + 1) a x cs (i + 1 + (fx_K L i).toNatClampNeg) _ _ _ (by omega) ⟨by omega, by omega, by rw [← hrun, fx_a_hi (by omega), fx_x_hi (by omega), fx_c_hi (by omega), fx_d_25 (by omega), show 40 - (c + 1) = 39 - c from by omega], by omega, hP, hD, hS, lv_sub hl [4, 5, 6, 7, 0] rfl⟩
      rw [nI_eq (by omega) (by omega)] at hc115
      refine lv_iload_n hx hb d_Mo_run_118 rfl (lv_at hl 7 rfl) ?_
      refine lv_if_ne (tgt := 124) hx hb d_Mo_run_119 (by decide) (fun hc119 => ?_) (fun hc119 => ?_)
      · have hdz : fx_O L i = 22 → ¬ x = 0 := fun _ => hc119
        rw [if_neg (by omega), if_neg (fun h => hdz h.1 h.2)] at hrun
        refine lv_iload hx hb d_Mo_run_124 (lv_at hl 2 rfl) ?_
        refine lv_bipush (v := nI 25) hx hb d_Mo_run_126 (by decide) ?_
        refine lv_icmp_ne (tgt := 141) hx hb d_Mo_run_128 (by decide) (fun hc128 => ?_) (fun hc128 => ?_)
        · rw [nI_eq (by omega) (by omega)] at hc128
          refine lv_iload hx hb d_Mo_run_141 (lv_at hl 2 rfl) ?_
          refine lv_bipush (v := nI 25) hx hb d_Mo_run_143 (by decide) ?_
          refine lv_icmp_le (tgt := 185) hx hb d_Mo_run_145 (by decide) (fun hc145 => ?_) (fun hc145 => ?_)
          · rw [nI_leI (by omega) (by omega)] at hc145
            refine lv_iload hx hb d_Mo_run_185 (lv_at hl 2 rfl) ?_
            refine lv_bipush (v := nI 10) hx hb d_Mo_run_187 (by decide) ?_
            refine lv_icmp_lt (tgt := 205) hx hb d_Mo_run_189 (by decide) (fun hc189 => ?_) (fun hc189 => ?_)
            · rw [nI_ltI (by omega) (by omega)] at hc189
              refine lv_iload hx hb d_Mo_run_205 (lv_at hl 2 rfl) ?_
              refine lv_if_ne (tgt := 221) hx hb d_Mo_run_207 (by decide) (fun hc207 => ?_) (fun hc207 => ?_)
              · try rw [← nI_0] at hc207
                rw [nI_eq (by omega) (by omega)] at hc207
                refine lv_iload hx hb d_Mo_run_221 (lv_at hl 2 rfl) ?_
                refine lv_iconst (v := nI 1) hx hb d_Mo_run_223 (by decide) ?_
                refine lv_icmp_ne (tgt := 233) hx hb d_Mo_run_224 (by decide) (fun hc224 => ?_) (fun hc224 => ?_)
                · rw [nI_eq (by omega) (by omega)] at hc224
                  refine lv_iload hx hb d_Mo_run_233 (lv_at hl 2 rfl) ?_
                  refine lv_iconst (v := nI 2) hx hb d_Mo_run_235 (by decide) ?_
                  refine lv_icmp_ne (tgt := 250) hx hb d_Mo_run_236 (by decide) (fun hc236 => ?_) (fun hc236 => ?_)
                  · rw [nI_eq (by omega) (by omega)] at hc236
                    refine lv_iload hx hb d_Mo_run_250 (lv_at hl 2 rfl) ?_
                    refine lv_iconst (v := nI 3) hx hb d_Mo_run_252 (by decide) ?_
                    refine lv_icmp_ne (tgt := 266) hx hb d_Mo_run_253 (by decide) (fun hc253 => ?_) (fun hc253 => ?_)
                    · rw [nI_eq (by omega) (by omega)] at hc253
                      refine lv_iload hx hb d_Mo_run_266 (lv_at hl 2 rfl) ?_
                      refine lv_iconst (v := nI 4) hx hb d_Mo_run_268 (by decide) ?_
                      refine lv_icmp_ne (tgt := 278) hx hb d_Mo_run_269 (by decide) (fun hc269 => ?_) (fun hc269 => ?_)
                      · rw [nI_eq (by omega) (by omega)] at hc269
                        refine lv_iload hx hb d_Mo_run_278 (lv_at hl 2 rfl) ?_
                        refine lv_iconst (v := nI 5) hx hb d_Mo_run_280 (by decide) ?_
                        refine lv_icmp_ne (tgt := 295) hx hb d_Mo_run_281 (by decide) (fun hc281 => ?_) (fun hc281 => ?_)
                        · rw [nI_eq (by omega) (by omega)] at hc281
                          refine lv_iload hx hb d_Mo_run_295 (lv_at hl 2 rfl) ?_
                          refine lv_bipush (v := nI 6) hx hb d_Mo_run_297 (by decide) ?_
                          refine lv_icmp_ne (tgt := 307) hx hb d_Mo_run_299 (by decide) (fun hc299 => ?_) (fun hc299 => ?_)
                          · rw [nI_eq (by omega) (by omega)] at hc299
                            refine lv_iload hx hb d_Mo_run_307 (lv_at hl 2 rfl) ?_
                            refine lv_bipush (v := nI 7) hx hb d_Mo_run_309 (by decide) ?_
                            refine lv_icmp_ne (tgt := 319) hx hb d_Mo_run_311 (by decide) (fun hc311 => ?_) (fun hc311 => ?_)
                            · rw [nI_eq (by omega) (by omega)] at hc311
                              have hkr : 0 ≤ (fx_K L i).toInt ∧ (fx_K L i).toInt < 16 := by have := hgd 2 (by decide) (by decide) i hlt; simp only [fx_brP] at this; omega
                              refine lv_aload_n hx hb d_Mo_run_319 rfl (lv_at hl 4 rfl) ?_
                              refine va_get (D := (dC, dI)) (ci := 5) (v := .ref mce) (C := R_Mo) (T := T_Mo) (N := 16) hx hb hts uin_Mo hown hK hP 0 rfl rfl 7 (by decide) (hts _ wi_437) (fun _ h9 => h9) rfl d_Mo_run_320 ?_
                              refine lv_iload hx hb d_Mo_run_323 (lv_at hl 1 rfl) ?_
                              refine lv_iload hx hb d_Mo_run_325 (lv_at hl 2 rfl) ?_
                              refine lv_bipush (v := nI 8) hx hb d_Mo_run_327 (by decide) ?_
                              refine lv_icmp_ne (tgt := 336) hx hb d_Mo_run_329 (by decide) (fun hc329 => ?_) (fun hc329 => ?_)
                              · rw [nI_eq (by omega) (by omega)] at hc329
                                refine lv_iload_n hx hb d_Mo_run_336 rfl (lv_at hl 7 rfl) ?_
                                refine fs_iast hx hb hK hP hD hS 7 0 rfl rfl ((fx_K L i).toNatClampNeg) (fs_clampN hkr.1) (by decide) (by have := fs_clampI hkr.1; omega) d_Mo_run_337 (fun H locs hP hD hS => ?_)
                                have hP : va_P (dC, dI) vwCl [(mo, .inr (5, [.ref mop, .ref mye, .ref mno, .ref mnu, .ref msz, .int (nI stk), .ref mre, .ref mce, .ref mco, .ref xc, .ref xa, .ref xm, .ref xv, .int (nI cnt), .int (nI (c + 1)), .int thr])), (mop, .inl (cI, 320, .inl fo)), (mye, .inl (cI, 320, .inl fy)), (mno, .inl (cI, 320, .inl fn)), (mnu, .inl (cI, 320, .inl fk)), (msz, .inl (cI, 8, .inl zs)), (mre, .inl (cI, 16, .inl w)), (mce, .inl (cI, 16, .inl (upd cs ((fx_K L i).toNatClampNeg) x)))] H := hP
                                have hD : va_D A [(mo, .inr (5, [.ref mop, .ref mye, .ref mno, .ref mnu, .ref msz, .int (nI stk), .ref mre, .ref mce, .ref mco, .ref xc, .ref xa, .ref xm, .ref xv, .int (nI cnt), .int (nI (c + 1)), .int thr])), (mop, .inl (cI, 320, .inl fo)), (mye, .inl (cI, 320, .inl fy)), (mno, .inl (cI, 320, .inl fn)), (mnu, .inl (cI, 320, .inl fk)), (msz, .inl (cI, 8, .inl zs)), (mre, .inl (cI, 16, .inl w)), (mce, .inl (cI, 16, .inl (upd cs ((fx_K L i).toNatClampNeg) x)))] := hD
                                refine lv_goto (tgt := 36) hx hb d_Mo_run_338 (by decide) ?_
                                exact ih36 (c + 1) a x (upd cs ((fx_K L i).toNatClampNeg) x) (i + 1) _ _ _ (by omega) ⟨by omega, by omega, by rw [← hrun, fx_d_lt (by omega), show fx_O L i = 9 from (by omega), show 40 - (c + 1) = 39 - c from by omega]; rfl, by omega, hP, hD, hS, lv_sub hl [4, 5, 6, 7, 0] rfl⟩
                              rw [nI_eq (by omega) (by omega)] at hc329
                              refine lv_iload_n hx hb d_Mo_run_332 rfl (lv_at hl 6 rfl) ?_
                              refine lv_goto (tgt := 337) hx hb d_Mo_run_333 (by decide) ?_
                              refine fs_iast hx hb hK hP hD hS 7 0 rfl rfl ((fx_K L i).toNatClampNeg) (fs_clampN hkr.1) (by decide) (by have := fs_clampI hkr.1; omega) d_Mo_run_337 (fun H locs hP hD hS => ?_)
                              have hP : va_P (dC, dI) vwCl [(mo, .inr (5, [.ref mop, .ref mye, .ref mno, .ref mnu, .ref msz, .int (nI stk), .ref mre, .ref mce, .ref mco, .ref xc, .ref xa, .ref xm, .ref xv, .int (nI cnt), .int (nI (c + 1)), .int thr])), (mop, .inl (cI, 320, .inl fo)), (mye, .inl (cI, 320, .inl fy)), (mno, .inl (cI, 320, .inl fn)), (mnu, .inl (cI, 320, .inl fk)), (msz, .inl (cI, 8, .inl zs)), (mre, .inl (cI, 16, .inl w)), (mce, .inl (cI, 16, .inl (upd cs ((fx_K L i).toNatClampNeg) a)))] H := hP
                              have hD : va_D A [(mo, .inr (5, [.ref mop, .ref mye, .ref mno, .ref mnu, .ref msz, .int (nI stk), .ref mre, .ref mce, .ref mco, .ref xc, .ref xa, .ref xm, .ref xv, .int (nI cnt), .int (nI (c + 1)), .int thr])), (mop, .inl (cI, 320, .inl fo)), (mye, .inl (cI, 320, .inl fy)), (mno, .inl (cI, 320, .inl fn)), (mnu, .inl (cI, 320, .inl fk)), (msz, .inl (cI, 8, .inl zs)), (mre, .inl (cI, 16, .inl w)), (mce, .inl (cI, 16, .inl (upd cs ((fx_K L i).toNatClampNeg) a)))] := hD
                              refine lv_goto (tgt := 36) hx hb d_Mo_run_338 (by decide) ?_
                              exact ih36 (c + 1) a x (upd cs ((fx_K L i).toNatClampNeg) a) (i + 1) _ _ _ (by omega) ⟨by omega, by omega, by rw [← hrun, fx_d_lt (by omega), show fx_O L i = 8 from (by omega), show 40 - (c + 1) = 39 - c from by omega]; rfl, by omega, hP, hD, hS, lv_sub hl [4, 5, 6, 7, 0] rfl⟩
                            rw [nI_eq (by omega) (by omega)] at hc311
                            refine lv_iload_n hx hb d_Mo_run_314 rfl (lv_at hl 7 rfl) ?_
                            refine lv_istore_n hx hb d_Mo_run_315 rfl hl (by decide) (lv' := [(2, .int x), (4, .int (nI (i + 1))), (7, .int (fx_K L i)), (6, .int (nI (fx_O L i))), (5, .int (nI (40 * f + i))), (0, .ref mo), (1, .int (nI f)), (3, .int x)]) rfl (fun ls hl => ?_)
                            refine lv_goto (tgt := 338) hx hb d_Mo_run_316 (by decide) ?_
                            refine lv_goto (tgt := 36) hx hb d_Mo_run_338 (by decide) ?_
                            exact ih36 (c + 1) x x cs (i + 1) _ _ _ (by omega) ⟨by omega, by omega, by rw [← hrun, fx_d_lt (by omega), show fx_O L i = 7 from (by omega), show 40 - (c + 1) = 39 - c from by omega]; rfl, by omega, hP, hD, hS, lv_sub hl [5, 6, 0, 7, 1] rfl⟩
                          rw [nI_eq (by omega) (by omega)] at hc299
                          refine lv_iload_n hx hb d_Mo_run_302 rfl (lv_at hl 6 rfl) ?_
                          refine lv_istore_n hx hb d_Mo_run_303 rfl hl (by decide) (lv' := [(3, .int a), (4, .int (nI (i + 1))), (7, .int (fx_K L i)), (6, .int (nI (fx_O L i))), (5, .int (nI (40 * f + i))), (0, .ref mo), (1, .int (nI f)), (2, .int a)]) rfl (fun ls hl => ?_)
                          refine lv_goto (tgt := 338) hx hb d_Mo_run_304 (by decide) ?_
                          refine lv_goto (tgt := 36) hx hb d_Mo_run_338 (by decide) ?_
                          exact ih36 (c + 1) a a cs (i + 1) _ _ _ (by omega) ⟨by omega, by omega, by rw [← hrun, fx_d_lt (by omega), show fx_O L i = 6 from (by omega), show 40 - (c + 1) = 39 - c from by omega]; rfl, by omega, hP, hD, hS, lv_sub hl [5, 6, 7, 0, 1] rfl⟩
                        rw [nI_eq (by omega) (by omega)] at hc281
                        have hkr : 0 ≤ (fx_K L i).toInt ∧ (fx_K L i).toInt < 16 := by have := hgd 2 (by decide) (by decide) i hlt; simp only [fx_brP] at this; omega
                        refine lv_aload_n hx hb d_Mo_run_284 rfl (lv_at hl 4 rfl) ?_
                        refine va_get (D := (dC, dI)) (ci := 5) (v := .ref mce) (C := R_Mo) (T := T_Mo) (N := 16) hx hb hts uin_Mo hown hK hP 0 rfl rfl 7 (by decide) (hts _ wi_437) (fun _ h9 => h9) rfl d_Mo_run_285 ?_
                        refine lv_iload hx hb d_Mo_run_288 (lv_at hl 1 rfl) ?_
                        refine fs_iald (v := cs ((fx_K L i).toNatClampNeg)) hx hb hK hP 7 0 rfl rfl ((fx_K L i).toNatClampNeg) (fs_clampN hkr.1) (by decide) (by have := fs_clampI hkr.1; omega) rfl d_Mo_run_290 ?_
                        refine lv_istore_n hx hb d_Mo_run_291 rfl hl (by decide) (lv' := [(3, .int (cs ((fx_K L i).toNatClampNeg))), (4, .int (nI (i + 1))), (7, .int (fx_K L i)), (6, .int (nI (fx_O L i))), (5, .int (nI (40 * f + i))), (0, .ref mo), (1, .int (nI f)), (2, .int a)]) rfl (fun ls hl => ?_)
                        refine lv_goto (tgt := 338) hx hb d_Mo_run_292 (by decide) ?_
                        refine lv_goto (tgt := 36) hx hb d_Mo_run_338 (by decide) ?_
                        exact ih36 (c + 1) a (cs ((fx_K L i).toNatClampNeg)) cs (i + 1) _ _ _ (by omega) ⟨by omega, by omega, by rw [← hrun, fx_d_lt (by omega), show fx_O L i = 5 from (by omega), show 40 - (c + 1) = 39 - c from by omega]; rfl, by omega, hP, hD, hS, lv_sub hl [5, 6, 7, 0, 1] rfl⟩
                      rw [nI_eq (by omega) (by omega)] at hc269
                      refine lv_iload hx hb d_Mo_run_272 (lv_at hl 1 rfl) ?_
                      refine lv_istore_n hx hb d_Mo_run_274 rfl hl (by decide) (lv' := [(3, .int (fx_K L i)), (4, .int (nI (i + 1))), (7, .int (fx_K L i)), (6, .int (nI (fx_O L i))), (5, .int (nI (40 * f + i))), (0, .ref mo), (1, .int (nI f)), (2, .int a)]) rfl (fun ls hl => ?_)
                      refine lv_goto (tgt := 338) hx hb d_Mo_run_275 (by decide) ?_
                      refine lv_goto (tgt := 36) hx hb d_Mo_run_338 (by decide) ?_
                      exact ih36 (c + 1) a (fx_K L i) cs (i + 1) _ _ _ (by omega) ⟨by omega, by omega, by rw [← hrun, fx_d_lt (by omega), show fx_O L i = 4 from (by omega), show 40 - (c + 1) = 39 - c from by omega]; rfl, by omega, hP, hD, hS, lv_sub hl [5, 6, 7, 0, 1] rfl⟩
                    rw [nI_eq (by omega) (by omega)] at hc253
                    refine lv_aload_n hx hb d_Mo_run_256 rfl (lv_at hl 4 rfl) ?_
                    refine va_get (D := (dC, dI)) (ci := 5) (v := .ref msz) (C := R_Mo) (T := T_Mo) (N := 16) hx hb hts uin_Mo hown hK hP 0 rfl rfl 4 (by decide) (hts _ wi_434) (fun _ h9 => h9) rfl d_Mo_run_257 ?_
                    refine lv_iload_n hx hb d_Mo_run_260 rfl (lv_at hl 5 rfl) ?_
                    refine fs_iald (v := nI L.length) hx hb hK hP 5 0 rfl rfl f rfl (by decide) (by omega) hzs d_Mo_run_261 ?_
                    refine lv_istore_n hx hb d_Mo_run_262 rfl hl (by decide) (lv' := [(2, .int (nI L.length)), (4, .int (nI (i + 1))), (7, .int (fx_K L i)), (6, .int (nI (fx_O L i))), (5, .int (nI (40 * f + i))), (0, .ref mo), (1, .int (nI f)), (3, .int x)]) rfl (fun ls hl => ?_)
                    refine lv_goto (tgt := 338) hx hb d_Mo_run_263 (by decide) ?_
                    refine lv_goto (tgt := 36) hx hb d_Mo_run_338 (by decide) ?_
                    exact ih36 (c + 1) (nI L.length) x cs (i + 1) _ _ _ (by omega) ⟨by omega, by omega, by rw [← hrun, fx_d_lt (by omega), show fx_O L i = 3 from (by omega), show 40 - (c + 1) = 39 - c from by omega]; rfl, by omega, hP, hD, hS, lv_sub hl [5, 6, 0, 7, 1] rfl⟩
                  rw [nI_eq (by omega) (by omega)] at hc236
                  have hkr : 0 ≤ (fx_K L i).toInt ∧ (fx_K L i).toInt < 16 := by have := hgd 2 (by decide) (by decide) i hlt; simp only [fx_brP] at this; omega
                  refine lv_aload_n hx hb d_Mo_run_239 rfl (lv_at hl 4 rfl) ?_
                  refine va_get (D := (dC, dI)) (ci := 5) (v := .ref mce) (C := R_Mo) (T := T_Mo) (N := 16) hx hb hts uin_Mo hown hK hP 0 rfl rfl 7 (by decide) (hts _ wi_437) (fun _ h9 => h9) rfl d_Mo_run_240 ?_
                  refine lv_iload hx hb d_Mo_run_243 (lv_at hl 1 rfl) ?_
                  refine fs_iald (v := cs ((fx_K L i).toNatClampNeg)) hx hb hK hP 7 0 rfl rfl ((fx_K L i).toNatClampNeg) (fs_clampN hkr.1) (by decide) (by have := fs_clampI hkr.1; omega) rfl d_Mo_run_245 ?_
                  refine lv_istore_n hx hb d_Mo_run_246 rfl hl (by decide) (lv' := [(2, .int (cs ((fx_K L i).toNatClampNeg))), (4, .int (nI (i + 1))), (7, .int (fx_K L i)), (6, .int (nI (fx_O L i))), (5, .int (nI (40 * f + i))), (0, .ref mo), (1, .int (nI f)), (3, .int x)]) rfl (fun ls hl => ?_)
                  refine lv_goto (tgt := 338) hx hb d_Mo_run_247 (by decide) ?_
                  refine lv_goto (tgt := 36) hx hb d_Mo_run_338 (by decide) ?_
                  exact ih36 (c + 1) (cs ((fx_K L i).toNatClampNeg)) x cs (i + 1) _ _ _ (by omega) ⟨by omega, by omega, by rw [← hrun, fx_d_lt (by omega), show fx_O L i = 2 from (by omega), show 40 - (c + 1) = 39 - c from by omega]; rfl, by omega, hP, hD, hS, lv_sub hl [5, 6, 0, 7, 1] rfl⟩
                rw [nI_eq (by omega) (by omega)] at hc224
                refine lv_iload hx hb d_Mo_run_227 (lv_at hl 1 rfl) ?_
                refine lv_istore_n hx hb d_Mo_run_229 rfl hl (by decide) (lv' := [(2, .int (fx_K L i)), (4, .int (nI (i + 1))), (7, .int (fx_K L i)), (6, .int (nI (fx_O L i))), (5, .int (nI (40 * f + i))), (0, .ref mo), (1, .int (nI f)), (3, .int x)]) rfl (fun ls hl => ?_)
                refine lv_goto (tgt := 338) hx hb d_Mo_run_230 (by decide) ?_
                refine lv_goto (tgt := 36) hx hb d_Mo_run_338 (by decide) ?_
                exact ih36 (c + 1) (fx_K L i) x cs (i + 1) _ _ _ (by omega) ⟨by omega, by omega, by rw [← hrun, fx_d_lt (by omega), show fx_O L i = 1 from (by omega), show 40 - (c + 1) = 39 - c from by omega]; rfl, by omega, hP, hD, hS, lv_sub hl [5, 6, 0, 7, 1] rfl⟩
              try rw [← nI_0] at hc207
              rw [nI_eq (by omega) (by omega)] at hc207
              have hkr : 0 ≤ (fx_K L i).toInt ∧ (fx_K L i).toInt < 16 := by have := hgd 2 (by decide) (by decide) i hlt; simp only [fx_brP] at this; omega
              refine lv_aload_n hx hb d_Mo_run_210 rfl (lv_at hl 4 rfl) ?_
              refine va_get (D := (dC, dI)) (ci := 5) (v := .ref mre) (C := R_Mo) (T := T_Mo) (N := 16) hx hb hts uin_Mo hown hK hP 0 rfl rfl 6 (by decide) (hts _ wi_436) (fun _ h9 => h9) rfl d_Mo_run_211 ?_
              refine lv_iload hx hb d_Mo_run_214 (lv_at hl 1 rfl) ?_
              refine fs_iald (v := w ((fx_K L i).toNatClampNeg)) hx hb hK hP 6 0 rfl rfl ((fx_K L i).toNatClampNeg) (fs_clampN hkr.1) (by decide) (by have := fs_clampI hkr.1; omega) rfl d_Mo_run_216 ?_
              refine lv_istore_n hx hb d_Mo_run_217 rfl hl (by decide) (lv' := [(2, .int (w ((fx_K L i).toNatClampNeg))), (4, .int (nI (i + 1))), (7, .int (fx_K L i)), (6, .int (nI (fx_O L i))), (5, .int (nI (40 * f + i))), (0, .ref mo), (1, .int (nI f)), (3, .int x)]) rfl (fun ls hl => ?_)
              refine lv_goto (tgt := 338) hx hb d_Mo_run_218 (by decide) ?_
              refine lv_goto (tgt := 36) hx hb d_Mo_run_338 (by decide) ?_
              exact ih36 (c + 1) (w ((fx_K L i).toNatClampNeg)) x cs (i + 1) _ _ _ (by omega) ⟨by omega, by omega, by rw [← hrun, fx_d_lt (by omega), show fx_O L i = 0 from (by omega), show 40 - (c + 1) = 39 - c from by omega]; rfl, by omega, hP, hD, hS, lv_sub hl [5, 6, 0, 7, 1] rfl⟩
            rw [nI_ltI (by omega) (by omega)] at hc189
            refine lv_iload hx hb d_Mo_run_192 (lv_at hl 2 rfl) ?_
            refine lv_iload_n hx hb d_Mo_run_194 rfl (lv_at hl 6 rfl) ?_
            refine lv_iload hx hb d_Mo_run_195 (lv_at hl 1 rfl) ?_
            refine lv_iload_n hx hb d_Mo_run_197 rfl (lv_at hl 7 rfl) ?_
            refine fs_calli (wc := []) (wr := [(mo, .inr (5, [.ref mop, .ref mye, .ref mno, .ref mnu, .ref msz, .int (nI stk), .ref mre, .ref mce, .ref mco, .ref xc, .ref xa, .ref xm, .ref xv, .int (nI cnt), .int (nI (c + 1)), .int thr])), (mop, .inl (cI, 320, .inl fo)), (mye, .inl (cI, 320, .inl fy)), (mno, .inl (cI, 320, .inl fn)), (mnu, .inl (cI, 320, .inl fk)), (msz, .inl (cI, 8, .inl zs)), (mre, .inl (cI, 16, .inl w)), (mce, .inl (cI, 16, .inl cs))]) [] [0, 1, 2, 3, 4, 5, 6, 7] hP hD hK hS hA rfl rfl rfl (by decide) (fun hPc hDc => va_runS (As := [.int (nI (fx_O L i)), .int a, .int (fx_K L i), .int x]) (rest := []) ⟨hx, hb, hml, hown, hts⟩ (c_Mo_value (fx_O L i) a (fx_K L i) x _ (by omega) (by omega) (fun h => by have := hgd 3 (by decide) (by decide) i hlt; simp only [fx_brP] at this; rw [fs_eq0]; omega) hdz) (⟨callB_of 4 hts (fs_g kin_Mo_value) rfl rfl rfl (hts _ wi_6) (hts _ wi_554) (by decide +kernel) ⟨Nat.le_of_ble_eq_true rfl, Nat.le_of_ble_eq_true rfl⟩, hts _ wi_555⟩) (fs_preS hPc hK hDc) rfl rfl hl.1 rfl (lv_room (Nat.le_of_ble_eq_true rfl)) d_Mo_run_198 ⟨Nat.le_of_ble_eq_true rfl, Nat.le_of_ble_eq_true rfl⟩) rfl (fun r198 _ H locs hp198 hP hD hS => ?_)
            have hP : va_P (dC, dI) vwCl [(mo, .inr (5, [.ref mop, .ref mye, .ref mno, .ref mnu, .ref msz, .int (nI stk), .ref mre, .ref mce, .ref mco, .ref xc, .ref xa, .ref xm, .ref xv, .int (nI cnt), .int (nI (c + 1)), .int thr])), (mop, .inl (cI, 320, .inl fo)), (mye, .inl (cI, 320, .inl fy)), (mno, .inl (cI, 320, .inl fn)), (mnu, .inl (cI, 320, .inl fk)), (msz, .inl (cI, 8, .inl zs)), (mre, .inl (cI, 16, .inl w)), (mce, .inl (cI, 16, .inl cs))] H := hP
            have hD : va_D A [(mo, .inr (5, [.ref mop, .ref mye, .ref mno, .ref mnu, .ref msz, .int (nI stk), .ref mre, .ref mce, .ref mco, .ref xc, .ref xa, .ref xm, .ref xv, .int (nI cnt), .int (nI (c + 1)), .int thr])), (mop, .inl (cI, 320, .inl fo)), (mye, .inl (cI, 320, .inl fy)), (mno, .inl (cI, 320, .inl fn)), (mnu, .inl (cI, 320, .inl fk)), (msz, .inl (cI, 8, .inl zs)), (mre, .inl (cI, 16, .inl w)), (mce, .inl (cI, 16, .inl cs))] := hD
            subst hp198
            refine lv_istore_n hx hb d_Mo_run_201 rfl hl (by decide) (lv' := [(2, .int (fx_val (fx_O L i) a (fx_K L i) x)), (4, .int (nI (i + 1))), (7, .int (fx_K L i)), (6, .int (nI (fx_O L i))), (5, .int (nI (40 * f + i))), (0, .ref mo), (1, .int (nI f)), (3, .int x)]) rfl (fun ls hl => ?_)
            refine lv_goto (tgt := 338) hx hb d_Mo_run_202 (by decide) ?_
            refine lv_goto (tgt := 36) hx hb d_Mo_run_338 (by decide) ?_
            exact ih36 (c + 1) (fx_val (fx_O L i) a (fx_K L i) x) x cs (i + 1) _ _ _ (by omega) ⟨by omega, by omega, by rw [← hrun, fx_a_mid (by omega) (by omega), fx_x_hi (by omega), fx_c_hi (by omega), fx_d_lt (by omega), show 40 - (c + 1) = 39 - c from by omega]; try rfl, by omega, hP, hD, hS, lv_sub hl [5, 6, 0, 7, 1] rfl⟩
          rw [nI_leI (by omega) (by omega)] at hc145
          refine lv_iload hx hb d_Mo_run_148 (lv_at hl 0 rfl) ?_
          refine lv_iload hx hb d_Mo_run_150 (lv_at hl 2 rfl) ?_
          refine lv_iload_n hx hb d_Mo_run_152 rfl (lv_at hl 6 rfl) ?_
          refine lv_iload hx hb d_Mo_run_153 (lv_at hl 1 rfl) ?_
          refine lv_iload_n hx hb d_Mo_run_155 rfl (lv_at hl 7 rfl) ?_
          refine fs_calli (wc := []) (wr := [(mo, .inr (5, [.ref mop, .ref mye, .ref mno, .ref mnu, .ref msz, .int (nI stk), .ref mre, .ref mce, .ref mco, .ref xc, .ref xa, .ref xm, .ref xv, .int (nI cnt), .int (nI (c + 1)), .int thr])), (mop, .inl (cI, 320, .inl fo)), (mye, .inl (cI, 320, .inl fy)), (mno, .inl (cI, 320, .inl fn)), (mnu, .inl (cI, 320, .inl fk)), (msz, .inl (cI, 8, .inl zs)), (mre, .inl (cI, 16, .inl w)), (mce, .inl (cI, 16, .inl cs))]) [] [0, 1, 2, 3, 4, 5, 6, 7] hP hD hK hS hA rfl rfl rfl (by decide) (fun hPc hDc => va_runS (As := [.int (nI (fx_O L i)), .int a, .int (fx_K L i), .int x]) (rest := [.int (nI (i + 1))]) ⟨hx, hb, hml, hown, hts⟩ (c_Mo_asked (fx_O L i) a (fx_K L i) x _ (by omega) (by omega)) (⟨callB_of 4 hts (fs_g kin_Mo_asked) rfl rfl rfl (hts _ wi_6) (hts _ wi_547) (by decide +kernel) ⟨Nat.le_of_ble_eq_true rfl, Nat.le_of_ble_eq_true rfl⟩, hts _ wi_548⟩) (fs_preS hPc hK hDc) rfl rfl hl.1 rfl (lv_room (Nat.le_of_ble_eq_true rfl)) d_Mo_run_156 ⟨Nat.le_of_ble_eq_true rfl, Nat.le_of_ble_eq_true rfl⟩) rfl (fun r156 _ H locs hp156 hP hD hS => ?_)
          have hP : va_P (dC, dI) vwCl [(mo, .inr (5, [.ref mop, .ref mye, .ref mno, .ref mnu, .ref msz, .int (nI stk), .ref mre, .ref mce, .ref mco, .ref xc, .ref xa, .ref xm, .ref xv, .int (nI cnt), .int (nI (c + 1)), .int thr])), (mop, .inl (cI, 320, .inl fo)), (mye, .inl (cI, 320, .inl fy)), (mno, .inl (cI, 320, .inl fn)), (mnu, .inl (cI, 320, .inl fk)), (msz, .inl (cI, 8, .inl zs)), (mre, .inl (cI, 16, .inl w)), (mce, .inl (cI, 16, .inl cs))] H := hP
          have hD : va_D A [(mo, .inr (5, [.ref mop, .ref mye, .ref mno, .ref mnu, .ref msz, .int (nI stk), .ref mre, .ref mce, .ref mco, .ref xc, .ref xa, .ref xm, .ref xv, .int (nI cnt), .int (nI (c + 1)), .int thr])), (mop, .inl (cI, 320, .inl fo)), (mye, .inl (cI, 320, .inl fy)), (mno, .inl (cI, 320, .inl fn)), (mnu, .inl (cI, 320, .inl fk)), (msz, .inl (cI, 8, .inl zs)), (mre, .inl (cI, 16, .inl w)), (mce, .inl (cI, 16, .inl cs))] := hD
          rcases hp156 with ⟨hc156, rfl⟩ | ⟨hc156, rfl⟩
          · refine lv_if_eq (tgt := 172) hx hb d_Mo_run_159 (by decide) (fun hc => absurd hc (by decide)) (fun _ => ?_)
            refine lv_aload_n hx hb d_Mo_run_162 rfl (lv_at hl 4 rfl) ?_
            refine va_get (D := (dC, dI)) (ci := 5) (v := .ref mye) (C := R_Mo) (T := T_Mo) (N := 16) hx hb hts uin_Mo hown hK hP 0 rfl rfl 1 (by decide) (hts _ wi_431) (fun _ h9 => h9) rfl d_Mo_run_163 ?_
            refine lv_iload hx hb d_Mo_run_166 (lv_at hl 3 rfl) ?_
            refine fs_iald (v := nI (fx_Y L i)) hx hb hK hP 2 0 rfl rfl (40 * f + i) rfl (by decide) (by omega) ((hrep i (by omega)).2.1) d_Mo_run_168 ?_
            refine lv_goto (tgt := 179) hx hb d_Mo_run_169 (by decide) ?_
            refine lv_iadd hx hb d_Mo_run_179 ?_
            refine fs_eqi (nI_add _ _) ?_
            refine lv_istore hx hb d_Mo_run_180 hl (by decide) (lv' := [(4, .int (nI (i + 1 + fx_Y L i))), (7, .int (fx_K L i)), (6, .int (nI (fx_O L i))), (5, .int (nI (40 * f + i))), (0, .ref mo), (1, .int (nI f)), (2, .int a), (3, .int x)]) rfl (fun ls hl => ?_)
            refine lv_goto (tgt := 338) hx hb d_Mo_run_182 (by decide) ?_
            refine lv_goto (tgt := 36) hx hb d_Mo_run_338 (by decide) ?_
            exact ih36 (c + 1) a x cs (i + 1 + fx_Y L i) _ _ _ (by omega) ⟨by omega, by omega, by rw [← hrun, fx_a_hi (by omega), fx_x_hi (by omega), fx_c_hi (by omega), fx_d_y (by omega) hc156, show 40 - (c + 1) = 39 - c from by omega], by omega, hP, hD, hS, lv_sub hl [4, 5, 6, 7, 0] rfl⟩
          refine lv_if_eq (tgt := 172) hx hb d_Mo_run_159 (by decide) (fun _ => ?_) (fun hc => absurd (by decide) hc)
          refine lv_aload_n hx hb d_Mo_run_172 rfl (lv_at hl 4 rfl) ?_
          refine va_get (D := (dC, dI)) (ci := 5) (v := .ref mno) (C := R_Mo) (T := T_Mo) (N := 16) hx hb hts uin_Mo hown hK hP 0 rfl rfl 2 (by decide) (hts _ wi_432) (fun _ h9 => h9) rfl d_Mo_run_173 ?_
          refine lv_iload hx hb d_Mo_run_176 (lv_at hl 3 rfl) ?_
          refine fs_iald (v := nI (fx_N L i)) hx hb hK hP 3 0 rfl rfl (40 * f + i) rfl (by decide) (by omega) ((hrep i (by omega)).2.2.1) d_Mo_run_178 ?_
          refine lv_iadd hx hb d_Mo_run_179 ?_
          refine fs_eqi (nI_add _ _) ?_
          refine lv_istore hx hb d_Mo_run_180 hl (by decide) (lv' := [(4, .int (nI (i + 1 + fx_N L i))), (7, .int (fx_K L i)), (6, .int (nI (fx_O L i))), (5, .int (nI (40 * f + i))), (0, .ref mo), (1, .int (nI f)), (2, .int a), (3, .int x)]) rfl (fun ls hl => ?_)
          refine lv_goto (tgt := 338) hx hb d_Mo_run_182 (by decide) ?_
          refine lv_goto (tgt := 36) hx hb d_Mo_run_338 (by decide) ?_
          exact ih36 (c + 1) a x cs (i + 1 + fx_N L i) _ _ _ (by omega) ⟨by omega, by omega, by rw [← hrun, fx_a_hi (by omega), fx_x_hi (by omega), fx_c_hi (by omega), fx_d_n (by omega) hc156, show 40 - (c + 1) = 39 - c from by omega], by omega, hP, hD, hS, lv_sub hl [4, 5, 6, 7, 0] rfl⟩
        rw [nI_eq (by omega) (by omega)] at hc128
        refine lv_iload hx hb d_Mo_run_131 (lv_at hl 0 rfl) ?_
        refine lv_iload hx hb d_Mo_run_133 (lv_at hl 1 rfl) ?_
        refine lv_iadd hx hb d_Mo_run_135 ?_
        have hg5 := hgd 5 (by decide) (by decide) i hlt
        have hk0 : 0 ≤ (fx_K L i).toInt := by simp only [fx_brP] at hg5; omega
        have hk1 : (fx_K L i).toInt < 40 := by simp only [fx_brP] at hg5; omega
        have hk2 := fs_clampI hk0
        have hk3 := fs_clampN hk0
        refine fs_eqi (v := nI (i + 1 + (fx_K L i).toNatClampNeg)) (by have h := nI_add (i + 1) (fx_K L i).toNatClampNeg; rw [← hk3] at h; exact h) ?_
        refine lv_istore hx hb d_Mo_run_136 hl (by decide) (lv' := [(4, .int (nI (i + 1 + (fx_K L i).toNatClampNeg))), (7, .int (fx_K L i)), (6, .int (nI (fx_O L i))), (5, .int (nI (40 * f + i))), (0, .ref mo), (1, .int (nI f)), (2, .int a), (3, .int x)]) rfl (fun ls hl => ?_)
        refine lv_goto (tgt := 338) hx hb d_Mo_run_138 (by decide) ?_
        refine lv_goto (tgt := 36) hx hb d_Mo_run_338 (by decide) ?_
        exact ih36 (c + 1) a x cs (i + 1 + (fx_K L i).toNatClampNeg) _ _ _ (by omega) ⟨by omega, by omega, by rw [← hrun, fx_a_hi (by omega), fx_x_hi (by omega), fx_c_hi (by omega), fx_d_25 (by omega), show 40 - (c + 1) = 39 - c from by omega], by omega, hP, hD, hS, lv_sub hl [4, 5, 6, 7, 0] rfl⟩
      refine lv_iconst (v := nI 0) hx hb d_Mo_run_122 (by decide) ?_
      rw [if_neg (by omega), if_pos ⟨by omega, hc119⟩] at hrun
      have hw2 : (fx_do L w).2 = c + 1 := by rw [← hrun]
      rw [← hw2] at hP hD
      exact fs_iret hx hb hr hlocks hAe hK hS d_Mo_run_123 cs (by rw [← hrun]; try rfl) hP hD
    rw [nI_eq (by omega) (by omega)] at hc91
    refine lv_aload_n hx hb d_Mo_run_94 rfl (lv_at hl 4 rfl) ?_
    refine va_get (D := (dC, dI)) (ci := 5) (v := .ref mye) (C := R_Mo) (T := T_Mo) (N := 16) hx hb hts uin_Mo hown hK hP 0 rfl rfl 1 (by decide) (hts _ wi_431) (fun _ h9 => h9) rfl d_Mo_run_95 ?_
    refine lv_iload hx hb d_Mo_run_98 (lv_at hl 3 rfl) ?_
    refine fs_iald (v := nI (fx_Y L i)) hx hb hK hP 2 0 rfl rfl (40 * f + i) rfl (by decide) (by omega) ((hrep i (by omega)).2.1) d_Mo_run_100 ?_
    refine lv_if_eq (tgt := 108) hx hb d_Mo_run_101 (by decide) (fun hc101 => ?_) (fun hc101 => ?_)
    · try rw [← nI_0] at hc101
      rw [nI_eq (by omega) (by omega)] at hc101
      refine lv_iload hx hb d_Mo_run_108 (lv_at hl 1 rfl) ?_
      rw [if_pos (by omega), if_pos (by omega)] at hrun
      have hw2 : (fx_do L w).2 = c + 1 := by rw [← hrun]
      rw [← hw2] at hP hD
      exact fs_iret hx hb hr hlocks hAe hK hS d_Mo_run_110 cs (by rw [← hrun]; try rfl) hP hD
    try rw [← nI_0] at hc101
    rw [nI_eq (by omega) (by omega)] at hc101
    refine lv_iload_n hx hb d_Mo_run_104 rfl (lv_at hl 6 rfl) ?_
    refine lv_goto (tgt := 110) hx hb d_Mo_run_105 (by decide) ?_
    rw [if_pos (by omega), if_neg (by omega)] at hrun
    have hw2 : (fx_do L w).2 = c + 1 := by rw [← hrun]
    rw [← hw2] at hP hD
    exact fs_iret hx hb hr hlocks hAe hK hS d_Mo_run_110 cs (by rw [← hrun]; try rfl) hP hD
  rw [nI_leI (by omega) (by omega)] at hc19
  refine lv_aload_n hx hb d_Mo_run_22 rfl (lv_at hl 0 rfl) ?_
  refine va_get (D := (dC, dI)) (ci := 5) (v := .ref mce) (C := R_Mo) (T := T_Mo) (N := 16) hx hb hts uin_Mo hown hK hP 0 rfl rfl 7 (by decide) (hts _ wi_437) (fun _ h9 => h9) rfl d_Mo_run_23 ?_
  refine lv_iload hx hb d_Mo_run_26 (lv_at hl 5 rfl) ?_
  refine lv_iconst (v := nI 0) hx hb d_Mo_run_28 (by decide) ?_
  refine fs_iast hx hb hK hP hD hS 7 0 rfl rfl c rfl (by decide) (by omega) d_Mo_run_29 (fun H locs hP hD hS => ?_)
  have hP : va_P (dC, dI) vwCl [(mo, .inr (5, [.ref mop, .ref mye, .ref mno, .ref mnu, .ref msz, .int (nI stk), .ref mre, .ref mce, .ref mco, .ref xc, .ref xa, .ref xm, .ref xv, .int (nI cnt), .int (nI 0), .int thr])), (mop, .inl (cI, 320, .inl fo)), (mye, .inl (cI, 320, .inl fy)), (mno, .inl (cI, 320, .inl fn)), (mnu, .inl (cI, 320, .inl fk)), (msz, .inl (cI, 8, .inl zs)), (mre, .inl (cI, 16, .inl w)), (mce, .inl (cI, 16, .inl (upd g c (nI 0))))] H := hP
  have hD : va_D A [(mo, .inr (5, [.ref mop, .ref mye, .ref mno, .ref mnu, .ref msz, .int (nI stk), .ref mre, .ref mce, .ref mco, .ref xc, .ref xa, .ref xm, .ref xv, .int (nI cnt), .int (nI 0), .int thr])), (mop, .inl (cI, 320, .inl fo)), (mye, .inl (cI, 320, .inl fy)), (mno, .inl (cI, 320, .inl fn)), (mnu, .inl (cI, 320, .inl fk)), (msz, .inl (cI, 8, .inl zs)), (mre, .inl (cI, 16, .inl w)), (mce, .inl (cI, 16, .inl (upd g c (nI 0))))] := hD
  refine lv_iinc (v := nI (c + 1)) (k := 5) hx hb d_Mo_run_30 hl rfl (fs_incN c 1) (by decide) (lv' := [(5, .int (nI (c + 1))), (0, .ref mo), (1, .int (nI f)), (2, .int (nI 0)), (3, .int (nI 0)), (4, .int (nI 0))]) rfl (fun ls hl => ?_)
  refine lv_goto (tgt := 15) hx hb d_Mo_run_33 (by decide) ?_
  exact ih15 (c + 1) (upd g c (nI 0)) _ _ _ (by omega) ⟨by omega, fun t ht => if e : t = c then (by rw [e, pk_us]) else (by rw [pk_un e]; exact hg t (by omega)), hP, hD, hS, lv_sub hl [1, 2, 3, 4, 5, 0] rfl⟩

end MO3
