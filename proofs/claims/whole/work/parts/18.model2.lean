section MO2
variable {l : Launch} {dC : Nat → ClassId} {dI : Nat → Nat → Nat} {cI cZ cJ cF : ClassId}
def fx_bz (b : Bool) : Int32 := if b then nI 1 else nI 0
theorem fx_bz0 {b : Bool} (h : fx_bz b = 0) : b = false := by
  cases b
  · rfl
  · exact absurd h (by decide)
theorem fx_bz1 {b : Bool} (h : ¬ fx_bz b = 0) : b = true := by
  cases b
  · exact absurd rfl h
  · rfl
theorem fx_cm_no {L : fx_Prg} {k : Int32} {i t : Nat} (h : fx_cm L k i i = false ∨ fx_O L i = 31 ∨ ((fx_O L i = 8 ∨ fx_O L i = 9) ∧ fx_K L i = k)) : fx_cm L k (i + 1) t = fx_cm L k i t := by
  rw [fx_cm]
  rcases h with h | h | ⟨h, h2⟩
  · rw [h]; simp
  · rw [h]; simp
  · have e : (fx_O L i == 8 || fx_O L i == 9) = true := by
      simp
      omega
    rw [e, decide_eq_true h2]; simp
theorem fx_cm_yes {L : fx_Prg} {k : Int32} {i t : Nat} (h1 : fx_cm L k i i = true) (h2 : ¬ fx_O L i = 31) (h3 : ¬ ((fx_O L i = 8 ∨ fx_O L i = 9) ∧ fx_K L i = k)) : fx_cm L k (i + 1) t = (fx_cm L k i t || fx_to L i t) := by
  rw [fx_cm, h1]
  have e1 : (fx_O L i == 31) = false := by simpa using h2
  have e2 : ((fx_O L i == 8 || fx_O L i == 9) && decide (fx_K L i = k)) = false := by
    by_cases q : fx_K L i = k
    · have q2 : (fx_O L i == 8 || fx_O L i == 9) = false := by
        simp
        have h4 : ¬ (fx_O L i = 8 ∨ fx_O L i = 9) := fun z => h3 ⟨z, q⟩
        omega
      rw [q2]; rfl
    · rw [decide_eq_false q]; simp
  rw [e1, e2]
  simp
theorem fx_up1 {g : Nat → Int32} {t0 t : Nat} {b : Bool} (h : g t = fx_bz b) : upd g t0 (nI 1) t = fx_bz (b || decide (t = t0)) := by
  unfold upd
  by_cases e : t = t0
  · rw [if_pos e, decide_eq_true e]; simp [fx_bz]
  · rw [if_neg e, decide_eq_false e, h]; simp
theorem fx_bool {a b : Bool} (h : a = true ↔ b = true) : a = b := by
  cases a <;> cases b <;> simp_all
theorem fx_up_lt {L : fx_Prg} {k : Int32} {i : Nat} {g : Nat → Int32} (ho : fx_O L i < 25) (h : ∀ t, t < 41 → g t = fx_bz (fx_cm L k i t)) : ∀ t, t < 41 → upd g (i + 1) (nI 1) t = fx_bz (fx_cm L k i t || fx_to L i t) := by
  intro t ht
  rw [fx_up1 (h t ht), show decide (t = i + 1) = fx_to L i t from fx_bool (by rw [fx_to_lt ho]; simp)]
theorem fx_up_25 {L : fx_Prg} {k : Int32} {i : Nat} {g : Nat → Int32} (ho : fx_O L i = 25) (h : ∀ t, t < 41 → g t = fx_bz (fx_cm L k i t)) : ∀ t, t < 41 → upd g (i + 1 + (fx_K L i).toNatClampNeg) (nI 1) t = fx_bz (fx_cm L k i t || fx_to L i t) := by
  intro t ht
  rw [fx_up1 (h t ht), show decide (t = i + 1 + (fx_K L i).toNatClampNeg) = fx_to L i t from fx_bool (by rw [fx_to_25 ho]; simp)]
theorem fx_up_gt {L : fx_Prg} {k : Int32} {i : Nat} {g : Nat → Int32} (ho : 25 < fx_O L i) (h : ∀ t, t < 41 → g t = fx_bz (fx_cm L k i t)) : ∀ t, t < 41 → upd (upd g (i + 1 + fx_Y L i) (nI 1)) (i + 1 + fx_N L i) (nI 1) t = fx_bz (fx_cm L k i t || fx_to L i t) := by
  intro t ht
  rw [fx_up1 (fx_up1 (h t ht)), Bool.or_assoc, show (decide (t = i + 1 + fx_Y L i) || decide (t = i + 1 + fx_N L i)) = fx_to L i t from fx_bool (by rw [fx_to_gt ho]; simp)]
theorem fx_at_mid {L : fx_Prg} {r i : Nat} (h2 : 2 ≤ r) (h6 : r ≤ 6) (hi : i < L.length) (hb : fx_brP L r i) (hn : ∀ j, j < i → ¬ fx_brP L r j) : fx_at L r = some i := by
  unfold fx_at
  rw [if_neg (by omega), if_neg (by omega)]
  exact fx_fst_some hi (fx_br_t.mpr hb) (fun j hj => fx_br_f.mpr (hn j hj))
theorem fx_at_midn {L : fx_Prg} {r : Nat} (h2 : 2 ≤ r) (h6 : r ≤ 6) (hn : ∀ j, j < L.length → ¬ fx_brP L r j) : fx_at L r = none := by
  unfold fx_at
  rw [if_neg (by omega), if_neg (by omega)]
  exact fx_fst_none (fun j hj => fx_br_f.mpr (hn j hj))
theorem fx_at7 (L : fx_Prg) : fx_at L 7 = fx_fst (fx_early L) L.length := by
  unfold fx_at
  rw [if_neg (by decide), if_pos rfl]
theorem fx_chk_lt {L : fx_Prg} (hlen : L.length ≤ 40) : fx_chk L < 400 := by
  rcases fx_chk_cases L with ⟨h0, -⟩ | ⟨r, i, h1, h7, hs, hn, hc⟩
  · omega
  · have := fx_at_lt hlen hs
    omega
theorem d_Mo_holds_0 : decode b_Mo_holds 0 = .ok (.aload_n 0, 1) := by decide +kernel
theorem d_Mo_holds_1 : decode b_Mo_holds 1 = .ok (.getfield 7, 3) := by decide +kernel
theorem d_Mo_holds_4 : decode b_Mo_holds 4 = .ok (.bipush 40, 2) := by decide +kernel
theorem d_Mo_holds_6 : decode b_Mo_holds 6 = .ok (.iload_n 2, 1) := by decide +kernel
theorem d_Mo_holds_7 : decode b_Mo_holds 7 = .ok (.imul, 1) := by decide +kernel
theorem d_Mo_holds_8 : decode b_Mo_holds 8 = .ok (.iload_n 3, 1) := by decide +kernel
theorem d_Mo_holds_9 : decode b_Mo_holds 9 = .ok (.iadd, 1) := by decide +kernel
theorem d_Mo_holds_10 : decode b_Mo_holds 10 = .ok (.iaload, 1) := by decide +kernel
theorem d_Mo_holds_11 : decode b_Mo_holds 11 = .ok (.istore 4, 2) := by decide +kernel
theorem d_Mo_holds_13 : decode b_Mo_holds 13 = .ok (.aload_n 0, 1) := by decide +kernel
theorem d_Mo_holds_14 : decode b_Mo_holds 14 = .ok (.getfield 19, 3) := by decide +kernel
theorem d_Mo_holds_17 : decode b_Mo_holds 17 = .ok (.bipush 40, 2) := by decide +kernel
theorem d_Mo_holds_19 : decode b_Mo_holds 19 = .ok (.iload_n 2, 1) := by decide +kernel
theorem d_Mo_holds_20 : decode b_Mo_holds 20 = .ok (.imul, 1) := by decide +kernel
theorem d_Mo_holds_21 : decode b_Mo_holds 21 = .ok (.iload_n 3, 1) := by decide +kernel
theorem d_Mo_holds_22 : decode b_Mo_holds 22 = .ok (.iadd, 1) := by decide +kernel
theorem d_Mo_holds_23 : decode b_Mo_holds 23 = .ok (.iaload, 1) := by decide +kernel
theorem d_Mo_holds_24 : decode b_Mo_holds 24 = .ok (.istore 5, 2) := by decide +kernel
theorem d_Mo_holds_26 : decode b_Mo_holds 26 = .ok (.aload_n 0, 1) := by decide +kernel
theorem d_Mo_holds_27 : decode b_Mo_holds 27 = .ok (.getfield 22, 3) := by decide +kernel
theorem d_Mo_holds_30 : decode b_Mo_holds 30 = .ok (.iload_n 2, 1) := by decide +kernel
theorem d_Mo_holds_31 : decode b_Mo_holds 31 = .ok (.iaload, 1) := by decide +kernel
theorem d_Mo_holds_32 : decode b_Mo_holds 32 = .ok (.iconst 1, 1) := by decide +kernel
theorem d_Mo_holds_33 : decode b_Mo_holds 33 = .ok (.isub, 1) := by decide +kernel
theorem d_Mo_holds_34 : decode b_Mo_holds 34 = .ok (.istore 6, 2) := by decide +kernel
theorem d_Mo_holds_36 : decode b_Mo_holds 36 = .ok (.iload_n 1, 1) := by decide +kernel
theorem d_Mo_holds_37 : decode b_Mo_holds 37 = .ok (.iconst 2, 1) := by decide +kernel
theorem d_Mo_holds_38 : decode b_Mo_holds 38 = .ok (.if_icmp .ne 51, 3) := by decide +kernel
theorem d_Mo_holds_41 : decode b_Mo_holds 41 = .ok (.iload 4, 2) := by decide +kernel
theorem d_Mo_holds_43 : decode b_Mo_holds 43 = .ok (.ifCond .eq 29, 3) := by decide +kernel
theorem d_Mo_holds_46 : decode b_Mo_holds 46 = .ok (.iload 4, 2) := by decide +kernel
theorem d_Mo_holds_48 : decode b_Mo_holds 48 = .ok (.iconst 2, 1) := by decide +kernel
theorem d_Mo_holds_49 : decode b_Mo_holds 49 = .ok (.if_icmp .eq 23, 3) := by decide +kernel
theorem d_Mo_holds_52 : decode b_Mo_holds 52 = .ok (.iload 4, 2) := by decide +kernel
theorem d_Mo_holds_54 : decode b_Mo_holds 54 = .ok (.iconst 5, 1) := by decide +kernel
theorem d_Mo_holds_55 : decode b_Mo_holds 55 = .ok (.if_icmp .eq 17, 3) := by decide +kernel
theorem d_Mo_holds_58 : decode b_Mo_holds 58 = .ok (.iload 4, 2) := by decide +kernel
theorem d_Mo_holds_60 : decode b_Mo_holds 60 = .ok (.bipush 8, 2) := by decide +kernel
theorem d_Mo_holds_62 : decode b_Mo_holds 62 = .ok (.if_icmp .eq 10, 3) := by decide +kernel
theorem d_Mo_holds_65 : decode b_Mo_holds 65 = .ok (.iload 4, 2) := by decide +kernel
theorem d_Mo_holds_67 : decode b_Mo_holds 67 = .ok (.bipush 9, 2) := by decide +kernel
theorem d_Mo_holds_69 : decode b_Mo_holds 69 = .ok (.if_icmp .ne 14, 3) := by decide +kernel
theorem d_Mo_holds_72 : decode b_Mo_holds 72 = .ok (.iload 5, 2) := by decide +kernel
theorem d_Mo_holds_74 : decode b_Mo_holds 74 = .ok (.iconst 0, 1) := by decide +kernel
theorem d_Mo_holds_75 : decode b_Mo_holds 75 = .ok (.bipush 15, 2) := by decide +kernel
theorem d_Mo_holds_77 : decode b_Mo_holds 77 = .ok (.invokestatic 51, 3) := by decide +kernel
theorem d_Mo_holds_80 : decode b_Mo_holds 80 = .ok (.ifCond .eq 7, 3) := by decide +kernel
theorem d_Mo_holds_83 : decode b_Mo_holds 83 = .ok (.iconst 1, 1) := by decide +kernel
theorem d_Mo_holds_84 : decode b_Mo_holds 84 = .ok (.goto 4, 3) := by decide +kernel
theorem d_Mo_holds_87 : decode b_Mo_holds 87 = .ok (.iconst 0, 1) := by decide +kernel
theorem d_Mo_holds_88 : decode b_Mo_holds 88 = .ok (.ireturn, 1) := by decide +kernel
theorem d_Mo_holds_89 : decode b_Mo_holds 89 = .ok (.iload_n 1, 1) := by decide +kernel
theorem d_Mo_holds_90 : decode b_Mo_holds 90 = .ok (.iconst 3, 1) := by decide +kernel
theorem d_Mo_holds_91 : decode b_Mo_holds 91 = .ok (.if_icmp .ne 21, 3) := by decide +kernel
theorem d_Mo_holds_94 : decode b_Mo_holds 94 = .ok (.iload 4, 2) := by decide +kernel
theorem d_Mo_holds_96 : decode b_Mo_holds 96 = .ok (.bipush 13, 2) := by decide +kernel
theorem d_Mo_holds_98 : decode b_Mo_holds 98 = .ok (.if_icmp .ne 8, 3) := by decide +kernel
theorem d_Mo_holds_101 : decode b_Mo_holds 101 = .ok (.iload 5, 2) := by decide +kernel
theorem d_Mo_holds_103 : decode b_Mo_holds 103 = .ok (.ifCond .eq 7, 3) := by decide +kernel
theorem d_Mo_holds_106 : decode b_Mo_holds 106 = .ok (.iconst 1, 1) := by decide +kernel
theorem d_Mo_holds_107 : decode b_Mo_holds 107 = .ok (.goto 4, 3) := by decide +kernel
theorem d_Mo_holds_110 : decode b_Mo_holds 110 = .ok (.iconst 0, 1) := by decide +kernel
theorem d_Mo_holds_111 : decode b_Mo_holds 111 = .ok (.ireturn, 1) := by decide +kernel
theorem d_Mo_holds_112 : decode b_Mo_holds 112 = .ok (.iload_n 1, 1) := by decide +kernel
theorem d_Mo_holds_113 : decode b_Mo_holds 113 = .ok (.iconst 4, 1) := by decide +kernel
theorem d_Mo_holds_114 : decode b_Mo_holds 114 = .ok (.if_icmp .ne 34, 3) := by decide +kernel
theorem d_Mo_holds_117 : decode b_Mo_holds 117 = .ok (.iload 4, 2) := by decide +kernel
theorem d_Mo_holds_119 : decode b_Mo_holds 119 = .ok (.bipush 17, 2) := by decide +kernel
theorem d_Mo_holds_121 : decode b_Mo_holds 121 = .ok (.if_icmp .eq 10, 3) := by decide +kernel
theorem d_Mo_holds_124 : decode b_Mo_holds 124 = .ok (.iload 4, 2) := by decide +kernel
theorem d_Mo_holds_126 : decode b_Mo_holds 126 = .ok (.bipush 18, 2) := by decide +kernel
theorem d_Mo_holds_128 : decode b_Mo_holds 128 = .ok (.if_icmp .ne 14, 3) := by decide +kernel
theorem d_Mo_holds_131 : decode b_Mo_holds 131 = .ok (.iload 5, 2) := by decide +kernel
theorem d_Mo_holds_133 : decode b_Mo_holds 133 = .ok (.iconst 0, 1) := by decide +kernel
theorem d_Mo_holds_134 : decode b_Mo_holds 134 = .ok (.bipush 31, 2) := by decide +kernel
theorem d_Mo_holds_136 : decode b_Mo_holds 136 = .ok (.invokestatic 51, 3) := by decide +kernel
theorem d_Mo_holds_139 : decode b_Mo_holds 139 = .ok (.ifCond .eq 7, 3) := by decide +kernel
theorem d_Mo_holds_142 : decode b_Mo_holds 142 = .ok (.iconst 1, 1) := by decide +kernel
theorem d_Mo_holds_143 : decode b_Mo_holds 143 = .ok (.goto 4, 3) := by decide +kernel
theorem d_Mo_holds_146 : decode b_Mo_holds 146 = .ok (.iconst 0, 1) := by decide +kernel
theorem d_Mo_holds_147 : decode b_Mo_holds 147 = .ok (.ireturn, 1) := by decide +kernel
theorem d_Mo_holds_148 : decode b_Mo_holds 148 = .ok (.iload 4, 2) := by decide +kernel
theorem d_Mo_holds_150 : decode b_Mo_holds 150 = .ok (.bipush 25, 2) := by decide +kernel
theorem d_Mo_holds_152 : decode b_Mo_holds 152 = .ok (.if_icmp .ne 16, 3) := by decide +kernel
theorem d_Mo_holds_155 : decode b_Mo_holds 155 = .ok (.iload 5, 2) := by decide +kernel
theorem d_Mo_holds_157 : decode b_Mo_holds 157 = .ok (.iconst 0, 1) := by decide +kernel
theorem d_Mo_holds_158 : decode b_Mo_holds 158 = .ok (.iload 6, 2) := by decide +kernel
theorem d_Mo_holds_160 : decode b_Mo_holds 160 = .ok (.iload_n 3, 1) := by decide +kernel
theorem d_Mo_holds_161 : decode b_Mo_holds 161 = .ok (.isub, 1) := by decide +kernel
theorem d_Mo_holds_162 : decode b_Mo_holds 162 = .ok (.iconst 1, 1) := by decide +kernel
theorem d_Mo_holds_163 : decode b_Mo_holds 163 = .ok (.isub, 1) := by decide +kernel
theorem d_Mo_holds_164 : decode b_Mo_holds 164 = .ok (.invokestatic 51, 3) := by decide +kernel
theorem d_Mo_holds_167 : decode b_Mo_holds 167 = .ok (.ireturn, 1) := by decide +kernel
theorem d_Mo_holds_168 : decode b_Mo_holds 168 = .ok (.iload 4, 2) := by decide +kernel
theorem d_Mo_holds_170 : decode b_Mo_holds 170 = .ok (.bipush 26, 2) := by decide +kernel
theorem d_Mo_holds_172 : decode b_Mo_holds 172 = .ok (.bipush 30, 2) := by decide +kernel
theorem d_Mo_holds_174 : decode b_Mo_holds 174 = .ok (.invokestatic 51, 3) := by decide +kernel
theorem d_Mo_holds_177 : decode b_Mo_holds 177 = .ok (.ifCond .eq 43, 3) := by decide +kernel
theorem d_Mo_holds_180 : decode b_Mo_holds 180 = .ok (.iload_n 3, 1) := by decide +kernel
theorem d_Mo_holds_181 : decode b_Mo_holds 181 = .ok (.iconst 1, 1) := by decide +kernel
theorem d_Mo_holds_182 : decode b_Mo_holds 182 = .ok (.iadd, 1) := by decide +kernel
theorem d_Mo_holds_183 : decode b_Mo_holds 183 = .ok (.aload_n 0, 1) := by decide +kernel
theorem d_Mo_holds_184 : decode b_Mo_holds 184 = .ok (.getfield 13, 3) := by decide +kernel
theorem d_Mo_holds_187 : decode b_Mo_holds 187 = .ok (.bipush 40, 2) := by decide +kernel
theorem d_Mo_holds_189 : decode b_Mo_holds 189 = .ok (.iload_n 2, 1) := by decide +kernel
theorem d_Mo_holds_190 : decode b_Mo_holds 190 = .ok (.imul, 1) := by decide +kernel
theorem d_Mo_holds_191 : decode b_Mo_holds 191 = .ok (.iload_n 3, 1) := by decide +kernel
theorem d_Mo_holds_192 : decode b_Mo_holds 192 = .ok (.iadd, 1) := by decide +kernel
theorem d_Mo_holds_193 : decode b_Mo_holds 193 = .ok (.iaload, 1) := by decide +kernel
theorem d_Mo_holds_194 : decode b_Mo_holds 194 = .ok (.iadd, 1) := by decide +kernel
theorem d_Mo_holds_195 : decode b_Mo_holds 195 = .ok (.iload 6, 2) := by decide +kernel
theorem d_Mo_holds_197 : decode b_Mo_holds 197 = .ok (.if_icmp .gt 27, 3) := by decide +kernel
theorem d_Mo_holds_200 : decode b_Mo_holds 200 = .ok (.iload_n 3, 1) := by decide +kernel
theorem d_Mo_holds_201 : decode b_Mo_holds 201 = .ok (.iconst 1, 1) := by decide +kernel
theorem d_Mo_holds_202 : decode b_Mo_holds 202 = .ok (.iadd, 1) := by decide +kernel
theorem d_Mo_holds_203 : decode b_Mo_holds 203 = .ok (.aload_n 0, 1) := by decide +kernel
theorem d_Mo_holds_204 : decode b_Mo_holds 204 = .ok (.getfield 16, 3) := by decide +kernel
theorem d_Mo_holds_207 : decode b_Mo_holds 207 = .ok (.bipush 40, 2) := by decide +kernel
theorem d_Mo_holds_209 : decode b_Mo_holds 209 = .ok (.iload_n 2, 1) := by decide +kernel
theorem d_Mo_holds_210 : decode b_Mo_holds 210 = .ok (.imul, 1) := by decide +kernel
theorem d_Mo_holds_211 : decode b_Mo_holds 211 = .ok (.iload_n 3, 1) := by decide +kernel
theorem d_Mo_holds_212 : decode b_Mo_holds 212 = .ok (.iadd, 1) := by decide +kernel
theorem d_Mo_holds_213 : decode b_Mo_holds 213 = .ok (.iaload, 1) := by decide +kernel
theorem d_Mo_holds_214 : decode b_Mo_holds 214 = .ok (.iadd, 1) := by decide +kernel
theorem d_Mo_holds_215 : decode b_Mo_holds 215 = .ok (.iload 6, 2) := by decide +kernel
theorem d_Mo_holds_217 : decode b_Mo_holds 217 = .ok (.if_icmp .gt 7, 3) := by decide +kernel
theorem d_Mo_holds_220 : decode b_Mo_holds 220 = .ok (.iconst 1, 1) := by decide +kernel
theorem d_Mo_holds_221 : decode b_Mo_holds 221 = .ok (.goto 4, 3) := by decide +kernel
theorem d_Mo_holds_224 : decode b_Mo_holds 224 = .ok (.iconst 0, 1) := by decide +kernel
theorem d_Mo_holds_225 : decode b_Mo_holds 225 = .ok (.ireturn, 1) := by decide +kernel
set_option maxHeartbeats 4000000 in
set_option maxRecDepth 100000 in
theorem c_Mo_holds (mo mop mye mno mnu msz stk mre mce mco xc xa xm xv cnt : Nat) (stp thr : Int32) (fo fy fn fk zs : Nat → Int32) (L : fx_Prg) (f : Nat) (r i : Nat) (sz : Nat) (hf : f < 8) (hzs : zs f = nI L.length) (hrep : fx_rep L (fun i => fo (40 * f + i)) (fun i => fy (40 * f + i)) (fun i => fn (40 * f + i)) (fun i => fk (40 * f + i))) (hok : fx_ok L) (hi : i < L.length) (hr2 : 2 ≤ r) (hr5 : r ≤ 5) : fs_I l y_Mo_holds (k_Mo_holds :: fs_T) { frames := 1, cells := 0, slots := 0, locals := 22 } (dC, dI) vwCl (fs_tys cI cZ cJ cF) [.ref mo, .int (nI r), .int (nI f), .int (nI i)] [(mo, .inr (5, [.ref mop, .ref mye, .ref mno, .ref mnu, .ref msz, .int (nI stk), .ref mre, .ref mce, .ref mco, .ref xc, .ref xa, .ref xm, .ref xv, .int (nI cnt), .int stp, .int thr])), (mop, .inl (cI, 320, .inl fo)), (mye, .inl (cI, 320, .inl fy)), (mno, .inl (cI, 320, .inl fn)), (mnu, .inl (cI, 320, .inl fk)), (msz, .inl (cI, 8, .inl zs))] sz (S := Unit) (fun z _ => (¬ fx_brP L r i ∧ z = nI 1) ∨ (fx_brP L r i ∧ z = nI 0)) (fun _ => [(mo, .inr (5, [.ref mop, .ref mye, .ref mno, .ref mnu, .ref msz, .int (nI stk), .ref mre, .ref mce, .ref mco, .ref xc, .ref xa, .ref xm, .ref xv, .int (nI cnt), .int stp, .int thr])), (mop, .inl (cI, 320, .inl fo)), (mye, .inl (cI, 320, .inl fy)), (mno, .inl (cI, 320, .inl fn)), (mnu, .inl (cI, 320, .inl fk)), (msz, .inl (cI, 8, .inl zs))]) 0 0 := by
  refine fs_head (by decide) (Nat.le_of_ble_eq_true rfl) ?_
  intro p e s m below meth c A ls hx hb hr hts hown hlocks hin hml hK hP hD hS hA hAe hsz hl
  have hl : lv_has ls 7 [(0, .ref mo), (1, .int (nI r)), (2, .int (nI f)), (3, .int (nI i))] := hl
  have hown : s.vm.findClass R_Mo = some m.cls := hown
  have hlen := hok.1
  have hO := (hok.2 i hi).1
  have hY := (hok.2 i hi).2.1
  have hN := (hok.2 i hi).2.2
  refine lv_aload_n hx hb d_Mo_holds_0 rfl (lv_at hl 0 rfl) ?_
  refine va_get (D := (dC, dI)) (ci := 5) (v := .ref mop) (C := R_Mo) (T := T_Mo) (N := 16) hx hb hts uin_Mo hown hK hP 0 rfl rfl 0 (by decide) (hts _ wi_430) (fun _ h9 => h9) rfl d_Mo_holds_1 ?_
  refine lv_bipush (v := nI 40) hx hb d_Mo_holds_4 (by decide) ?_
  refine lv_iload_n hx hb d_Mo_holds_6 rfl (lv_at hl 2 rfl) ?_
  refine lv_imul hx hb d_Mo_holds_7 ?_
  refine fs_eqi (pk_mul _ _) ?_
  refine lv_iload_n hx hb d_Mo_holds_8 rfl (lv_at hl 3 rfl) ?_
  refine lv_iadd hx hb d_Mo_holds_9 ?_
  refine fs_eqi (nI_add _ _) ?_
  refine fs_iald (v := nI (fx_O L i)) hx hb hK hP 1 0 rfl rfl (40 * f + i) rfl (by decide) (by omega) ((hrep i (by omega)).1) d_Mo_holds_10 ?_
  refine lv_istore hx hb d_Mo_holds_11 hl (by decide) (lv' := [(4, .int (nI (fx_O L i))), (0, .ref mo), (1, .int (nI r)), (2, .int (nI f)), (3, .int (nI i))]) rfl (fun ls hl => ?_)
  refine lv_aload_n hx hb d_Mo_holds_13 rfl (lv_at hl 1 rfl) ?_
  refine va_get (D := (dC, dI)) (ci := 5) (v := .ref mnu) (C := R_Mo) (T := T_Mo) (N := 16) hx hb hts uin_Mo hown hK hP 0 rfl rfl 3 (by decide) (hts _ wi_433) (fun _ h9 => h9) rfl d_Mo_holds_14 ?_
  refine lv_bipush (v := nI 40) hx hb d_Mo_holds_17 (by decide) ?_
  refine lv_iload_n hx hb d_Mo_holds_19 rfl (lv_at hl 3 rfl) ?_
  refine lv_imul hx hb d_Mo_holds_20 ?_
  refine fs_eqi (pk_mul _ _) ?_
  refine lv_iload_n hx hb d_Mo_holds_21 rfl (lv_at hl 4 rfl) ?_
  refine lv_iadd hx hb d_Mo_holds_22 ?_
  refine fs_eqi (nI_add _ _) ?_
  refine fs_iald (v := fx_K L i) hx hb hK hP 4 0 rfl rfl (40 * f + i) rfl (by decide) (by omega) ((hrep i (by omega)).2.2.2) d_Mo_holds_23 ?_
  refine lv_istore hx hb d_Mo_holds_24 hl (by decide) (lv' := [(5, .int (fx_K L i)), (4, .int (nI (fx_O L i))), (0, .ref mo), (1, .int (nI r)), (2, .int (nI f)), (3, .int (nI i))]) rfl (fun ls hl => ?_)
  refine lv_aload_n hx hb d_Mo_holds_26 rfl (lv_at hl 2 rfl) ?_
  refine va_get (D := (dC, dI)) (ci := 5) (v := .ref msz) (C := R_Mo) (T := T_Mo) (N := 16) hx hb hts uin_Mo hown hK hP 0 rfl rfl 4 (by decide) (hts _ wi_434) (fun _ h9 => h9) rfl d_Mo_holds_27 ?_
  refine lv_iload_n hx hb d_Mo_holds_30 rfl (lv_at hl 4 rfl) ?_
  refine fs_iald (v := nI L.length) hx hb hK hP 5 0 rfl rfl f rfl (by decide) (by omega) hzs d_Mo_holds_31 ?_
  refine lv_iconst (v := nI 1) hx hb d_Mo_holds_32 (by decide) ?_
  refine lv_isub hx hb d_Mo_holds_33 ?_
  refine fs_eqi (pk_sub (by omega)) ?_
  refine lv_istore hx hb d_Mo_holds_34 hl (by decide) (lv' := [(6, .int (nI (L.length - 1))), (5, .int (fx_K L i)), (4, .int (nI (fx_O L i))), (0, .ref mo), (1, .int (nI r)), (2, .int (nI f)), (3, .int (nI i))]) rfl (fun ls hl => ?_)
  refine lv_iload_n hx hb d_Mo_holds_36 rfl (lv_at hl 4 rfl) ?_
  refine lv_iconst (v := nI 2) hx hb d_Mo_holds_37 (by decide) ?_
  refine lv_icmp_ne (tgt := 89) hx hb d_Mo_holds_38 (by decide) (fun hc38 => ?_) (fun hc38 => ?_)
  · rw [nI_eq (by omega) (by omega)] at hc38
    refine lv_iload_n hx hb d_Mo_holds_89 rfl (lv_at hl 4 rfl) ?_
    refine lv_iconst (v := nI 3) hx hb d_Mo_holds_90 (by decide) ?_
    refine lv_icmp_ne (tgt := 112) hx hb d_Mo_holds_91 (by decide) (fun hc91 => ?_) (fun hc91 => ?_)
    · rw [nI_eq (by omega) (by omega)] at hc91
      refine lv_iload_n hx hb d_Mo_holds_112 rfl (lv_at hl 4 rfl) ?_
      refine lv_iconst (v := nI 4) hx hb d_Mo_holds_113 (by decide) ?_
      refine lv_icmp_ne (tgt := 148) hx hb d_Mo_holds_114 (by decide) (fun hc114 => ?_) (fun hc114 => ?_)
      · rw [nI_eq (by omega) (by omega)] at hc114
        refine lv_iload hx hb d_Mo_holds_148 (lv_at hl 2 rfl) ?_
        refine lv_bipush (v := nI 25) hx hb d_Mo_holds_150 (by decide) ?_
        refine lv_icmp_ne (tgt := 168) hx hb d_Mo_holds_152 (by decide) (fun hc152 => ?_) (fun hc152 => ?_)
        · rw [nI_eq (by omega) (by omega)] at hc152
          refine lv_iload hx hb d_Mo_holds_168 (lv_at hl 2 rfl) ?_
          refine lv_bipush (v := nI 26) hx hb d_Mo_holds_170 (by decide) ?_
          refine lv_bipush (v := nI 30) hx hb d_Mo_holds_172 (by decide) ?_
          refine fs_calli (wc := []) (wr := [(mo, .inr (5, [.ref mop, .ref mye, .ref mno, .ref mnu, .ref msz, .int (nI stk), .ref mre, .ref mce, .ref mco, .ref xc, .ref xa, .ref xm, .ref xv, .int (nI cnt), .int stp, .int thr])), (mop, .inl (cI, 320, .inl fo)), (mye, .inl (cI, 320, .inl fy)), (mno, .inl (cI, 320, .inl fn)), (mnu, .inl (cI, 320, .inl fk)), (msz, .inl (cI, 8, .inl zs))]) [] [0, 1, 2, 3, 4, 5] hP hD hK hS hA rfl rfl rfl (by decide) (fun hPc hDc => va_runS (As := [.int (nI (fx_O L i)), .int (nI 26), .int (nI 30)]) (rest := []) ⟨hx, hb, hml, hown, hts⟩ (c_Mo_within (nI (fx_O L i)) (nI 26) (nI 30) (((fx_O L i : Nat) : Int)) (((26 : Nat) : Int)) (((30 : Nat) : Int)) _ (nI_toInt (by omega)) (nI_toInt (by omega)) (nI_toInt (by omega))) (⟨callB_of 3 hts (fs_g kin_Mo_within) rfl rfl rfl (hts _ wi_6) (hts _ wi_488) (by decide +kernel) ⟨Nat.le_of_ble_eq_true rfl, Nat.le_of_ble_eq_true rfl⟩, hts _ wi_489⟩) (fs_preS hPc hK hDc) rfl rfl hl.1 rfl (lv_room (Nat.le_of_ble_eq_true rfl)) d_Mo_holds_174 ⟨Nat.le_of_ble_eq_true rfl, Nat.le_of_ble_eq_true rfl⟩) rfl (fun r174 _ H locs hp174 hP hD hS => ?_)
          have hP : va_P (dC, dI) vwCl [(mo, .inr (5, [.ref mop, .ref mye, .ref mno, .ref mnu, .ref msz, .int (nI stk), .ref mre, .ref mce, .ref mco, .ref xc, .ref xa, .ref xm, .ref xv, .int (nI cnt), .int stp, .int thr])), (mop, .inl (cI, 320, .inl fo)), (mye, .inl (cI, 320, .inl fy)), (mno, .inl (cI, 320, .inl fn)), (mnu, .inl (cI, 320, .inl fk)), (msz, .inl (cI, 8, .inl zs))] H := hP
          have hD : va_D A [(mo, .inr (5, [.ref mop, .ref mye, .ref mno, .ref mnu, .ref msz, .int (nI stk), .ref mre, .ref mce, .ref mco, .ref xc, .ref xa, .ref xm, .ref xv, .int (nI cnt), .int stp, .int thr])), (mop, .inl (cI, 320, .inl fo)), (mye, .inl (cI, 320, .inl fy)), (mno, .inl (cI, 320, .inl fn)), (mnu, .inl (cI, 320, .inl fk)), (msz, .inl (cI, 8, .inl zs))] := hD
          rcases hp174 with ⟨hc174, rfl⟩ | ⟨hc174, rfl⟩
          · refine lv_if_eq (tgt := 220) hx hb d_Mo_holds_177 (by decide) (fun hc => absurd hc (by decide)) (fun _ => ?_)
            refine lv_iload_n hx hb d_Mo_holds_180 rfl (lv_at hl 6 rfl) ?_
            refine lv_iconst (v := nI 1) hx hb d_Mo_holds_181 (by decide) ?_
            refine lv_iadd hx hb d_Mo_holds_182 ?_
            refine fs_eqi (nI_add _ _) ?_
            refine lv_aload_n hx hb d_Mo_holds_183 rfl (lv_at hl 3 rfl) ?_
            refine va_get (D := (dC, dI)) (ci := 5) (v := .ref mye) (C := R_Mo) (T := T_Mo) (N := 16) hx hb hts uin_Mo hown hK hP 0 rfl rfl 1 (by decide) (hts _ wi_431) (fun _ h9 => h9) rfl d_Mo_holds_184 ?_
            refine lv_bipush (v := nI 40) hx hb d_Mo_holds_187 (by decide) ?_
            refine lv_iload_n hx hb d_Mo_holds_189 rfl (lv_at hl 5 rfl) ?_
            refine lv_imul hx hb d_Mo_holds_190 ?_
            refine fs_eqi (pk_mul _ _) ?_
            refine lv_iload_n hx hb d_Mo_holds_191 rfl (lv_at hl 6 rfl) ?_
            refine lv_iadd hx hb d_Mo_holds_192 ?_
            refine fs_eqi (nI_add _ _) ?_
            refine fs_iald (v := nI (fx_Y L i)) hx hb hK hP 2 0 rfl rfl (40 * f + i) rfl (by decide) (by omega) ((hrep i (by omega)).2.1) d_Mo_holds_193 ?_
            refine lv_iadd hx hb d_Mo_holds_194 ?_
            refine fs_eqi (nI_add _ _) ?_
            refine lv_iload hx hb d_Mo_holds_195 (lv_at hl 0 rfl) ?_
            refine lv_icmp_gt (tgt := 224) hx hb d_Mo_holds_197 (by decide) (fun hc197 => ?_) (fun hc197 => ?_)
            · rw [nI_ltI (by omega) (by omega)] at hc197
              refine lv_iconst (v := nI 0) hx hb d_Mo_holds_224 (by decide) ?_
              exact fs_zret hx hb hr hlocks hAe hK hS d_Mo_holds_225 (by decide) () (by obtain rfl : r = 5 := (by omega); first | exact Or.inl ⟨by simp only [fx_brP]; omega, rfl⟩ | exact Or.inr ⟨by simp only [fx_brP]; omega, rfl⟩) hP hD
            rw [nI_ltI (by omega) (by omega)] at hc197
            refine lv_iload_n hx hb d_Mo_holds_200 rfl (lv_at hl 6 rfl) ?_
            refine lv_iconst (v := nI 1) hx hb d_Mo_holds_201 (by decide) ?_
            refine lv_iadd hx hb d_Mo_holds_202 ?_
            refine fs_eqi (nI_add _ _) ?_
            refine lv_aload_n hx hb d_Mo_holds_203 rfl (lv_at hl 3 rfl) ?_
            refine va_get (D := (dC, dI)) (ci := 5) (v := .ref mno) (C := R_Mo) (T := T_Mo) (N := 16) hx hb hts uin_Mo hown hK hP 0 rfl rfl 2 (by decide) (hts _ wi_432) (fun _ h9 => h9) rfl d_Mo_holds_204 ?_
            refine lv_bipush (v := nI 40) hx hb d_Mo_holds_207 (by decide) ?_
            refine lv_iload_n hx hb d_Mo_holds_209 rfl (lv_at hl 5 rfl) ?_
            refine lv_imul hx hb d_Mo_holds_210 ?_
            refine fs_eqi (pk_mul _ _) ?_
            refine lv_iload_n hx hb d_Mo_holds_211 rfl (lv_at hl 6 rfl) ?_
            refine lv_iadd hx hb d_Mo_holds_212 ?_
            refine fs_eqi (nI_add _ _) ?_
            refine fs_iald (v := nI (fx_N L i)) hx hb hK hP 3 0 rfl rfl (40 * f + i) rfl (by decide) (by omega) ((hrep i (by omega)).2.2.1) d_Mo_holds_213 ?_
            refine lv_iadd hx hb d_Mo_holds_214 ?_
            refine fs_eqi (nI_add _ _) ?_
            refine lv_iload hx hb d_Mo_holds_215 (lv_at hl 0 rfl) ?_
            refine lv_icmp_gt (tgt := 224) hx hb d_Mo_holds_217 (by decide) (fun hc217 => ?_) (fun hc217 => ?_)
            · rw [nI_ltI (by omega) (by omega)] at hc217
              refine lv_iconst (v := nI 0) hx hb d_Mo_holds_224 (by decide) ?_
              exact fs_zret hx hb hr hlocks hAe hK hS d_Mo_holds_225 (by decide) () (by obtain rfl : r = 5 := (by omega); first | exact Or.inl ⟨by simp only [fx_brP]; omega, rfl⟩ | exact Or.inr ⟨by simp only [fx_brP]; omega, rfl⟩) hP hD
            rw [nI_ltI (by omega) (by omega)] at hc217
            refine lv_iconst (v := nI 1) hx hb d_Mo_holds_220 (by decide) ?_
            refine lv_goto (tgt := 225) hx hb d_Mo_holds_221 (by decide) ?_
            exact fs_zret hx hb hr hlocks hAe hK hS d_Mo_holds_225 (by decide) () (by obtain rfl : r = 5 := (by omega); first | exact Or.inl ⟨by simp only [fx_brP]; omega, rfl⟩ | exact Or.inr ⟨by simp only [fx_brP]; omega, rfl⟩) hP hD
          refine lv_if_eq (tgt := 220) hx hb d_Mo_holds_177 (by decide) (fun _ => ?_) (fun hc => absurd (by decide) hc)
          refine lv_iconst (v := nI 1) hx hb d_Mo_holds_220 (by decide) ?_
          refine lv_goto (tgt := 225) hx hb d_Mo_holds_221 (by decide) ?_
          exact fs_zret hx hb hr hlocks hAe hK hS d_Mo_holds_225 (by decide) () (by obtain rfl : r = 5 := (by omega); first | exact Or.inl ⟨by simp only [fx_brP]; omega, rfl⟩ | exact Or.inr ⟨by simp only [fx_brP]; omega, rfl⟩) hP hD
        rw [nI_eq (by omega) (by omega)] at hc152
        refine lv_iload hx hb d_Mo_holds_155 (lv_at hl 1 rfl) ?_
        refine lv_iconst (v := nI 0) hx hb d_Mo_holds_157 (by decide) ?_
        refine lv_iload hx hb d_Mo_holds_158 (lv_at hl 0 rfl) ?_
        refine lv_iload_n hx hb d_Mo_holds_160 rfl (lv_at hl 6 rfl) ?_
        refine lv_isub hx hb d_Mo_holds_161 ?_
        refine fs_eqi (pk_sub (by omega)) ?_
        refine lv_iconst (v := nI 1) hx hb d_Mo_holds_162 (by decide) ?_
        refine lv_isub hx hb d_Mo_holds_163 ?_
        refine fs_calli (wc := []) (wr := [(mo, .inr (5, [.ref mop, .ref mye, .ref mno, .ref mnu, .ref msz, .int (nI stk), .ref mre, .ref mce, .ref mco, .ref xc, .ref xa, .ref xm, .ref xv, .int (nI cnt), .int stp, .int thr])), (mop, .inl (cI, 320, .inl fo)), (mye, .inl (cI, 320, .inl fy)), (mno, .inl (cI, 320, .inl fn)), (mnu, .inl (cI, 320, .inl fk)), (msz, .inl (cI, 8, .inl zs))]) [] [0, 1, 2, 3, 4, 5] hP hD hK hS hA rfl rfl rfl (by decide) (fun hPc hDc => va_runS (As := [.int (fx_K L i), .int (nI 0), .int ((nI ((L.length - 1) - i)) - (nI 1))]) (rest := []) ⟨hx, hb, hml, hown, hts⟩ (c_Mo_within (fx_K L i) (nI 0) ((nI ((L.length - 1) - i)) - (nI 1)) ((fx_K L i).toInt) (((0 : Nat) : Int)) (((L.length - 1 - i : Nat) : Int) - 1) _ (rfl) (nI_toInt (by omega)) (by have h := pk_sub_toInt (a := L.length - 1 - i) (b := 1) (by omega) (by decide); rw [h]; rfl)) (⟨callB_of 3 hts (fs_g kin_Mo_within) rfl rfl rfl (hts _ wi_6) (hts _ wi_488) (by decide +kernel) ⟨Nat.le_of_ble_eq_true rfl, Nat.le_of_ble_eq_true rfl⟩, hts _ wi_489⟩) (fs_preS hPc hK hDc) rfl rfl hl.1 rfl (lv_room (Nat.le_of_ble_eq_true rfl)) d_Mo_holds_164 ⟨Nat.le_of_ble_eq_true rfl, Nat.le_of_ble_eq_true rfl⟩) rfl (fun r164 _ H locs hp164 hP hD hS => ?_)
        have hP : va_P (dC, dI) vwCl [(mo, .inr (5, [.ref mop, .ref mye, .ref mno, .ref mnu, .ref msz, .int (nI stk), .ref mre, .ref mce, .ref mco, .ref xc, .ref xa, .ref xm, .ref xv, .int (nI cnt), .int stp, .int thr])), (mop, .inl (cI, 320, .inl fo)), (mye, .inl (cI, 320, .inl fy)), (mno, .inl (cI, 320, .inl fn)), (mnu, .inl (cI, 320, .inl fk)), (msz, .inl (cI, 8, .inl zs))] H := hP
        have hD : va_D A [(mo, .inr (5, [.ref mop, .ref mye, .ref mno, .ref mnu, .ref msz, .int (nI stk), .ref mre, .ref mce, .ref mco, .ref xc, .ref xa, .ref xm, .ref xv, .int (nI cnt), .int stp, .int thr])), (mop, .inl (cI, 320, .inl fo)), (mye, .inl (cI, 320, .inl fy)), (mno, .inl (cI, 320, .inl fn)), (mnu, .inl (cI, 320, .inl fk)), (msz, .inl (cI, 8, .inl zs))] := hD
        rcases hp164 with ⟨hc164, rfl⟩ | ⟨hc164, rfl⟩
        · exact fs_zret hx hb hr hlocks hAe hK hS d_Mo_holds_167 (by decide) () (by obtain rfl : r = 5 := (by omega); first | exact Or.inl ⟨by simp only [fx_brP]; omega, rfl⟩ | exact Or.inr ⟨by simp only [fx_brP]; omega, rfl⟩) hP hD
        exact fs_zret hx hb hr hlocks hAe hK hS d_Mo_holds_167 (by decide) () (by obtain rfl : r = 5 := (by omega); first | exact Or.inl ⟨by simp only [fx_brP]; omega, rfl⟩ | exact Or.inr ⟨by simp only [fx_brP]; omega, rfl⟩) hP hD
      rw [nI_eq (by omega) (by omega)] at hc114
      refine lv_iload hx hb d_Mo_holds_117 (lv_at hl 2 rfl) ?_
      refine lv_bipush (v := nI 17) hx hb d_Mo_holds_119 (by decide) ?_
      refine lv_icmp_eq (tgt := 131) hx hb d_Mo_holds_121 (by decide) (fun hc121 => ?_) (fun hc121 => ?_)
      · rw [nI_eq (by omega) (by omega)] at hc121
        refine lv_iload hx hb d_Mo_holds_131 (lv_at hl 1 rfl) ?_
        refine lv_iconst (v := nI 0) hx hb d_Mo_holds_133 (by decide) ?_
        refine lv_bipush (v := nI 31) hx hb d_Mo_holds_134 (by decide) ?_
        refine fs_calli (wc := []) (wr := [(mo, .inr (5, [.ref mop, .ref mye, .ref mno, .ref mnu, .ref msz, .int (nI stk), .ref mre, .ref mce, .ref mco, .ref xc, .ref xa, .ref xm, .ref xv, .int (nI cnt), .int stp, .int thr])), (mop, .inl (cI, 320, .inl fo)), (mye, .inl (cI, 320, .inl fy)), (mno, .inl (cI, 320, .inl fn)), (mnu, .inl (cI, 320, .inl fk)), (msz, .inl (cI, 8, .inl zs))]) [] [0, 1, 2, 3, 4, 5] hP hD hK hS hA rfl rfl rfl (by decide) (fun hPc hDc => va_runS (As := [.int (fx_K L i), .int (nI 0), .int (nI 31)]) (rest := []) ⟨hx, hb, hml, hown, hts⟩ (c_Mo_within (fx_K L i) (nI 0) (nI 31) ((fx_K L i).toInt) (((0 : Nat) : Int)) (((31 : Nat) : Int)) _ (rfl) (nI_toInt (by omega)) (nI_toInt (by omega))) (⟨callB_of 3 hts (fs_g kin_Mo_within) rfl rfl rfl (hts _ wi_6) (hts _ wi_488) (by decide +kernel) ⟨Nat.le_of_ble_eq_true rfl, Nat.le_of_ble_eq_true rfl⟩, hts _ wi_489⟩) (fs_preS hPc hK hDc) rfl rfl hl.1 rfl (lv_room (Nat.le_of_ble_eq_true rfl)) d_Mo_holds_136 ⟨Nat.le_of_ble_eq_true rfl, Nat.le_of_ble_eq_true rfl⟩) rfl (fun r136 _ H locs hp136 hP hD hS => ?_)
        have hP : va_P (dC, dI) vwCl [(mo, .inr (5, [.ref mop, .ref mye, .ref mno, .ref mnu, .ref msz, .int (nI stk), .ref mre, .ref mce, .ref mco, .ref xc, .ref xa, .ref xm, .ref xv, .int (nI cnt), .int stp, .int thr])), (mop, .inl (cI, 320, .inl fo)), (mye, .inl (cI, 320, .inl fy)), (mno, .inl (cI, 320, .inl fn)), (mnu, .inl (cI, 320, .inl fk)), (msz, .inl (cI, 8, .inl zs))] H := hP
        have hD : va_D A [(mo, .inr (5, [.ref mop, .ref mye, .ref mno, .ref mnu, .ref msz, .int (nI stk), .ref mre, .ref mce, .ref mco, .ref xc, .ref xa, .ref xm, .ref xv, .int (nI cnt), .int stp, .int thr])), (mop, .inl (cI, 320, .inl fo)), (mye, .inl (cI, 320, .inl fy)), (mno, .inl (cI, 320, .inl fn)), (mnu, .inl (cI, 320, .inl fk)), (msz, .inl (cI, 8, .inl zs))] := hD
        rcases hp136 with ⟨hc136, rfl⟩ | ⟨hc136, rfl⟩
        · refine lv_if_eq (tgt := 146) hx hb d_Mo_holds_139 (by decide) (fun hc => absurd hc (by decide)) (fun _ => ?_)
          refine lv_iconst (v := nI 1) hx hb d_Mo_holds_142 (by decide) ?_
          refine lv_goto (tgt := 147) hx hb d_Mo_holds_143 (by decide) ?_
          exact fs_zret hx hb hr hlocks hAe hK hS d_Mo_holds_147 (by decide) () (by obtain rfl : r = 4 := (by omega); first | exact Or.inl ⟨by simp only [fx_brP]; omega, rfl⟩ | exact Or.inr ⟨by simp only [fx_brP]; omega, rfl⟩) hP hD
        refine lv_if_eq (tgt := 146) hx hb d_Mo_holds_139 (by decide) (fun _ => ?_) (fun hc => absurd (by decide) hc)
        refine lv_iconst (v := nI 0) hx hb d_Mo_holds_146 (by decide) ?_
        exact fs_zret hx hb hr hlocks hAe hK hS d_Mo_holds_147 (by decide) () (by obtain rfl : r = 4 := (by omega); first | exact Or.inl ⟨by simp only [fx_brP]; omega, rfl⟩ | exact Or.inr ⟨by simp only [fx_brP]; omega, rfl⟩) hP hD
      rw [nI_eq (by omega) (by omega)] at hc121
      refine lv_iload hx hb d_Mo_holds_124 (lv_at hl 2 rfl) ?_
      refine lv_bipush (v := nI 18) hx hb d_Mo_holds_126 (by decide) ?_
      refine lv_icmp_ne (tgt := 142) hx hb d_Mo_holds_128 (by decide) (fun hc128 => ?_) (fun hc128 => ?_)
      · rw [nI_eq (by omega) (by omega)] at hc128
        refine lv_iconst (v := nI 1) hx hb d_Mo_holds_142 (by decide) ?_
        refine lv_goto (tgt := 147) hx hb d_Mo_holds_143 (by decide) ?_
        exact fs_zret hx hb hr hlocks hAe hK hS d_Mo_holds_147 (by decide) () (by obtain rfl : r = 4 := (by omega); first | exact Or.inl ⟨by simp only [fx_brP]; omega, rfl⟩ | exact Or.inr ⟨by simp only [fx_brP]; omega, rfl⟩) hP hD
      rw [nI_eq (by omega) (by omega)] at hc128
      refine lv_iload hx hb d_Mo_holds_131 (lv_at hl 1 rfl) ?_
      refine lv_iconst (v := nI 0) hx hb d_Mo_holds_133 (by decide) ?_
      refine lv_bipush (v := nI 31) hx hb d_Mo_holds_134 (by decide) ?_
      refine fs_calli (wc := []) (wr := [(mo, .inr (5, [.ref mop, .ref mye, .ref mno, .ref mnu, .ref msz, .int (nI stk), .ref mre, .ref mce, .ref mco, .ref xc, .ref xa, .ref xm, .ref xv, .int (nI cnt), .int stp, .int thr])), (mop, .inl (cI, 320, .inl fo)), (mye, .inl (cI, 320, .inl fy)), (mno, .inl (cI, 320, .inl fn)), (mnu, .inl (cI, 320, .inl fk)), (msz, .inl (cI, 8, .inl zs))]) [] [0, 1, 2, 3, 4, 5] hP hD hK hS hA rfl rfl rfl (by decide) (fun hPc hDc => va_runS (As := [.int (fx_K L i), .int (nI 0), .int (nI 31)]) (rest := []) ⟨hx, hb, hml, hown, hts⟩ (c_Mo_within (fx_K L i) (nI 0) (nI 31) ((fx_K L i).toInt) (((0 : Nat) : Int)) (((31 : Nat) : Int)) _ (rfl) (nI_toInt (by omega)) (nI_toInt (by omega))) (⟨callB_of 3 hts (fs_g kin_Mo_within) rfl rfl rfl (hts _ wi_6) (hts _ wi_488) (by decide +kernel) ⟨Nat.le_of_ble_eq_true rfl, Nat.le_of_ble_eq_true rfl⟩, hts _ wi_489⟩) (fs_preS hPc hK hDc) rfl rfl hl.1 rfl (lv_room (Nat.le_of_ble_eq_true rfl)) d_Mo_holds_136 ⟨Nat.le_of_ble_eq_true rfl, Nat.le_of_ble_eq_true rfl⟩) rfl (fun r136 _ H locs hp136 hP hD hS => ?_)
      have hP : va_P (dC, dI) vwCl [(mo, .inr (5, [.ref mop, .ref mye, .ref mno, .ref mnu, .ref msz, .int (nI stk), .ref mre, .ref mce, .ref mco, .ref xc, .ref xa, .ref xm, .ref xv, .int (nI cnt), .int stp, .int thr])), (mop, .inl (cI, 320, .inl fo)), (mye, .inl (cI, 320, .inl fy)), (mno, .inl (cI, 320, .inl fn)), (mnu, .inl (cI, 320, .inl fk)), (msz, .inl (cI, 8, .inl zs))] H := hP
      have hD : va_D A [(mo, .inr (5, [.ref mop, .ref mye, .ref mno, .ref mnu, .ref msz, .int (nI stk), .ref mre, .ref mce, .ref mco, .ref xc, .ref xa, .ref xm, .ref xv, .int (nI cnt), .int stp, .int thr])), (mop, .inl (cI, 320, .inl fo)), (mye, .inl (cI, 320, .inl fy)), (mno, .inl (cI, 320, .inl fn)), (mnu, .inl (cI, 320, .inl fk)), (msz, .inl (cI, 8, .inl zs))] := hD
      rcases hp136 with ⟨hc136, rfl⟩ | ⟨hc136, rfl⟩
      · refine lv_if_eq (tgt := 146) hx hb d_Mo_holds_139 (by decide) (fun hc => absurd hc (by decide)) (fun _ => ?_)
        refine lv_iconst (v := nI 1) hx hb d_Mo_holds_142 (by decide) ?_
        refine lv_goto (tgt := 147) hx hb d_Mo_holds_143 (by decide) ?_
        exact fs_zret hx hb hr hlocks hAe hK hS d_Mo_holds_147 (by decide) () (by obtain rfl : r = 4 := (by omega); first | exact Or.inl ⟨by simp only [fx_brP]; omega, rfl⟩ | exact Or.inr ⟨by simp only [fx_brP]; omega, rfl⟩) hP hD
      refine lv_if_eq (tgt := 146) hx hb d_Mo_holds_139 (by decide) (fun _ => ?_) (fun hc => absurd (by decide) hc)
      refine lv_iconst (v := nI 0) hx hb d_Mo_holds_146 (by decide) ?_
      exact fs_zret hx hb hr hlocks hAe hK hS d_Mo_holds_147 (by decide) () (by obtain rfl : r = 4 := (by omega); first | exact Or.inl ⟨by simp only [fx_brP]; omega, rfl⟩ | exact Or.inr ⟨by simp only [fx_brP]; omega, rfl⟩) hP hD
    rw [nI_eq (by omega) (by omega)] at hc91
    refine lv_iload hx hb d_Mo_holds_94 (lv_at hl 2 rfl) ?_
    refine lv_bipush (v := nI 13) hx hb d_Mo_holds_96 (by decide) ?_
    refine lv_icmp_ne (tgt := 106) hx hb d_Mo_holds_98 (by decide) (fun hc98 => ?_) (fun hc98 => ?_)
    · rw [nI_eq (by omega) (by omega)] at hc98
      refine lv_iconst (v := nI 1) hx hb d_Mo_holds_106 (by decide) ?_
      refine lv_goto (tgt := 111) hx hb d_Mo_holds_107 (by decide) ?_
      exact fs_zret hx hb hr hlocks hAe hK hS d_Mo_holds_111 (by decide) () (by obtain rfl : r = 3 := (by omega); first | exact Or.inl ⟨by simp only [fx_brP]; omega, rfl⟩ | exact Or.inr ⟨by simp only [fx_brP]; omega, rfl⟩) hP hD
    rw [nI_eq (by omega) (by omega)] at hc98
    refine lv_iload hx hb d_Mo_holds_101 (lv_at hl 1 rfl) ?_
    refine lv_if_eq (tgt := 110) hx hb d_Mo_holds_103 (by decide) (fun hc103 => ?_) (fun hc103 => ?_)
    · rw [fs_eq0] at hc103
      refine lv_iconst (v := nI 0) hx hb d_Mo_holds_110 (by decide) ?_
      exact fs_zret hx hb hr hlocks hAe hK hS d_Mo_holds_111 (by decide) () (by obtain rfl : r = 3 := (by omega); first | exact Or.inl ⟨by simp only [fx_brP]; omega, rfl⟩ | exact Or.inr ⟨by simp only [fx_brP]; omega, rfl⟩) hP hD
    rw [fs_eq0] at hc103
    refine lv_iconst (v := nI 1) hx hb d_Mo_holds_106 (by decide) ?_
    refine lv_goto (tgt := 111) hx hb d_Mo_holds_107 (by decide) ?_
    exact fs_zret hx hb hr hlocks hAe hK hS d_Mo_holds_111 (by decide) () (by obtain rfl : r = 3 := (by omega); first | exact Or.inl ⟨by simp only [fx_brP]; omega, rfl⟩ | exact Or.inr ⟨by simp only [fx_brP]; omega, rfl⟩) hP hD
  rw [nI_eq (by omega) (by omega)] at hc38
  refine lv_iload hx hb d_Mo_holds_41 (lv_at hl 2 rfl) ?_
  refine lv_if_eq (tgt := 72) hx hb d_Mo_holds_43 (by decide) (fun hc43 => ?_) (fun hc43 => ?_)
  · try rw [← nI_0] at hc43
    rw [nI_eq (by omega) (by omega)] at hc43
    refine lv_iload hx hb d_Mo_holds_72 (lv_at hl 1 rfl) ?_
    refine lv_iconst (v := nI 0) hx hb d_Mo_holds_74 (by decide) ?_
    refine lv_bipush (v := nI 15) hx hb d_Mo_holds_75 (by decide) ?_
    refine fs_calli (wc := []) (wr := [(mo, .inr (5, [.ref mop, .ref mye, .ref mno, .ref mnu, .ref msz, .int (nI stk), .ref mre, .ref mce, .ref mco, .ref xc, .ref xa, .ref xm, .ref xv, .int (nI cnt), .int stp, .int thr])), (mop, .inl (cI, 320, .inl fo)), (mye, .inl (cI, 320, .inl fy)), (mno, .inl (cI, 320, .inl fn)), (mnu, .inl (cI, 320, .inl fk)), (msz, .inl (cI, 8, .inl zs))]) [] [0, 1, 2, 3, 4, 5] hP hD hK hS hA rfl rfl rfl (by decide) (fun hPc hDc => va_runS (As := [.int (fx_K L i), .int (nI 0), .int (nI 15)]) (rest := []) ⟨hx, hb, hml, hown, hts⟩ (c_Mo_within (fx_K L i) (nI 0) (nI 15) ((fx_K L i).toInt) (((0 : Nat) : Int)) (((15 : Nat) : Int)) _ (rfl) (nI_toInt (by omega)) (nI_toInt (by omega))) (⟨callB_of 3 hts (fs_g kin_Mo_within) rfl rfl rfl (hts _ wi_6) (hts _ wi_488) (by decide +kernel) ⟨Nat.le_of_ble_eq_true rfl, Nat.le_of_ble_eq_true rfl⟩, hts _ wi_489⟩) (fs_preS hPc hK hDc) rfl rfl hl.1 rfl (lv_room (Nat.le_of_ble_eq_true rfl)) d_Mo_holds_77 ⟨Nat.le_of_ble_eq_true rfl, Nat.le_of_ble_eq_true rfl⟩) rfl (fun r77 _ H locs hp77 hP hD hS => ?_)
    have hP : va_P (dC, dI) vwCl [(mo, .inr (5, [.ref mop, .ref mye, .ref mno, .ref mnu, .ref msz, .int (nI stk), .ref mre, .ref mce, .ref mco, .ref xc, .ref xa, .ref xm, .ref xv, .int (nI cnt), .int stp, .int thr])), (mop, .inl (cI, 320, .inl fo)), (mye, .inl (cI, 320, .inl fy)), (mno, .inl (cI, 320, .inl fn)), (mnu, .inl (cI, 320, .inl fk)), (msz, .inl (cI, 8, .inl zs))] H := hP
    have hD : va_D A [(mo, .inr (5, [.ref mop, .ref mye, .ref mno, .ref mnu, .ref msz, .int (nI stk), .ref mre, .ref mce, .ref mco, .ref xc, .ref xa, .ref xm, .ref xv, .int (nI cnt), .int stp, .int thr])), (mop, .inl (cI, 320, .inl fo)), (mye, .inl (cI, 320, .inl fy)), (mno, .inl (cI, 320, .inl fn)), (mnu, .inl (cI, 320, .inl fk)), (msz, .inl (cI, 8, .inl zs))] := hD
    rcases hp77 with ⟨hc77, rfl⟩ | ⟨hc77, rfl⟩
    · refine lv_if_eq (tgt := 87) hx hb d_Mo_holds_80 (by decide) (fun hc => absurd hc (by decide)) (fun _ => ?_)
      refine lv_iconst (v := nI 1) hx hb d_Mo_holds_83 (by decide) ?_
      refine lv_goto (tgt := 88) hx hb d_Mo_holds_84 (by decide) ?_
      exact fs_zret hx hb hr hlocks hAe hK hS d_Mo_holds_88 (by decide) () (by obtain rfl : r = 2 := (by omega); first | exact Or.inl ⟨by simp only [fx_brP]; omega, rfl⟩ | exact Or.inr ⟨by simp only [fx_brP]; omega, rfl⟩) hP hD
    refine lv_if_eq (tgt := 87) hx hb d_Mo_holds_80 (by decide) (fun _ => ?_) (fun hc => absurd (by decide) hc)
    refine lv_iconst (v := nI 0) hx hb d_Mo_holds_87 (by decide) ?_
    exact fs_zret hx hb hr hlocks hAe hK hS d_Mo_holds_88 (by decide) () (by obtain rfl : r = 2 := (by omega); first | exact Or.inl ⟨by simp only [fx_brP]; omega, rfl⟩ | exact Or.inr ⟨by simp only [fx_brP]; omega, rfl⟩) hP hD
  try rw [← nI_0] at hc43
  rw [nI_eq (by omega) (by omega)] at hc43
  refine lv_iload hx hb d_Mo_holds_46 (lv_at hl 2 rfl) ?_
  refine lv_iconst (v := nI 2) hx hb d_Mo_holds_48 (by decide) ?_
  refine lv_icmp_eq (tgt := 72) hx hb d_Mo_holds_49 (by decide) (fun hc49 => ?_) (fun hc49 => ?_)
  · rw [nI_eq (by omega) (by omega)] at hc49
    refine lv_iload hx hb d_Mo_holds_72 (lv_at hl 1 rfl) ?_
    refine lv_iconst (v := nI 0) hx hb d_Mo_holds_74 (by decide) ?_
    refine lv_bipush (v := nI 15) hx hb d_Mo_holds_75 (by decide) ?_
    refine fs_calli (wc := []) (wr := [(mo, .inr (5, [.ref mop, .ref mye, .ref mno, .ref mnu, .ref msz, .int (nI stk), .ref mre, .ref mce, .ref mco, .ref xc, .ref xa, .ref xm, .ref xv, .int (nI cnt), .int stp, .int thr])), (mop, .inl (cI, 320, .inl fo)), (mye, .inl (cI, 320, .inl fy)), (mno, .inl (cI, 320, .inl fn)), (mnu, .inl (cI, 320, .inl fk)), (msz, .inl (cI, 8, .inl zs))]) [] [0, 1, 2, 3, 4, 5] hP hD hK hS hA rfl rfl rfl (by decide) (fun hPc hDc => va_runS (As := [.int (fx_K L i), .int (nI 0), .int (nI 15)]) (rest := []) ⟨hx, hb, hml, hown, hts⟩ (c_Mo_within (fx_K L i) (nI 0) (nI 15) ((fx_K L i).toInt) (((0 : Nat) : Int)) (((15 : Nat) : Int)) _ (rfl) (nI_toInt (by omega)) (nI_toInt (by omega))) (⟨callB_of 3 hts (fs_g kin_Mo_within) rfl rfl rfl (hts _ wi_6) (hts _ wi_488) (by decide +kernel) ⟨Nat.le_of_ble_eq_true rfl, Nat.le_of_ble_eq_true rfl⟩, hts _ wi_489⟩) (fs_preS hPc hK hDc) rfl rfl hl.1 rfl (lv_room (Nat.le_of_ble_eq_true rfl)) d_Mo_holds_77 ⟨Nat.le_of_ble_eq_true rfl, Nat.le_of_ble_eq_true rfl⟩) rfl (fun r77 _ H locs hp77 hP hD hS => ?_)
    have hP : va_P (dC, dI) vwCl [(mo, .inr (5, [.ref mop, .ref mye, .ref mno, .ref mnu, .ref msz, .int (nI stk), .ref mre, .ref mce, .ref mco, .ref xc, .ref xa, .ref xm, .ref xv, .int (nI cnt), .int stp, .int thr])), (mop, .inl (cI, 320, .inl fo)), (mye, .inl (cI, 320, .inl fy)), (mno, .inl (cI, 320, .inl fn)), (mnu, .inl (cI, 320, .inl fk)), (msz, .inl (cI, 8, .inl zs))] H := hP
    have hD : va_D A [(mo, .inr (5, [.ref mop, .ref mye, .ref mno, .ref mnu, .ref msz, .int (nI stk), .ref mre, .ref mce, .ref mco, .ref xc, .ref xa, .ref xm, .ref xv, .int (nI cnt), .int stp, .int thr])), (mop, .inl (cI, 320, .inl fo)), (mye, .inl (cI, 320, .inl fy)), (mno, .inl (cI, 320, .inl fn)), (mnu, .inl (cI, 320, .inl fk)), (msz, .inl (cI, 8, .inl zs))] := hD
    rcases hp77 with ⟨hc77, rfl⟩ | ⟨hc77, rfl⟩
    · refine lv_if_eq (tgt := 87) hx hb d_Mo_holds_80 (by decide) (fun hc => absurd hc (by decide)) (fun _ => ?_)
      refine lv_iconst (v := nI 1) hx hb d_Mo_holds_83 (by decide) ?_
      refine lv_goto (tgt := 88) hx hb d_Mo_holds_84 (by decide) ?_
      exact fs_zret hx hb hr hlocks hAe hK hS d_Mo_holds_88 (by decide) () (by obtain rfl : r = 2 := (by omega); first | exact Or.inl ⟨by simp only [fx_brP]; omega, rfl⟩ | exact Or.inr ⟨by simp only [fx_brP]; omega, rfl⟩) hP hD
    refine lv_if_eq (tgt := 87) hx hb d_Mo_holds_80 (by decide) (fun _ => ?_) (fun hc => absurd (by decide) hc)
    refine lv_iconst (v := nI 0) hx hb d_Mo_holds_87 (by decide) ?_
    exact fs_zret hx hb hr hlocks hAe hK hS d_Mo_holds_88 (by decide) () (by obtain rfl : r = 2 := (by omega); first | exact Or.inl ⟨by simp only [fx_brP]; omega, rfl⟩ | exact Or.inr ⟨by simp only [fx_brP]; omega, rfl⟩) hP hD
  rw [nI_eq (by omega) (by omega)] at hc49
  refine lv_iload hx hb d_Mo_holds_52 (lv_at hl 2 rfl) ?_
  refine lv_iconst (v := nI 5) hx hb d_Mo_holds_54 (by decide) ?_
  refine lv_icmp_eq (tgt := 72) hx hb d_Mo_holds_55 (by decide) (fun hc55 => ?_) (fun hc55 => ?_)
  · rw [nI_eq (by omega) (by omega)] at hc55
    refine lv_iload hx hb d_Mo_holds_72 (lv_at hl 1 rfl) ?_
    refine lv_iconst (v := nI 0) hx hb d_Mo_holds_74 (by decide) ?_
    refine lv_bipush (v := nI 15) hx hb d_Mo_holds_75 (by decide) ?_
    refine fs_calli (wc := []) (wr := [(mo, .inr (5, [.ref mop, .ref mye, .ref mno, .ref mnu, .ref msz, .int (nI stk), .ref mre, .ref mce, .ref mco, .ref xc, .ref xa, .ref xm, .ref xv, .int (nI cnt), .int stp, .int thr])), (mop, .inl (cI, 320, .inl fo)), (mye, .inl (cI, 320, .inl fy)), (mno, .inl (cI, 320, .inl fn)), (mnu, .inl (cI, 320, .inl fk)), (msz, .inl (cI, 8, .inl zs))]) [] [0, 1, 2, 3, 4, 5] hP hD hK hS hA rfl rfl rfl (by decide) (fun hPc hDc => va_runS (As := [.int (fx_K L i), .int (nI 0), .int (nI 15)]) (rest := []) ⟨hx, hb, hml, hown, hts⟩ (c_Mo_within (fx_K L i) (nI 0) (nI 15) ((fx_K L i).toInt) (((0 : Nat) : Int)) (((15 : Nat) : Int)) _ (rfl) (nI_toInt (by omega)) (nI_toInt (by omega))) (⟨callB_of 3 hts (fs_g kin_Mo_within) rfl rfl rfl (hts _ wi_6) (hts _ wi_488) (by decide +kernel) ⟨Nat.le_of_ble_eq_true rfl, Nat.le_of_ble_eq_true rfl⟩, hts _ wi_489⟩) (fs_preS hPc hK hDc) rfl rfl hl.1 rfl (lv_room (Nat.le_of_ble_eq_true rfl)) d_Mo_holds_77 ⟨Nat.le_of_ble_eq_true rfl, Nat.le_of_ble_eq_true rfl⟩) rfl (fun r77 _ H locs hp77 hP hD hS => ?_)
    have hP : va_P (dC, dI) vwCl [(mo, .inr (5, [.ref mop, .ref mye, .ref mno, .ref mnu, .ref msz, .int (nI stk), .ref mre, .ref mce, .ref mco, .ref xc, .ref xa, .ref xm, .ref xv, .int (nI cnt), .int stp, .int thr])), (mop, .inl (cI, 320, .inl fo)), (mye, .inl (cI, 320, .inl fy)), (mno, .inl (cI, 320, .inl fn)), (mnu, .inl (cI, 320, .inl fk)), (msz, .inl (cI, 8, .inl zs))] H := hP
    have hD : va_D A [(mo, .inr (5, [.ref mop, .ref mye, .ref mno, .ref mnu, .ref msz, .int (nI stk), .ref mre, .ref mce, .ref mco, .ref xc, .ref xa, .ref xm, .ref xv, .int (nI cnt), .int stp, .int thr])), (mop, .inl (cI, 320, .inl fo)), (mye, .inl (cI, 320, .inl fy)), (mno, .inl (cI, 320, .inl fn)), (mnu, .inl (cI, 320, .inl fk)), (msz, .inl (cI, 8, .inl zs))] := hD
    rcases hp77 with ⟨hc77, rfl⟩ | ⟨hc77, rfl⟩
    · refine lv_if_eq (tgt := 87) hx hb d_Mo_holds_80 (by decide) (fun hc => absurd hc (by decide)) (fun _ => ?_)
      refine lv_iconst (v := nI 1) hx hb d_Mo_holds_83 (by decide) ?_
      refine lv_goto (tgt := 88) hx hb d_Mo_holds_84 (by decide) ?_
      exact fs_zret hx hb hr hlocks hAe hK hS d_Mo_holds_88 (by decide) () (by obtain rfl : r = 2 := (by omega); first | exact Or.inl ⟨by simp only [fx_brP]; omega, rfl⟩ | exact Or.inr ⟨by simp only [fx_brP]; omega, rfl⟩) hP hD
    refine lv_if_eq (tgt := 87) hx hb d_Mo_holds_80 (by decide) (fun _ => ?_) (fun hc => absurd (by decide) hc)
    refine lv_iconst (v := nI 0) hx hb d_Mo_holds_87 (by decide) ?_
    exact fs_zret hx hb hr hlocks hAe hK hS d_Mo_holds_88 (by decide) () (by obtain rfl : r = 2 := (by omega); first | exact Or.inl ⟨by simp only [fx_brP]; omega, rfl⟩ | exact Or.inr ⟨by simp only [fx_brP]; omega, rfl⟩) hP hD
  rw [nI_eq (by omega) (by omega)] at hc55
  refine lv_iload hx hb d_Mo_holds_58 (lv_at hl 2 rfl) ?_
  refine lv_bipush (v := nI 8) hx hb d_Mo_holds_60 (by decide) ?_
  refine lv_icmp_eq (tgt := 72) hx hb d_Mo_holds_62 (by decide) (fun hc62 => ?_) (fun hc62 => ?_)
  · rw [nI_eq (by omega) (by omega)] at hc62
    refine lv_iload hx hb d_Mo_holds_72 (lv_at hl 1 rfl) ?_
    refine lv_iconst (v := nI 0) hx hb d_Mo_holds_74 (by decide) ?_
    refine lv_bipush (v := nI 15) hx hb d_Mo_holds_75 (by decide) ?_
    refine fs_calli (wc := []) (wr := [(mo, .inr (5, [.ref mop, .ref mye, .ref mno, .ref mnu, .ref msz, .int (nI stk), .ref mre, .ref mce, .ref mco, .ref xc, .ref xa, .ref xm, .ref xv, .int (nI cnt), .int stp, .int thr])), (mop, .inl (cI, 320, .inl fo)), (mye, .inl (cI, 320, .inl fy)), (mno, .inl (cI, 320, .inl fn)), (mnu, .inl (cI, 320, .inl fk)), (msz, .inl (cI, 8, .inl zs))]) [] [0, 1, 2, 3, 4, 5] hP hD hK hS hA rfl rfl rfl (by decide) (fun hPc hDc => va_runS (As := [.int (fx_K L i), .int (nI 0), .int (nI 15)]) (rest := []) ⟨hx, hb, hml, hown, hts⟩ (c_Mo_within (fx_K L i) (nI 0) (nI 15) ((fx_K L i).toInt) (((0 : Nat) : Int)) (((15 : Nat) : Int)) _ (rfl) (nI_toInt (by omega)) (nI_toInt (by omega))) (⟨callB_of 3 hts (fs_g kin_Mo_within) rfl rfl rfl (hts _ wi_6) (hts _ wi_488) (by decide +kernel) ⟨Nat.le_of_ble_eq_true rfl, Nat.le_of_ble_eq_true rfl⟩, hts _ wi_489⟩) (fs_preS hPc hK hDc) rfl rfl hl.1 rfl (lv_room (Nat.le_of_ble_eq_true rfl)) d_Mo_holds_77 ⟨Nat.le_of_ble_eq_true rfl, Nat.le_of_ble_eq_true rfl⟩) rfl (fun r77 _ H locs hp77 hP hD hS => ?_)
    have hP : va_P (dC, dI) vwCl [(mo, .inr (5, [.ref mop, .ref mye, .ref mno, .ref mnu, .ref msz, .int (nI stk), .ref mre, .ref mce, .ref mco, .ref xc, .ref xa, .ref xm, .ref xv, .int (nI cnt), .int stp, .int thr])), (mop, .inl (cI, 320, .inl fo)), (mye, .inl (cI, 320, .inl fy)), (mno, .inl (cI, 320, .inl fn)), (mnu, .inl (cI, 320, .inl fk)), (msz, .inl (cI, 8, .inl zs))] H := hP
    have hD : va_D A [(mo, .inr (5, [.ref mop, .ref mye, .ref mno, .ref mnu, .ref msz, .int (nI stk), .ref mre, .ref mce, .ref mco, .ref xc, .ref xa, .ref xm, .ref xv, .int (nI cnt), .int stp, .int thr])), (mop, .inl (cI, 320, .inl fo)), (mye, .inl (cI, 320, .inl fy)), (mno, .inl (cI, 320, .inl fn)), (mnu, .inl (cI, 320, .inl fk)), (msz, .inl (cI, 8, .inl zs))] := hD
    rcases hp77 with ⟨hc77, rfl⟩ | ⟨hc77, rfl⟩
    · refine lv_if_eq (tgt := 87) hx hb d_Mo_holds_80 (by decide) (fun hc => absurd hc (by decide)) (fun _ => ?_)
      refine lv_iconst (v := nI 1) hx hb d_Mo_holds_83 (by decide) ?_
      refine lv_goto (tgt := 88) hx hb d_Mo_holds_84 (by decide) ?_
      exact fs_zret hx hb hr hlocks hAe hK hS d_Mo_holds_88 (by decide) () (by obtain rfl : r = 2 := (by omega); first | exact Or.inl ⟨by simp only [fx_brP]; omega, rfl⟩ | exact Or.inr ⟨by simp only [fx_brP]; omega, rfl⟩) hP hD
    refine lv_if_eq (tgt := 87) hx hb d_Mo_holds_80 (by decide) (fun _ => ?_) (fun hc => absurd (by decide) hc)
    refine lv_iconst (v := nI 0) hx hb d_Mo_holds_87 (by decide) ?_
    exact fs_zret hx hb hr hlocks hAe hK hS d_Mo_holds_88 (by decide) () (by obtain rfl : r = 2 := (by omega); first | exact Or.inl ⟨by simp only [fx_brP]; omega, rfl⟩ | exact Or.inr ⟨by simp only [fx_brP]; omega, rfl⟩) hP hD
  rw [nI_eq (by omega) (by omega)] at hc62
  refine lv_iload hx hb d_Mo_holds_65 (lv_at hl 2 rfl) ?_
  refine lv_bipush (v := nI 9) hx hb d_Mo_holds_67 (by decide) ?_
  refine lv_icmp_ne (tgt := 83) hx hb d_Mo_holds_69 (by decide) (fun hc69 => ?_) (fun hc69 => ?_)
  · rw [nI_eq (by omega) (by omega)] at hc69
    refine lv_iconst (v := nI 1) hx hb d_Mo_holds_83 (by decide) ?_
    refine lv_goto (tgt := 88) hx hb d_Mo_holds_84 (by decide) ?_
    exact fs_zret hx hb hr hlocks hAe hK hS d_Mo_holds_88 (by decide) () (by obtain rfl : r = 2 := (by omega); first | exact Or.inl ⟨by simp only [fx_brP]; omega, rfl⟩ | exact Or.inr ⟨by simp only [fx_brP]; omega, rfl⟩) hP hD
  rw [nI_eq (by omega) (by omega)] at hc69
  refine lv_iload hx hb d_Mo_holds_72 (lv_at hl 1 rfl) ?_
  refine lv_iconst (v := nI 0) hx hb d_Mo_holds_74 (by decide) ?_
  refine lv_bipush (v := nI 15) hx hb d_Mo_holds_75 (by decide) ?_
  refine fs_calli (wc := []) (wr := [(mo, .inr (5, [.ref mop, .ref mye, .ref mno, .ref mnu, .ref msz, .int (nI stk), .ref mre, .ref mce, .ref mco, .ref xc, .ref xa, .ref xm, .ref xv, .int (nI cnt), .int stp, .int thr])), (mop, .inl (cI, 320, .inl fo)), (mye, .inl (cI, 320, .inl fy)), (mno, .inl (cI, 320, .inl fn)), (mnu, .inl (cI, 320, .inl fk)), (msz, .inl (cI, 8, .inl zs))]) [] [0, 1, 2, 3, 4, 5] hP hD hK hS hA rfl rfl rfl (by decide) (fun hPc hDc => va_runS (As := [.int (fx_K L i), .int (nI 0), .int (nI 15)]) (rest := []) ⟨hx, hb, hml, hown, hts⟩ (c_Mo_within (fx_K L i) (nI 0) (nI 15) ((fx_K L i).toInt) (((0 : Nat) : Int)) (((15 : Nat) : Int)) _ (rfl) (nI_toInt (by omega)) (nI_toInt (by omega))) (⟨callB_of 3 hts (fs_g kin_Mo_within) rfl rfl rfl (hts _ wi_6) (hts _ wi_488) (by decide +kernel) ⟨Nat.le_of_ble_eq_true rfl, Nat.le_of_ble_eq_true rfl⟩, hts _ wi_489⟩) (fs_preS hPc hK hDc) rfl rfl hl.1 rfl (lv_room (Nat.le_of_ble_eq_true rfl)) d_Mo_holds_77 ⟨Nat.le_of_ble_eq_true rfl, Nat.le_of_ble_eq_true rfl⟩) rfl (fun r77 _ H locs hp77 hP hD hS => ?_)
  have hP : va_P (dC, dI) vwCl [(mo, .inr (5, [.ref mop, .ref mye, .ref mno, .ref mnu, .ref msz, .int (nI stk), .ref mre, .ref mce, .ref mco, .ref xc, .ref xa, .ref xm, .ref xv, .int (nI cnt), .int stp, .int thr])), (mop, .inl (cI, 320, .inl fo)), (mye, .inl (cI, 320, .inl fy)), (mno, .inl (cI, 320, .inl fn)), (mnu, .inl (cI, 320, .inl fk)), (msz, .inl (cI, 8, .inl zs))] H := hP
  have hD : va_D A [(mo, .inr (5, [.ref mop, .ref mye, .ref mno, .ref mnu, .ref msz, .int (nI stk), .ref mre, .ref mce, .ref mco, .ref xc, .ref xa, .ref xm, .ref xv, .int (nI cnt), .int stp, .int thr])), (mop, .inl (cI, 320, .inl fo)), (mye, .inl (cI, 320, .inl fy)), (mno, .inl (cI, 320, .inl fn)), (mnu, .inl (cI, 320, .inl fk)), (msz, .inl (cI, 8, .inl zs))] := hD
  rcases hp77 with ⟨hc77, rfl⟩ | ⟨hc77, rfl⟩
  · refine lv_if_eq (tgt := 87) hx hb d_Mo_holds_80 (by decide) (fun hc => absurd hc (by decide)) (fun _ => ?_)
    refine lv_iconst (v := nI 1) hx hb d_Mo_holds_83 (by decide) ?_
    refine lv_goto (tgt := 88) hx hb d_Mo_holds_84 (by decide) ?_
    exact fs_zret hx hb hr hlocks hAe hK hS d_Mo_holds_88 (by decide) () (by obtain rfl : r = 2 := (by omega); first | exact Or.inl ⟨by simp only [fx_brP]; omega, rfl⟩ | exact Or.inr ⟨by simp only [fx_brP]; omega, rfl⟩) hP hD
  refine lv_if_eq (tgt := 87) hx hb d_Mo_holds_80 (by decide) (fun _ => ?_) (fun hc => absurd (by decide) hc)
  refine lv_iconst (v := nI 0) hx hb d_Mo_holds_87 (by decide) ?_
  exact fs_zret hx hb hr hlocks hAe hK hS d_Mo_holds_88 (by decide) () (by obtain rfl : r = 2 := (by omega); first | exact Or.inl ⟨by simp only [fx_brP]; omega, rfl⟩ | exact Or.inr ⟨by simp only [fx_brP]; omega, rfl⟩) hP hD

theorem d_Mo_bare_0 : decode b_Mo_bare 0 = .ok (.iconst 0, 1) := by decide +kernel
theorem d_Mo_bare_1 : decode b_Mo_bare 1 = .ok (.istore 4, 2) := by decide +kernel
theorem d_Mo_bare_3 : decode b_Mo_bare 3 = .ok (.iload 4, 2) := by decide +kernel
theorem d_Mo_bare_5 : decode b_Mo_bare 5 = .ok (.bipush 40, 2) := by decide +kernel
theorem d_Mo_bare_7 : decode b_Mo_bare 7 = .ok (.if_icmp .gt 26, 3) := by decide +kernel
theorem d_Mo_bare_10 : decode b_Mo_bare 10 = .ok (.aload_n 0, 1) := by decide +kernel
theorem d_Mo_bare_11 : decode b_Mo_bare 11 = .ok (.getfield 31, 3) := by decide +kernel
theorem d_Mo_bare_14 : decode b_Mo_bare 14 = .ok (.iload 4, 2) := by decide +kernel
theorem d_Mo_bare_16 : decode b_Mo_bare 16 = .ok (.iload 4, 2) := by decide +kernel
theorem d_Mo_bare_18 : decode b_Mo_bare 18 = .ok (.ifCond .ne 7, 3) := by decide +kernel
theorem d_Mo_bare_21 : decode b_Mo_bare 21 = .ok (.iconst 1, 1) := by decide +kernel
theorem d_Mo_bare_22 : decode b_Mo_bare 22 = .ok (.goto 4, 3) := by decide +kernel
theorem d_Mo_bare_25 : decode b_Mo_bare 25 = .ok (.iconst 0, 1) := by decide +kernel
theorem d_Mo_bare_26 : decode b_Mo_bare 26 = .ok (.bastore, 1) := by decide +kernel
theorem d_Mo_bare_27 : decode b_Mo_bare 27 = .ok (.iinc 4 1, 3) := by decide +kernel
theorem d_Mo_bare_30 : decode b_Mo_bare 30 = .ok (.goto (-27), 3) := by decide +kernel
theorem d_Mo_bare_33 : decode b_Mo_bare 33 = .ok (.iconst 0, 1) := by decide +kernel
theorem d_Mo_bare_34 : decode b_Mo_bare 34 = .ok (.istore 4, 2) := by decide +kernel
theorem d_Mo_bare_36 : decode b_Mo_bare 36 = .ok (.iload 4, 2) := by decide +kernel
theorem d_Mo_bare_38 : decode b_Mo_bare 38 = .ok (.iload_n 2, 1) := by decide +kernel
theorem d_Mo_bare_39 : decode b_Mo_bare 39 = .ok (.if_icmp .ge 161, 3) := by decide +kernel
theorem d_Mo_bare_42 : decode b_Mo_bare 42 = .ok (.bipush 40, 2) := by decide +kernel
theorem d_Mo_bare_44 : decode b_Mo_bare 44 = .ok (.iload_n 1, 1) := by decide +kernel
theorem d_Mo_bare_45 : decode b_Mo_bare 45 = .ok (.imul, 1) := by decide +kernel
theorem d_Mo_bare_46 : decode b_Mo_bare 46 = .ok (.iload 4, 2) := by decide +kernel
theorem d_Mo_bare_48 : decode b_Mo_bare 48 = .ok (.iadd, 1) := by decide +kernel
theorem d_Mo_bare_49 : decode b_Mo_bare 49 = .ok (.istore 5, 2) := by decide +kernel
theorem d_Mo_bare_51 : decode b_Mo_bare 51 = .ok (.aload_n 0, 1) := by decide +kernel
theorem d_Mo_bare_52 : decode b_Mo_bare 52 = .ok (.getfield 7, 3) := by decide +kernel
theorem d_Mo_bare_55 : decode b_Mo_bare 55 = .ok (.iload 5, 2) := by decide +kernel
theorem d_Mo_bare_57 : decode b_Mo_bare 57 = .ok (.iaload, 1) := by decide +kernel
theorem d_Mo_bare_58 : decode b_Mo_bare 58 = .ok (.istore 6, 2) := by decide +kernel
theorem d_Mo_bare_60 : decode b_Mo_bare 60 = .ok (.aload_n 0, 1) := by decide +kernel
theorem d_Mo_bare_61 : decode b_Mo_bare 61 = .ok (.getfield 31, 3) := by decide +kernel
theorem d_Mo_bare_64 : decode b_Mo_bare 64 = .ok (.iload 4, 2) := by decide +kernel
theorem d_Mo_bare_66 : decode b_Mo_bare 66 = .ok (.baload, 1) := by decide +kernel
theorem d_Mo_bare_67 : decode b_Mo_bare 67 = .ok (.ifCond .eq 127, 3) := by decide +kernel
theorem d_Mo_bare_70 : decode b_Mo_bare 70 = .ok (.iload 6, 2) := by decide +kernel
theorem d_Mo_bare_72 : decode b_Mo_bare 72 = .ok (.bipush 31, 2) := by decide +kernel
theorem d_Mo_bare_74 : decode b_Mo_bare 74 = .ok (.if_icmp .eq 120, 3) := by decide +kernel
theorem d_Mo_bare_77 : decode b_Mo_bare 77 = .ok (.iload 6, 2) := by decide +kernel
theorem d_Mo_bare_79 : decode b_Mo_bare 79 = .ok (.bipush 8, 2) := by decide +kernel
theorem d_Mo_bare_81 : decode b_Mo_bare 81 = .ok (.if_icmp .eq 10, 3) := by decide +kernel
theorem d_Mo_bare_84 : decode b_Mo_bare 84 = .ok (.iload 6, 2) := by decide +kernel
theorem d_Mo_bare_86 : decode b_Mo_bare 86 = .ok (.bipush 9, 2) := by decide +kernel
theorem d_Mo_bare_88 : decode b_Mo_bare 88 = .ok (.if_icmp .ne 17, 3) := by decide +kernel
theorem d_Mo_bare_91 : decode b_Mo_bare 91 = .ok (.aload_n 0, 1) := by decide +kernel
theorem d_Mo_bare_92 : decode b_Mo_bare 92 = .ok (.getfield 19, 3) := by decide +kernel
theorem d_Mo_bare_95 : decode b_Mo_bare 95 = .ok (.iload 5, 2) := by decide +kernel
theorem d_Mo_bare_97 : decode b_Mo_bare 97 = .ok (.iaload, 1) := by decide +kernel
theorem d_Mo_bare_98 : decode b_Mo_bare 98 = .ok (.iload_n 3, 1) := by decide +kernel
theorem d_Mo_bare_99 : decode b_Mo_bare 99 = .ok (.if_icmp .ne 6, 3) := by decide +kernel
theorem d_Mo_bare_102 : decode b_Mo_bare 102 = .ok (.goto 92, 3) := by decide +kernel
theorem d_Mo_bare_105 : decode b_Mo_bare 105 = .ok (.iload 6, 2) := by decide +kernel
theorem d_Mo_bare_107 : decode b_Mo_bare 107 = .ok (.bipush 25, 2) := by decide +kernel
theorem d_Mo_bare_109 : decode b_Mo_bare 109 = .ok (.if_icmp .ne 24, 3) := by decide +kernel
theorem d_Mo_bare_112 : decode b_Mo_bare 112 = .ok (.aload_n 0, 1) := by decide +kernel
theorem d_Mo_bare_113 : decode b_Mo_bare 113 = .ok (.getfield 31, 3) := by decide +kernel
theorem d_Mo_bare_116 : decode b_Mo_bare 116 = .ok (.iload 4, 2) := by decide +kernel
theorem d_Mo_bare_118 : decode b_Mo_bare 118 = .ok (.iconst 1, 1) := by decide +kernel
theorem d_Mo_bare_119 : decode b_Mo_bare 119 = .ok (.iadd, 1) := by decide +kernel
theorem d_Mo_bare_120 : decode b_Mo_bare 120 = .ok (.aload_n 0, 1) := by decide +kernel
theorem d_Mo_bare_121 : decode b_Mo_bare 121 = .ok (.getfield 19, 3) := by decide +kernel
theorem d_Mo_bare_124 : decode b_Mo_bare 124 = .ok (.iload 5, 2) := by decide +kernel
theorem d_Mo_bare_126 : decode b_Mo_bare 126 = .ok (.iaload, 1) := by decide +kernel
theorem d_Mo_bare_127 : decode b_Mo_bare 127 = .ok (.iadd, 1) := by decide +kernel
theorem d_Mo_bare_128 : decode b_Mo_bare 128 = .ok (.iconst 1, 1) := by decide +kernel
theorem d_Mo_bare_129 : decode b_Mo_bare 129 = .ok (.bastore, 1) := by decide +kernel
theorem d_Mo_bare_130 : decode b_Mo_bare 130 = .ok (.goto 64, 3) := by decide +kernel
theorem d_Mo_bare_133 : decode b_Mo_bare 133 = .ok (.iload 6, 2) := by decide +kernel
theorem d_Mo_bare_135 : decode b_Mo_bare 135 = .ok (.bipush 26, 2) := by decide +kernel
theorem d_Mo_bare_137 : decode b_Mo_bare 137 = .ok (.bipush 30, 2) := by decide +kernel
theorem d_Mo_bare_139 : decode b_Mo_bare 139 = .ok (.invokestatic 51, 3) := by decide +kernel
theorem d_Mo_bare_142 : decode b_Mo_bare 142 = .ok (.ifCond .eq 42, 3) := by decide +kernel
theorem d_Mo_bare_145 : decode b_Mo_bare 145 = .ok (.aload_n 0, 1) := by decide +kernel
theorem d_Mo_bare_146 : decode b_Mo_bare 146 = .ok (.getfield 31, 3) := by decide +kernel
theorem d_Mo_bare_149 : decode b_Mo_bare 149 = .ok (.iload 4, 2) := by decide +kernel
theorem d_Mo_bare_151 : decode b_Mo_bare 151 = .ok (.iconst 1, 1) := by decide +kernel
theorem d_Mo_bare_152 : decode b_Mo_bare 152 = .ok (.iadd, 1) := by decide +kernel
theorem d_Mo_bare_153 : decode b_Mo_bare 153 = .ok (.aload_n 0, 1) := by decide +kernel
theorem d_Mo_bare_154 : decode b_Mo_bare 154 = .ok (.getfield 13, 3) := by decide +kernel
theorem d_Mo_bare_157 : decode b_Mo_bare 157 = .ok (.iload 5, 2) := by decide +kernel
theorem d_Mo_bare_159 : decode b_Mo_bare 159 = .ok (.iaload, 1) := by decide +kernel
theorem d_Mo_bare_160 : decode b_Mo_bare 160 = .ok (.iadd, 1) := by decide +kernel
theorem d_Mo_bare_161 : decode b_Mo_bare 161 = .ok (.iconst 1, 1) := by decide +kernel
theorem d_Mo_bare_162 : decode b_Mo_bare 162 = .ok (.bastore, 1) := by decide +kernel
theorem d_Mo_bare_163 : decode b_Mo_bare 163 = .ok (.aload_n 0, 1) := by decide +kernel
theorem d_Mo_bare_164 : decode b_Mo_bare 164 = .ok (.getfield 31, 3) := by decide +kernel
theorem d_Mo_bare_167 : decode b_Mo_bare 167 = .ok (.iload 4, 2) := by decide +kernel
theorem d_Mo_bare_169 : decode b_Mo_bare 169 = .ok (.iconst 1, 1) := by decide +kernel
theorem d_Mo_bare_170 : decode b_Mo_bare 170 = .ok (.iadd, 1) := by decide +kernel
theorem d_Mo_bare_171 : decode b_Mo_bare 171 = .ok (.aload_n 0, 1) := by decide +kernel
theorem d_Mo_bare_172 : decode b_Mo_bare 172 = .ok (.getfield 16, 3) := by decide +kernel
theorem d_Mo_bare_175 : decode b_Mo_bare 175 = .ok (.iload 5, 2) := by decide +kernel
theorem d_Mo_bare_177 : decode b_Mo_bare 177 = .ok (.iaload, 1) := by decide +kernel
theorem d_Mo_bare_178 : decode b_Mo_bare 178 = .ok (.iadd, 1) := by decide +kernel
theorem d_Mo_bare_179 : decode b_Mo_bare 179 = .ok (.iconst 1, 1) := by decide +kernel
theorem d_Mo_bare_180 : decode b_Mo_bare 180 = .ok (.bastore, 1) := by decide +kernel
theorem d_Mo_bare_181 : decode b_Mo_bare 181 = .ok (.goto 13, 3) := by decide +kernel
theorem d_Mo_bare_184 : decode b_Mo_bare 184 = .ok (.aload_n 0, 1) := by decide +kernel
theorem d_Mo_bare_185 : decode b_Mo_bare 185 = .ok (.getfield 31, 3) := by decide +kernel
theorem d_Mo_bare_188 : decode b_Mo_bare 188 = .ok (.iload 4, 2) := by decide +kernel
theorem d_Mo_bare_190 : decode b_Mo_bare 190 = .ok (.iconst 1, 1) := by decide +kernel
theorem d_Mo_bare_191 : decode b_Mo_bare 191 = .ok (.iadd, 1) := by decide +kernel
theorem d_Mo_bare_192 : decode b_Mo_bare 192 = .ok (.iconst 1, 1) := by decide +kernel
theorem d_Mo_bare_193 : decode b_Mo_bare 193 = .ok (.bastore, 1) := by decide +kernel
theorem d_Mo_bare_194 : decode b_Mo_bare 194 = .ok (.iinc 4 1, 3) := by decide +kernel
theorem d_Mo_bare_197 : decode b_Mo_bare 197 = .ok (.goto (-161), 3) := by decide +kernel
theorem d_Mo_bare_200 : decode b_Mo_bare 200 = .ok (.aload_n 0, 1) := by decide +kernel
theorem d_Mo_bare_201 : decode b_Mo_bare 201 = .ok (.getfield 31, 3) := by decide +kernel
theorem d_Mo_bare_204 : decode b_Mo_bare 204 = .ok (.iload_n 2, 1) := by decide +kernel
theorem d_Mo_bare_205 : decode b_Mo_bare 205 = .ok (.baload, 1) := by decide +kernel
theorem d_Mo_bare_206 : decode b_Mo_bare 206 = .ok (.ireturn, 1) := by decide +kernel
set_option maxHeartbeats 4000000 in
set_option maxRecDepth 100000 in
theorem c_Mo_bare (mo mop mye mno mnu msz stk mre mce mco xc xa xm xv cnt : Nat) (stp thr : Int32) (fo fy fn fk cm : Nat → Int32) (L : fx_Prg) (f i : Nat) (kk : Int32) (sz : Nat) (hf : f < 8) (hrep : fx_rep L (fun i => fo (40 * f + i)) (fun i => fy (40 * f + i)) (fun i => fn (40 * f + i)) (fun i => fk (40 * f + i))) (hok : fx_ok L) (hi : i < L.length) (hgd : fx_good L) : fs_I l y_Mo_bare (k_Mo_bare :: fs_T) { frames := 1, cells := 0, slots := 0, locals := 22 } (dC, dI) vwCl (fs_tys cI cZ cJ cF) [.ref mo, .int (nI f), .int (nI i), .int kk] [(mo, .inr (5, [.ref mop, .ref mye, .ref mno, .ref mnu, .ref msz, .int (nI stk), .ref mre, .ref mce, .ref mco, .ref xc, .ref xa, .ref xm, .ref xv, .int (nI cnt), .int stp, .int thr])), (mop, .inl (cI, 320, .inl fo)), (mye, .inl (cI, 320, .inl fy)), (mno, .inl (cI, 320, .inl fn)), (mnu, .inl (cI, 320, .inl fk)), (mco, .inl (cZ, 41, .inl cm))] sz (S := Nat → Int32) (fun z _ => (fx_cm L kk i i = true ∧ z = nI 1) ∨ (fx_cm L kk i i = false ∧ z = nI 0)) (fun u => [(mo, .inr (5, [.ref mop, .ref mye, .ref mno, .ref mnu, .ref msz, .int (nI stk), .ref mre, .ref mce, .ref mco, .ref xc, .ref xa, .ref xm, .ref xv, .int (nI cnt), .int stp, .int thr])), (mop, .inl (cI, 320, .inl fo)), (mye, .inl (cI, 320, .inl fy)), (mno, .inl (cI, 320, .inl fn)), (mnu, .inl (cI, 320, .inl fk)), (mco, .inl (cZ, 41, .inl u))]) 0 0 := by
  refine fs_head (by decide) (Nat.le_of_ble_eq_true rfl) ?_
  intro p e s m below meth c A ls hx hb hr hts hown hlocks hin hml hK hP hD hS hA hAe hsz hl
  have hl : lv_has ls 7 [(0, .ref mo), (1, .int (nI f)), (2, .int (nI i)), (3, .int kk)] := hl
  have hown : s.vm.findClass R_Mo = some m.cls := hown
  have hlen := hok.1
  refine lv_iconst (v := nI 0) hx hb d_Mo_bare_0 (by decide) ?_
  refine lv_istore hx hb d_Mo_bare_1 hl (by decide) (lv' := [(4, .int (nI 0)), (0, .ref mo), (1, .int (nI f)), (2, .int (nI i)), (3, .int kk)]) rfl (fun ls hl => ?_)
  refine fs_loop2 (α1 := Nat) (α2 := Nat → Int32) (fun j g => 41 - j) (fun j g H locs ls => (j ≤ 41) ∧ (∀ t, t < j → g t = fx_bz (t == 0)) ∧ va_P (dC, dI) vwCl [(mo, .inr (5, [.ref mop, .ref mye, .ref mno, .ref mnu, .ref msz, .int (nI stk), .ref mre, .ref mce, .ref mco, .ref xc, .ref xa, .ref xm, .ref xv, .int (nI cnt), .int stp, .int thr])), (mop, .inl (cI, 320, .inl fo)), (mye, .inl (cI, 320, .inl fy)), (mno, .inl (cI, 320, .inl fn)), (mnu, .inl (cI, 320, .inl fk)), (mco, .inl (cZ, 41, .inl g))] H ∧ va_D A [(mo, .inr (5, [.ref mop, .ref mye, .ref mno, .ref mnu, .ref msz, .int (nI stk), .ref mre, .ref mce, .ref mco, .ref xc, .ref xa, .ref xm, .ref xv, .int (nI cnt), .int stp, .int thr])), (mop, .inl (cI, 320, .inl fo)), (mye, .inl (cI, 320, .inl fy)), (mno, .inl (cI, 320, .inl fn)), (mnu, .inl (cI, 320, .inl fk)), (mco, .inl (cZ, 41, .inl g))] ∧ va_S A s.heap H locs ∧ lv_has ls 7 [(0, .ref mo), (1, .int (nI f)), (2, .int (nI i)), (3, .int kk), (4, .int (nI j))]) ?_ 0 cm ⟨by omega, fun t ht => absurd ht (by omega), hP, hD, hS, lv_sub hl [1, 2, 3, 4, 0] rfl⟩
  intro j g H locs ls hI ih3
  obtain ⟨hj, hg, hP, hD, hS, hl⟩ := hI
  refine lv_iload hx hb d_Mo_bare_3 (lv_at hl 4 rfl) ?_
  refine lv_bipush (v := nI 40) hx hb d_Mo_bare_5 (by decide) ?_
  refine lv_icmp_gt (tgt := 33) hx hb d_Mo_bare_7 (by decide) (fun hc7 => ?_) (fun hc7 => ?_)
  · rw [nI_ltI (by omega) (by omega)] at hc7
    refine lv_iconst (v := nI 0) hx hb d_Mo_bare_33 (by decide) ?_
    refine lv_istore hx hb d_Mo_bare_34 hl (by decide) (lv' := [(4, .int (nI 0)), (0, .ref mo), (1, .int (nI f)), (2, .int (nI i)), (3, .int kk)]) rfl (fun ls hl => ?_)
    refine fs_loop2 (α1 := Nat) (α2 := Nat → Int32) (fun j g => i - j) (fun j g H locs ls => (j ≤ i) ∧ (∀ t, t < 41 → g t = fx_bz (fx_cm L kk j t)) ∧ va_P (dC, dI) vwCl [(mo, .inr (5, [.ref mop, .ref mye, .ref mno, .ref mnu, .ref msz, .int (nI stk), .ref mre, .ref mce, .ref mco, .ref xc, .ref xa, .ref xm, .ref xv, .int (nI cnt), .int stp, .int thr])), (mop, .inl (cI, 320, .inl fo)), (mye, .inl (cI, 320, .inl fy)), (mno, .inl (cI, 320, .inl fn)), (mnu, .inl (cI, 320, .inl fk)), (mco, .inl (cZ, 41, .inl g))] H ∧ va_D A [(mo, .inr (5, [.ref mop, .ref mye, .ref mno, .ref mnu, .ref msz, .int (nI stk), .ref mre, .ref mce, .ref mco, .ref xc, .ref xa, .ref xm, .ref xv, .int (nI cnt), .int stp, .int thr])), (mop, .inl (cI, 320, .inl fo)), (mye, .inl (cI, 320, .inl fy)), (mno, .inl (cI, 320, .inl fn)), (mnu, .inl (cI, 320, .inl fk)), (mco, .inl (cZ, 41, .inl g))] ∧ va_S A s.heap H locs ∧ lv_has ls 7 [(0, .ref mo), (1, .int (nI f)), (2, .int (nI i)), (3, .int kk), (4, .int (nI j))]) ?_ 0 g ⟨by omega, fun t ht => hg t (by omega), hP, hD, hS, lv_sub hl [1, 2, 3, 4, 0] rfl⟩
    intro j g H locs ls hI ih36
    obtain ⟨hj, hg, hP, hD, hS, hl⟩ := hI
    refine lv_iload hx hb d_Mo_bare_36 (lv_at hl 4 rfl) ?_
    refine lv_iload_n hx hb d_Mo_bare_38 rfl (lv_at hl 2 rfl) ?_
    refine lv_icmp_ge (tgt := 200) hx hb d_Mo_bare_39 (by decide) (fun hc39 => ?_) (fun hc39 => ?_)
    · rw [nI_leI (by omega) (by omega)] at hc39
      refine lv_aload_n hx hb d_Mo_bare_200 rfl (lv_at hl 0 rfl) ?_
      refine va_get (D := (dC, dI)) (ci := 5) (v := .ref mco) (C := R_Mo) (T := T_Mo) (N := 16) hx hb hts uin_Mo hown hK hP 0 rfl rfl 8 (by decide) (hts _ wi_438) (fun _ h9 => h9) rfl d_Mo_bare_201 ?_
      refine lv_iload_n hx hb d_Mo_bare_204 rfl (lv_at hl 2 rfl) ?_
      refine fs_zald (v := g i) hx hb hK hP 5 1 rfl rfl i rfl (by decide) (by omega) rfl d_Mo_bare_205 ?_
      have hgi := hg i (by omega)
      rw [show j = i from by omega] at hgi
      rcases Bool.eq_false_or_eq_true (fx_cm L kk i i) with hcmb | hcmb
      · rw [hcmb] at hgi
        refine fs_eqi (v := nI 1) hgi ?_
        exact fs_zret hx hb hr hlocks hAe hK hS d_Mo_bare_206 (by decide) g (Or.inl ⟨hcmb, rfl⟩) hP hD
      · rw [hcmb] at hgi
        refine fs_eqi (v := nI 0) hgi ?_
        exact fs_zret hx hb hr hlocks hAe hK hS d_Mo_bare_206 (by decide) g (Or.inr ⟨hcmb, rfl⟩) hP hD
    rw [nI_leI (by omega) (by omega)] at hc39
    have hjl : j < L.length := by omega
    have hO := (hok.2 j hjl).1
    have hY := (hok.2 j hjl).2.1
    have hN := (hok.2 j hjl).2.2
    have hg5 := hgd 5 (by decide) (by decide) j hjl
    refine lv_bipush (v := nI 40) hx hb d_Mo_bare_42 (by decide) ?_
    refine lv_iload_n hx hb d_Mo_bare_44 rfl (lv_at hl 1 rfl) ?_
    refine lv_imul hx hb d_Mo_bare_45 ?_
    refine fs_eqi (pk_mul _ _) ?_
    refine lv_iload hx hb d_Mo_bare_46 (lv_at hl 4 rfl) ?_
    refine lv_iadd hx hb d_Mo_bare_48 ?_
    refine fs_eqi (nI_add _ _) ?_
    refine lv_istore hx hb d_Mo_bare_49 hl (by decide) (lv' := [(5, .int (nI (40 * f + j))), (0, .ref mo), (1, .int (nI f)), (2, .int (nI i)), (3, .int kk), (4, .int (nI j))]) rfl (fun ls hl => ?_)
    refine lv_aload_n hx hb d_Mo_bare_51 rfl (lv_at hl 1 rfl) ?_
    refine va_get (D := (dC, dI)) (ci := 5) (v := .ref mop) (C := R_Mo) (T := T_Mo) (N := 16) hx hb hts uin_Mo hown hK hP 0 rfl rfl 0 (by decide) (hts _ wi_430) (fun _ h9 => h9) rfl d_Mo_bare_52 ?_
    refine lv_iload hx hb d_Mo_bare_55 (lv_at hl 0 rfl) ?_
    refine fs_iald (v := nI (fx_O L j)) hx hb hK hP 1 0 rfl rfl (40 * f + j) rfl (by decide) (by omega) ((hrep j (by omega)).1) d_Mo_bare_57 ?_
    refine lv_istore hx hb d_Mo_bare_58 hl (by decide) (lv' := [(6, .int (nI (fx_O L j))), (5, .int (nI (40 * f + j))), (0, .ref mo), (1, .int (nI f)), (2, .int (nI i)), (3, .int kk), (4, .int (nI j))]) rfl (fun ls hl => ?_)
    refine lv_aload_n hx hb d_Mo_bare_60 rfl (lv_at hl 2 rfl) ?_
    refine va_get (D := (dC, dI)) (ci := 5) (v := .ref mco) (C := R_Mo) (T := T_Mo) (N := 16) hx hb hts uin_Mo hown hK hP 0 rfl rfl 8 (by decide) (hts _ wi_438) (fun _ h9 => h9) rfl d_Mo_bare_61 ?_
    refine lv_iload hx hb d_Mo_bare_64 (lv_at hl 6 rfl) ?_
    refine fs_zald (v := g j) hx hb hK hP 5 1 rfl rfl j rfl (by decide) (by omega) rfl d_Mo_bare_66 ?_
    refine lv_if_eq (tgt := 194) hx hb d_Mo_bare_67 (by decide) (fun hc67 => ?_) (fun hc67 => ?_)
    · refine lv_iinc (v := nI (j + 1)) (k := 6) hx hb d_Mo_bare_194 hl rfl (fs_incN j 1) (by decide) (lv' := [(4, .int (nI (j + 1))), (6, .int (nI (fx_O L j))), (5, .int (nI (40 * f + j))), (0, .ref mo), (1, .int (nI f)), (2, .int (nI i)), (3, .int kk)]) rfl (fun ls hl => ?_)
      refine lv_goto (tgt := 36) hx hb d_Mo_bare_197 (by decide) ?_
      exact ih36 (j + 1) g _ _ _ (by omega) ⟨by omega, fun t ht => by rw [fx_cm_no (Or.inl (fx_bz0 ((hg j (by omega)).symm.trans hc67)))]; exact hg t ht, hP, hD, hS, lv_sub hl [3, 4, 5, 6, 0] rfl⟩
    refine lv_iload hx hb d_Mo_bare_70 (lv_at hl 0 rfl) ?_
    refine lv_bipush (v := nI 31) hx hb d_Mo_bare_72 (by decide) ?_
    refine lv_icmp_eq (tgt := 194) hx hb d_Mo_bare_74 (by decide) (fun hc74 => ?_) (fun hc74 => ?_)
    · rw [nI_eq (by omega) (by omega)] at hc74
      refine lv_iinc (v := nI (j + 1)) (k := 6) hx hb d_Mo_bare_194 hl rfl (fs_incN j 1) (by decide) (lv' := [(4, .int (nI (j + 1))), (6, .int (nI (fx_O L j))), (5, .int (nI (40 * f + j))), (0, .ref mo), (1, .int (nI f)), (2, .int (nI i)), (3, .int kk)]) rfl (fun ls hl => ?_)
      refine lv_goto (tgt := 36) hx hb d_Mo_bare_197 (by decide) ?_
      exact ih36 (j + 1) g _ _ _ (by omega) ⟨by omega, fun t ht => by rw [fx_cm_no (Or.inr (Or.inl hc74))]; exact hg t ht, hP, hD, hS, lv_sub hl [3, 4, 5, 6, 0] rfl⟩
    rw [nI_eq (by omega) (by omega)] at hc74
    refine lv_iload hx hb d_Mo_bare_77 (lv_at hl 0 rfl) ?_
    refine lv_bipush (v := nI 8) hx hb d_Mo_bare_79 (by decide) ?_
    refine lv_icmp_eq (tgt := 91) hx hb d_Mo_bare_81 (by decide) (fun hc81 => ?_) (fun hc81 => ?_)
    · rw [nI_eq (by omega) (by omega)] at hc81
      refine lv_aload_n hx hb d_Mo_bare_91 rfl (lv_at hl 2 rfl) ?_
      refine va_get (D := (dC, dI)) (ci := 5) (v := .ref mnu) (C := R_Mo) (T := T_Mo) (N := 16) hx hb hts uin_Mo hown hK hP 0 rfl rfl 3 (by decide) (hts _ wi_433) (fun _ h9 => h9) rfl d_Mo_bare_92 ?_
      refine lv_iload hx hb d_Mo_bare_95 (lv_at hl 1 rfl) ?_
      refine fs_iald (v := fx_K L j) hx hb hK hP 4 0 rfl rfl (40 * f + j) rfl (by decide) (by omega) ((hrep j (by omega)).2.2.2) d_Mo_bare_97 ?_
      refine lv_iload_n hx hb d_Mo_bare_98 rfl (lv_at hl 5 rfl) ?_
      refine lv_icmp_ne (tgt := 105) hx hb d_Mo_bare_99 (by decide) (fun hc99 => ?_) (fun hc99 => ?_)
      · refine lv_iload hx hb d_Mo_bare_105 (lv_at hl 0 rfl) ?_
        refine lv_bipush (v := nI 25) hx hb d_Mo_bare_107 (by decide) ?_
        refine lv_icmp_ne (tgt := 133) hx hb d_Mo_bare_109 (by decide) (fun hc109 => ?_) (fun hc109 => ?_)
        · rw [nI_eq (by omega) (by omega)] at hc109
          refine lv_iload hx hb d_Mo_bare_133 (lv_at hl 0 rfl) ?_
          refine lv_bipush (v := nI 26) hx hb d_Mo_bare_135 (by decide) ?_
          refine lv_bipush (v := nI 30) hx hb d_Mo_bare_137 (by decide) ?_
          refine fs_calli (wc := []) (wr := [(mo, .inr (5, [.ref mop, .ref mye, .ref mno, .ref mnu, .ref msz, .int (nI stk), .ref mre, .ref mce, .ref mco, .ref xc, .ref xa, .ref xm, .ref xv, .int (nI cnt), .int stp, .int thr])), (mop, .inl (cI, 320, .inl fo)), (mye, .inl (cI, 320, .inl fy)), (mno, .inl (cI, 320, .inl fn)), (mnu, .inl (cI, 320, .inl fk)), (mco, .inl (cZ, 41, .inl g))]) [] [0, 1, 2, 3, 4, 5] hP hD hK hS hA rfl rfl rfl (by decide) (fun hPc hDc => va_runS (As := [.int (nI (fx_O L j)), .int (nI 26), .int (nI 30)]) (rest := []) ⟨hx, hb, hml, hown, hts⟩ (c_Mo_within (nI (fx_O L j)) (nI 26) (nI 30) (((fx_O L j : Nat) : Int)) (((26 : Nat) : Int)) (((30 : Nat) : Int)) _ (nI_toInt (by omega)) (nI_toInt (by omega)) (nI_toInt (by omega))) (⟨callB_of 3 hts (fs_g kin_Mo_within) rfl rfl rfl (hts _ wi_6) (hts _ wi_488) (by decide +kernel) ⟨Nat.le_of_ble_eq_true rfl, Nat.le_of_ble_eq_true rfl⟩, hts _ wi_489⟩) (fs_preS hPc hK hDc) rfl rfl hl.1 rfl (lv_room (Nat.le_of_ble_eq_true rfl)) d_Mo_bare_139 ⟨Nat.le_of_ble_eq_true rfl, Nat.le_of_ble_eq_true rfl⟩) rfl (fun r139 _ H locs hp139 hP hD hS => ?_)
          have hP : va_P (dC, dI) vwCl [(mo, .inr (5, [.ref mop, .ref mye, .ref mno, .ref mnu, .ref msz, .int (nI stk), .ref mre, .ref mce, .ref mco, .ref xc, .ref xa, .ref xm, .ref xv, .int (nI cnt), .int stp, .int thr])), (mop, .inl (cI, 320, .inl fo)), (mye, .inl (cI, 320, .inl fy)), (mno, .inl (cI, 320, .inl fn)), (mnu, .inl (cI, 320, .inl fk)), (mco, .inl (cZ, 41, .inl g))] H := hP
          have hD : va_D A [(mo, .inr (5, [.ref mop, .ref mye, .ref mno, .ref mnu, .ref msz, .int (nI stk), .ref mre, .ref mce, .ref mco, .ref xc, .ref xa, .ref xm, .ref xv, .int (nI cnt), .int stp, .int thr])), (mop, .inl (cI, 320, .inl fo)), (mye, .inl (cI, 320, .inl fy)), (mno, .inl (cI, 320, .inl fn)), (mnu, .inl (cI, 320, .inl fk)), (mco, .inl (cZ, 41, .inl g))] := hD
          rcases hp139 with ⟨hc139, rfl⟩ | ⟨hc139, rfl⟩
          · refine lv_if_eq (tgt := 184) hx hb d_Mo_bare_142 (by decide) (fun hc => absurd hc (by decide)) (fun _ => ?_)
            simp only [fx_brP] at hg5
            refine lv_aload_n hx hb d_Mo_bare_145 rfl (lv_at hl 2 rfl) ?_
            refine va_get (D := (dC, dI)) (ci := 5) (v := .ref mco) (C := R_Mo) (T := T_Mo) (N := 16) hx hb hts uin_Mo hown hK hP 0 rfl rfl 8 (by decide) (hts _ wi_438) (fun _ h9 => h9) rfl d_Mo_bare_146 ?_
            refine lv_iload hx hb d_Mo_bare_149 (lv_at hl 6 rfl) ?_
            refine lv_iconst (v := nI 1) hx hb d_Mo_bare_151 (by decide) ?_
            refine lv_iadd hx hb d_Mo_bare_152 ?_
            refine fs_eqi (nI_add _ _) ?_
            refine lv_aload_n hx hb d_Mo_bare_153 rfl (lv_at hl 2 rfl) ?_
            refine va_get (D := (dC, dI)) (ci := 5) (v := .ref mye) (C := R_Mo) (T := T_Mo) (N := 16) hx hb hts uin_Mo hown hK hP 0 rfl rfl 1 (by decide) (hts _ wi_431) (fun _ h9 => h9) rfl d_Mo_bare_154 ?_
            refine lv_iload hx hb d_Mo_bare_157 (lv_at hl 1 rfl) ?_
            refine fs_iald (v := nI (fx_Y L j)) hx hb hK hP 2 0 rfl rfl (40 * f + j) rfl (by decide) (by omega) ((hrep j (by omega)).2.1) d_Mo_bare_159 ?_
            refine lv_iadd hx hb d_Mo_bare_160 ?_
            refine fs_eqi (nI_add _ _) ?_
            refine lv_iconst (v := nI 1) hx hb d_Mo_bare_161 (by decide) ?_
            refine fs_zast hx hb hK hP hD hS 5 1 rfl rfl (j + 1 + fx_Y L j) rfl (by decide) (by omega) (by decide) d_Mo_bare_162 (fun H locs hP hD hS => ?_)
            have hP : va_P (dC, dI) vwCl [(mo, .inr (5, [.ref mop, .ref mye, .ref mno, .ref mnu, .ref msz, .int (nI stk), .ref mre, .ref mce, .ref mco, .ref xc, .ref xa, .ref xm, .ref xv, .int (nI cnt), .int stp, .int thr])), (mop, .inl (cI, 320, .inl fo)), (mye, .inl (cI, 320, .inl fy)), (mno, .inl (cI, 320, .inl fn)), (mnu, .inl (cI, 320, .inl fk)), (mco, .inl (cZ, 41, .inl (upd g (j + 1 + fx_Y L j) (nI 1))))] H := hP
            have hD : va_D A [(mo, .inr (5, [.ref mop, .ref mye, .ref mno, .ref mnu, .ref msz, .int (nI stk), .ref mre, .ref mce, .ref mco, .ref xc, .ref xa, .ref xm, .ref xv, .int (nI cnt), .int stp, .int thr])), (mop, .inl (cI, 320, .inl fo)), (mye, .inl (cI, 320, .inl fy)), (mno, .inl (cI, 320, .inl fn)), (mnu, .inl (cI, 320, .inl fk)), (mco, .inl (cZ, 41, .inl (upd g (j + 1 + fx_Y L j) (nI 1))))] := hD
            refine lv_aload_n hx hb d_Mo_bare_163 rfl (lv_at hl 2 rfl) ?_
            refine va_get (D := (dC, dI)) (ci := 5) (v := .ref mco) (C := R_Mo) (T := T_Mo) (N := 16) hx hb hts uin_Mo hown hK hP 0 rfl rfl 8 (by decide) (hts _ wi_438) (fun _ h9 => h9) rfl d_Mo_bare_164 ?_
            refine lv_iload hx hb d_Mo_bare_167 (lv_at hl 6 rfl) ?_
            refine lv_iconst (v := nI 1) hx hb d_Mo_bare_169 (by decide) ?_
            refine lv_iadd hx hb d_Mo_bare_170 ?_
            refine fs_eqi (nI_add _ _) ?_
            refine lv_aload_n hx hb d_Mo_bare_171 rfl (lv_at hl 2 rfl) ?_
            refine va_get (D := (dC, dI)) (ci := 5) (v := .ref mno) (C := R_Mo) (T := T_Mo) (N := 16) hx hb hts uin_Mo hown hK hP 0 rfl rfl 2 (by decide) (hts _ wi_432) (fun _ h9 => h9) rfl d_Mo_bare_172 ?_
            refine lv_iload hx hb d_Mo_bare_175 (lv_at hl 1 rfl) ?_
            refine fs_iald (v := nI (fx_N L j)) hx hb hK hP 3 0 rfl rfl (40 * f + j) rfl (by decide) (by omega) ((hrep j (by omega)).2.2.1) d_Mo_bare_177 ?_
            refine lv_iadd hx hb d_Mo_bare_178 ?_
            refine fs_eqi (nI_add _ _) ?_
            refine lv_iconst (v := nI 1) hx hb d_Mo_bare_179 (by decide) ?_
            refine fs_zast hx hb hK hP hD hS 5 1 rfl rfl (j + 1 + fx_N L j) rfl (by decide) (by omega) (by decide) d_Mo_bare_180 (fun H locs hP hD hS => ?_)
            have hP : va_P (dC, dI) vwCl [(mo, .inr (5, [.ref mop, .ref mye, .ref mno, .ref mnu, .ref msz, .int (nI stk), .ref mre, .ref mce, .ref mco, .ref xc, .ref xa, .ref xm, .ref xv, .int (nI cnt), .int stp, .int thr])), (mop, .inl (cI, 320, .inl fo)), (mye, .inl (cI, 320, .inl fy)), (mno, .inl (cI, 320, .inl fn)), (mnu, .inl (cI, 320, .inl fk)), (mco, .inl (cZ, 41, .inl (upd (upd g (j + 1 + fx_Y L j) (nI 1)) (j + 1 + fx_N L j) (nI 1))))] H := hP
            have hD : va_D A [(mo, .inr (5, [.ref mop, .ref mye, .ref mno, .ref mnu, .ref msz, .int (nI stk), .ref mre, .ref mce, .ref mco, .ref xc, .ref xa, .ref xm, .ref xv, .int (nI cnt), .int stp, .int thr])), (mop, .inl (cI, 320, .inl fo)), (mye, .inl (cI, 320, .inl fy)), (mno, .inl (cI, 320, .inl fn)), (mnu, .inl (cI, 320, .inl fk)), (mco, .inl (cZ, 41, .inl (upd (upd g (j + 1 + fx_Y L j) (nI 1)) (j + 1 + fx_N L j) (nI 1))))] := hD
            refine lv_goto (tgt := 194) hx hb d_Mo_bare_181 (by decide) ?_
            refine lv_iinc (v := nI (j + 1)) (k := 6) hx hb d_Mo_bare_194 hl rfl (fs_incN j 1) (by decide) (lv' := [(4, .int (nI (j + 1))), (6, .int (nI (fx_O L j))), (5, .int (nI (40 * f + j))), (0, .ref mo), (1, .int (nI f)), (2, .int (nI i)), (3, .int kk)]) rfl (fun ls hl => ?_)
            refine lv_goto (tgt := 36) hx hb d_Mo_bare_197 (by decide) ?_
            exact ih36 (j + 1) (upd (upd g (j + 1 + fx_Y L j) (nI 1)) (j + 1 + fx_N L j) (nI 1)) _ _ _ (by omega) ⟨by omega, fun t ht => by rw [fx_cm_yes (fx_bz1 (fun q => hc67 ((hg j (by omega)).trans q))) (by omega) (fun h => hc99 h.2)]; exact fx_up_gt (by omega) hg t ht, hP, hD, hS, lv_sub hl [3, 4, 5, 6, 0] rfl⟩
          refine lv_if_eq (tgt := 184) hx hb d_Mo_bare_142 (by decide) (fun _ => ?_) (fun hc => absurd (by decide) hc)
          refine lv_aload_n hx hb d_Mo_bare_184 rfl (lv_at hl 2 rfl) ?_
          refine va_get (D := (dC, dI)) (ci := 5) (v := .ref mco) (C := R_Mo) (T := T_Mo) (N := 16) hx hb hts uin_Mo hown hK hP 0 rfl rfl 8 (by decide) (hts _ wi_438) (fun _ h9 => h9) rfl d_Mo_bare_185 ?_
          refine lv_iload hx hb d_Mo_bare_188 (lv_at hl 6 rfl) ?_
          refine lv_iconst (v := nI 1) hx hb d_Mo_bare_190 (by decide) ?_
          refine lv_iadd hx hb d_Mo_bare_191 ?_
          refine fs_eqi (nI_add _ _) ?_
          refine lv_iconst (v := nI 1) hx hb d_Mo_bare_192 (by decide) ?_
          refine fs_zast hx hb hK hP hD hS 5 1 rfl rfl (j + 1) rfl (by decide) (by omega) (by decide) d_Mo_bare_193 (fun H locs hP hD hS => ?_)
          have hP : va_P (dC, dI) vwCl [(mo, .inr (5, [.ref mop, .ref mye, .ref mno, .ref mnu, .ref msz, .int (nI stk), .ref mre, .ref mce, .ref mco, .ref xc, .ref xa, .ref xm, .ref xv, .int (nI cnt), .int stp, .int thr])), (mop, .inl (cI, 320, .inl fo)), (mye, .inl (cI, 320, .inl fy)), (mno, .inl (cI, 320, .inl fn)), (mnu, .inl (cI, 320, .inl fk)), (mco, .inl (cZ, 41, .inl (upd g (j + 1) (nI 1))))] H := hP
          have hD : va_D A [(mo, .inr (5, [.ref mop, .ref mye, .ref mno, .ref mnu, .ref msz, .int (nI stk), .ref mre, .ref mce, .ref mco, .ref xc, .ref xa, .ref xm, .ref xv, .int (nI cnt), .int stp, .int thr])), (mop, .inl (cI, 320, .inl fo)), (mye, .inl (cI, 320, .inl fy)), (mno, .inl (cI, 320, .inl fn)), (mnu, .inl (cI, 320, .inl fk)), (mco, .inl (cZ, 41, .inl (upd g (j + 1) (nI 1))))] := hD
          refine lv_iinc (v := nI (j + 1)) (k := 6) hx hb d_Mo_bare_194 hl rfl (fs_incN j 1) (by decide) (lv' := [(4, .int (nI (j + 1))), (6, .int (nI (fx_O L j))), (5, .int (nI (40 * f + j))), (0, .ref mo), (1, .int (nI f)), (2, .int (nI i)), (3, .int kk)]) rfl (fun ls hl => ?_)
          refine lv_goto (tgt := 36) hx hb d_Mo_bare_197 (by decide) ?_
          exact ih36 (j + 1) (upd g (j + 1) (nI 1)) _ _ _ (by omega) ⟨by omega, fun t ht => by rw [fx_cm_yes (fx_bz1 (fun q => hc67 ((hg j (by omega)).trans q))) (by omega) (fun h => hc99 h.2)]; exact fx_up_lt (by omega) hg t ht, hP, hD, hS, lv_sub hl [3, 4, 5, 6, 0] rfl⟩
        rw [nI_eq (by omega) (by omega)] at hc109
        refine lv_aload_n hx hb d_Mo_bare_112 rfl (lv_at hl 2 rfl) ?_
        refine va_get (D := (dC, dI)) (ci := 5) (v := .ref mco) (C := R_Mo) (T := T_Mo) (N := 16) hx hb hts uin_Mo hown hK hP 0 rfl rfl 8 (by decide) (hts _ wi_438) (fun _ h9 => h9) rfl d_Mo_bare_113 ?_
        refine lv_iload hx hb d_Mo_bare_116 (lv_at hl 6 rfl) ?_
        refine lv_iconst (v := nI 1) hx hb d_Mo_bare_118 (by decide) ?_
        refine lv_iadd hx hb d_Mo_bare_119 ?_
        refine fs_eqi (nI_add _ _) ?_
        refine lv_aload_n hx hb d_Mo_bare_120 rfl (lv_at hl 2 rfl) ?_
        refine va_get (D := (dC, dI)) (ci := 5) (v := .ref mnu) (C := R_Mo) (T := T_Mo) (N := 16) hx hb hts uin_Mo hown hK hP 0 rfl rfl 3 (by decide) (hts _ wi_433) (fun _ h9 => h9) rfl d_Mo_bare_121 ?_
        refine lv_iload hx hb d_Mo_bare_124 (lv_at hl 1 rfl) ?_
        refine fs_iald (v := fx_K L j) hx hb hK hP 4 0 rfl rfl (40 * f + j) rfl (by decide) (by omega) ((hrep j (by omega)).2.2.2) d_Mo_bare_126 ?_
        refine lv_iadd hx hb d_Mo_bare_127 ?_
        have hk0 : 0 ≤ (fx_K L j).toInt := by simp only [fx_brP] at hg5; omega
        have hk1 : (fx_K L j).toInt < ((L.length - 1 - j : Nat) : Int) := by simp only [fx_brP] at hg5; omega
        have hk2 := fs_clampI hk0
        have hk3 := fs_clampN hk0
        refine fs_eqi (v := nI (j + 1 + (fx_K L j).toNatClampNeg)) (by have h := nI_add (j + 1) (fx_K L j).toNatClampNeg; rw [← hk3] at h; exact h) ?_
        refine lv_iconst (v := nI 1) hx hb d_Mo_bare_128 (by decide) ?_
        refine fs_zast hx hb hK hP hD hS 5 1 rfl rfl (j + 1 + (fx_K L j).toNatClampNeg) rfl (by decide) (by omega) (by decide) d_Mo_bare_129 (fun H locs hP hD hS => ?_)
        have hP : va_P (dC, dI) vwCl [(mo, .inr (5, [.ref mop, .ref mye, .ref mno, .ref mnu, .ref msz, .int (nI stk), .ref mre, .ref mce, .ref mco, .ref xc, .ref xa, .ref xm, .ref xv, .int (nI cnt), .int stp, .int thr])), (mop, .inl (cI, 320, .inl fo)), (mye, .inl (cI, 320, .inl fy)), (mno, .inl (cI, 320, .inl fn)), (mnu, .inl (cI, 320, .inl fk)), (mco, .inl (cZ, 41, .inl (upd g (j + 1 + (fx_K L j).toNatClampNeg) (nI 1))))] H := hP
        have hD : va_D A [(mo, .inr (5, [.ref mop, .ref mye, .ref mno, .ref mnu, .ref msz, .int (nI stk), .ref mre, .ref mce, .ref mco, .ref xc, .ref xa, .ref xm, .ref xv, .int (nI cnt), .int stp, .int thr])), (mop, .inl (cI, 320, .inl fo)), (mye, .inl (cI, 320, .inl fy)), (mno, .inl (cI, 320, .inl fn)), (mnu, .inl (cI, 320, .inl fk)), (mco, .inl (cZ, 41, .inl (upd g (j + 1 + (fx_K L j).toNatClampNeg) (nI 1))))] := hD
        refine lv_goto (tgt := 194) hx hb d_Mo_bare_130 (by decide) ?_
        refine lv_iinc (v := nI (j + 1)) (k := 6) hx hb d_Mo_bare_194 hl rfl (fs_incN j 1) (by decide) (lv' := [(4, .int (nI (j + 1))), (6, .int (nI (fx_O L j))), (5, .int (nI (40 * f + j))), (0, .ref mo), (1, .int (nI f)), (2, .int (nI i)), (3, .int kk)]) rfl (fun ls hl => ?_)
        refine lv_goto (tgt := 36) hx hb d_Mo_bare_197 (by decide) ?_
        exact ih36 (j + 1) (upd g (j + 1 + (fx_K L j).toNatClampNeg) (nI 1)) _ _ _ (by omega) ⟨by omega, fun t ht => by rw [fx_cm_yes (fx_bz1 (fun q => hc67 ((hg j (by omega)).trans q))) (by omega) (fun h => hc99 h.2)]; exact fx_up_25 (by omega) hg t ht, hP, hD, hS, lv_sub hl [3, 4, 5, 6, 0] rfl⟩
      refine lv_goto (tgt := 194) hx hb d_Mo_bare_102 (by decide) ?_
      refine lv_iinc (v := nI (j + 1)) (k := 6) hx hb d_Mo_bare_194 hl rfl (fs_incN j 1) (by decide) (lv' := [(4, .int (nI (j + 1))), (6, .int (nI (fx_O L j))), (5, .int (nI (40 * f + j))), (0, .ref mo), (1, .int (nI f)), (2, .int (nI i)), (3, .int kk)]) rfl (fun ls hl => ?_)
      refine lv_goto (tgt := 36) hx hb d_Mo_bare_197 (by decide) ?_
      exact ih36 (j + 1) g _ _ _ (by omega) ⟨by omega, fun t ht => by rw [fx_cm_no (Or.inr (Or.inr ⟨by omega, hc99⟩))]; exact hg t ht, hP, hD, hS, lv_sub hl [3, 4, 5, 6, 0] rfl⟩
    rw [nI_eq (by omega) (by omega)] at hc81
    refine lv_iload hx hb d_Mo_bare_84 (lv_at hl 0 rfl) ?_
    refine lv_bipush (v := nI 9) hx hb d_Mo_bare_86 (by decide) ?_
    refine lv_icmp_ne (tgt := 105) hx hb d_Mo_bare_88 (by decide) (fun hc88 => ?_) (fun hc88 => ?_)
    · rw [nI_eq (by omega) (by omega)] at hc88
      refine lv_iload hx hb d_Mo_bare_105 (lv_at hl 0 rfl) ?_
      refine lv_bipush (v := nI 25) hx hb d_Mo_bare_107 (by decide) ?_
      refine lv_icmp_ne (tgt := 133) hx hb d_Mo_bare_109 (by decide) (fun hc109 => ?_) (fun hc109 => ?_)
      · rw [nI_eq (by omega) (by omega)] at hc109
        refine lv_iload hx hb d_Mo_bare_133 (lv_at hl 0 rfl) ?_
        refine lv_bipush (v := nI 26) hx hb d_Mo_bare_135 (by decide) ?_
        refine lv_bipush (v := nI 30) hx hb d_Mo_bare_137 (by decide) ?_
        refine fs_calli (wc := []) (wr := [(mo, .inr (5, [.ref mop, .ref mye, .ref mno, .ref mnu, .ref msz, .int (nI stk), .ref mre, .ref mce, .ref mco, .ref xc, .ref xa, .ref xm, .ref xv, .int (nI cnt), .int stp, .int thr])), (mop, .inl (cI, 320, .inl fo)), (mye, .inl (cI, 320, .inl fy)), (mno, .inl (cI, 320, .inl fn)), (mnu, .inl (cI, 320, .inl fk)), (mco, .inl (cZ, 41, .inl g))]) [] [0, 1, 2, 3, 4, 5] hP hD hK hS hA rfl rfl rfl (by decide) (fun hPc hDc => va_runS (As := [.int (nI (fx_O L j)), .int (nI 26), .int (nI 30)]) (rest := []) ⟨hx, hb, hml, hown, hts⟩ (c_Mo_within (nI (fx_O L j)) (nI 26) (nI 30) (((fx_O L j : Nat) : Int)) (((26 : Nat) : Int)) (((30 : Nat) : Int)) _ (nI_toInt (by omega)) (nI_toInt (by omega)) (nI_toInt (by omega))) (⟨callB_of 3 hts (fs_g kin_Mo_within) rfl rfl rfl (hts _ wi_6) (hts _ wi_488) (by decide +kernel) ⟨Nat.le_of_ble_eq_true rfl, Nat.le_of_ble_eq_true rfl⟩, hts _ wi_489⟩) (fs_preS hPc hK hDc) rfl rfl hl.1 rfl (lv_room (Nat.le_of_ble_eq_true rfl)) d_Mo_bare_139 ⟨Nat.le_of_ble_eq_true rfl, Nat.le_of_ble_eq_true rfl⟩) rfl (fun r139 _ H locs hp139 hP hD hS => ?_)
        have hP : va_P (dC, dI) vwCl [(mo, .inr (5, [.ref mop, .ref mye, .ref mno, .ref mnu, .ref msz, .int (nI stk), .ref mre, .ref mce, .ref mco, .ref xc, .ref xa, .ref xm, .ref xv, .int (nI cnt), .int stp, .int thr])), (mop, .inl (cI, 320, .inl fo)), (mye, .inl (cI, 320, .inl fy)), (mno, .inl (cI, 320, .inl fn)), (mnu, .inl (cI, 320, .inl fk)), (mco, .inl (cZ, 41, .inl g))] H := hP
        have hD : va_D A [(mo, .inr (5, [.ref mop, .ref mye, .ref mno, .ref mnu, .ref msz, .int (nI stk), .ref mre, .ref mce, .ref mco, .ref xc, .ref xa, .ref xm, .ref xv, .int (nI cnt), .int stp, .int thr])), (mop, .inl (cI, 320, .inl fo)), (mye, .inl (cI, 320, .inl fy)), (mno, .inl (cI, 320, .inl fn)), (mnu, .inl (cI, 320, .inl fk)), (mco, .inl (cZ, 41, .inl g))] := hD
        rcases hp139 with ⟨hc139, rfl⟩ | ⟨hc139, rfl⟩
        · refine lv_if_eq (tgt := 184) hx hb d_Mo_bare_142 (by decide) (fun hc => absurd hc (by decide)) (fun _ => ?_)
          simp only [fx_brP] at hg5
          refine lv_aload_n hx hb d_Mo_bare_145 rfl (lv_at hl 2 rfl) ?_
          refine va_get (D := (dC, dI)) (ci := 5) (v := .ref mco) (C := R_Mo) (T := T_Mo) (N := 16) hx hb hts uin_Mo hown hK hP 0 rfl rfl 8 (by decide) (hts _ wi_438) (fun _ h9 => h9) rfl d_Mo_bare_146 ?_
          refine lv_iload hx hb d_Mo_bare_149 (lv_at hl 6 rfl) ?_
          refine lv_iconst (v := nI 1) hx hb d_Mo_bare_151 (by decide) ?_
          refine lv_iadd hx hb d_Mo_bare_152 ?_
          refine fs_eqi (nI_add _ _) ?_
          refine lv_aload_n hx hb d_Mo_bare_153 rfl (lv_at hl 2 rfl) ?_
          refine va_get (D := (dC, dI)) (ci := 5) (v := .ref mye) (C := R_Mo) (T := T_Mo) (N := 16) hx hb hts uin_Mo hown hK hP 0 rfl rfl 1 (by decide) (hts _ wi_431) (fun _ h9 => h9) rfl d_Mo_bare_154 ?_
          refine lv_iload hx hb d_Mo_bare_157 (lv_at hl 1 rfl) ?_
          refine fs_iald (v := nI (fx_Y L j)) hx hb hK hP 2 0 rfl rfl (40 * f + j) rfl (by decide) (by omega) ((hrep j (by omega)).2.1) d_Mo_bare_159 ?_
          refine lv_iadd hx hb d_Mo_bare_160 ?_
          refine fs_eqi (nI_add _ _) ?_
          refine lv_iconst (v := nI 1) hx hb d_Mo_bare_161 (by decide) ?_
          refine fs_zast hx hb hK hP hD hS 5 1 rfl rfl (j + 1 + fx_Y L j) rfl (by decide) (by omega) (by decide) d_Mo_bare_162 (fun H locs hP hD hS => ?_)
          have hP : va_P (dC, dI) vwCl [(mo, .inr (5, [.ref mop, .ref mye, .ref mno, .ref mnu, .ref msz, .int (nI stk), .ref mre, .ref mce, .ref mco, .ref xc, .ref xa, .ref xm, .ref xv, .int (nI cnt), .int stp, .int thr])), (mop, .inl (cI, 320, .inl fo)), (mye, .inl (cI, 320, .inl fy)), (mno, .inl (cI, 320, .inl fn)), (mnu, .inl (cI, 320, .inl fk)), (mco, .inl (cZ, 41, .inl (upd g (j + 1 + fx_Y L j) (nI 1))))] H := hP
          have hD : va_D A [(mo, .inr (5, [.ref mop, .ref mye, .ref mno, .ref mnu, .ref msz, .int (nI stk), .ref mre, .ref mce, .ref mco, .ref xc, .ref xa, .ref xm, .ref xv, .int (nI cnt), .int stp, .int thr])), (mop, .inl (cI, 320, .inl fo)), (mye, .inl (cI, 320, .inl fy)), (mno, .inl (cI, 320, .inl fn)), (mnu, .inl (cI, 320, .inl fk)), (mco, .inl (cZ, 41, .inl (upd g (j + 1 + fx_Y L j) (nI 1))))] := hD
          refine lv_aload_n hx hb d_Mo_bare_163 rfl (lv_at hl 2 rfl) ?_
          refine va_get (D := (dC, dI)) (ci := 5) (v := .ref mco) (C := R_Mo) (T := T_Mo) (N := 16) hx hb hts uin_Mo hown hK hP 0 rfl rfl 8 (by decide) (hts _ wi_438) (fun _ h9 => h9) rfl d_Mo_bare_164 ?_
          refine lv_iload hx hb d_Mo_bare_167 (lv_at hl 6 rfl) ?_
          refine lv_iconst (v := nI 1) hx hb d_Mo_bare_169 (by decide) ?_
          refine lv_iadd hx hb d_Mo_bare_170 ?_
          refine fs_eqi (nI_add _ _) ?_
          refine lv_aload_n hx hb d_Mo_bare_171 rfl (lv_at hl 2 rfl) ?_
          refine va_get (D := (dC, dI)) (ci := 5) (v := .ref mno) (C := R_Mo) (T := T_Mo) (N := 16) hx hb hts uin_Mo hown hK hP 0 rfl rfl 2 (by decide) (hts _ wi_432) (fun _ h9 => h9) rfl d_Mo_bare_172 ?_
          refine lv_iload hx hb d_Mo_bare_175 (lv_at hl 1 rfl) ?_
          refine fs_iald (v := nI (fx_N L j)) hx hb hK hP 3 0 rfl rfl (40 * f + j) rfl (by decide) (by omega) ((hrep j (by omega)).2.2.1) d_Mo_bare_177 ?_
          refine lv_iadd hx hb d_Mo_bare_178 ?_
          refine fs_eqi (nI_add _ _) ?_
          refine lv_iconst (v := nI 1) hx hb d_Mo_bare_179 (by decide) ?_
          refine fs_zast hx hb hK hP hD hS 5 1 rfl rfl (j + 1 + fx_N L j) rfl (by decide) (by omega) (by decide) d_Mo_bare_180 (fun H locs hP hD hS => ?_)
          have hP : va_P (dC, dI) vwCl [(mo, .inr (5, [.ref mop, .ref mye, .ref mno, .ref mnu, .ref msz, .int (nI stk), .ref mre, .ref mce, .ref mco, .ref xc, .ref xa, .ref xm, .ref xv, .int (nI cnt), .int stp, .int thr])), (mop, .inl (cI, 320, .inl fo)), (mye, .inl (cI, 320, .inl fy)), (mno, .inl (cI, 320, .inl fn)), (mnu, .inl (cI, 320, .inl fk)), (mco, .inl (cZ, 41, .inl (upd (upd g (j + 1 + fx_Y L j) (nI 1)) (j + 1 + fx_N L j) (nI 1))))] H := hP
          have hD : va_D A [(mo, .inr (5, [.ref mop, .ref mye, .ref mno, .ref mnu, .ref msz, .int (nI stk), .ref mre, .ref mce, .ref mco, .ref xc, .ref xa, .ref xm, .ref xv, .int (nI cnt), .int stp, .int thr])), (mop, .inl (cI, 320, .inl fo)), (mye, .inl (cI, 320, .inl fy)), (mno, .inl (cI, 320, .inl fn)), (mnu, .inl (cI, 320, .inl fk)), (mco, .inl (cZ, 41, .inl (upd (upd g (j + 1 + fx_Y L j) (nI 1)) (j + 1 + fx_N L j) (nI 1))))] := hD
          refine lv_goto (tgt := 194) hx hb d_Mo_bare_181 (by decide) ?_
          refine lv_iinc (v := nI (j + 1)) (k := 6) hx hb d_Mo_bare_194 hl rfl (fs_incN j 1) (by decide) (lv' := [(4, .int (nI (j + 1))), (6, .int (nI (fx_O L j))), (5, .int (nI (40 * f + j))), (0, .ref mo), (1, .int (nI f)), (2, .int (nI i)), (3, .int kk)]) rfl (fun ls hl => ?_)
          refine lv_goto (tgt := 36) hx hb d_Mo_bare_197 (by decide) ?_
          exact ih36 (j + 1) (upd (upd g (j + 1 + fx_Y L j) (nI 1)) (j + 1 + fx_N L j) (nI 1)) _ _ _ (by omega) ⟨by omega, fun t ht => by rw [fx_cm_yes (fx_bz1 (fun q => hc67 ((hg j (by omega)).trans q))) (by omega) (fun h => absurd h.1 (by omega))]; exact fx_up_gt (by omega) hg t ht, hP, hD, hS, lv_sub hl [3, 4, 5, 6, 0] rfl⟩
        refine lv_if_eq (tgt := 184) hx hb d_Mo_bare_142 (by decide) (fun _ => ?_) (fun hc => absurd (by decide) hc)
        refine lv_aload_n hx hb d_Mo_bare_184 rfl (lv_at hl 2 rfl) ?_
        refine va_get (D := (dC, dI)) (ci := 5) (v := .ref mco) (C := R_Mo) (T := T_Mo) (N := 16) hx hb hts uin_Mo hown hK hP 0 rfl rfl 8 (by decide) (hts _ wi_438) (fun _ h9 => h9) rfl d_Mo_bare_185 ?_
        refine lv_iload hx hb d_Mo_bare_188 (lv_at hl 6 rfl) ?_
        refine lv_iconst (v := nI 1) hx hb d_Mo_bare_190 (by decide) ?_
        refine lv_iadd hx hb d_Mo_bare_191 ?_
        refine fs_eqi (nI_add _ _) ?_
        refine lv_iconst (v := nI 1) hx hb d_Mo_bare_192 (by decide) ?_
        refine fs_zast hx hb hK hP hD hS 5 1 rfl rfl (j + 1) rfl (by decide) (by omega) (by decide) d_Mo_bare_193 (fun H locs hP hD hS => ?_)
        have hP : va_P (dC, dI) vwCl [(mo, .inr (5, [.ref mop, .ref mye, .ref mno, .ref mnu, .ref msz, .int (nI stk), .ref mre, .ref mce, .ref mco, .ref xc, .ref xa, .ref xm, .ref xv, .int (nI cnt), .int stp, .int thr])), (mop, .inl (cI, 320, .inl fo)), (mye, .inl (cI, 320, .inl fy)), (mno, .inl (cI, 320, .inl fn)), (mnu, .inl (cI, 320, .inl fk)), (mco, .inl (cZ, 41, .inl (upd g (j + 1) (nI 1))))] H := hP
        have hD : va_D A [(mo, .inr (5, [.ref mop, .ref mye, .ref mno, .ref mnu, .ref msz, .int (nI stk), .ref mre, .ref mce, .ref mco, .ref xc, .ref xa, .ref xm, .ref xv, .int (nI cnt), .int stp, .int thr])), (mop, .inl (cI, 320, .inl fo)), (mye, .inl (cI, 320, .inl fy)), (mno, .inl (cI, 320, .inl fn)), (mnu, .inl (cI, 320, .inl fk)), (mco, .inl (cZ, 41, .inl (upd g (j + 1) (nI 1))))] := hD
        refine lv_iinc (v := nI (j + 1)) (k := 6) hx hb d_Mo_bare_194 hl rfl (fs_incN j 1) (by decide) (lv' := [(4, .int (nI (j + 1))), (6, .int (nI (fx_O L j))), (5, .int (nI (40 * f + j))), (0, .ref mo), (1, .int (nI f)), (2, .int (nI i)), (3, .int kk)]) rfl (fun ls hl => ?_)
        refine lv_goto (tgt := 36) hx hb d_Mo_bare_197 (by decide) ?_
        exact ih36 (j + 1) (upd g (j + 1) (nI 1)) _ _ _ (by omega) ⟨by omega, fun t ht => by rw [fx_cm_yes (fx_bz1 (fun q => hc67 ((hg j (by omega)).trans q))) (by omega) (fun h => absurd h.1 (by omega))]; exact fx_up_lt (by omega) hg t ht, hP, hD, hS, lv_sub hl [3, 4, 5, 6, 0] rfl⟩
      rw [nI_eq (by omega) (by omega)] at hc109
      refine lv_aload_n hx hb d_Mo_bare_112 rfl (lv_at hl 2 rfl) ?_
      refine va_get (D := (dC, dI)) (ci := 5) (v := .ref mco) (C := R_Mo) (T := T_Mo) (N := 16) hx hb hts uin_Mo hown hK hP 0 rfl rfl 8 (by decide) (hts _ wi_438) (fun _ h9 => h9) rfl d_Mo_bare_113 ?_
      refine lv_iload hx hb d_Mo_bare_116 (lv_at hl 6 rfl) ?_
      refine lv_iconst (v := nI 1) hx hb d_Mo_bare_118 (by decide) ?_
      refine lv_iadd hx hb d_Mo_bare_119 ?_
      refine fs_eqi (nI_add _ _) ?_
      refine lv_aload_n hx hb d_Mo_bare_120 rfl (lv_at hl 2 rfl) ?_
      refine va_get (D := (dC, dI)) (ci := 5) (v := .ref mnu) (C := R_Mo) (T := T_Mo) (N := 16) hx hb hts uin_Mo hown hK hP 0 rfl rfl 3 (by decide) (hts _ wi_433) (fun _ h9 => h9) rfl d_Mo_bare_121 ?_
      refine lv_iload hx hb d_Mo_bare_124 (lv_at hl 1 rfl) ?_
      refine fs_iald (v := fx_K L j) hx hb hK hP 4 0 rfl rfl (40 * f + j) rfl (by decide) (by omega) ((hrep j (by omega)).2.2.2) d_Mo_bare_126 ?_
      refine lv_iadd hx hb d_Mo_bare_127 ?_
      have hk0 : 0 ≤ (fx_K L j).toInt := by simp only [fx_brP] at hg5; omega
      have hk1 : (fx_K L j).toInt < ((L.length - 1 - j : Nat) : Int) := by simp only [fx_brP] at hg5; omega
      have hk2 := fs_clampI hk0
      have hk3 := fs_clampN hk0
      refine fs_eqi (v := nI (j + 1 + (fx_K L j).toNatClampNeg)) (by have h := nI_add (j + 1) (fx_K L j).toNatClampNeg; rw [← hk3] at h; exact h) ?_
      refine lv_iconst (v := nI 1) hx hb d_Mo_bare_128 (by decide) ?_
      refine fs_zast hx hb hK hP hD hS 5 1 rfl rfl (j + 1 + (fx_K L j).toNatClampNeg) rfl (by decide) (by omega) (by decide) d_Mo_bare_129 (fun H locs hP hD hS => ?_)
      have hP : va_P (dC, dI) vwCl [(mo, .inr (5, [.ref mop, .ref mye, .ref mno, .ref mnu, .ref msz, .int (nI stk), .ref mre, .ref mce, .ref mco, .ref xc, .ref xa, .ref xm, .ref xv, .int (nI cnt), .int stp, .int thr])), (mop, .inl (cI, 320, .inl fo)), (mye, .inl (cI, 320, .inl fy)), (mno, .inl (cI, 320, .inl fn)), (mnu, .inl (cI, 320, .inl fk)), (mco, .inl (cZ, 41, .inl (upd g (j + 1 + (fx_K L j).toNatClampNeg) (nI 1))))] H := hP
      have hD : va_D A [(mo, .inr (5, [.ref mop, .ref mye, .ref mno, .ref mnu, .ref msz, .int (nI stk), .ref mre, .ref mce, .ref mco, .ref xc, .ref xa, .ref xm, .ref xv, .int (nI cnt), .int stp, .int thr])), (mop, .inl (cI, 320, .inl fo)), (mye, .inl (cI, 320, .inl fy)), (mno, .inl (cI, 320, .inl fn)), (mnu, .inl (cI, 320, .inl fk)), (mco, .inl (cZ, 41, .inl (upd g (j + 1 + (fx_K L j).toNatClampNeg) (nI 1))))] := hD
      refine lv_goto (tgt := 194) hx hb d_Mo_bare_130 (by decide) ?_
      refine lv_iinc (v := nI (j + 1)) (k := 6) hx hb d_Mo_bare_194 hl rfl (fs_incN j 1) (by decide) (lv' := [(4, .int (nI (j + 1))), (6, .int (nI (fx_O L j))), (5, .int (nI (40 * f + j))), (0, .ref mo), (1, .int (nI f)), (2, .int (nI i)), (3, .int kk)]) rfl (fun ls hl => ?_)
      refine lv_goto (tgt := 36) hx hb d_Mo_bare_197 (by decide) ?_
      exact ih36 (j + 1) (upd g (j + 1 + (fx_K L j).toNatClampNeg) (nI 1)) _ _ _ (by omega) ⟨by omega, fun t ht => by rw [fx_cm_yes (fx_bz1 (fun q => hc67 ((hg j (by omega)).trans q))) (by omega) (fun h => absurd h.1 (by omega))]; exact fx_up_25 (by omega) hg t ht, hP, hD, hS, lv_sub hl [3, 4, 5, 6, 0] rfl⟩
    rw [nI_eq (by omega) (by omega)] at hc88
    refine lv_aload_n hx hb d_Mo_bare_91 rfl (lv_at hl 2 rfl) ?_
    refine va_get (D := (dC, dI)) (ci := 5) (v := .ref mnu) (C := R_Mo) (T := T_Mo) (N := 16) hx hb hts uin_Mo hown hK hP 0 rfl rfl 3 (by decide) (hts _ wi_433) (fun _ h9 => h9) rfl d_Mo_bare_92 ?_
    refine lv_iload hx hb d_Mo_bare_95 (lv_at hl 1 rfl) ?_
    refine fs_iald (v := fx_K L j) hx hb hK hP 4 0 rfl rfl (40 * f + j) rfl (by decide) (by omega) ((hrep j (by omega)).2.2.2) d_Mo_bare_97 ?_
    refine lv_iload_n hx hb d_Mo_bare_98 rfl (lv_at hl 5 rfl) ?_
    refine lv_icmp_ne (tgt := 105) hx hb d_Mo_bare_99 (by decide) (fun hc99 => ?_) (fun hc99 => ?_)
    · refine lv_iload hx hb d_Mo_bare_105 (lv_at hl 0 rfl) ?_
      refine lv_bipush (v := nI 25) hx hb d_Mo_bare_107 (by decide) ?_
      refine lv_icmp_ne (tgt := 133) hx hb d_Mo_bare_109 (by decide) (fun hc109 => ?_) (fun hc109 => ?_)
      · rw [nI_eq (by omega) (by omega)] at hc109
        refine lv_iload hx hb d_Mo_bare_133 (lv_at hl 0 rfl) ?_
        refine lv_bipush (v := nI 26) hx hb d_Mo_bare_135 (by decide) ?_
        refine lv_bipush (v := nI 30) hx hb d_Mo_bare_137 (by decide) ?_
        refine fs_calli (wc := []) (wr := [(mo, .inr (5, [.ref mop, .ref mye, .ref mno, .ref mnu, .ref msz, .int (nI stk), .ref mre, .ref mce, .ref mco, .ref xc, .ref xa, .ref xm, .ref xv, .int (nI cnt), .int stp, .int thr])), (mop, .inl (cI, 320, .inl fo)), (mye, .inl (cI, 320, .inl fy)), (mno, .inl (cI, 320, .inl fn)), (mnu, .inl (cI, 320, .inl fk)), (mco, .inl (cZ, 41, .inl g))]) [] [0, 1, 2, 3, 4, 5] hP hD hK hS hA rfl rfl rfl (by decide) (fun hPc hDc => va_runS (As := [.int (nI (fx_O L j)), .int (nI 26), .int (nI 30)]) (rest := []) ⟨hx, hb, hml, hown, hts⟩ (c_Mo_within (nI (fx_O L j)) (nI 26) (nI 30) (((fx_O L j : Nat) : Int)) (((26 : Nat) : Int)) (((30 : Nat) : Int)) _ (nI_toInt (by omega)) (nI_toInt (by omega)) (nI_toInt (by omega))) (⟨callB_of 3 hts (fs_g kin_Mo_within) rfl rfl rfl (hts _ wi_6) (hts _ wi_488) (by decide +kernel) ⟨Nat.le_of_ble_eq_true rfl, Nat.le_of_ble_eq_true rfl⟩, hts _ wi_489⟩) (fs_preS hPc hK hDc) rfl rfl hl.1 rfl (lv_room (Nat.le_of_ble_eq_true rfl)) d_Mo_bare_139 ⟨Nat.le_of_ble_eq_true rfl, Nat.le_of_ble_eq_true rfl⟩) rfl (fun r139 _ H locs hp139 hP hD hS => ?_)
        have hP : va_P (dC, dI) vwCl [(mo, .inr (5, [.ref mop, .ref mye, .ref mno, .ref mnu, .ref msz, .int (nI stk), .ref mre, .ref mce, .ref mco, .ref xc, .ref xa, .ref xm, .ref xv, .int (nI cnt), .int stp, .int thr])), (mop, .inl (cI, 320, .inl fo)), (mye, .inl (cI, 320, .inl fy)), (mno, .inl (cI, 320, .inl fn)), (mnu, .inl (cI, 320, .inl fk)), (mco, .inl (cZ, 41, .inl g))] H := hP
        have hD : va_D A [(mo, .inr (5, [.ref mop, .ref mye, .ref mno, .ref mnu, .ref msz, .int (nI stk), .ref mre, .ref mce, .ref mco, .ref xc, .ref xa, .ref xm, .ref xv, .int (nI cnt), .int stp, .int thr])), (mop, .inl (cI, 320, .inl fo)), (mye, .inl (cI, 320, .inl fy)), (mno, .inl (cI, 320, .inl fn)), (mnu, .inl (cI, 320, .inl fk)), (mco, .inl (cZ, 41, .inl g))] := hD
        rcases hp139 with ⟨hc139, rfl⟩ | ⟨hc139, rfl⟩
        · refine lv_if_eq (tgt := 184) hx hb d_Mo_bare_142 (by decide) (fun hc => absurd hc (by decide)) (fun _ => ?_)
          simp only [fx_brP] at hg5
          refine lv_aload_n hx hb d_Mo_bare_145 rfl (lv_at hl 2 rfl) ?_
          refine va_get (D := (dC, dI)) (ci := 5) (v := .ref mco) (C := R_Mo) (T := T_Mo) (N := 16) hx hb hts uin_Mo hown hK hP 0 rfl rfl 8 (by decide) (hts _ wi_438) (fun _ h9 => h9) rfl d_Mo_bare_146 ?_
          refine lv_iload hx hb d_Mo_bare_149 (lv_at hl 6 rfl) ?_
          refine lv_iconst (v := nI 1) hx hb d_Mo_bare_151 (by decide) ?_
          refine lv_iadd hx hb d_Mo_bare_152 ?_
          refine fs_eqi (nI_add _ _) ?_
          refine lv_aload_n hx hb d_Mo_bare_153 rfl (lv_at hl 2 rfl) ?_
          refine va_get (D := (dC, dI)) (ci := 5) (v := .ref mye) (C := R_Mo) (T := T_Mo) (N := 16) hx hb hts uin_Mo hown hK hP 0 rfl rfl 1 (by decide) (hts _ wi_431) (fun _ h9 => h9) rfl d_Mo_bare_154 ?_
          refine lv_iload hx hb d_Mo_bare_157 (lv_at hl 1 rfl) ?_
          refine fs_iald (v := nI (fx_Y L j)) hx hb hK hP 2 0 rfl rfl (40 * f + j) rfl (by decide) (by omega) ((hrep j (by omega)).2.1) d_Mo_bare_159 ?_
          refine lv_iadd hx hb d_Mo_bare_160 ?_
          refine fs_eqi (nI_add _ _) ?_
          refine lv_iconst (v := nI 1) hx hb d_Mo_bare_161 (by decide) ?_
          refine fs_zast hx hb hK hP hD hS 5 1 rfl rfl (j + 1 + fx_Y L j) rfl (by decide) (by omega) (by decide) d_Mo_bare_162 (fun H locs hP hD hS => ?_)
          have hP : va_P (dC, dI) vwCl [(mo, .inr (5, [.ref mop, .ref mye, .ref mno, .ref mnu, .ref msz, .int (nI stk), .ref mre, .ref mce, .ref mco, .ref xc, .ref xa, .ref xm, .ref xv, .int (nI cnt), .int stp, .int thr])), (mop, .inl (cI, 320, .inl fo)), (mye, .inl (cI, 320, .inl fy)), (mno, .inl (cI, 320, .inl fn)), (mnu, .inl (cI, 320, .inl fk)), (mco, .inl (cZ, 41, .inl (upd g (j + 1 + fx_Y L j) (nI 1))))] H := hP
          have hD : va_D A [(mo, .inr (5, [.ref mop, .ref mye, .ref mno, .ref mnu, .ref msz, .int (nI stk), .ref mre, .ref mce, .ref mco, .ref xc, .ref xa, .ref xm, .ref xv, .int (nI cnt), .int stp, .int thr])), (mop, .inl (cI, 320, .inl fo)), (mye, .inl (cI, 320, .inl fy)), (mno, .inl (cI, 320, .inl fn)), (mnu, .inl (cI, 320, .inl fk)), (mco, .inl (cZ, 41, .inl (upd g (j + 1 + fx_Y L j) (nI 1))))] := hD
          refine lv_aload_n hx hb d_Mo_bare_163 rfl (lv_at hl 2 rfl) ?_
          refine va_get (D := (dC, dI)) (ci := 5) (v := .ref mco) (C := R_Mo) (T := T_Mo) (N := 16) hx hb hts uin_Mo hown hK hP 0 rfl rfl 8 (by decide) (hts _ wi_438) (fun _ h9 => h9) rfl d_Mo_bare_164 ?_
          refine lv_iload hx hb d_Mo_bare_167 (lv_at hl 6 rfl) ?_
          refine lv_iconst (v := nI 1) hx hb d_Mo_bare_169 (by decide) ?_
          refine lv_iadd hx hb d_Mo_bare_170 ?_
          refine fs_eqi (nI_add _ _) ?_
          refine lv_aload_n hx hb d_Mo_bare_171 rfl (lv_at hl 2 rfl) ?_
          refine va_get (D := (dC, dI)) (ci := 5) (v := .ref mno) (C := R_Mo) (T := T_Mo) (N := 16) hx hb hts uin_Mo hown hK hP 0 rfl rfl 2 (by decide) (hts _ wi_432) (fun _ h9 => h9) rfl d_Mo_bare_172 ?_
          refine lv_iload hx hb d_Mo_bare_175 (lv_at hl 1 rfl) ?_
          refine fs_iald (v := nI (fx_N L j)) hx hb hK hP 3 0 rfl rfl (40 * f + j) rfl (by decide) (by omega) ((hrep j (by omega)).2.2.1) d_Mo_bare_177 ?_
          refine lv_iadd hx hb d_Mo_bare_178 ?_
          refine fs_eqi (nI_add _ _) ?_
          refine lv_iconst (v := nI 1) hx hb d_Mo_bare_179 (by decide) ?_
          refine fs_zast hx hb hK hP hD hS 5 1 rfl rfl (j + 1 + fx_N L j) rfl (by decide) (by omega) (by decide) d_Mo_bare_180 (fun H locs hP hD hS => ?_)
          have hP : va_P (dC, dI) vwCl [(mo, .inr (5, [.ref mop, .ref mye, .ref mno, .ref mnu, .ref msz, .int (nI stk), .ref mre, .ref mce, .ref mco, .ref xc, .ref xa, .ref xm, .ref xv, .int (nI cnt), .int stp, .int thr])), (mop, .inl (cI, 320, .inl fo)), (mye, .inl (cI, 320, .inl fy)), (mno, .inl (cI, 320, .inl fn)), (mnu, .inl (cI, 320, .inl fk)), (mco, .inl (cZ, 41, .inl (upd (upd g (j + 1 + fx_Y L j) (nI 1)) (j + 1 + fx_N L j) (nI 1))))] H := hP
          have hD : va_D A [(mo, .inr (5, [.ref mop, .ref mye, .ref mno, .ref mnu, .ref msz, .int (nI stk), .ref mre, .ref mce, .ref mco, .ref xc, .ref xa, .ref xm, .ref xv, .int (nI cnt), .int stp, .int thr])), (mop, .inl (cI, 320, .inl fo)), (mye, .inl (cI, 320, .inl fy)), (mno, .inl (cI, 320, .inl fn)), (mnu, .inl (cI, 320, .inl fk)), (mco, .inl (cZ, 41, .inl (upd (upd g (j + 1 + fx_Y L j) (nI 1)) (j + 1 + fx_N L j) (nI 1))))] := hD
          refine lv_goto (tgt := 194) hx hb d_Mo_bare_181 (by decide) ?_
          refine lv_iinc (v := nI (j + 1)) (k := 6) hx hb d_Mo_bare_194 hl rfl (fs_incN j 1) (by decide) (lv' := [(4, .int (nI (j + 1))), (6, .int (nI (fx_O L j))), (5, .int (nI (40 * f + j))), (0, .ref mo), (1, .int (nI f)), (2, .int (nI i)), (3, .int kk)]) rfl (fun ls hl => ?_)
          refine lv_goto (tgt := 36) hx hb d_Mo_bare_197 (by decide) ?_
          exact ih36 (j + 1) (upd (upd g (j + 1 + fx_Y L j) (nI 1)) (j + 1 + fx_N L j) (nI 1)) _ _ _ (by omega) ⟨by omega, fun t ht => by rw [fx_cm_yes (fx_bz1 (fun q => hc67 ((hg j (by omega)).trans q))) (by omega) (fun h => hc99 h.2)]; exact fx_up_gt (by omega) hg t ht, hP, hD, hS, lv_sub hl [3, 4, 5, 6, 0] rfl⟩
        refine lv_if_eq (tgt := 184) hx hb d_Mo_bare_142 (by decide) (fun _ => ?_) (fun hc => absurd (by decide) hc)
        refine lv_aload_n hx hb d_Mo_bare_184 rfl (lv_at hl 2 rfl) ?_
        refine va_get (D := (dC, dI)) (ci := 5) (v := .ref mco) (C := R_Mo) (T := T_Mo) (N := 16) hx hb hts uin_Mo hown hK hP 0 rfl rfl 8 (by decide) (hts _ wi_438) (fun _ h9 => h9) rfl d_Mo_bare_185 ?_
        refine lv_iload hx hb d_Mo_bare_188 (lv_at hl 6 rfl) ?_
        refine lv_iconst (v := nI 1) hx hb d_Mo_bare_190 (by decide) ?_
        refine lv_iadd hx hb d_Mo_bare_191 ?_
        refine fs_eqi (nI_add _ _) ?_
        refine lv_iconst (v := nI 1) hx hb d_Mo_bare_192 (by decide) ?_
        refine fs_zast hx hb hK hP hD hS 5 1 rfl rfl (j + 1) rfl (by decide) (by omega) (by decide) d_Mo_bare_193 (fun H locs hP hD hS => ?_)
        have hP : va_P (dC, dI) vwCl [(mo, .inr (5, [.ref mop, .ref mye, .ref mno, .ref mnu, .ref msz, .int (nI stk), .ref mre, .ref mce, .ref mco, .ref xc, .ref xa, .ref xm, .ref xv, .int (nI cnt), .int stp, .int thr])), (mop, .inl (cI, 320, .inl fo)), (mye, .inl (cI, 320, .inl fy)), (mno, .inl (cI, 320, .inl fn)), (mnu, .inl (cI, 320, .inl fk)), (mco, .inl (cZ, 41, .inl (upd g (j + 1) (nI 1))))] H := hP
        have hD : va_D A [(mo, .inr (5, [.ref mop, .ref mye, .ref mno, .ref mnu, .ref msz, .int (nI stk), .ref mre, .ref mce, .ref mco, .ref xc, .ref xa, .ref xm, .ref xv, .int (nI cnt), .int stp, .int thr])), (mop, .inl (cI, 320, .inl fo)), (mye, .inl (cI, 320, .inl fy)), (mno, .inl (cI, 320, .inl fn)), (mnu, .inl (cI, 320, .inl fk)), (mco, .inl (cZ, 41, .inl (upd g (j + 1) (nI 1))))] := hD
        refine lv_iinc (v := nI (j + 1)) (k := 6) hx hb d_Mo_bare_194 hl rfl (fs_incN j 1) (by decide) (lv' := [(4, .int (nI (j + 1))), (6, .int (nI (fx_O L j))), (5, .int (nI (40 * f + j))), (0, .ref mo), (1, .int (nI f)), (2, .int (nI i)), (3, .int kk)]) rfl (fun ls hl => ?_)
        refine lv_goto (tgt := 36) hx hb d_Mo_bare_197 (by decide) ?_
        exact ih36 (j + 1) (upd g (j + 1) (nI 1)) _ _ _ (by omega) ⟨by omega, fun t ht => by rw [fx_cm_yes (fx_bz1 (fun q => hc67 ((hg j (by omega)).trans q))) (by omega) (fun h => hc99 h.2)]; exact fx_up_lt (by omega) hg t ht, hP, hD, hS, lv_sub hl [3, 4, 5, 6, 0] rfl⟩
      rw [nI_eq (by omega) (by omega)] at hc109
      refine lv_aload_n hx hb d_Mo_bare_112 rfl (lv_at hl 2 rfl) ?_
      refine va_get (D := (dC, dI)) (ci := 5) (v := .ref mco) (C := R_Mo) (T := T_Mo) (N := 16) hx hb hts uin_Mo hown hK hP 0 rfl rfl 8 (by decide) (hts _ wi_438) (fun _ h9 => h9) rfl d_Mo_bare_113 ?_
      refine lv_iload hx hb d_Mo_bare_116 (lv_at hl 6 rfl) ?_
      refine lv_iconst (v := nI 1) hx hb d_Mo_bare_118 (by decide) ?_
      refine lv_iadd hx hb d_Mo_bare_119 ?_
      refine fs_eqi (nI_add _ _) ?_
      refine lv_aload_n hx hb d_Mo_bare_120 rfl (lv_at hl 2 rfl) ?_
      refine va_get (D := (dC, dI)) (ci := 5) (v := .ref mnu) (C := R_Mo) (T := T_Mo) (N := 16) hx hb hts uin_Mo hown hK hP 0 rfl rfl 3 (by decide) (hts _ wi_433) (fun _ h9 => h9) rfl d_Mo_bare_121 ?_
      refine lv_iload hx hb d_Mo_bare_124 (lv_at hl 1 rfl) ?_
      refine fs_iald (v := fx_K L j) hx hb hK hP 4 0 rfl rfl (40 * f + j) rfl (by decide) (by omega) ((hrep j (by omega)).2.2.2) d_Mo_bare_126 ?_
      refine lv_iadd hx hb d_Mo_bare_127 ?_
      have hk0 : 0 ≤ (fx_K L j).toInt := by simp only [fx_brP] at hg5; omega
      have hk1 : (fx_K L j).toInt < ((L.length - 1 - j : Nat) : Int) := by simp only [fx_brP] at hg5; omega
      have hk2 := fs_clampI hk0
      have hk3 := fs_clampN hk0
      refine fs_eqi (v := nI (j + 1 + (fx_K L j).toNatClampNeg)) (by have h := nI_add (j + 1) (fx_K L j).toNatClampNeg; rw [← hk3] at h; exact h) ?_
      refine lv_iconst (v := nI 1) hx hb d_Mo_bare_128 (by decide) ?_
      refine fs_zast hx hb hK hP hD hS 5 1 rfl rfl (j + 1 + (fx_K L j).toNatClampNeg) rfl (by decide) (by omega) (by decide) d_Mo_bare_129 (fun H locs hP hD hS => ?_)
      have hP : va_P (dC, dI) vwCl [(mo, .inr (5, [.ref mop, .ref mye, .ref mno, .ref mnu, .ref msz, .int (nI stk), .ref mre, .ref mce, .ref mco, .ref xc, .ref xa, .ref xm, .ref xv, .int (nI cnt), .int stp, .int thr])), (mop, .inl (cI, 320, .inl fo)), (mye, .inl (cI, 320, .inl fy)), (mno, .inl (cI, 320, .inl fn)), (mnu, .inl (cI, 320, .inl fk)), (mco, .inl (cZ, 41, .inl (upd g (j + 1 + (fx_K L j).toNatClampNeg) (nI 1))))] H := hP
      have hD : va_D A [(mo, .inr (5, [.ref mop, .ref mye, .ref mno, .ref mnu, .ref msz, .int (nI stk), .ref mre, .ref mce, .ref mco, .ref xc, .ref xa, .ref xm, .ref xv, .int (nI cnt), .int stp, .int thr])), (mop, .inl (cI, 320, .inl fo)), (mye, .inl (cI, 320, .inl fy)), (mno, .inl (cI, 320, .inl fn)), (mnu, .inl (cI, 320, .inl fk)), (mco, .inl (cZ, 41, .inl (upd g (j + 1 + (fx_K L j).toNatClampNeg) (nI 1))))] := hD
      refine lv_goto (tgt := 194) hx hb d_Mo_bare_130 (by decide) ?_
      refine lv_iinc (v := nI (j + 1)) (k := 6) hx hb d_Mo_bare_194 hl rfl (fs_incN j 1) (by decide) (lv' := [(4, .int (nI (j + 1))), (6, .int (nI (fx_O L j))), (5, .int (nI (40 * f + j))), (0, .ref mo), (1, .int (nI f)), (2, .int (nI i)), (3, .int kk)]) rfl (fun ls hl => ?_)
      refine lv_goto (tgt := 36) hx hb d_Mo_bare_197 (by decide) ?_
      exact ih36 (j + 1) (upd g (j + 1 + (fx_K L j).toNatClampNeg) (nI 1)) _ _ _ (by omega) ⟨by omega, fun t ht => by rw [fx_cm_yes (fx_bz1 (fun q => hc67 ((hg j (by omega)).trans q))) (by omega) (fun h => hc99 h.2)]; exact fx_up_25 (by omega) hg t ht, hP, hD, hS, lv_sub hl [3, 4, 5, 6, 0] rfl⟩
    refine lv_goto (tgt := 194) hx hb d_Mo_bare_102 (by decide) ?_
    refine lv_iinc (v := nI (j + 1)) (k := 6) hx hb d_Mo_bare_194 hl rfl (fs_incN j 1) (by decide) (lv' := [(4, .int (nI (j + 1))), (6, .int (nI (fx_O L j))), (5, .int (nI (40 * f + j))), (0, .ref mo), (1, .int (nI f)), (2, .int (nI i)), (3, .int kk)]) rfl (fun ls hl => ?_)
    refine lv_goto (tgt := 36) hx hb d_Mo_bare_197 (by decide) ?_
    exact ih36 (j + 1) g _ _ _ (by omega) ⟨by omega, fun t ht => by rw [fx_cm_no (Or.inr (Or.inr ⟨by omega, hc99⟩))]; exact hg t ht, hP, hD, hS, lv_sub hl [3, 4, 5, 6, 0] rfl⟩
  rw [nI_ltI (by omega) (by omega)] at hc7
  refine lv_aload_n hx hb d_Mo_bare_10 rfl (lv_at hl 0 rfl) ?_
  refine va_get (D := (dC, dI)) (ci := 5) (v := .ref mco) (C := R_Mo) (T := T_Mo) (N := 16) hx hb hts uin_Mo hown hK hP 0 rfl rfl 8 (by decide) (hts _ wi_438) (fun _ h9 => h9) rfl d_Mo_bare_11 ?_
  refine lv_iload hx hb d_Mo_bare_14 (lv_at hl 4 rfl) ?_
  refine lv_iload hx hb d_Mo_bare_16 (lv_at hl 4 rfl) ?_
  refine lv_if_ne (tgt := 25) hx hb d_Mo_bare_18 (by decide) (fun hc18 => ?_) (fun hc18 => ?_)
  · try rw [← nI_0] at hc18
    rw [nI_eq (by omega) (by omega)] at hc18
    refine lv_iconst (v := nI 0) hx hb d_Mo_bare_25 (by decide) ?_
    refine fs_zast hx hb hK hP hD hS 5 1 rfl rfl j rfl (by decide) (by omega) (by decide) d_Mo_bare_26 (fun H locs hP hD hS => ?_)
    have hP : va_P (dC, dI) vwCl [(mo, .inr (5, [.ref mop, .ref mye, .ref mno, .ref mnu, .ref msz, .int (nI stk), .ref mre, .ref mce, .ref mco, .ref xc, .ref xa, .ref xm, .ref xv, .int (nI cnt), .int stp, .int thr])), (mop, .inl (cI, 320, .inl fo)), (mye, .inl (cI, 320, .inl fy)), (mno, .inl (cI, 320, .inl fn)), (mnu, .inl (cI, 320, .inl fk)), (mco, .inl (cZ, 41, .inl (upd g j (nI 0))))] H := hP
    have hD : va_D A [(mo, .inr (5, [.ref mop, .ref mye, .ref mno, .ref mnu, .ref msz, .int (nI stk), .ref mre, .ref mce, .ref mco, .ref xc, .ref xa, .ref xm, .ref xv, .int (nI cnt), .int stp, .int thr])), (mop, .inl (cI, 320, .inl fo)), (mye, .inl (cI, 320, .inl fy)), (mno, .inl (cI, 320, .inl fn)), (mnu, .inl (cI, 320, .inl fk)), (mco, .inl (cZ, 41, .inl (upd g j (nI 0))))] := hD
    refine lv_iinc (v := nI (j + 1)) (k := 4) hx hb d_Mo_bare_27 hl rfl (fs_incN j 1) (by decide) (lv' := [(4, .int (nI (j + 1))), (0, .ref mo), (1, .int (nI f)), (2, .int (nI i)), (3, .int kk)]) rfl (fun ls hl => ?_)
    refine lv_goto (tgt := 3) hx hb d_Mo_bare_30 (by decide) ?_
    exact ih3 (j + 1) (upd g j (nI 0)) _ _ _ (by omega) ⟨by omega, fun t ht => if e : t = j then (by rw [e, pk_us]; exact (by have e2 : (j == 0) = false := (by simp; omega); rw [e2]; rfl)) else (by rw [pk_un e]; exact hg t (by omega)), hP, hD, hS, lv_sub hl [1, 2, 3, 4, 0] rfl⟩
  try rw [← nI_0] at hc18
  rw [nI_eq (by omega) (by omega)] at hc18
  refine lv_iconst (v := nI 1) hx hb d_Mo_bare_21 (by decide) ?_
  refine lv_goto (tgt := 26) hx hb d_Mo_bare_22 (by decide) ?_
  refine fs_zast hx hb hK hP hD hS 5 1 rfl rfl j rfl (by decide) (by omega) (by decide) d_Mo_bare_26 (fun H locs hP hD hS => ?_)
  have hP : va_P (dC, dI) vwCl [(mo, .inr (5, [.ref mop, .ref mye, .ref mno, .ref mnu, .ref msz, .int (nI stk), .ref mre, .ref mce, .ref mco, .ref xc, .ref xa, .ref xm, .ref xv, .int (nI cnt), .int stp, .int thr])), (mop, .inl (cI, 320, .inl fo)), (mye, .inl (cI, 320, .inl fy)), (mno, .inl (cI, 320, .inl fn)), (mnu, .inl (cI, 320, .inl fk)), (mco, .inl (cZ, 41, .inl (upd g j (nI 1))))] H := hP
  have hD : va_D A [(mo, .inr (5, [.ref mop, .ref mye, .ref mno, .ref mnu, .ref msz, .int (nI stk), .ref mre, .ref mce, .ref mco, .ref xc, .ref xa, .ref xm, .ref xv, .int (nI cnt), .int stp, .int thr])), (mop, .inl (cI, 320, .inl fo)), (mye, .inl (cI, 320, .inl fy)), (mno, .inl (cI, 320, .inl fn)), (mnu, .inl (cI, 320, .inl fk)), (mco, .inl (cZ, 41, .inl (upd g j (nI 1))))] := hD
  refine lv_iinc (v := nI (j + 1)) (k := 4) hx hb d_Mo_bare_27 hl rfl (fs_incN j 1) (by decide) (lv' := [(4, .int (nI (j + 1))), (0, .ref mo), (1, .int (nI f)), (2, .int (nI i)), (3, .int kk)]) rfl (fun ls hl => ?_)
  refine lv_goto (tgt := 3) hx hb d_Mo_bare_30 (by decide) ?_
  exact ih3 (j + 1) (upd g j (nI 1)) _ _ _ (by omega) ⟨by omega, fun t ht => if e : t = j then (by rw [e, pk_us]; exact (by rw [hc18]; rfl)) else (by rw [pk_un e]; exact hg t (by omega)), hP, hD, hS, lv_sub hl [1, 2, 3, 4, 0] rfl⟩

theorem d_Mo_check_0 : decode b_Mo_check 0 = .ok (.aload_n 0, 1) := by decide +kernel
theorem d_Mo_check_1 : decode b_Mo_check 1 = .ok (.getfield 22, 3) := by decide +kernel
theorem d_Mo_check_4 : decode b_Mo_check 4 = .ok (.iload_n 1, 1) := by decide +kernel
theorem d_Mo_check_5 : decode b_Mo_check 5 = .ok (.iaload, 1) := by decide +kernel
theorem d_Mo_check_6 : decode b_Mo_check 6 = .ok (.istore_n 2, 1) := by decide +kernel
theorem d_Mo_check_7 : decode b_Mo_check 7 = .ok (.iload_n 2, 1) := by decide +kernel
theorem d_Mo_check_8 : decode b_Mo_check 8 = .ok (.ifCond .ne 5, 3) := by decide +kernel
theorem d_Mo_check_11 : decode b_Mo_check 11 = .ok (.iconst 1, 1) := by decide +kernel
theorem d_Mo_check_12 : decode b_Mo_check 12 = .ok (.ireturn, 1) := by decide +kernel
theorem d_Mo_check_13 : decode b_Mo_check 13 = .ok (.iconst 2, 1) := by decide +kernel
theorem d_Mo_check_14 : decode b_Mo_check 14 = .ok (.istore_n 3, 1) := by decide +kernel
theorem d_Mo_check_15 : decode b_Mo_check 15 = .ok (.iload_n 3, 1) := by decide +kernel
theorem d_Mo_check_16 : decode b_Mo_check 16 = .ok (.bipush 6, 2) := by decide +kernel
theorem d_Mo_check_18 : decode b_Mo_check 18 = .ok (.if_icmp .ge 43, 3) := by decide +kernel
theorem d_Mo_check_21 : decode b_Mo_check 21 = .ok (.iconst 0, 1) := by decide +kernel
theorem d_Mo_check_22 : decode b_Mo_check 22 = .ok (.istore 4, 2) := by decide +kernel
theorem d_Mo_check_24 : decode b_Mo_check 24 = .ok (.iload 4, 2) := by decide +kernel
theorem d_Mo_check_26 : decode b_Mo_check 26 = .ok (.iload_n 2, 1) := by decide +kernel
theorem d_Mo_check_27 : decode b_Mo_check 27 = .ok (.if_icmp .ge 28, 3) := by decide +kernel
theorem d_Mo_check_30 : decode b_Mo_check 30 = .ok (.aload_n 0, 1) := by decide +kernel
theorem d_Mo_check_31 : decode b_Mo_check 31 = .ok (.iload_n 3, 1) := by decide +kernel
theorem d_Mo_check_32 : decode b_Mo_check 32 = .ok (.iload_n 1, 1) := by decide +kernel
theorem d_Mo_check_33 : decode b_Mo_check 33 = .ok (.iload 4, 2) := by decide +kernel
theorem d_Mo_check_35 : decode b_Mo_check 35 = .ok (.invokevirtual 63, 3) := by decide +kernel
theorem d_Mo_check_38 : decode b_Mo_check 38 = .ok (.ifCond .ne 11, 3) := by decide +kernel
theorem d_Mo_check_41 : decode b_Mo_check 41 = .ok (.iload_n 3, 1) := by decide +kernel
theorem d_Mo_check_42 : decode b_Mo_check 42 = .ok (.bipush 8, 2) := by decide +kernel
theorem d_Mo_check_44 : decode b_Mo_check 44 = .ok (.iload 4, 2) := by decide +kernel
theorem d_Mo_check_46 : decode b_Mo_check 46 = .ok (.imul, 1) := by decide +kernel
theorem d_Mo_check_47 : decode b_Mo_check 47 = .ok (.iadd, 1) := by decide +kernel
theorem d_Mo_check_48 : decode b_Mo_check 48 = .ok (.ireturn, 1) := by decide +kernel
theorem d_Mo_check_49 : decode b_Mo_check 49 = .ok (.iinc 4 1, 3) := by decide +kernel
theorem d_Mo_check_52 : decode b_Mo_check 52 = .ok (.goto (-28), 3) := by decide +kernel
theorem d_Mo_check_55 : decode b_Mo_check 55 = .ok (.iinc 3 1, 3) := by decide +kernel
theorem d_Mo_check_58 : decode b_Mo_check 58 = .ok (.goto (-43), 3) := by decide +kernel
theorem d_Mo_check_61 : decode b_Mo_check 61 = .ok (.aload_n 0, 1) := by decide +kernel
theorem d_Mo_check_62 : decode b_Mo_check 62 = .ok (.getfield 7, 3) := by decide +kernel
theorem d_Mo_check_65 : decode b_Mo_check 65 = .ok (.bipush 40, 2) := by decide +kernel
theorem d_Mo_check_67 : decode b_Mo_check 67 = .ok (.iload_n 1, 1) := by decide +kernel
theorem d_Mo_check_68 : decode b_Mo_check 68 = .ok (.imul, 1) := by decide +kernel
theorem d_Mo_check_69 : decode b_Mo_check 69 = .ok (.iload_n 2, 1) := by decide +kernel
theorem d_Mo_check_70 : decode b_Mo_check 70 = .ok (.iadd, 1) := by decide +kernel
theorem d_Mo_check_71 : decode b_Mo_check 71 = .ok (.iconst 1, 1) := by decide +kernel
theorem d_Mo_check_72 : decode b_Mo_check 72 = .ok (.isub, 1) := by decide +kernel
theorem d_Mo_check_73 : decode b_Mo_check 73 = .ok (.iaload, 1) := by decide +kernel
theorem d_Mo_check_74 : decode b_Mo_check 74 = .ok (.bipush 31, 2) := by decide +kernel
theorem d_Mo_check_76 : decode b_Mo_check 76 = .ok (.if_icmp .eq 13, 3) := by decide +kernel
theorem d_Mo_check_79 : decode b_Mo_check 79 = .ok (.bipush 6, 2) := by decide +kernel
theorem d_Mo_check_81 : decode b_Mo_check 81 = .ok (.bipush 8, 2) := by decide +kernel
theorem d_Mo_check_83 : decode b_Mo_check 83 = .ok (.iload_n 2, 1) := by decide +kernel
theorem d_Mo_check_84 : decode b_Mo_check 84 = .ok (.iconst 1, 1) := by decide +kernel
theorem d_Mo_check_85 : decode b_Mo_check 85 = .ok (.isub, 1) := by decide +kernel
theorem d_Mo_check_86 : decode b_Mo_check 86 = .ok (.imul, 1) := by decide +kernel
theorem d_Mo_check_87 : decode b_Mo_check 87 = .ok (.iadd, 1) := by decide +kernel
theorem d_Mo_check_88 : decode b_Mo_check 88 = .ok (.ireturn, 1) := by decide +kernel
theorem d_Mo_check_89 : decode b_Mo_check 89 = .ok (.iconst 0, 1) := by decide +kernel
theorem d_Mo_check_90 : decode b_Mo_check 90 = .ok (.istore_n 3, 1) := by decide +kernel
theorem d_Mo_check_91 : decode b_Mo_check 91 = .ok (.iload_n 3, 1) := by decide +kernel
theorem d_Mo_check_92 : decode b_Mo_check 92 = .ok (.iload_n 2, 1) := by decide +kernel
theorem d_Mo_check_93 : decode b_Mo_check 93 = .ok (.if_icmp .ge 62, 3) := by decide +kernel
theorem d_Mo_check_96 : decode b_Mo_check 96 = .ok (.aload_n 0, 1) := by decide +kernel
theorem d_Mo_check_97 : decode b_Mo_check 97 = .ok (.getfield 7, 3) := by decide +kernel
theorem d_Mo_check_100 : decode b_Mo_check 100 = .ok (.bipush 40, 2) := by decide +kernel
theorem d_Mo_check_102 : decode b_Mo_check 102 = .ok (.iload_n 1, 1) := by decide +kernel
theorem d_Mo_check_103 : decode b_Mo_check 103 = .ok (.imul, 1) := by decide +kernel
theorem d_Mo_check_104 : decode b_Mo_check 104 = .ok (.iload_n 3, 1) := by decide +kernel
theorem d_Mo_check_105 : decode b_Mo_check 105 = .ok (.iadd, 1) := by decide +kernel
theorem d_Mo_check_106 : decode b_Mo_check 106 = .ok (.iaload, 1) := by decide +kernel
theorem d_Mo_check_107 : decode b_Mo_check 107 = .ok (.istore 4, 2) := by decide +kernel
theorem d_Mo_check_109 : decode b_Mo_check 109 = .ok (.iload 4, 2) := by decide +kernel
theorem d_Mo_check_111 : decode b_Mo_check 111 = .ok (.iconst 2, 1) := by decide +kernel
theorem d_Mo_check_112 : decode b_Mo_check 112 = .ok (.if_icmp .eq 9, 3) := by decide +kernel
theorem d_Mo_check_115 : decode b_Mo_check 115 = .ok (.iload 4, 2) := by decide +kernel
theorem d_Mo_check_117 : decode b_Mo_check 117 = .ok (.iconst 5, 1) := by decide +kernel
theorem d_Mo_check_118 : decode b_Mo_check 118 = .ok (.if_icmp .ne 31, 3) := by decide +kernel
theorem d_Mo_check_121 : decode b_Mo_check 121 = .ok (.aload_n 0, 1) := by decide +kernel
theorem d_Mo_check_122 : decode b_Mo_check 122 = .ok (.iload_n 1, 1) := by decide +kernel
theorem d_Mo_check_123 : decode b_Mo_check 123 = .ok (.iload_n 3, 1) := by decide +kernel
theorem d_Mo_check_124 : decode b_Mo_check 124 = .ok (.aload_n 0, 1) := by decide +kernel
theorem d_Mo_check_125 : decode b_Mo_check 125 = .ok (.getfield 19, 3) := by decide +kernel
theorem d_Mo_check_128 : decode b_Mo_check 128 = .ok (.bipush 40, 2) := by decide +kernel
theorem d_Mo_check_130 : decode b_Mo_check 130 = .ok (.iload_n 1, 1) := by decide +kernel
theorem d_Mo_check_131 : decode b_Mo_check 131 = .ok (.imul, 1) := by decide +kernel
theorem d_Mo_check_132 : decode b_Mo_check 132 = .ok (.iload_n 3, 1) := by decide +kernel
theorem d_Mo_check_133 : decode b_Mo_check 133 = .ok (.iadd, 1) := by decide +kernel
theorem d_Mo_check_134 : decode b_Mo_check 134 = .ok (.iaload, 1) := by decide +kernel
theorem d_Mo_check_135 : decode b_Mo_check 135 = .ok (.invokevirtual 66, 3) := by decide +kernel
theorem d_Mo_check_138 : decode b_Mo_check 138 = .ok (.ifCond .eq 11, 3) := by decide +kernel
theorem d_Mo_check_141 : decode b_Mo_check 141 = .ok (.bipush 7, 2) := by decide +kernel
theorem d_Mo_check_143 : decode b_Mo_check 143 = .ok (.bipush 8, 2) := by decide +kernel
theorem d_Mo_check_145 : decode b_Mo_check 145 = .ok (.iload_n 3, 1) := by decide +kernel
theorem d_Mo_check_146 : decode b_Mo_check 146 = .ok (.imul, 1) := by decide +kernel
theorem d_Mo_check_147 : decode b_Mo_check 147 = .ok (.iadd, 1) := by decide +kernel
theorem d_Mo_check_148 : decode b_Mo_check 148 = .ok (.ireturn, 1) := by decide +kernel
theorem d_Mo_check_149 : decode b_Mo_check 149 = .ok (.iinc 3 1, 3) := by decide +kernel
theorem d_Mo_check_152 : decode b_Mo_check 152 = .ok (.goto (-61), 3) := by decide +kernel
theorem d_Mo_check_155 : decode b_Mo_check 155 = .ok (.iconst 0, 1) := by decide +kernel
theorem d_Mo_check_156 : decode b_Mo_check 156 = .ok (.ireturn, 1) := by decide +kernel
set_option maxHeartbeats 4000000 in
set_option maxRecDepth 100000 in
theorem c_Mo_check (mo mop mye mno mnu msz stk mre mce mco xc xa xm xv cnt : Nat) (stp thr : Int32) (fo fy fn fk zs cm : Nat → Int32) (L : fx_Prg) (f : Nat) (sz : Nat) (hf : f < 8) (hzs : zs f = nI L.length) (hrep : fx_rep L (fun i => fo (40 * f + i)) (fun i => fy (40 * f + i)) (fun i => fn (40 * f + i)) (fun i => fk (40 * f + i))) (hok : fx_ok L) : fs_I l y_Mo_check (k_Mo_check :: fs_T) { frames := 2, cells := 0, slots := 0, locals := 48 } (dC, dI) vwCl (fs_tys cI cZ cJ cF) [.ref mo, .int (nI f)] [(mo, .inr (5, [.ref mop, .ref mye, .ref mno, .ref mnu, .ref msz, .int (nI stk), .ref mre, .ref mce, .ref mco, .ref xc, .ref xa, .ref xm, .ref xv, .int (nI cnt), .int stp, .int thr])), (mop, .inl (cI, 320, .inl fo)), (mye, .inl (cI, 320, .inl fy)), (mno, .inl (cI, 320, .inl fn)), (mnu, .inl (cI, 320, .inl fk)), (msz, .inl (cI, 8, .inl zs)), (mco, .inl (cZ, 41, .inl cm))] sz (S := Nat → Int32) (fun z _ => z = nI (fx_chk L)) (fun u => [(mo, .inr (5, [.ref mop, .ref mye, .ref mno, .ref mnu, .ref msz, .int (nI stk), .ref mre, .ref mce, .ref mco, .ref xc, .ref xa, .ref xm, .ref xv, .int (nI cnt), .int stp, .int thr])), (mop, .inl (cI, 320, .inl fo)), (mye, .inl (cI, 320, .inl fy)), (mno, .inl (cI, 320, .inl fn)), (mnu, .inl (cI, 320, .inl fk)), (msz, .inl (cI, 8, .inl zs)), (mco, .inl (cZ, 41, .inl u))]) 0 0 := by
  refine fs_head (by decide) (Nat.le_of_ble_eq_true rfl) ?_
  intro p e s m below meth c A ls hx hb hr hts hown hlocks hin hml hK hP hD hS hA hAe hsz hl
  have hl : lv_has ls 5 [(0, .ref mo), (1, .int (nI f))] := hl
  have hown : s.vm.findClass R_Mo = some m.cls := hown
  have hlen := hok.1
  refine lv_aload_n hx hb d_Mo_check_0 rfl (lv_at hl 0 rfl) ?_
  refine va_get (D := (dC, dI)) (ci := 5) (v := .ref msz) (C := R_Mo) (T := T_Mo) (N := 16) hx hb hts uin_Mo hown hK hP 0 rfl rfl 4 (by decide) (hts _ wi_434) (fun _ h9 => h9) rfl d_Mo_check_1 ?_
  refine lv_iload_n hx hb d_Mo_check_4 rfl (lv_at hl 1 rfl) ?_
  refine fs_iald (v := nI L.length) hx hb hK hP 5 0 rfl rfl f rfl (by decide) (by omega) hzs d_Mo_check_5 ?_
  refine lv_istore_n hx hb d_Mo_check_6 rfl hl (by decide) (lv' := [(2, .int (nI L.length)), (0, .ref mo), (1, .int (nI f))]) rfl (fun ls hl => ?_)
  refine lv_iload_n hx hb d_Mo_check_7 rfl (lv_at hl 0 rfl) ?_
  refine lv_if_ne (tgt := 13) hx hb d_Mo_check_8 (by decide) (fun hc8 => ?_) (fun hc8 => ?_)
  · try rw [← nI_0] at hc8
    rw [nI_eq (by omega) (by omega)] at hc8
    refine lv_iconst (v := nI 2) hx hb d_Mo_check_13 (by decide) ?_
    refine lv_istore_n hx hb d_Mo_check_14 rfl hl (by decide) (lv' := [(3, .int (nI 2)), (2, .int (nI L.length)), (0, .ref mo), (1, .int (nI f))]) rfl (fun ls hl => ?_)
    refine fs_loop1 (α1 := Nat) (fun r => 6 - r) (fun r H locs ls => (2 ≤ r) ∧ (r ≤ 6) ∧ (∀ t, 1 ≤ t → t < r → fx_at L t = none) ∧ va_P (dC, dI) vwCl [(mo, .inr (5, [.ref mop, .ref mye, .ref mno, .ref mnu, .ref msz, .int (nI stk), .ref mre, .ref mce, .ref mco, .ref xc, .ref xa, .ref xm, .ref xv, .int (nI cnt), .int stp, .int thr])), (mop, .inl (cI, 320, .inl fo)), (mye, .inl (cI, 320, .inl fy)), (mno, .inl (cI, 320, .inl fn)), (mnu, .inl (cI, 320, .inl fk)), (msz, .inl (cI, 8, .inl zs)), (mco, .inl (cZ, 41, .inl cm))] H ∧ va_D A [(mo, .inr (5, [.ref mop, .ref mye, .ref mno, .ref mnu, .ref msz, .int (nI stk), .ref mre, .ref mce, .ref mco, .ref xc, .ref xa, .ref xm, .ref xv, .int (nI cnt), .int stp, .int thr])), (mop, .inl (cI, 320, .inl fo)), (mye, .inl (cI, 320, .inl fy)), (mno, .inl (cI, 320, .inl fn)), (mnu, .inl (cI, 320, .inl fk)), (msz, .inl (cI, 8, .inl zs)), (mco, .inl (cZ, 41, .inl cm))] ∧ va_S A s.heap H locs ∧ lv_has ls 5 [(0, .ref mo), (1, .int (nI f)), (2, .int (nI L.length)), (3, .int (nI r))]) ?_ 2 ⟨by omega, by omega, fun t h1 h2 => by obtain rfl : t = 1 := (by omega); unfold fx_at; rw [if_pos rfl, if_neg (by omega)], hP, hD, hS, lv_sub hl [2, 3, 1, 0] rfl⟩
    intro r H locs ls hI ih15
    obtain ⟨hr2, hr6, hno, hP, hD, hS, hl⟩ := hI
    refine lv_iload_n hx hb d_Mo_check_15 rfl (lv_at hl 3 rfl) ?_
    refine lv_bipush (v := nI 6) hx hb d_Mo_check_16 (by decide) ?_
    refine lv_icmp_ge (tgt := 61) hx hb d_Mo_check_18 (by decide) (fun hc18 => ?_) (fun hc18 => ?_)
    · rw [nI_leI (by omega) (by omega)] at hc18
      refine lv_aload_n hx hb d_Mo_check_61 rfl (lv_at hl 0 rfl) ?_
      refine va_get (D := (dC, dI)) (ci := 5) (v := .ref mop) (C := R_Mo) (T := T_Mo) (N := 16) hx hb hts uin_Mo hown hK hP 0 rfl rfl 0 (by decide) (hts _ wi_430) (fun _ h9 => h9) rfl d_Mo_check_62 ?_
      refine lv_bipush (v := nI 40) hx hb d_Mo_check_65 (by decide) ?_
      refine lv_iload_n hx hb d_Mo_check_67 rfl (lv_at hl 1 rfl) ?_
      refine lv_imul hx hb d_Mo_check_68 ?_
      refine fs_eqi (pk_mul _ _) ?_
      refine lv_iload_n hx hb d_Mo_check_69 rfl (lv_at hl 2 rfl) ?_
      refine lv_iadd hx hb d_Mo_check_70 ?_
      refine fs_eqi (nI_add _ _) ?_
      refine lv_iconst (v := nI 1) hx hb d_Mo_check_71 (by decide) ?_
      refine lv_isub hx hb d_Mo_check_72 ?_
      refine fs_eqi (pk_sub (by omega)) ?_
      refine fs_eqi (v := nI (40 * f + (L.length - 1))) (by congr 1; omega) ?_
      have hO := (hok.2 (L.length - 1) (by omega)).1
      refine fs_iald (v := nI (fx_O L ((L.length - 1)))) hx hb hK hP 1 0 rfl rfl (40 * f + (L.length - 1)) rfl (by decide) (by omega) ((hrep ((L.length - 1)) (by omega)).1) d_Mo_check_73 ?_
      refine lv_bipush (v := nI 31) hx hb d_Mo_check_74 (by decide) ?_
      refine lv_icmp_eq (tgt := 89) hx hb d_Mo_check_76 (by decide) (fun hc76 => ?_) (fun hc76 => ?_)
      · rw [nI_eq (by omega) (by omega)] at hc76
        have h6 : fx_at L 6 = none := fx_at_midn (by decide) (by decide) (fun j hj hb => by simp only [fx_brP] at hb; rw [hb.1] at hb; exact hb.2 hc76)
        have hgd : fx_good L := fun t h2 h7 => (by rcases Nat.lt_or_ge t 6 with h | h; exact fx_at_no h2 h7 (hno t (by omega) (by omega)); obtain rfl : t = 6 := (by omega); exact fx_at_no h2 h7 h6)
        have hno7 : ∀ t, 1 ≤ t → t < 7 → fx_at L t = none := fun t h1 h2 => (by rcases Nat.lt_or_ge t 6 with h | h; exact hno t h1 (by omega); obtain rfl : t = 6 := (by omega); exact h6)
        refine lv_iconst (v := nI 0) hx hb d_Mo_check_89 (by decide) ?_
        refine lv_istore_n hx hb d_Mo_check_90 rfl hl (by decide) (lv' := [(3, .int (nI 0)), (0, .ref mo), (1, .int (nI f)), (2, .int (nI L.length))]) rfl (fun ls hl => ?_)
        refine fs_loop2 (α1 := Nat) (α2 := Nat → Int32) (fun i cm => L.length - i) (fun i cm H locs ls => (i ≤ L.length) ∧ (∀ j, j < i → fx_early L j = false) ∧ va_P (dC, dI) vwCl [(mo, .inr (5, [.ref mop, .ref mye, .ref mno, .ref mnu, .ref msz, .int (nI stk), .ref mre, .ref mce, .ref mco, .ref xc, .ref xa, .ref xm, .ref xv, .int (nI cnt), .int stp, .int thr])), (mop, .inl (cI, 320, .inl fo)), (mye, .inl (cI, 320, .inl fy)), (mno, .inl (cI, 320, .inl fn)), (mnu, .inl (cI, 320, .inl fk)), (msz, .inl (cI, 8, .inl zs)), (mco, .inl (cZ, 41, .inl cm))] H ∧ va_D A [(mo, .inr (5, [.ref mop, .ref mye, .ref mno, .ref mnu, .ref msz, .int (nI stk), .ref mre, .ref mce, .ref mco, .ref xc, .ref xa, .ref xm, .ref xv, .int (nI cnt), .int stp, .int thr])), (mop, .inl (cI, 320, .inl fo)), (mye, .inl (cI, 320, .inl fy)), (mno, .inl (cI, 320, .inl fn)), (mnu, .inl (cI, 320, .inl fk)), (msz, .inl (cI, 8, .inl zs)), (mco, .inl (cZ, 41, .inl cm))] ∧ va_S A s.heap H locs ∧ lv_has ls 5 [(0, .ref mo), (1, .int (nI f)), (2, .int (nI L.length)), (3, .int (nI i))]) ?_ 0 cm ⟨by omega, fun j hj => absurd hj (by omega), hP, hD, hS, lv_sub hl [1, 2, 3, 0] rfl⟩
        intro i cm H locs ls hI ih91
        obtain ⟨hi, hne, hP, hD, hS, hl⟩ := hI
        refine lv_iload_n hx hb d_Mo_check_91 rfl (lv_at hl 3 rfl) ?_
        refine lv_iload_n hx hb d_Mo_check_92 rfl (lv_at hl 2 rfl) ?_
        refine lv_icmp_ge (tgt := 155) hx hb d_Mo_check_93 (by decide) (fun hc93 => ?_) (fun hc93 => ?_)
        · rw [nI_leI (by omega) (by omega)] at hc93
          refine lv_iconst (v := nI 0) hx hb d_Mo_check_155 (by decide) ?_
          exact fs_iret hx hb hr hlocks hAe hK hS d_Mo_check_156 cm (by rw [fx_chk_none (fun t h1 h2 => by rcases Nat.lt_or_ge t 7 with h | h; exact hno7 t h1 h; obtain rfl : t = 7 := (by omega); rw [fx_at7]; exact fx_fst_none (fun j hj => hne j (by omega)))]) hP hD
        rw [nI_leI (by omega) (by omega)] at hc93
        have hil : i < L.length := by omega
        have hO := (hok.2 i hil).1
        refine lv_aload_n hx hb d_Mo_check_96 rfl (lv_at hl 0 rfl) ?_
        refine va_get (D := (dC, dI)) (ci := 5) (v := .ref mop) (C := R_Mo) (T := T_Mo) (N := 16) hx hb hts uin_Mo hown hK hP 0 rfl rfl 0 (by decide) (hts _ wi_430) (fun _ h9 => h9) rfl d_Mo_check_97 ?_
        refine lv_bipush (v := nI 40) hx hb d_Mo_check_100 (by decide) ?_
        refine lv_iload_n hx hb d_Mo_check_102 rfl (lv_at hl 1 rfl) ?_
        refine lv_imul hx hb d_Mo_check_103 ?_
        refine fs_eqi (pk_mul _ _) ?_
        refine lv_iload_n hx hb d_Mo_check_104 rfl (lv_at hl 3 rfl) ?_
        refine lv_iadd hx hb d_Mo_check_105 ?_
        refine fs_eqi (nI_add _ _) ?_
        refine fs_iald (v := nI (fx_O L i)) hx hb hK hP 1 0 rfl rfl (40 * f + i) rfl (by decide) (by omega) ((hrep i (by omega)).1) d_Mo_check_106 ?_
        refine lv_istore hx hb d_Mo_check_107 hl (by decide) (lv' := [(4, .int (nI (fx_O L i))), (0, .ref mo), (1, .int (nI f)), (2, .int (nI L.length)), (3, .int (nI i))]) rfl (fun ls hl => ?_)
        refine lv_iload hx hb d_Mo_check_109 (lv_at hl 0 rfl) ?_
        refine lv_iconst (v := nI 2) hx hb d_Mo_check_111 (by decide) ?_
        refine lv_icmp_eq (tgt := 121) hx hb d_Mo_check_112 (by decide) (fun hc112 => ?_) (fun hc112 => ?_)
        · rw [nI_eq (by omega) (by omega)] at hc112
          refine lv_aload_n hx hb d_Mo_check_121 rfl (lv_at hl 1 rfl) ?_
          refine lv_iload_n hx hb d_Mo_check_122 rfl (lv_at hl 2 rfl) ?_
          refine lv_iload_n hx hb d_Mo_check_123 rfl (lv_at hl 4 rfl) ?_
          refine lv_aload_n hx hb d_Mo_check_124 rfl (lv_at hl 1 rfl) ?_
          refine va_get (D := (dC, dI)) (ci := 5) (v := .ref mnu) (C := R_Mo) (T := T_Mo) (N := 16) hx hb hts uin_Mo hown hK hP 0 rfl rfl 3 (by decide) (hts _ wi_433) (fun _ h9 => h9) rfl d_Mo_check_125 ?_
          refine lv_bipush (v := nI 40) hx hb d_Mo_check_128 (by decide) ?_
          refine lv_iload_n hx hb d_Mo_check_130 rfl (lv_at hl 2 rfl) ?_
          refine lv_imul hx hb d_Mo_check_131 ?_
          refine fs_eqi (pk_mul _ _) ?_
          refine lv_iload_n hx hb d_Mo_check_132 rfl (lv_at hl 4 rfl) ?_
          refine lv_iadd hx hb d_Mo_check_133 ?_
          refine fs_eqi (nI_add _ _) ?_
          refine fs_iald (v := fx_K L i) hx hb hK hP 4 0 rfl rfl (40 * f + i) rfl (by decide) (by omega) ((hrep i (by omega)).2.2.2) d_Mo_check_134 ?_
          refine fs_calli (wc := [(mo, .inr (5, [.ref mop, .ref mye, .ref mno, .ref mnu, .ref msz, .int (nI stk), .ref mre, .ref mce, .ref mco, .ref xc, .ref xa, .ref xm, .ref xv, .int (nI cnt), .int stp, .int thr])), (mop, .inl (cI, 320, .inl fo)), (mye, .inl (cI, 320, .inl fy)), (mno, .inl (cI, 320, .inl fn)), (mnu, .inl (cI, 320, .inl fk)), (mco, .inl (cZ, 41, .inl cm))]) (wr := [(msz, .inl (cI, 8, .inl zs))]) [0, 1, 2, 3, 4, 6] [5] hP hD hK hS hA rfl rfl rfl (by decide) (fun hPc hDc => va_runV (C := R_Mo) (As := [.int (nI f), .int (nI i), .int (fx_K L i)]) (rest := []) ⟨hx, hb, hml, hown, hts⟩ (c_Mo_bare mo mop mye mno mnu msz stk mre mce mco xc xa xm xv cnt stp thr fo fy fn fk cm L f i (fx_K L i) _ hf hrep hok (by omega) hgd) (⟨callB_of 3 hts (fs_g kin_Mo_bare) rfl rfl rfl (hts _ wi_6) (hts _ wi_527) (by decide +kernel) ⟨Nat.le_of_ble_eq_true rfl, Nat.le_of_ble_eq_true rfl⟩, hts _ wi_529, hts _ sel_Mo_bare⟩) (fs_preV (q0 := 0) rfl rfl hPc hK hDc) rfl rfl hl.1 rfl (lv_room (Nat.le_of_ble_eq_true rfl)) d_Mo_check_135 ⟨Nat.le_of_ble_eq_true rfl, Nat.le_of_ble_eq_true rfl⟩) rfl (fun r135 u135 H locs hp135 hP hD hS => ?_)
          have hP : va_P (dC, dI) vwCl [(mo, .inr (5, [.ref mop, .ref mye, .ref mno, .ref mnu, .ref msz, .int (nI stk), .ref mre, .ref mce, .ref mco, .ref xc, .ref xa, .ref xm, .ref xv, .int (nI cnt), .int stp, .int thr])), (mop, .inl (cI, 320, .inl fo)), (mye, .inl (cI, 320, .inl fy)), (mno, .inl (cI, 320, .inl fn)), (mnu, .inl (cI, 320, .inl fk)), (msz, .inl (cI, 8, .inl zs)), (mco, .inl (cZ, 41, .inl u135))] H := hP.sub [1, 2, 3, 4, 5, 0, 6] rfl
          have hD : va_D A [(mo, .inr (5, [.ref mop, .ref mye, .ref mno, .ref mnu, .ref msz, .int (nI stk), .ref mre, .ref mce, .ref mco, .ref xc, .ref xa, .ref xm, .ref xv, .int (nI cnt), .int stp, .int thr])), (mop, .inl (cI, 320, .inl fo)), (mye, .inl (cI, 320, .inl fy)), (mno, .inl (cI, 320, .inl fn)), (mnu, .inl (cI, 320, .inl fk)), (msz, .inl (cI, 8, .inl zs)), (mco, .inl (cZ, 41, .inl u135))] := hD.sub [1, 2, 3, 4, 5, 0, 6] (by decide) rfl
          rcases hp135 with ⟨hc135, rfl⟩ | ⟨hc135, rfl⟩
          · refine lv_if_eq (tgt := 149) hx hb d_Mo_check_138 (by decide) (fun hc => absurd hc (by decide)) (fun _ => ?_)
            refine lv_bipush (v := nI 7) hx hb d_Mo_check_141 (by decide) ?_
            refine lv_bipush (v := nI 8) hx hb d_Mo_check_143 (by decide) ?_
            refine lv_iload_n hx hb d_Mo_check_145 rfl (lv_at hl 4 rfl) ?_
            refine lv_imul hx hb d_Mo_check_146 ?_
            refine fs_eqi (pk_mul _ _) ?_
            refine lv_iadd hx hb d_Mo_check_147 ?_
            refine fs_eqi (nI_add _ _) ?_
            exact fs_iret hx hb hr hlocks hAe hK hS d_Mo_check_148 u135 (by rw [fx_chk_some (r := 7) (i := i) (by decide) (by decide) (by rw [fx_at7]; exact fx_fst_some hil (by unfold fx_early; have e : (fx_O L i == 2 || fx_O L i == 5) = true := (by simp; omega); rw [e, hc135]; rfl) hne) hno7]) hP hD
          refine lv_if_eq (tgt := 149) hx hb d_Mo_check_138 (by decide) (fun _ => ?_) (fun hc => absurd (by decide) hc)
          refine lv_iinc (v := nI (i + 1)) (k := 4) hx hb d_Mo_check_149 hl rfl (fs_incN i 1) (by decide) (lv' := [(3, .int (nI (i + 1))), (4, .int (nI (fx_O L i))), (0, .ref mo), (1, .int (nI f)), (2, .int (nI L.length))]) rfl (fun ls hl => ?_)
          refine lv_goto (tgt := 91) hx hb d_Mo_check_152 (by decide) ?_
          exact ih91 (i + 1) u135 _ _ _ (by omega) ⟨by omega, fun j hj => by rcases Nat.lt_succ_iff_lt_or_eq.mp hj with h | h; exact hne j h; rw [h]; exact (by unfold fx_early; rw [hc135]; simp), hP, hD, hS, lv_sub hl [2, 3, 4, 0] rfl⟩
        rw [nI_eq (by omega) (by omega)] at hc112
        refine lv_iload hx hb d_Mo_check_115 (lv_at hl 0 rfl) ?_
        refine lv_iconst (v := nI 5) hx hb d_Mo_check_117 (by decide) ?_
        refine lv_icmp_ne (tgt := 149) hx hb d_Mo_check_118 (by decide) (fun hc118 => ?_) (fun hc118 => ?_)
        · rw [nI_eq (by omega) (by omega)] at hc118
          refine lv_iinc (v := nI (i + 1)) (k := 4) hx hb d_Mo_check_149 hl rfl (fs_incN i 1) (by decide) (lv' := [(3, .int (nI (i + 1))), (4, .int (nI (fx_O L i))), (0, .ref mo), (1, .int (nI f)), (2, .int (nI L.length))]) rfl (fun ls hl => ?_)
          refine lv_goto (tgt := 91) hx hb d_Mo_check_152 (by decide) ?_
          exact ih91 (i + 1) cm _ _ _ (by omega) ⟨by omega, fun j hj => by rcases Nat.lt_succ_iff_lt_or_eq.mp hj with h | h; exact hne j h; rw [h]; exact (by unfold fx_early; have e : (fx_O L i == 2 || fx_O L i == 5) = false := (by simp; omega); rw [e]; rfl), hP, hD, hS, lv_sub hl [2, 3, 4, 0] rfl⟩
        rw [nI_eq (by omega) (by omega)] at hc118
        refine lv_aload_n hx hb d_Mo_check_121 rfl (lv_at hl 1 rfl) ?_
        refine lv_iload_n hx hb d_Mo_check_122 rfl (lv_at hl 2 rfl) ?_
        refine lv_iload_n hx hb d_Mo_check_123 rfl (lv_at hl 4 rfl) ?_
        refine lv_aload_n hx hb d_Mo_check_124 rfl (lv_at hl 1 rfl) ?_
        refine va_get (D := (dC, dI)) (ci := 5) (v := .ref mnu) (C := R_Mo) (T := T_Mo) (N := 16) hx hb hts uin_Mo hown hK hP 0 rfl rfl 3 (by decide) (hts _ wi_433) (fun _ h9 => h9) rfl d_Mo_check_125 ?_
        refine lv_bipush (v := nI 40) hx hb d_Mo_check_128 (by decide) ?_
        refine lv_iload_n hx hb d_Mo_check_130 rfl (lv_at hl 2 rfl) ?_
        refine lv_imul hx hb d_Mo_check_131 ?_
        refine fs_eqi (pk_mul _ _) ?_
        refine lv_iload_n hx hb d_Mo_check_132 rfl (lv_at hl 4 rfl) ?_
        refine lv_iadd hx hb d_Mo_check_133 ?_
        refine fs_eqi (nI_add _ _) ?_
        refine fs_iald (v := fx_K L i) hx hb hK hP 4 0 rfl rfl (40 * f + i) rfl (by decide) (by omega) ((hrep i (by omega)).2.2.2) d_Mo_check_134 ?_
        refine fs_calli (wc := [(mo, .inr (5, [.ref mop, .ref mye, .ref mno, .ref mnu, .ref msz, .int (nI stk), .ref mre, .ref mce, .ref mco, .ref xc, .ref xa, .ref xm, .ref xv, .int (nI cnt), .int stp, .int thr])), (mop, .inl (cI, 320, .inl fo)), (mye, .inl (cI, 320, .inl fy)), (mno, .inl (cI, 320, .inl fn)), (mnu, .inl (cI, 320, .inl fk)), (mco, .inl (cZ, 41, .inl cm))]) (wr := [(msz, .inl (cI, 8, .inl zs))]) [0, 1, 2, 3, 4, 6] [5] hP hD hK hS hA rfl rfl rfl (by decide) (fun hPc hDc => va_runV (C := R_Mo) (As := [.int (nI f), .int (nI i), .int (fx_K L i)]) (rest := []) ⟨hx, hb, hml, hown, hts⟩ (c_Mo_bare mo mop mye mno mnu msz stk mre mce mco xc xa xm xv cnt stp thr fo fy fn fk cm L f i (fx_K L i) _ hf hrep hok (by omega) hgd) (⟨callB_of 3 hts (fs_g kin_Mo_bare) rfl rfl rfl (hts _ wi_6) (hts _ wi_527) (by decide +kernel) ⟨Nat.le_of_ble_eq_true rfl, Nat.le_of_ble_eq_true rfl⟩, hts _ wi_529, hts _ sel_Mo_bare⟩) (fs_preV (q0 := 0) rfl rfl hPc hK hDc) rfl rfl hl.1 rfl (lv_room (Nat.le_of_ble_eq_true rfl)) d_Mo_check_135 ⟨Nat.le_of_ble_eq_true rfl, Nat.le_of_ble_eq_true rfl⟩) rfl (fun r135 u135 H locs hp135 hP hD hS => ?_)
        have hP : va_P (dC, dI) vwCl [(mo, .inr (5, [.ref mop, .ref mye, .ref mno, .ref mnu, .ref msz, .int (nI stk), .ref mre, .ref mce, .ref mco, .ref xc, .ref xa, .ref xm, .ref xv, .int (nI cnt), .int stp, .int thr])), (mop, .inl (cI, 320, .inl fo)), (mye, .inl (cI, 320, .inl fy)), (mno, .inl (cI, 320, .inl fn)), (mnu, .inl (cI, 320, .inl fk)), (msz, .inl (cI, 8, .inl zs)), (mco, .inl (cZ, 41, .inl u135))] H := hP.sub [1, 2, 3, 4, 5, 0, 6] rfl
        have hD : va_D A [(mo, .inr (5, [.ref mop, .ref mye, .ref mno, .ref mnu, .ref msz, .int (nI stk), .ref mre, .ref mce, .ref mco, .ref xc, .ref xa, .ref xm, .ref xv, .int (nI cnt), .int stp, .int thr])), (mop, .inl (cI, 320, .inl fo)), (mye, .inl (cI, 320, .inl fy)), (mno, .inl (cI, 320, .inl fn)), (mnu, .inl (cI, 320, .inl fk)), (msz, .inl (cI, 8, .inl zs)), (mco, .inl (cZ, 41, .inl u135))] := hD.sub [1, 2, 3, 4, 5, 0, 6] (by decide) rfl
        rcases hp135 with ⟨hc135, rfl⟩ | ⟨hc135, rfl⟩
        · refine lv_if_eq (tgt := 149) hx hb d_Mo_check_138 (by decide) (fun hc => absurd hc (by decide)) (fun _ => ?_)
          refine lv_bipush (v := nI 7) hx hb d_Mo_check_141 (by decide) ?_
          refine lv_bipush (v := nI 8) hx hb d_Mo_check_143 (by decide) ?_
          refine lv_iload_n hx hb d_Mo_check_145 rfl (lv_at hl 4 rfl) ?_
          refine lv_imul hx hb d_Mo_check_146 ?_
          refine fs_eqi (pk_mul _ _) ?_
          refine lv_iadd hx hb d_Mo_check_147 ?_
          refine fs_eqi (nI_add _ _) ?_
          exact fs_iret hx hb hr hlocks hAe hK hS d_Mo_check_148 u135 (by rw [fx_chk_some (r := 7) (i := i) (by decide) (by decide) (by rw [fx_at7]; exact fx_fst_some hil (by unfold fx_early; have e : (fx_O L i == 2 || fx_O L i == 5) = true := (by simp; omega); rw [e, hc135]; rfl) hne) hno7]) hP hD
        refine lv_if_eq (tgt := 149) hx hb d_Mo_check_138 (by decide) (fun _ => ?_) (fun hc => absurd (by decide) hc)
        refine lv_iinc (v := nI (i + 1)) (k := 4) hx hb d_Mo_check_149 hl rfl (fs_incN i 1) (by decide) (lv' := [(3, .int (nI (i + 1))), (4, .int (nI (fx_O L i))), (0, .ref mo), (1, .int (nI f)), (2, .int (nI L.length))]) rfl (fun ls hl => ?_)
        refine lv_goto (tgt := 91) hx hb d_Mo_check_152 (by decide) ?_
        exact ih91 (i + 1) u135 _ _ _ (by omega) ⟨by omega, fun j hj => by rcases Nat.lt_succ_iff_lt_or_eq.mp hj with h | h; exact hne j h; rw [h]; exact (by unfold fx_early; rw [hc135]; simp), hP, hD, hS, lv_sub hl [2, 3, 4, 0] rfl⟩
      rw [nI_eq (by omega) (by omega)] at hc76
      refine lv_bipush (v := nI 6) hx hb d_Mo_check_79 (by decide) ?_
      refine lv_bipush (v := nI 8) hx hb d_Mo_check_81 (by decide) ?_
      refine lv_iload_n hx hb d_Mo_check_83 rfl (lv_at hl 2 rfl) ?_
      refine lv_iconst (v := nI 1) hx hb d_Mo_check_84 (by decide) ?_
      refine lv_isub hx hb d_Mo_check_85 ?_
      refine fs_eqi (pk_sub (by omega)) ?_
      refine lv_imul hx hb d_Mo_check_86 ?_
      refine fs_eqi (pk_mul _ _) ?_
      refine lv_iadd hx hb d_Mo_check_87 ?_
      refine fs_eqi (nI_add _ _) ?_
      exact fs_iret hx hb hr hlocks hAe hK hS d_Mo_check_88 cm (by rw [fx_chk_some (r := 6) (i := L.length - 1) (by decide) (by decide) (fx_at_mid (by decide) (by decide) (by omega) (show L.length - 1 = L.length - 1 ∧ fx_O L (L.length - 1) ≠ 31 from ⟨rfl, hc76⟩) (fun j hj hb => by simp only [fx_brP] at hb; omega)) (fun t h1 h2 => hno t h1 (by omega))]) hP hD
    rw [nI_leI (by omega) (by omega)] at hc18
    refine lv_iconst (v := nI 0) hx hb d_Mo_check_21 (by decide) ?_
    refine lv_istore hx hb d_Mo_check_22 hl (by decide) (lv' := [(4, .int (nI 0)), (0, .ref mo), (1, .int (nI f)), (2, .int (nI L.length)), (3, .int (nI r))]) rfl (fun ls hl => ?_)
    refine fs_loop1 (α1 := Nat) (fun i => L.length - i) (fun i H locs ls => (i ≤ L.length) ∧ (∀ j, j < i → ¬ fx_brP L r j) ∧ va_P (dC, dI) vwCl [(mo, .inr (5, [.ref mop, .ref mye, .ref mno, .ref mnu, .ref msz, .int (nI stk), .ref mre, .ref mce, .ref mco, .ref xc, .ref xa, .ref xm, .ref xv, .int (nI cnt), .int stp, .int thr])), (mop, .inl (cI, 320, .inl fo)), (mye, .inl (cI, 320, .inl fy)), (mno, .inl (cI, 320, .inl fn)), (mnu, .inl (cI, 320, .inl fk)), (msz, .inl (cI, 8, .inl zs)), (mco, .inl (cZ, 41, .inl cm))] H ∧ va_D A [(mo, .inr (5, [.ref mop, .ref mye, .ref mno, .ref mnu, .ref msz, .int (nI stk), .ref mre, .ref mce, .ref mco, .ref xc, .ref xa, .ref xm, .ref xv, .int (nI cnt), .int stp, .int thr])), (mop, .inl (cI, 320, .inl fo)), (mye, .inl (cI, 320, .inl fy)), (mno, .inl (cI, 320, .inl fn)), (mnu, .inl (cI, 320, .inl fk)), (msz, .inl (cI, 8, .inl zs)), (mco, .inl (cZ, 41, .inl cm))] ∧ va_S A s.heap H locs ∧ lv_has ls 5 [(0, .ref mo), (1, .int (nI f)), (2, .int (nI L.length)), (3, .int (nI r)), (4, .int (nI i))]) ?_ 0 ⟨by omega, fun j hj => absurd hj (by omega), hP, hD, hS, lv_sub hl [1, 2, 3, 4, 0] rfl⟩
    intro i H locs ls hI ih24
    obtain ⟨hi, hni, hP, hD, hS, hl⟩ := hI
    refine lv_iload hx hb d_Mo_check_24 (lv_at hl 4 rfl) ?_
    refine lv_iload_n hx hb d_Mo_check_26 rfl (lv_at hl 2 rfl) ?_
    refine lv_icmp_ge (tgt := 55) hx hb d_Mo_check_27 (by decide) (fun hc27 => ?_) (fun hc27 => ?_)
    · rw [nI_leI (by omega) (by omega)] at hc27
      refine lv_iinc (v := nI (r + 1)) (k := 3) hx hb d_Mo_check_55 hl rfl (fs_incN r 1) (by decide) (lv' := [(3, .int (nI (r + 1))), (0, .ref mo), (1, .int (nI f)), (2, .int (nI L.length)), (4, .int (nI i))]) rfl (fun ls hl => ?_)
      refine lv_goto (tgt := 15) hx hb d_Mo_check_58 (by decide) ?_
      exact ih15 (r + 1) _ _ _ (by omega) ⟨by omega, by omega, fun t h1 h2 => by rcases Nat.lt_succ_iff_lt_or_eq.mp h2 with h | h; exact hno t h1 h; rw [h]; exact fx_at_midn hr2 (by omega) (fun j hj => hni j (by omega)), hP, hD, hS, lv_sub hl [1, 2, 3, 0] rfl⟩
    rw [nI_leI (by omega) (by omega)] at hc27
    refine lv_aload_n hx hb d_Mo_check_30 rfl (lv_at hl 0 rfl) ?_
    refine lv_iload_n hx hb d_Mo_check_31 rfl (lv_at hl 3 rfl) ?_
    refine lv_iload_n hx hb d_Mo_check_32 rfl (lv_at hl 1 rfl) ?_
    refine lv_iload hx hb d_Mo_check_33 (lv_at hl 4 rfl) ?_
    refine fs_calli (wc := [(mo, .inr (5, [.ref mop, .ref mye, .ref mno, .ref mnu, .ref msz, .int (nI stk), .ref mre, .ref mce, .ref mco, .ref xc, .ref xa, .ref xm, .ref xv, .int (nI cnt), .int stp, .int thr])), (mop, .inl (cI, 320, .inl fo)), (mye, .inl (cI, 320, .inl fy)), (mno, .inl (cI, 320, .inl fn)), (mnu, .inl (cI, 320, .inl fk)), (msz, .inl (cI, 8, .inl zs))]) (wr := [(mco, .inl (cZ, 41, .inl cm))]) [0, 1, 2, 3, 4, 5] [6] hP hD hK hS hA rfl rfl rfl (by decide) (fun hPc hDc => va_runV (C := R_Mo) (As := [.int (nI r), .int (nI f), .int (nI i)]) (rest := []) ⟨hx, hb, hml, hown, hts⟩ (c_Mo_holds mo mop mye mno mnu msz stk mre mce mco xc xa xm xv cnt stp thr fo fy fn fk zs L f r i _ hf hzs hrep hok (by omega) (by omega) (by omega)) (⟨callB_of 3 hts (fs_g kin_Mo_holds) rfl rfl rfl (hts _ wi_6) (hts _ wi_523) (by decide +kernel) ⟨Nat.le_of_ble_eq_true rfl, Nat.le_of_ble_eq_true rfl⟩, hts _ wi_525, hts _ sel_Mo_holds⟩) (fs_preV (q0 := 0) rfl rfl hPc hK hDc) rfl rfl hl.1 rfl (lv_room (Nat.le_of_ble_eq_true rfl)) d_Mo_check_35 ⟨Nat.le_of_ble_eq_true rfl, Nat.le_of_ble_eq_true rfl⟩) rfl (fun r35 _ H locs hp35 hP hD hS => ?_)
    have hP : va_P (dC, dI) vwCl [(mo, .inr (5, [.ref mop, .ref mye, .ref mno, .ref mnu, .ref msz, .int (nI stk), .ref mre, .ref mce, .ref mco, .ref xc, .ref xa, .ref xm, .ref xv, .int (nI cnt), .int stp, .int thr])), (mop, .inl (cI, 320, .inl fo)), (mye, .inl (cI, 320, .inl fy)), (mno, .inl (cI, 320, .inl fn)), (mnu, .inl (cI, 320, .inl fk)), (msz, .inl (cI, 8, .inl zs)), (mco, .inl (cZ, 41, .inl cm))] H := hP.sub [1, 2, 3, 4, 5, 6, 0] rfl
    have hD : va_D A [(mo, .inr (5, [.ref mop, .ref mye, .ref mno, .ref mnu, .ref msz, .int (nI stk), .ref mre, .ref mce, .ref mco, .ref xc, .ref xa, .ref xm, .ref xv, .int (nI cnt), .int stp, .int thr])), (mop, .inl (cI, 320, .inl fo)), (mye, .inl (cI, 320, .inl fy)), (mno, .inl (cI, 320, .inl fn)), (mnu, .inl (cI, 320, .inl fk)), (msz, .inl (cI, 8, .inl zs)), (mco, .inl (cZ, 41, .inl cm))] := hD.sub [1, 2, 3, 4, 5, 6, 0] (by decide) rfl
    rcases hp35 with ⟨hc35, rfl⟩ | ⟨hc35, rfl⟩
    · refine lv_if_ne (tgt := 49) hx hb d_Mo_check_38 (by decide) (fun _ => ?_) (fun hc => absurd hc (by decide))
      refine lv_iinc (v := nI (i + 1)) (k := 4) hx hb d_Mo_check_49 hl rfl (fs_incN i 1) (by decide) (lv' := [(4, .int (nI (i + 1))), (0, .ref mo), (1, .int (nI f)), (2, .int (nI L.length)), (3, .int (nI r))]) rfl (fun ls hl => ?_)
      refine lv_goto (tgt := 24) hx hb d_Mo_check_52 (by decide) ?_
      exact ih24 (i + 1) _ _ _ (by omega) ⟨by omega, fun j hj => by rcases Nat.lt_succ_iff_lt_or_eq.mp hj with h | h; exact hni j h; rw [h]; exact hc35, hP, hD, hS, lv_sub hl [1, 2, 3, 4, 0] rfl⟩
    refine lv_if_ne (tgt := 49) hx hb d_Mo_check_38 (by decide) (fun hc => absurd (by decide) hc) (fun _ => ?_)
    refine lv_iload_n hx hb d_Mo_check_41 rfl (lv_at hl 3 rfl) ?_
    refine lv_bipush (v := nI 8) hx hb d_Mo_check_42 (by decide) ?_
    refine lv_iload hx hb d_Mo_check_44 (lv_at hl 4 rfl) ?_
    refine lv_imul hx hb d_Mo_check_46 ?_
    refine fs_eqi (pk_mul _ _) ?_
    refine lv_iadd hx hb d_Mo_check_47 ?_
    refine fs_eqi (nI_add _ _) ?_
    exact fs_iret hx hb hr hlocks hAe hK hS d_Mo_check_48 cm (by rw [fx_chk_some (by omega) (by omega) (fx_at_mid hr2 (by omega) (by omega) hc35 hni) hno]) hP hD
  try rw [← nI_0] at hc8
  rw [nI_eq (by omega) (by omega)] at hc8
  refine lv_iconst (v := nI 1) hx hb d_Mo_check_11 (by decide) ?_
  exact fs_iret hx hb hr hlocks hAe hK hS d_Mo_check_12 cm (by rw [fx_chk_some (r := 1) (i := 0) (by decide) (by decide) (by unfold fx_at; rw [if_pos rfl, if_pos (by omega)]) (fun t h1 h2 => absurd h2 (by omega))]) hP hD

theorem d_Mo_fault_0 : decode b_Mo_fault 0 = .ok (.aload_n 0, 1) := by decide +kernel
theorem d_Mo_fault_1 : decode b_Mo_fault 1 = .ok (.iconst 0, 1) := by decide +kernel
theorem d_Mo_fault_2 : decode b_Mo_fault 2 = .ok (.putfield 47, 3) := by decide +kernel
theorem d_Mo_fault_5 : decode b_Mo_fault 5 = .ok (.iload_n 1, 1) := by decide +kernel
theorem d_Mo_fault_6 : decode b_Mo_fault 6 = .ok (.iconst 0, 1) := by decide +kernel
theorem d_Mo_fault_7 : decode b_Mo_fault 7 = .ok (.iconst 3, 1) := by decide +kernel
theorem d_Mo_fault_8 : decode b_Mo_fault 8 = .ok (.invokestatic 51, 3) := by decide +kernel
theorem d_Mo_fault_11 : decode b_Mo_fault 11 = .ok (.ifCond .eq 14, 3) := by decide +kernel
theorem d_Mo_fault_14 : decode b_Mo_fault 14 = .ok (.aload_n 0, 1) := by decide +kernel
theorem d_Mo_fault_15 : decode b_Mo_fault 15 = .ok (.iload_n 1, 1) := by decide +kernel
theorem d_Mo_fault_16 : decode b_Mo_fault 16 = .ok (.invokevirtual 69, 3) := by decide +kernel
theorem d_Mo_fault_19 : decode b_Mo_fault 19 = .ok (.bipush 8, 2) := by decide +kernel
theorem d_Mo_fault_21 : decode b_Mo_fault 21 = .ok (.irem, 1) := by decide +kernel
theorem d_Mo_fault_22 : decode b_Mo_fault 22 = .ok (.goto 4, 3) := by decide +kernel
theorem d_Mo_fault_25 : decode b_Mo_fault 25 = .ok (.iconst (-1), 1) := by decide +kernel
theorem d_Mo_fault_26 : decode b_Mo_fault 26 = .ok (.ireturn, 1) := by decide +kernel
set_option maxHeartbeats 4000000 in
set_option maxRecDepth 100000 in
theorem c_Mo_fault (mo mop mye mno mnu msz stk mre mce mco xc xa xm xv cnt : Nat) (stp thr : Int32) (fo fy fn fk zs cm : Nat → Int32) (L : fx_Prg) (j : Nat) (sz : Nat) (hj : j < 4) (hzs : zs j = nI L.length) (hrep : fx_rep L (fun i => fo (40 * j + i)) (fun i => fy (40 * j + i)) (fun i => fn (40 * j + i)) (fun i => fk (40 * j + i))) (hok : fx_ok L) : fs_I l y_Mo_fault (k_Mo_fault :: fs_T) { frames := 3, cells := 0, slots := 0, locals := 72 } (dC, dI) vwCl (fs_tys cI cZ cJ cF) [.ref mo, .int (nI j)] [(mo, .inr (5, [.ref mop, .ref mye, .ref mno, .ref mnu, .ref msz, .int (nI stk), .ref mre, .ref mce, .ref mco, .ref xc, .ref xa, .ref xm, .ref xv, .int (nI cnt), .int stp, .int thr])), (mop, .inl (cI, 320, .inl fo)), (mye, .inl (cI, 320, .inl fy)), (mno, .inl (cI, 320, .inl fn)), (mnu, .inl (cI, 320, .inl fk)), (msz, .inl (cI, 8, .inl zs)), (mco, .inl (cZ, 41, .inl cm))] sz (S := Nat → Int32) (fun z _ => z = nI (fx_chk L % 8)) (fun u => [(mo, .inr (5, [.ref mop, .ref mye, .ref mno, .ref mnu, .ref msz, .int (nI stk), .ref mre, .ref mce, .ref mco, .ref xc, .ref xa, .ref xm, .ref xv, .int (nI cnt), .int stp, .int (nI 0)])), (mop, .inl (cI, 320, .inl fo)), (mye, .inl (cI, 320, .inl fy)), (mno, .inl (cI, 320, .inl fn)), (mnu, .inl (cI, 320, .inl fk)), (msz, .inl (cI, 8, .inl zs)), (mco, .inl (cZ, 41, .inl u))]) 0 0 := by
  refine fs_head (by decide) (Nat.le_of_ble_eq_true rfl) ?_
  intro p e s m below meth c A ls hx hb hr hts hown hlocks hin hml hK hP hD hS hA hAe hsz hl
  have hl : lv_has ls 2 [(0, .ref mo), (1, .int (nI j))] := hl
  have hown : s.vm.findClass R_Mo = some m.cls := hown
  refine lv_aload_n hx hb d_Mo_fault_0 rfl (lv_at hl 0 rfl) ?_
  refine lv_iconst (v := nI 0) hx hb d_Mo_fault_1 (by decide) ?_
  refine va_put (D := (dC, dI)) (ci := 5) (v := .int (nI 0)) (ty := (.int)) (C := R_Mo) (T := T_Mo) (N := 16) hx hb hts uin_Mo t_Mo ok_Mo n_Mo hown hK hP hD hS 0 rfl rfl 15 (by decide) (hts _ wi_445) (fun _ h9 => h9) rfl (by decide +kernel) rfl rfl (Nat.le_of_ble_eq_true rfl) d_Mo_fault_2 (fun H locs hP hD hS => ?_)
  have hP : va_P (dC, dI) vwCl [(mo, .inr (5, [.ref mop, .ref mye, .ref mno, .ref mnu, .ref msz, .int (nI stk), .ref mre, .ref mce, .ref mco, .ref xc, .ref xa, .ref xm, .ref xv, .int (nI cnt), .int stp, .int (nI 0)])), (mop, .inl (cI, 320, .inl fo)), (mye, .inl (cI, 320, .inl fy)), (mno, .inl (cI, 320, .inl fn)), (mnu, .inl (cI, 320, .inl fk)), (msz, .inl (cI, 8, .inl zs)), (mco, .inl (cZ, 41, .inl cm))] H := hP
  have hD : va_D A [(mo, .inr (5, [.ref mop, .ref mye, .ref mno, .ref mnu, .ref msz, .int (nI stk), .ref mre, .ref mce, .ref mco, .ref xc, .ref xa, .ref xm, .ref xv, .int (nI cnt), .int stp, .int (nI 0)])), (mop, .inl (cI, 320, .inl fo)), (mye, .inl (cI, 320, .inl fy)), (mno, .inl (cI, 320, .inl fn)), (mnu, .inl (cI, 320, .inl fk)), (msz, .inl (cI, 8, .inl zs)), (mco, .inl (cZ, 41, .inl cm))] := hD
  refine lv_iload_n hx hb d_Mo_fault_5 rfl (lv_at hl 1 rfl) ?_
  refine lv_iconst (v := nI 0) hx hb d_Mo_fault_6 (by decide) ?_
  refine lv_iconst (v := nI 3) hx hb d_Mo_fault_7 (by decide) ?_
  refine fs_calli (wc := []) (wr := [(mo, .inr (5, [.ref mop, .ref mye, .ref mno, .ref mnu, .ref msz, .int (nI stk), .ref mre, .ref mce, .ref mco, .ref xc, .ref xa, .ref xm, .ref xv, .int (nI cnt), .int stp, .int (nI 0)])), (mop, .inl (cI, 320, .inl fo)), (mye, .inl (cI, 320, .inl fy)), (mno, .inl (cI, 320, .inl fn)), (mnu, .inl (cI, 320, .inl fk)), (msz, .inl (cI, 8, .inl zs)), (mco, .inl (cZ, 41, .inl cm))]) [] [0, 1, 2, 3, 4, 5, 6] hP hD hK hS hA rfl rfl rfl (by decide) (fun hPc hDc => va_runS (As := [.int (nI j), .int (nI 0), .int (nI 3)]) (rest := []) ⟨hx, hb, hml, hown, hts⟩ (c_Mo_within (nI j) (nI 0) (nI 3) (((j : Nat) : Int)) (((0 : Nat) : Int)) (((3 : Nat) : Int)) _ (nI_toInt (by omega)) (nI_toInt (by omega)) (nI_toInt (by omega))) (⟨callB_of 3 hts (fs_g kin_Mo_within) rfl rfl rfl (hts _ wi_6) (hts _ wi_488) (by decide +kernel) ⟨Nat.le_of_ble_eq_true rfl, Nat.le_of_ble_eq_true rfl⟩, hts _ wi_489⟩) (fs_preS hPc hK hDc) rfl rfl hl.1 rfl (lv_room (Nat.le_of_ble_eq_true rfl)) d_Mo_fault_8 ⟨Nat.le_of_ble_eq_true rfl, Nat.le_of_ble_eq_true rfl⟩) rfl (fun r8 _ H locs hp8 hP hD hS => ?_)
  have hP : va_P (dC, dI) vwCl [(mo, .inr (5, [.ref mop, .ref mye, .ref mno, .ref mnu, .ref msz, .int (nI stk), .ref mre, .ref mce, .ref mco, .ref xc, .ref xa, .ref xm, .ref xv, .int (nI cnt), .int stp, .int (nI 0)])), (mop, .inl (cI, 320, .inl fo)), (mye, .inl (cI, 320, .inl fy)), (mno, .inl (cI, 320, .inl fn)), (mnu, .inl (cI, 320, .inl fk)), (msz, .inl (cI, 8, .inl zs)), (mco, .inl (cZ, 41, .inl cm))] H := hP
  have hD : va_D A [(mo, .inr (5, [.ref mop, .ref mye, .ref mno, .ref mnu, .ref msz, .int (nI stk), .ref mre, .ref mce, .ref mco, .ref xc, .ref xa, .ref xm, .ref xv, .int (nI cnt), .int stp, .int (nI 0)])), (mop, .inl (cI, 320, .inl fo)), (mye, .inl (cI, 320, .inl fy)), (mno, .inl (cI, 320, .inl fn)), (mnu, .inl (cI, 320, .inl fk)), (msz, .inl (cI, 8, .inl zs)), (mco, .inl (cZ, 41, .inl cm))] := hD
  rcases hp8 with ⟨hc8, rfl⟩ | ⟨hc8, _⟩
  rotate_left
  · exact absurd (by omega) hc8
  refine lv_if_eq (tgt := 25) hx hb d_Mo_fault_11 (by decide) (fun hc => absurd hc (by decide)) (fun _ => ?_)
  refine lv_aload_n hx hb d_Mo_fault_14 rfl (lv_at hl 0 rfl) ?_
  refine lv_iload_n hx hb d_Mo_fault_15 rfl (lv_at hl 1 rfl) ?_
  refine fs_calli (wc := [(mo, .inr (5, [.ref mop, .ref mye, .ref mno, .ref mnu, .ref msz, .int (nI stk), .ref mre, .ref mce, .ref mco, .ref xc, .ref xa, .ref xm, .ref xv, .int (nI cnt), .int stp, .int (nI 0)])), (mop, .inl (cI, 320, .inl fo)), (mye, .inl (cI, 320, .inl fy)), (mno, .inl (cI, 320, .inl fn)), (mnu, .inl (cI, 320, .inl fk)), (msz, .inl (cI, 8, .inl zs)), (mco, .inl (cZ, 41, .inl cm))]) (wr := []) [0, 1, 2, 3, 4, 5, 6] [] hP hD hK hS hA rfl rfl rfl (by decide) (fun hPc hDc => va_runV (C := R_Mo) (As := [.int (nI j)]) (rest := []) ⟨hx, hb, hml, hown, hts⟩ (c_Mo_check mo mop mye mno mnu msz stk mre mce mco xc xa xm xv cnt stp (nI 0) fo fy fn fk zs cm L j _ (by omega) hzs hrep hok) (⟨callB_of 1 hts (fs_g kin_Mo_check) rfl rfl rfl (hts _ wi_6) (hts _ wi_519) (by decide +kernel) ⟨Nat.le_of_ble_eq_true rfl, Nat.le_of_ble_eq_true rfl⟩, hts _ wi_521, hts _ sel_Mo_check⟩) (fs_preV (q0 := 0) rfl rfl hPc hK hDc) rfl rfl hl.1 rfl (lv_room (Nat.le_of_ble_eq_true rfl)) d_Mo_fault_16 ⟨Nat.le_of_ble_eq_true rfl, Nat.le_of_ble_eq_true rfl⟩) rfl (fun r16 u16 H locs hp16 hP hD hS => ?_)
  have hP : va_P (dC, dI) vwCl [(mo, .inr (5, [.ref mop, .ref mye, .ref mno, .ref mnu, .ref msz, .int (nI stk), .ref mre, .ref mce, .ref mco, .ref xc, .ref xa, .ref xm, .ref xv, .int (nI cnt), .int stp, .int (nI 0)])), (mop, .inl (cI, 320, .inl fo)), (mye, .inl (cI, 320, .inl fy)), (mno, .inl (cI, 320, .inl fn)), (mnu, .inl (cI, 320, .inl fk)), (msz, .inl (cI, 8, .inl zs)), (mco, .inl (cZ, 41, .inl u16))] H := hP
  have hD : va_D A [(mo, .inr (5, [.ref mop, .ref mye, .ref mno, .ref mnu, .ref msz, .int (nI stk), .ref mre, .ref mce, .ref mco, .ref xc, .ref xa, .ref xm, .ref xv, .int (nI cnt), .int stp, .int (nI 0)])), (mop, .inl (cI, 320, .inl fo)), (mye, .inl (cI, 320, .inl fy)), (mno, .inl (cI, 320, .inl fn)), (mnu, .inl (cI, 320, .inl fk)), (msz, .inl (cI, 8, .inl zs)), (mco, .inl (cZ, 41, .inl u16))] := hD
  subst hp16
  have hchk := fx_chk_lt hok.1
  refine lv_bipush (v := nI 8) hx hb d_Mo_fault_19 (by decide) ?_
  refine lv_irem hx hb d_Mo_fault_21 (by decide) ?_
  refine fs_eqi (pk_rem (by omega) (by omega) (by omega)) ?_
  refine lv_goto (tgt := 26) hx hb d_Mo_fault_22 (by decide) ?_
  exact fs_iret hx hb hr hlocks hAe hK hS d_Mo_fault_26 u16 (rfl) hP hD

theorem d_Mo_place_0 : decode b_Mo_place 0 = .ok (.aload_n 0, 1) := by decide +kernel
theorem d_Mo_place_1 : decode b_Mo_place 1 = .ok (.iconst 0, 1) := by decide +kernel
theorem d_Mo_place_2 : decode b_Mo_place 2 = .ok (.putfield 47, 3) := by decide +kernel
theorem d_Mo_place_5 : decode b_Mo_place 5 = .ok (.iload_n 1, 1) := by decide +kernel
theorem d_Mo_place_6 : decode b_Mo_place 6 = .ok (.iconst 0, 1) := by decide +kernel
theorem d_Mo_place_7 : decode b_Mo_place 7 = .ok (.iconst 3, 1) := by decide +kernel
theorem d_Mo_place_8 : decode b_Mo_place 8 = .ok (.invokestatic 51, 3) := by decide +kernel
theorem d_Mo_place_11 : decode b_Mo_place 11 = .ok (.ifCond .ne 5, 3) := by decide +kernel
theorem d_Mo_place_14 : decode b_Mo_place 14 = .ok (.iconst (-1), 1) := by decide +kernel
theorem d_Mo_place_15 : decode b_Mo_place 15 = .ok (.ireturn, 1) := by decide +kernel
theorem d_Mo_place_16 : decode b_Mo_place 16 = .ok (.aload_n 0, 1) := by decide +kernel
theorem d_Mo_place_17 : decode b_Mo_place 17 = .ok (.iload_n 1, 1) := by decide +kernel
theorem d_Mo_place_18 : decode b_Mo_place 18 = .ok (.invokevirtual 69, 3) := by decide +kernel
theorem d_Mo_place_21 : decode b_Mo_place 21 = .ok (.istore_n 2, 1) := by decide +kernel
theorem d_Mo_place_22 : decode b_Mo_place 22 = .ok (.iload_n 2, 1) := by decide +kernel
theorem d_Mo_place_23 : decode b_Mo_place 23 = .ok (.ifCond .ne 7, 3) := by decide +kernel
theorem d_Mo_place_26 : decode b_Mo_place 26 = .ok (.iconst (-1), 1) := by decide +kernel
theorem d_Mo_place_27 : decode b_Mo_place 27 = .ok (.goto 7, 3) := by decide +kernel
theorem d_Mo_place_30 : decode b_Mo_place 30 = .ok (.iload_n 2, 1) := by decide +kernel
theorem d_Mo_place_31 : decode b_Mo_place 31 = .ok (.bipush 8, 2) := by decide +kernel
theorem d_Mo_place_33 : decode b_Mo_place 33 = .ok (.idiv, 1) := by decide +kernel
theorem d_Mo_place_34 : decode b_Mo_place 34 = .ok (.ireturn, 1) := by decide +kernel
set_option maxHeartbeats 4000000 in
set_option maxRecDepth 100000 in
theorem c_Mo_place (mo mop mye mno mnu msz stk mre mce mco xc xa xm xv cnt : Nat) (stp thr : Int32) (fo fy fn fk zs cm : Nat → Int32) (L : fx_Prg) (j : Nat) (sz : Nat) (hj : j < 4) (hzs : zs j = nI L.length) (hrep : fx_rep L (fun i => fo (40 * j + i)) (fun i => fy (40 * j + i)) (fun i => fn (40 * j + i)) (fun i => fk (40 * j + i))) (hok : fx_ok L) : fs_I l y_Mo_place (k_Mo_place :: fs_T) { frames := 3, cells := 0, slots := 0, locals := 72 } (dC, dI) vwCl (fs_tys cI cZ cJ cF) [.ref mo, .int (nI j)] [(mo, .inr (5, [.ref mop, .ref mye, .ref mno, .ref mnu, .ref msz, .int (nI stk), .ref mre, .ref mce, .ref mco, .ref xc, .ref xa, .ref xm, .ref xv, .int (nI cnt), .int stp, .int thr])), (mop, .inl (cI, 320, .inl fo)), (mye, .inl (cI, 320, .inl fy)), (mno, .inl (cI, 320, .inl fn)), (mnu, .inl (cI, 320, .inl fk)), (msz, .inl (cI, 8, .inl zs)), (mco, .inl (cZ, 41, .inl cm))] sz (S := Nat → Int32) (fun z _ => z = fx_plc L) (fun u => [(mo, .inr (5, [.ref mop, .ref mye, .ref mno, .ref mnu, .ref msz, .int (nI stk), .ref mre, .ref mce, .ref mco, .ref xc, .ref xa, .ref xm, .ref xv, .int (nI cnt), .int stp, .int (nI 0)])), (mop, .inl (cI, 320, .inl fo)), (mye, .inl (cI, 320, .inl fy)), (mno, .inl (cI, 320, .inl fn)), (mnu, .inl (cI, 320, .inl fk)), (msz, .inl (cI, 8, .inl zs)), (mco, .inl (cZ, 41, .inl u))]) 0 0 := by
  refine fs_head (by decide) (Nat.le_of_ble_eq_true rfl) ?_
  intro p e s m below meth c A ls hx hb hr hts hown hlocks hin hml hK hP hD hS hA hAe hsz hl
  have hl : lv_has ls 3 [(0, .ref mo), (1, .int (nI j))] := hl
  have hown : s.vm.findClass R_Mo = some m.cls := hown
  refine lv_aload_n hx hb d_Mo_place_0 rfl (lv_at hl 0 rfl) ?_
  refine lv_iconst (v := nI 0) hx hb d_Mo_place_1 (by decide) ?_
  refine va_put (D := (dC, dI)) (ci := 5) (v := .int (nI 0)) (ty := (.int)) (C := R_Mo) (T := T_Mo) (N := 16) hx hb hts uin_Mo t_Mo ok_Mo n_Mo hown hK hP hD hS 0 rfl rfl 15 (by decide) (hts _ wi_445) (fun _ h9 => h9) rfl (by decide +kernel) rfl rfl (Nat.le_of_ble_eq_true rfl) d_Mo_place_2 (fun H locs hP hD hS => ?_)
  have hP : va_P (dC, dI) vwCl [(mo, .inr (5, [.ref mop, .ref mye, .ref mno, .ref mnu, .ref msz, .int (nI stk), .ref mre, .ref mce, .ref mco, .ref xc, .ref xa, .ref xm, .ref xv, .int (nI cnt), .int stp, .int (nI 0)])), (mop, .inl (cI, 320, .inl fo)), (mye, .inl (cI, 320, .inl fy)), (mno, .inl (cI, 320, .inl fn)), (mnu, .inl (cI, 320, .inl fk)), (msz, .inl (cI, 8, .inl zs)), (mco, .inl (cZ, 41, .inl cm))] H := hP
  have hD : va_D A [(mo, .inr (5, [.ref mop, .ref mye, .ref mno, .ref mnu, .ref msz, .int (nI stk), .ref mre, .ref mce, .ref mco, .ref xc, .ref xa, .ref xm, .ref xv, .int (nI cnt), .int stp, .int (nI 0)])), (mop, .inl (cI, 320, .inl fo)), (mye, .inl (cI, 320, .inl fy)), (mno, .inl (cI, 320, .inl fn)), (mnu, .inl (cI, 320, .inl fk)), (msz, .inl (cI, 8, .inl zs)), (mco, .inl (cZ, 41, .inl cm))] := hD
  refine lv_iload_n hx hb d_Mo_place_5 rfl (lv_at hl 1 rfl) ?_
  refine lv_iconst (v := nI 0) hx hb d_Mo_place_6 (by decide) ?_
  refine lv_iconst (v := nI 3) hx hb d_Mo_place_7 (by decide) ?_
  refine fs_calli (wc := []) (wr := [(mo, .inr (5, [.ref mop, .ref mye, .ref mno, .ref mnu, .ref msz, .int (nI stk), .ref mre, .ref mce, .ref mco, .ref xc, .ref xa, .ref xm, .ref xv, .int (nI cnt), .int stp, .int (nI 0)])), (mop, .inl (cI, 320, .inl fo)), (mye, .inl (cI, 320, .inl fy)), (mno, .inl (cI, 320, .inl fn)), (mnu, .inl (cI, 320, .inl fk)), (msz, .inl (cI, 8, .inl zs)), (mco, .inl (cZ, 41, .inl cm))]) [] [0, 1, 2, 3, 4, 5, 6] hP hD hK hS hA rfl rfl rfl (by decide) (fun hPc hDc => va_runS (As := [.int (nI j), .int (nI 0), .int (nI 3)]) (rest := []) ⟨hx, hb, hml, hown, hts⟩ (c_Mo_within (nI j) (nI 0) (nI 3) (((j : Nat) : Int)) (((0 : Nat) : Int)) (((3 : Nat) : Int)) _ (nI_toInt (by omega)) (nI_toInt (by omega)) (nI_toInt (by omega))) (⟨callB_of 3 hts (fs_g kin_Mo_within) rfl rfl rfl (hts _ wi_6) (hts _ wi_488) (by decide +kernel) ⟨Nat.le_of_ble_eq_true rfl, Nat.le_of_ble_eq_true rfl⟩, hts _ wi_489⟩) (fs_preS hPc hK hDc) rfl rfl hl.1 rfl (lv_room (Nat.le_of_ble_eq_true rfl)) d_Mo_place_8 ⟨Nat.le_of_ble_eq_true rfl, Nat.le_of_ble_eq_true rfl⟩) rfl (fun r8 _ H locs hp8 hP hD hS => ?_)
  have hP : va_P (dC, dI) vwCl [(mo, .inr (5, [.ref mop, .ref mye, .ref mno, .ref mnu, .ref msz, .int (nI stk), .ref mre, .ref mce, .ref mco, .ref xc, .ref xa, .ref xm, .ref xv, .int (nI cnt), .int stp, .int (nI 0)])), (mop, .inl (cI, 320, .inl fo)), (mye, .inl (cI, 320, .inl fy)), (mno, .inl (cI, 320, .inl fn)), (mnu, .inl (cI, 320, .inl fk)), (msz, .inl (cI, 8, .inl zs)), (mco, .inl (cZ, 41, .inl cm))] H := hP
  have hD : va_D A [(mo, .inr (5, [.ref mop, .ref mye, .ref mno, .ref mnu, .ref msz, .int (nI stk), .ref mre, .ref mce, .ref mco, .ref xc, .ref xa, .ref xm, .ref xv, .int (nI cnt), .int stp, .int (nI 0)])), (mop, .inl (cI, 320, .inl fo)), (mye, .inl (cI, 320, .inl fy)), (mno, .inl (cI, 320, .inl fn)), (mnu, .inl (cI, 320, .inl fk)), (msz, .inl (cI, 8, .inl zs)), (mco, .inl (cZ, 41, .inl cm))] := hD
  rcases hp8 with ⟨hc8, rfl⟩ | ⟨hc8, _⟩
  rotate_left
  · exact absurd (by omega) hc8
  refine lv_if_ne (tgt := 16) hx hb d_Mo_place_11 (by decide) (fun _ => ?_) (fun hc => absurd hc (by decide))
  refine lv_aload_n hx hb d_Mo_place_16 rfl (lv_at hl 0 rfl) ?_
  refine lv_iload_n hx hb d_Mo_place_17 rfl (lv_at hl 1 rfl) ?_
  refine fs_calli (wc := [(mo, .inr (5, [.ref mop, .ref mye, .ref mno, .ref mnu, .ref msz, .int (nI stk), .ref mre, .ref mce, .ref mco, .ref xc, .ref xa, .ref xm, .ref xv, .int (nI cnt), .int stp, .int (nI 0)])), (mop, .inl (cI, 320, .inl fo)), (mye, .inl (cI, 320, .inl fy)), (mno, .inl (cI, 320, .inl fn)), (mnu, .inl (cI, 320, .inl fk)), (msz, .inl (cI, 8, .inl zs)), (mco, .inl (cZ, 41, .inl cm))]) (wr := []) [0, 1, 2, 3, 4, 5, 6] [] hP hD hK hS hA rfl rfl rfl (by decide) (fun hPc hDc => va_runV (C := R_Mo) (As := [.int (nI j)]) (rest := []) ⟨hx, hb, hml, hown, hts⟩ (c_Mo_check mo mop mye mno mnu msz stk mre mce mco xc xa xm xv cnt stp (nI 0) fo fy fn fk zs cm L j _ (by omega) hzs hrep hok) (⟨callB_of 1 hts (fs_g kin_Mo_check) rfl rfl rfl (hts _ wi_6) (hts _ wi_519) (by decide +kernel) ⟨Nat.le_of_ble_eq_true rfl, Nat.le_of_ble_eq_true rfl⟩, hts _ wi_521, hts _ sel_Mo_check⟩) (fs_preV (q0 := 0) rfl rfl hPc hK hDc) rfl rfl hl.1 rfl (lv_room (Nat.le_of_ble_eq_true rfl)) d_Mo_place_18 ⟨Nat.le_of_ble_eq_true rfl, Nat.le_of_ble_eq_true rfl⟩) rfl (fun r18 u18 H locs hp18 hP hD hS => ?_)
  have hP : va_P (dC, dI) vwCl [(mo, .inr (5, [.ref mop, .ref mye, .ref mno, .ref mnu, .ref msz, .int (nI stk), .ref mre, .ref mce, .ref mco, .ref xc, .ref xa, .ref xm, .ref xv, .int (nI cnt), .int stp, .int (nI 0)])), (mop, .inl (cI, 320, .inl fo)), (mye, .inl (cI, 320, .inl fy)), (mno, .inl (cI, 320, .inl fn)), (mnu, .inl (cI, 320, .inl fk)), (msz, .inl (cI, 8, .inl zs)), (mco, .inl (cZ, 41, .inl u18))] H := hP
  have hD : va_D A [(mo, .inr (5, [.ref mop, .ref mye, .ref mno, .ref mnu, .ref msz, .int (nI stk), .ref mre, .ref mce, .ref mco, .ref xc, .ref xa, .ref xm, .ref xv, .int (nI cnt), .int stp, .int (nI 0)])), (mop, .inl (cI, 320, .inl fo)), (mye, .inl (cI, 320, .inl fy)), (mno, .inl (cI, 320, .inl fn)), (mnu, .inl (cI, 320, .inl fk)), (msz, .inl (cI, 8, .inl zs)), (mco, .inl (cZ, 41, .inl u18))] := hD
  subst hp18
  have hchk := fx_chk_lt hok.1
  refine lv_istore_n hx hb d_Mo_place_21 rfl hl (by decide) (lv' := [(2, .int (nI (fx_chk L))), (0, .ref mo), (1, .int (nI j))]) rfl (fun ls hl => ?_)
  refine lv_iload_n hx hb d_Mo_place_22 rfl (lv_at hl 0 rfl) ?_
  refine lv_if_ne (tgt := 30) hx hb d_Mo_place_23 (by decide) (fun hc23 => ?_) (fun hc23 => ?_)
  · try rw [← nI_0] at hc23
    rw [nI_eq (by omega) (by omega)] at hc23
    refine lv_iload_n hx hb d_Mo_place_30 rfl (lv_at hl 0 rfl) ?_
    refine lv_bipush (v := nI 8) hx hb d_Mo_place_31 (by decide) ?_
    refine lv_idiv hx hb d_Mo_place_33 (by decide) ?_
    refine fs_eqi (pk_div (by omega) (by omega) (by omega)) ?_
    exact fs_iret hx hb hr hlocks hAe hK hS d_Mo_place_34 u18 (by unfold fx_plc; rw [if_neg (by omega)]) hP hD
  try rw [← nI_0] at hc23
  rw [nI_eq (by omega) (by omega)] at hc23
  refine lv_iconst (v := (-1)) hx hb d_Mo_place_26 (by decide) ?_
  refine lv_goto (tgt := 34) hx hb d_Mo_place_27 (by decide) ?_
  exact fs_iret hx hb hr hlocks hAe hK hS d_Mo_place_34 u18 (by unfold fx_plc; rw [if_pos (by omega)]) hP hD

set_option maxHeartbeats 4000000 in
set_option maxRecDepth 100000 in
theorem c_Mo_faultX (mo mop mye mno mnu msz stk mre mce mco xc xa xm xv cnt : Nat) (stp thr : Int32) (f : Int32) (sz : Nat) (hf : ∀ j, j < 4 → f ≠ nI j) : fs_I l y_Mo_fault (k_Mo_fault :: fs_T) { frames := 3, cells := 0, slots := 0, locals := 72 } (dC, dI) vwCl (fs_tys cI cZ cJ cF) [.ref mo, .int f] [(mo, .inr (5, [.ref mop, .ref mye, .ref mno, .ref mnu, .ref msz, .int (nI stk), .ref mre, .ref mce, .ref mco, .ref xc, .ref xa, .ref xm, .ref xv, .int (nI cnt), .int stp, .int thr]))] sz (S := Unit) (fun r _ => r = (-1)) (fun _ => [(mo, .inr (5, [.ref mop, .ref mye, .ref mno, .ref mnu, .ref msz, .int (nI stk), .ref mre, .ref mce, .ref mco, .ref xc, .ref xa, .ref xm, .ref xv, .int (nI cnt), .int stp, .int (nI 0)]))]) 0 0 := by
  refine fs_head (by decide) (Nat.le_of_ble_eq_true rfl) ?_
  intro p e s m below meth c A ls hx hb hr hts hown hlocks hin hml hK hP hD hS hA hAe hsz hl
  have hl : lv_has ls 2 [(0, .ref mo), (1, .int f)] := hl
  have hown : s.vm.findClass R_Mo = some m.cls := hown
  refine lv_aload_n hx hb d_Mo_fault_0 rfl (lv_at hl 0 rfl) ?_
  refine lv_iconst (v := nI 0) hx hb d_Mo_fault_1 (by decide) ?_
  refine va_put (D := (dC, dI)) (ci := 5) (v := .int (nI 0)) (ty := (.int)) (C := R_Mo) (T := T_Mo) (N := 16) hx hb hts uin_Mo t_Mo ok_Mo n_Mo hown hK hP hD hS 0 rfl rfl 15 (by decide) (hts _ wi_445) (fun _ h9 => h9) rfl (by decide +kernel) rfl rfl (Nat.le_of_ble_eq_true rfl) d_Mo_fault_2 (fun H locs hP hD hS => ?_)
  have hP : va_P (dC, dI) vwCl [(mo, .inr (5, [.ref mop, .ref mye, .ref mno, .ref mnu, .ref msz, .int (nI stk), .ref mre, .ref mce, .ref mco, .ref xc, .ref xa, .ref xm, .ref xv, .int (nI cnt), .int stp, .int (nI 0)]))] H := hP
  have hD : va_D A [(mo, .inr (5, [.ref mop, .ref mye, .ref mno, .ref mnu, .ref msz, .int (nI stk), .ref mre, .ref mce, .ref mco, .ref xc, .ref xa, .ref xm, .ref xv, .int (nI cnt), .int stp, .int (nI 0)]))] := hD
  refine lv_iload_n hx hb d_Mo_fault_5 rfl (lv_at hl 1 rfl) ?_
  refine lv_iconst (v := nI 0) hx hb d_Mo_fault_6 (by decide) ?_
  refine lv_iconst (v := nI 3) hx hb d_Mo_fault_7 (by decide) ?_
  refine fs_calli (wc := []) (wr := [(mo, .inr (5, [.ref mop, .ref mye, .ref mno, .ref mnu, .ref msz, .int (nI stk), .ref mre, .ref mce, .ref mco, .ref xc, .ref xa, .ref xm, .ref xv, .int (nI cnt), .int stp, .int (nI 0)]))]) [] [0] hP hD hK hS hA rfl rfl rfl (by decide) (fun hPc hDc => va_runS (As := [.int f, .int (nI 0), .int (nI 3)]) (rest := []) ⟨hx, hb, hml, hown, hts⟩ (c_Mo_within f (nI 0) (nI 3) (f.toInt) (((0 : Nat) : Int)) (((3 : Nat) : Int)) _ (rfl) (nI_toInt (by omega)) (nI_toInt (by omega))) (⟨callB_of 3 hts (fs_g kin_Mo_within) rfl rfl rfl (hts _ wi_6) (hts _ wi_488) (by decide +kernel) ⟨Nat.le_of_ble_eq_true rfl, Nat.le_of_ble_eq_true rfl⟩, hts _ wi_489⟩) (fs_preS hPc hK hDc) rfl rfl hl.1 rfl (lv_room (Nat.le_of_ble_eq_true rfl)) d_Mo_fault_8 ⟨Nat.le_of_ble_eq_true rfl, Nat.le_of_ble_eq_true rfl⟩) rfl (fun r8 _ H locs hp8 hP hD hS => ?_)
  have hP : va_P (dC, dI) vwCl [(mo, .inr (5, [.ref mop, .ref mye, .ref mno, .ref mnu, .ref msz, .int (nI stk), .ref mre, .ref mce, .ref mco, .ref xc, .ref xa, .ref xm, .ref xv, .int (nI cnt), .int stp, .int (nI 0)]))] H := hP
  have hD : va_D A [(mo, .inr (5, [.ref mop, .ref mye, .ref mno, .ref mnu, .ref msz, .int (nI stk), .ref mre, .ref mce, .ref mco, .ref xc, .ref xa, .ref xm, .ref xv, .int (nI cnt), .int stp, .int (nI 0)]))] := hD
  rcases hp8 with ⟨hc8, _⟩ | ⟨hc8, rfl⟩
  · obtain ⟨j, hj, e⟩ := fs_of (x := f) (n := 4) (by decide) (by omega) (by omega)
    exact absurd e (hf j hj)
  refine lv_if_eq (tgt := 25) hx hb d_Mo_fault_11 (by decide) (fun _ => ?_) (fun hc => absurd (by decide) hc)
  refine lv_iconst (v := (-1)) hx hb d_Mo_fault_25 (by decide) ?_
  exact fs_iret hx hb hr hlocks hAe hK hS d_Mo_fault_26 () (rfl) hP hD

set_option maxHeartbeats 4000000 in
set_option maxRecDepth 100000 in
theorem c_Mo_placeX (mo mop mye mno mnu msz stk mre mce mco xc xa xm xv cnt : Nat) (stp thr : Int32) (f : Int32) (sz : Nat) (hf : ∀ j, j < 4 → f ≠ nI j) : fs_I l y_Mo_place (k_Mo_place :: fs_T) { frames := 3, cells := 0, slots := 0, locals := 72 } (dC, dI) vwCl (fs_tys cI cZ cJ cF) [.ref mo, .int f] [(mo, .inr (5, [.ref mop, .ref mye, .ref mno, .ref mnu, .ref msz, .int (nI stk), .ref mre, .ref mce, .ref mco, .ref xc, .ref xa, .ref xm, .ref xv, .int (nI cnt), .int stp, .int thr]))] sz (S := Unit) (fun r _ => r = (-1)) (fun _ => [(mo, .inr (5, [.ref mop, .ref mye, .ref mno, .ref mnu, .ref msz, .int (nI stk), .ref mre, .ref mce, .ref mco, .ref xc, .ref xa, .ref xm, .ref xv, .int (nI cnt), .int stp, .int (nI 0)]))]) 0 0 := by
  refine fs_head (by decide) (Nat.le_of_ble_eq_true rfl) ?_
  intro p e s m below meth c A ls hx hb hr hts hown hlocks hin hml hK hP hD hS hA hAe hsz hl
  have hl : lv_has ls 3 [(0, .ref mo), (1, .int f)] := hl
  have hown : s.vm.findClass R_Mo = some m.cls := hown
  refine lv_aload_n hx hb d_Mo_place_0 rfl (lv_at hl 0 rfl) ?_
  refine lv_iconst (v := nI 0) hx hb d_Mo_place_1 (by decide) ?_
  refine va_put (D := (dC, dI)) (ci := 5) (v := .int (nI 0)) (ty := (.int)) (C := R_Mo) (T := T_Mo) (N := 16) hx hb hts uin_Mo t_Mo ok_Mo n_Mo hown hK hP hD hS 0 rfl rfl 15 (by decide) (hts _ wi_445) (fun _ h9 => h9) rfl (by decide +kernel) rfl rfl (Nat.le_of_ble_eq_true rfl) d_Mo_place_2 (fun H locs hP hD hS => ?_)
  have hP : va_P (dC, dI) vwCl [(mo, .inr (5, [.ref mop, .ref mye, .ref mno, .ref mnu, .ref msz, .int (nI stk), .ref mre, .ref mce, .ref mco, .ref xc, .ref xa, .ref xm, .ref xv, .int (nI cnt), .int stp, .int (nI 0)]))] H := hP
  have hD : va_D A [(mo, .inr (5, [.ref mop, .ref mye, .ref mno, .ref mnu, .ref msz, .int (nI stk), .ref mre, .ref mce, .ref mco, .ref xc, .ref xa, .ref xm, .ref xv, .int (nI cnt), .int stp, .int (nI 0)]))] := hD
  refine lv_iload_n hx hb d_Mo_place_5 rfl (lv_at hl 1 rfl) ?_
  refine lv_iconst (v := nI 0) hx hb d_Mo_place_6 (by decide) ?_
  refine lv_iconst (v := nI 3) hx hb d_Mo_place_7 (by decide) ?_
  refine fs_calli (wc := []) (wr := [(mo, .inr (5, [.ref mop, .ref mye, .ref mno, .ref mnu, .ref msz, .int (nI stk), .ref mre, .ref mce, .ref mco, .ref xc, .ref xa, .ref xm, .ref xv, .int (nI cnt), .int stp, .int (nI 0)]))]) [] [0] hP hD hK hS hA rfl rfl rfl (by decide) (fun hPc hDc => va_runS (As := [.int f, .int (nI 0), .int (nI 3)]) (rest := []) ⟨hx, hb, hml, hown, hts⟩ (c_Mo_within f (nI 0) (nI 3) (f.toInt) (((0 : Nat) : Int)) (((3 : Nat) : Int)) _ (rfl) (nI_toInt (by omega)) (nI_toInt (by omega))) (⟨callB_of 3 hts (fs_g kin_Mo_within) rfl rfl rfl (hts _ wi_6) (hts _ wi_488) (by decide +kernel) ⟨Nat.le_of_ble_eq_true rfl, Nat.le_of_ble_eq_true rfl⟩, hts _ wi_489⟩) (fs_preS hPc hK hDc) rfl rfl hl.1 rfl (lv_room (Nat.le_of_ble_eq_true rfl)) d_Mo_place_8 ⟨Nat.le_of_ble_eq_true rfl, Nat.le_of_ble_eq_true rfl⟩) rfl (fun r8 _ H locs hp8 hP hD hS => ?_)
  have hP : va_P (dC, dI) vwCl [(mo, .inr (5, [.ref mop, .ref mye, .ref mno, .ref mnu, .ref msz, .int (nI stk), .ref mre, .ref mce, .ref mco, .ref xc, .ref xa, .ref xm, .ref xv, .int (nI cnt), .int stp, .int (nI 0)]))] H := hP
  have hD : va_D A [(mo, .inr (5, [.ref mop, .ref mye, .ref mno, .ref mnu, .ref msz, .int (nI stk), .ref mre, .ref mce, .ref mco, .ref xc, .ref xa, .ref xm, .ref xv, .int (nI cnt), .int stp, .int (nI 0)]))] := hD
  rcases hp8 with ⟨hc8, _⟩ | ⟨hc8, rfl⟩
  · obtain ⟨j, hj, e⟩ := fs_of (x := f) (n := 4) (by decide) (by omega) (by omega)
    exact absurd e (hf j hj)
  refine lv_if_ne (tgt := 16) hx hb d_Mo_place_11 (by decide) (fun hc => absurd (by decide) hc) (fun _ => ?_)
  refine lv_iconst (v := (-1)) hx hb d_Mo_place_14 (by decide) ?_
  exact fs_iret hx hb hr hlocks hAe hK hS d_Mo_place_15 () (rfl) hP hD

end MO2
