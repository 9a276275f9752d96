section MO4
variable {l : Launch} {dC : Nat → ClassId} {dI : Nat → Nat → Nat} {cI cZ cJ cF : ClassId}
/-- only filter j's part of the rows was written -/
def fx_same (j : Nat) (fo fy fn fk zs fo' fy' fn' fk' zs' : Nat → Int32) : Prop := (∀ t, ¬ (40 * j ≤ t ∧ t < 40 * j + 40) → fo' t = fo t ∧ fy' t = fy t ∧ fn' t = fn t ∧ fk' t = fk t) ∧ ∀ f, f ≠ j → zs' f = zs f
theorem fx_same_rf (j : Nat) (fo fy fn fk zs : Nat → Int32) : fx_same j fo fy fn fk zs fo fy fn fk zs := ⟨fun _ _ => ⟨rfl, rfl, rfl, rfl⟩, fun _ _ => rfl⟩
theorem fx_same_z {j : Nat} {fo fy fn fk zs fo' fy' fn' fk' zs' : Nat → Int32} (h : fx_same j fo fy fn fk zs fo' fy' fn' fk' zs') (v : Int32) : fx_same j fo fy fn fk zs fo' fy' fn' fk' (upd zs' j v) := ⟨h.1, fun f hf => by rw [pk_un hf]; exact h.2 f hf⟩
theorem fx_same_put {j m : Nat} {fo fy fn fk zs fo' fy' fn' fk' zs' : Nat → Int32} (hm : m < 40) (v1 v2 v3 v4 v5 : Int32) (h : fx_same j fo fy fn fk zs fo' fy' fn' fk' zs') : fx_same j fo fy fn fk zs (upd fo' (40 * j + m) v1) (upd fy' (40 * j + m) v2) (upd fn' (40 * j + m) v3) (upd fk' (40 * j + m) v4) (upd zs' j v5) := by
  refine ⟨fun t ht => ?_, fun f hf => ?_⟩
  · have e : t ≠ 40 * j + m := fun e => ht (by omega)
    rw [pk_un e, pk_un e, pk_un e, pk_un e]
    exact h.1 t ht
  · rw [pk_un hf]
    exact h.2 f hf
theorem fx_sh (fo : Nat → Int32) (j m : Nat) (v : Int32) : (fun i => upd fo (40 * j + m) v (40 * j + i)) = upd (fun i => fo (40 * j + i)) m v := by
  funext i
  unfold upd
  by_cases e : i = m
  · rw [if_pos e, if_pos (by omega)]
  · rw [if_neg e, if_neg (by omega)]
theorem fx_rep_put {L : fx_Prg} {fo fy fn fk : Nat → Int32} {j m o y n : Nat} {k vo vy vn : Int32} (hm : m = L.length) (ho : vo = nI o) (hy : vy = nI y) (hn : vn = nI n) (h : fx_rep L (fun i => fo (40 * j + i)) (fun i => fy (40 * j + i)) (fun i => fn (40 * j + i)) (fun i => fk (40 * j + i))) : fx_rep (L ++ [(o, y, n, k)]) (fun i => upd fo (40 * j + m) vo (40 * j + i)) (fun i => upd fy (40 * j + m) vy (40 * j + i)) (fun i => upd fn (40 * j + m) vn (40 * j + i)) (fun i => upd fk (40 * j + m) k (40 * j + i)) := by
  rw [fx_sh, fx_sh, fx_sh, fx_sh]
  exact fx_rep_app hm ho hy hn h
theorem fx_rep_same {L : fx_Prg} {fo fy fn fk zs fo' fy' fn' fk' zs' : Nat → Int32} {j f : Nat} (hs : fx_same j fo fy fn fk zs fo' fy' fn' fk' zs') (hf : f ≠ j) (hl : L.length ≤ 40) (h : fx_rep L (fun i => fo (40 * f + i)) (fun i => fy (40 * f + i)) (fun i => fn (40 * f + i)) (fun i => fk (40 * f + i))) : fx_rep L (fun i => fo' (40 * f + i)) (fun i => fy' (40 * f + i)) (fun i => fn' (40 * f + i)) (fun i => fk' (40 * f + i)) := by
  intro i hi
  obtain ⟨e1, e2, e3, e4⟩ := hs.1 (40 * f + i) (by omega)
  obtain ⟨h1, h2, h3, h4⟩ := h i hi
  exact ⟨e1.trans h1, e2.trans h2, e3.trans h3, e4.trans h4⟩
theorem fx_len3 {v : Int32} (h : ¬ 0 ≤ v.toInt) (h1 : -1 ≤ v.toInt) : v = -1 := by
  rw [← Int32.toInt_inj, show ((-1) : Int32).toInt = -1 from by decide]
  omega
theorem fx_len6 {v : Int32} (h : 0 ≤ v.toInt) : ¬ v = -1 := by
  intro e
  rw [e, show ((-1) : Int32).toInt = -1 from by decide] at h
  omega
theorem fx_take1 {L : fx_Prg} {i : Nat} (hi : i < L.length) : L.take (i + 1) = L.take i ++ [(fx_O L i, fx_Y L i, fx_N L i, fx_K L i)] := by
  rw [List.take_succ, List.getElem?_eq_getElem hi]
  have e : L.getD i (0, 0, 0, 0) = L[i] := by simp [List.getD_eq_getElem?_getD, hi]
  unfold fx_O fx_Y fx_N fx_K
  rw [e]
  rfl
theorem d_Mo_compile_0 : decode b_Mo_compile 0 = .ok (.aload_n 0, 1) := by decide +kernel
theorem d_Mo_compile_1 : decode b_Mo_compile 1 = .ok (.iconst 0, 1) := by decide +kernel
theorem d_Mo_compile_2 : decode b_Mo_compile 2 = .ok (.putfield 47, 3) := by decide +kernel
theorem d_Mo_compile_5 : decode b_Mo_compile 5 = .ok (.iload_n 1, 1) := by decide +kernel
theorem d_Mo_compile_6 : decode b_Mo_compile 6 = .ok (.iconst 0, 1) := by decide +kernel
theorem d_Mo_compile_7 : decode b_Mo_compile 7 = .ok (.iconst 3, 1) := by decide +kernel
theorem d_Mo_compile_8 : decode b_Mo_compile 8 = .ok (.invokestatic 51, 3) := by decide +kernel
theorem d_Mo_compile_11 : decode b_Mo_compile 11 = .ok (.ifCond .ne 5, 3) := by decide +kernel
theorem d_Mo_compile_14 : decode b_Mo_compile 14 = .ok (.iconst (-1), 1) := by decide +kernel
theorem d_Mo_compile_15 : decode b_Mo_compile 15 = .ok (.ireturn, 1) := by decide +kernel
theorem d_Mo_compile_16 : decode b_Mo_compile 16 = .ok (.iconst 1, 1) := by decide +kernel
theorem d_Mo_compile_17 : decode b_Mo_compile 17 = .ok (.istore_n 3, 1) := by decide +kernel
theorem d_Mo_compile_18 : decode b_Mo_compile 18 = .ok (.iconst 0, 1) := by decide +kernel
theorem d_Mo_compile_19 : decode b_Mo_compile 19 = .ok (.istore 4, 2) := by decide +kernel
theorem d_Mo_compile_21 : decode b_Mo_compile 21 = .ok (.iload 4, 2) := by decide +kernel
theorem d_Mo_compile_23 : decode b_Mo_compile 23 = .ok (.aload_n 0, 1) := by decide +kernel
theorem d_Mo_compile_24 : decode b_Mo_compile 24 = .ok (.getfield 93, 3) := by decide +kernel
theorem d_Mo_compile_27 : decode b_Mo_compile 27 = .ok (.if_icmp .ge 28, 3) := by decide +kernel
theorem d_Mo_compile_30 : decode b_Mo_compile 30 = .ok (.iload_n 3, 1) := by decide +kernel
theorem d_Mo_compile_31 : decode b_Mo_compile 31 = .ok (.aload_n 0, 1) := by decide +kernel
theorem d_Mo_compile_32 : decode b_Mo_compile 32 = .ok (.getfield 38, 3) := by decide +kernel
theorem d_Mo_compile_35 : decode b_Mo_compile 35 = .ok (.iload 4, 2) := by decide +kernel
theorem d_Mo_compile_37 : decode b_Mo_compile 37 = .ok (.iaload, 1) := by decide +kernel
theorem d_Mo_compile_38 : decode b_Mo_compile 38 = .ok (.ifCond .ge 7, 3) := by decide +kernel
theorem d_Mo_compile_41 : decode b_Mo_compile 41 = .ok (.iconst 3, 1) := by decide +kernel
theorem d_Mo_compile_42 : decode b_Mo_compile 42 = .ok (.goto 5, 3) := by decide +kernel
theorem d_Mo_compile_45 : decode b_Mo_compile 45 = .ok (.bipush 6, 2) := by decide +kernel
theorem d_Mo_compile_47 : decode b_Mo_compile 47 = .ok (.iadd, 1) := by decide +kernel
theorem d_Mo_compile_48 : decode b_Mo_compile 48 = .ok (.istore_n 3, 1) := by decide +kernel
theorem d_Mo_compile_49 : decode b_Mo_compile 49 = .ok (.iinc 4 1, 3) := by decide +kernel
theorem d_Mo_compile_52 : decode b_Mo_compile 52 = .ok (.goto (-31), 3) := by decide +kernel
theorem d_Mo_compile_55 : decode b_Mo_compile 55 = .ok (.iload_n 3, 1) := by decide +kernel
theorem d_Mo_compile_56 : decode b_Mo_compile 56 = .ok (.bipush 40, 2) := by decide +kernel
theorem d_Mo_compile_58 : decode b_Mo_compile 58 = .ok (.if_icmp .le 6, 3) := by decide +kernel
theorem d_Mo_compile_61 : decode b_Mo_compile 61 = .ok (.bipush (-2), 2) := by decide +kernel
theorem d_Mo_compile_63 : decode b_Mo_compile 63 = .ok (.ireturn, 1) := by decide +kernel
theorem d_Mo_compile_64 : decode b_Mo_compile 64 = .ok (.aload_n 0, 1) := by decide +kernel
theorem d_Mo_compile_65 : decode b_Mo_compile 65 = .ok (.getfield 22, 3) := by decide +kernel
theorem d_Mo_compile_68 : decode b_Mo_compile 68 = .ok (.iload_n 1, 1) := by decide +kernel
theorem d_Mo_compile_69 : decode b_Mo_compile 69 = .ok (.iconst 0, 1) := by decide +kernel
theorem d_Mo_compile_70 : decode b_Mo_compile 70 = .ok (.iastore, 1) := by decide +kernel
theorem d_Mo_compile_71 : decode b_Mo_compile 71 = .ok (.iconst 0, 1) := by decide +kernel
theorem d_Mo_compile_72 : decode b_Mo_compile 72 = .ok (.istore 4, 2) := by decide +kernel
theorem d_Mo_compile_74 : decode b_Mo_compile 74 = .ok (.iload 4, 2) := by decide +kernel
theorem d_Mo_compile_76 : decode b_Mo_compile 76 = .ok (.aload_n 0, 1) := by decide +kernel
theorem d_Mo_compile_77 : decode b_Mo_compile 77 = .ok (.getfield 93, 3) := by decide +kernel
theorem d_Mo_compile_80 : decode b_Mo_compile 80 = .ok (.if_icmp .ge 125, 3) := by decide +kernel
theorem d_Mo_compile_83 : decode b_Mo_compile 83 = .ok (.aload_n 0, 1) := by decide +kernel
theorem d_Mo_compile_84 : decode b_Mo_compile 84 = .ok (.getfield 38, 3) := by decide +kernel
theorem d_Mo_compile_87 : decode b_Mo_compile 87 = .ok (.iload 4, 2) := by decide +kernel
theorem d_Mo_compile_89 : decode b_Mo_compile 89 = .ok (.iaload, 1) := by decide +kernel
theorem d_Mo_compile_90 : decode b_Mo_compile 90 = .ok (.ifCond .lt 7, 3) := by decide +kernel
theorem d_Mo_compile_93 : decode b_Mo_compile 93 = .ok (.iconst 1, 1) := by decide +kernel
theorem d_Mo_compile_94 : decode b_Mo_compile 94 = .ok (.goto 4, 3) := by decide +kernel
theorem d_Mo_compile_97 : decode b_Mo_compile 97 = .ok (.iconst 0, 1) := by decide +kernel
theorem d_Mo_compile_98 : decode b_Mo_compile 98 = .ok (.istore 5, 2) := by decide +kernel
theorem d_Mo_compile_100 : decode b_Mo_compile 100 = .ok (.aload_n 0, 1) := by decide +kernel
theorem d_Mo_compile_101 : decode b_Mo_compile 101 = .ok (.iload_n 1, 1) := by decide +kernel
theorem d_Mo_compile_102 : decode b_Mo_compile 102 = .ok (.iconst 0, 1) := by decide +kernel
theorem d_Mo_compile_103 : decode b_Mo_compile 103 = .ok (.iconst 0, 1) := by decide +kernel
theorem d_Mo_compile_104 : decode b_Mo_compile 104 = .ok (.iconst 0, 1) := by decide +kernel
theorem d_Mo_compile_105 : decode b_Mo_compile 105 = .ok (.iconst 0, 1) := by decide +kernel
theorem d_Mo_compile_106 : decode b_Mo_compile 106 = .ok (.invokevirtual 55, 3) := by decide +kernel
theorem d_Mo_compile_109 : decode b_Mo_compile 109 = .ok (.aload_n 0, 1) := by decide +kernel
theorem d_Mo_compile_110 : decode b_Mo_compile 110 = .ok (.iload_n 1, 1) := by decide +kernel
theorem d_Mo_compile_111 : decode b_Mo_compile 111 = .ok (.bipush 26, 2) := by decide +kernel
theorem d_Mo_compile_113 : decode b_Mo_compile 113 = .ok (.iconst 0, 1) := by decide +kernel
theorem d_Mo_compile_114 : decode b_Mo_compile 114 = .ok (.iload 5, 2) := by decide +kernel
theorem d_Mo_compile_116 : decode b_Mo_compile 116 = .ok (.ifCond .eq 7, 3) := by decide +kernel
theorem d_Mo_compile_119 : decode b_Mo_compile 119 = .ok (.iconst 4, 1) := by decide +kernel
theorem d_Mo_compile_120 : decode b_Mo_compile 120 = .ok (.goto 4, 3) := by decide +kernel
theorem d_Mo_compile_123 : decode b_Mo_compile 123 = .ok (.iconst 1, 1) := by decide +kernel
theorem d_Mo_compile_124 : decode b_Mo_compile 124 = .ok (.aload_n 0, 1) := by decide +kernel
theorem d_Mo_compile_125 : decode b_Mo_compile 125 = .ok (.getfield 35, 3) := by decide +kernel
theorem d_Mo_compile_128 : decode b_Mo_compile 128 = .ok (.iload 4, 2) := by decide +kernel
theorem d_Mo_compile_130 : decode b_Mo_compile 130 = .ok (.iaload, 1) := by decide +kernel
theorem d_Mo_compile_131 : decode b_Mo_compile 131 = .ok (.invokevirtual 55, 3) := by decide +kernel
theorem d_Mo_compile_134 : decode b_Mo_compile 134 = .ok (.iload 5, 2) := by decide +kernel
theorem d_Mo_compile_136 : decode b_Mo_compile 136 = .ok (.ifCond .eq 52, 3) := by decide +kernel
theorem d_Mo_compile_139 : decode b_Mo_compile 139 = .ok (.aload_n 0, 1) := by decide +kernel
theorem d_Mo_compile_140 : decode b_Mo_compile 140 = .ok (.iload_n 1, 1) := by decide +kernel
theorem d_Mo_compile_141 : decode b_Mo_compile 141 = .ok (.iconst 0, 1) := by decide +kernel
theorem d_Mo_compile_142 : decode b_Mo_compile 142 = .ok (.iconst 0, 1) := by decide +kernel
theorem d_Mo_compile_143 : decode b_Mo_compile 143 = .ok (.iconst 0, 1) := by decide +kernel
theorem d_Mo_compile_144 : decode b_Mo_compile 144 = .ok (.iconst 4, 1) := by decide +kernel
theorem d_Mo_compile_145 : decode b_Mo_compile 145 = .ok (.aload_n 0, 1) := by decide +kernel
theorem d_Mo_compile_146 : decode b_Mo_compile 146 = .ok (.getfield 38, 3) := by decide +kernel
theorem d_Mo_compile_149 : decode b_Mo_compile 149 = .ok (.iload 4, 2) := by decide +kernel
theorem d_Mo_compile_151 : decode b_Mo_compile 151 = .ok (.iaload, 1) := by decide +kernel
theorem d_Mo_compile_152 : decode b_Mo_compile 152 = .ok (.iadd, 1) := by decide +kernel
theorem d_Mo_compile_153 : decode b_Mo_compile 153 = .ok (.invokevirtual 55, 3) := by decide +kernel
theorem d_Mo_compile_156 : decode b_Mo_compile 156 = .ok (.aload_n 0, 1) := by decide +kernel
theorem d_Mo_compile_157 : decode b_Mo_compile 157 = .ok (.iload_n 1, 1) := by decide +kernel
theorem d_Mo_compile_158 : decode b_Mo_compile 158 = .ok (.bipush 14, 2) := by decide +kernel
theorem d_Mo_compile_160 : decode b_Mo_compile 160 = .ok (.iconst 0, 1) := by decide +kernel
theorem d_Mo_compile_161 : decode b_Mo_compile 161 = .ok (.iconst 0, 1) := by decide +kernel
theorem d_Mo_compile_162 : decode b_Mo_compile 162 = .ok (.aload_n 0, 1) := by decide +kernel
theorem d_Mo_compile_163 : decode b_Mo_compile 163 = .ok (.getfield 41, 3) := by decide +kernel
theorem d_Mo_compile_166 : decode b_Mo_compile 166 = .ok (.iload 4, 2) := by decide +kernel
theorem d_Mo_compile_168 : decode b_Mo_compile 168 = .ok (.iaload, 1) := by decide +kernel
theorem d_Mo_compile_169 : decode b_Mo_compile 169 = .ok (.invokevirtual 55, 3) := by decide +kernel
theorem d_Mo_compile_172 : decode b_Mo_compile 172 = .ok (.aload_n 0, 1) := by decide +kernel
theorem d_Mo_compile_173 : decode b_Mo_compile 173 = .ok (.iload_n 1, 1) := by decide +kernel
theorem d_Mo_compile_174 : decode b_Mo_compile 174 = .ok (.bipush 26, 2) := by decide +kernel
theorem d_Mo_compile_176 : decode b_Mo_compile 176 = .ok (.iconst 0, 1) := by decide +kernel
theorem d_Mo_compile_177 : decode b_Mo_compile 177 = .ok (.iconst 1, 1) := by decide +kernel
theorem d_Mo_compile_178 : decode b_Mo_compile 178 = .ok (.aload_n 0, 1) := by decide +kernel
theorem d_Mo_compile_179 : decode b_Mo_compile 179 = .ok (.getfield 44, 3) := by decide +kernel
theorem d_Mo_compile_182 : decode b_Mo_compile 182 = .ok (.iload 4, 2) := by decide +kernel
theorem d_Mo_compile_184 : decode b_Mo_compile 184 = .ok (.iaload, 1) := by decide +kernel
theorem d_Mo_compile_185 : decode b_Mo_compile 185 = .ok (.invokevirtual 55, 3) := by decide +kernel
theorem d_Mo_compile_188 : decode b_Mo_compile 188 = .ok (.aload_n 0, 1) := by decide +kernel
theorem d_Mo_compile_189 : decode b_Mo_compile 189 = .ok (.iload_n 1, 1) := by decide +kernel
theorem d_Mo_compile_190 : decode b_Mo_compile 190 = .ok (.bipush 31, 2) := by decide +kernel
theorem d_Mo_compile_192 : decode b_Mo_compile 192 = .ok (.iconst 0, 1) := by decide +kernel
theorem d_Mo_compile_193 : decode b_Mo_compile 193 = .ok (.iconst 0, 1) := by decide +kernel
theorem d_Mo_compile_194 : decode b_Mo_compile 194 = .ok (.ldc 96, 2) := by decide +kernel
theorem d_Mo_compile_196 : decode b_Mo_compile 196 = .ok (.invokevirtual 55, 3) := by decide +kernel
theorem d_Mo_compile_199 : decode b_Mo_compile 199 = .ok (.iinc 4 1, 3) := by decide +kernel
theorem d_Mo_compile_202 : decode b_Mo_compile 202 = .ok (.goto (-128), 3) := by decide +kernel
theorem d_Mo_compile_205 : decode b_Mo_compile 205 = .ok (.aload_n 0, 1) := by decide +kernel
theorem d_Mo_compile_206 : decode b_Mo_compile 206 = .ok (.iload_n 1, 1) := by decide +kernel
theorem d_Mo_compile_207 : decode b_Mo_compile 207 = .ok (.bipush 31, 2) := by decide +kernel
theorem d_Mo_compile_209 : decode b_Mo_compile 209 = .ok (.iconst 0, 1) := by decide +kernel
theorem d_Mo_compile_210 : decode b_Mo_compile 210 = .ok (.iconst 0, 1) := by decide +kernel
theorem d_Mo_compile_211 : decode b_Mo_compile 211 = .ok (.iload_n 2, 1) := by decide +kernel
theorem d_Mo_compile_212 : decode b_Mo_compile 212 = .ok (.invokevirtual 55, 3) := by decide +kernel
theorem d_Mo_compile_215 : decode b_Mo_compile 215 = .ok (.iload_n 3, 1) := by decide +kernel
theorem d_Mo_compile_216 : decode b_Mo_compile 216 = .ok (.ireturn, 1) := by decide +kernel
set_option maxHeartbeats 4000000 in
set_option maxRecDepth 100000 in
theorem c_Mo_compile (mo mop mye mno mnu msz stk mre mce mco xc xa xm xv cnt : Nat) (stp thr : Int32) (fo fy fn fk zs : Nat → Int32) (gc ga gm gv : Nat → Int32) (rs : List fx_Rule) (j : Nat) (v : Int32) (sz : Nat) (hj : j < 4) (hcnt : cnt = rs.length) (hc8 : cnt ≤ 8) (hrr : fx_rrep rs gc ga gm gv) (harg : ∀ r, r < cnt → -1 ≤ (ga r).toInt) (htot : (rs.flatMap fx_one).length ≤ 39) : fs_I l y_Mo_compile (k_Mo_compile :: fs_T) { frames := 1, cells := 0, slots := 0, locals := 26 } (dC, dI) vwCl (fs_tys cI cZ cJ cF) [.ref mo, .int (nI j), .int v] [(mo, .inr (5, [.ref mop, .ref mye, .ref mno, .ref mnu, .ref msz, .int (nI stk), .ref mre, .ref mce, .ref mco, .ref xc, .ref xa, .ref xm, .ref xv, .int (nI cnt), .int stp, .int thr])), (mop, .inl (cI, 320, .inl fo)), (mye, .inl (cI, 320, .inl fy)), (mno, .inl (cI, 320, .inl fn)), (mnu, .inl (cI, 320, .inl fk)), (msz, .inl (cI, 8, .inl zs)), (xc, .inl (cI, 8, .inl gc)), (xa, .inl (cI, 8, .inl ga)), (xm, .inl (cI, 8, .inl gm)), (xv, .inl (cI, 8, .inl gv))] sz (S := (Nat → Int32) × (Nat → Int32) × (Nat → Int32) × (Nat → Int32) × (Nat → Int32)) (fun z u => z = nI (fx_cmp rs v).length ∧ u.2.2.2.2 j = nI (fx_cmp rs v).length ∧ fx_rep (fx_cmp rs v) (fun i => u.1 (40 * j + i)) (fun i => u.2.1 (40 * j + i)) (fun i => u.2.2.1 (40 * j + i)) (fun i => u.2.2.2.1 (40 * j + i)) ∧ fx_same j fo fy fn fk zs u.1 u.2.1 u.2.2.1 u.2.2.2.1 u.2.2.2.2) (fun u => [(mo, .inr (5, [.ref mop, .ref mye, .ref mno, .ref mnu, .ref msz, .int (nI stk), .ref mre, .ref mce, .ref mco, .ref xc, .ref xa, .ref xm, .ref xv, .int (nI cnt), .int stp, .int (nI 0)])), (mop, .inl (cI, 320, .inl u.1)), (mye, .inl (cI, 320, .inl u.2.1)), (mno, .inl (cI, 320, .inl u.2.2.1)), (mnu, .inl (cI, 320, .inl u.2.2.2.1)), (msz, .inl (cI, 8, .inl u.2.2.2.2)), (xc, .inl (cI, 8, .inl gc)), (xa, .inl (cI, 8, .inl ga)), (xm, .inl (cI, 8, .inl gm)), (xv, .inl (cI, 8, .inl gv))]) 0 0 := by
  refine fs_head (by decide) (Nat.le_of_ble_eq_true rfl) ?_
  intro p e s m below meth c A ls hx hb hr hts hown hlocks hin hml hK hP hD hS hA hAe hsz hl
  have hl : lv_has ls 6 [(0, .ref mo), (1, .int (nI j)), (2, .int v)] := hl
  have hown : s.vm.findClass R_Mo = some m.cls := hown
  refine lv_aload_n hx hb d_Mo_compile_0 rfl (lv_at hl 0 rfl) ?_
  refine lv_iconst (v := nI 0) hx hb d_Mo_compile_1 (by decide) ?_
  refine va_put (D := (dC, dI)) (ci := 5) (v := .int (nI 0)) (ty := (.int)) (C := R_Mo) (T := T_Mo) (N := 16) hx hb hts uin_Mo t_Mo ok_Mo n_Mo hown hK hP hD hS 0 rfl rfl 15 (by decide) (hts _ wi_445) (fun _ h9 => h9) rfl (by decide +kernel) rfl rfl (Nat.le_of_ble_eq_true rfl) d_Mo_compile_2 (fun H locs hP hD hS => ?_)
  have hP : va_P (dC, dI) vwCl [(mo, .inr (5, [.ref mop, .ref mye, .ref mno, .ref mnu, .ref msz, .int (nI stk), .ref mre, .ref mce, .ref mco, .ref xc, .ref xa, .ref xm, .ref xv, .int (nI cnt), .int stp, .int (nI 0)])), (mop, .inl (cI, 320, .inl fo)), (mye, .inl (cI, 320, .inl fy)), (mno, .inl (cI, 320, .inl fn)), (mnu, .inl (cI, 320, .inl fk)), (msz, .inl (cI, 8, .inl zs)), (xc, .inl (cI, 8, .inl gc)), (xa, .inl (cI, 8, .inl ga)), (xm, .inl (cI, 8, .inl gm)), (xv, .inl (cI, 8, .inl gv))] H := hP
  have hD : va_D A [(mo, .inr (5, [.ref mop, .ref mye, .ref mno, .ref mnu, .ref msz, .int (nI stk), .ref mre, .ref mce, .ref mco, .ref xc, .ref xa, .ref xm, .ref xv, .int (nI cnt), .int stp, .int (nI 0)])), (mop, .inl (cI, 320, .inl fo)), (mye, .inl (cI, 320, .inl fy)), (mno, .inl (cI, 320, .inl fn)), (mnu, .inl (cI, 320, .inl fk)), (msz, .inl (cI, 8, .inl zs)), (xc, .inl (cI, 8, .inl gc)), (xa, .inl (cI, 8, .inl ga)), (xm, .inl (cI, 8, .inl gm)), (xv, .inl (cI, 8, .inl gv))] := hD
  refine lv_iload_n hx hb d_Mo_compile_5 rfl (lv_at hl 1 rfl) ?_
  refine lv_iconst (v := nI 0) hx hb d_Mo_compile_6 (by decide) ?_
  refine lv_iconst (v := nI 3) hx hb d_Mo_compile_7 (by decide) ?_
  refine fs_calli (wc := []) (wr := [(mo, .inr (5, [.ref mop, .ref mye, .ref mno, .ref mnu, .ref msz, .int (nI stk), .ref mre, .ref mce, .ref mco, .ref xc, .ref xa, .ref xm, .ref xv, .int (nI cnt), .int stp, .int (nI 0)])), (mop, .inl (cI, 320, .inl fo)), (mye, .inl (cI, 320, .inl fy)), (mno, .inl (cI, 320, .inl fn)), (mnu, .inl (cI, 320, .inl fk)), (msz, .inl (cI, 8, .inl zs)), (xc, .inl (cI, 8, .inl gc)), (xa, .inl (cI, 8, .inl ga)), (xm, .inl (cI, 8, .inl gm)), (xv, .inl (cI, 8, .inl gv))]) [] [0, 1, 2, 3, 4, 5, 6, 7, 8, 9] hP hD hK hS hA rfl rfl rfl (by decide) (fun hPc hDc => va_runS (As := [.int (nI j), .int (nI 0), .int (nI 3)]) (rest := []) ⟨hx, hb, hml, hown, hts⟩ (c_Mo_within (nI j) (nI 0) (nI 3) (((j : Nat) : Int)) (((0 : Nat) : Int)) (((3 : Nat) : Int)) _ (nI_toInt (by omega)) (nI_toInt (by omega)) (nI_toInt (by omega))) (⟨callB_of 3 hts (fs_g kin_Mo_within) rfl rfl rfl (hts _ wi_6) (hts _ wi_488) (by decide +kernel) ⟨Nat.le_of_ble_eq_true rfl, Nat.le_of_ble_eq_true rfl⟩, hts _ wi_489⟩) (fs_preS hPc hK hDc) rfl rfl hl.1 rfl (lv_room (Nat.le_of_ble_eq_true rfl)) d_Mo_compile_8 ⟨Nat.le_of_ble_eq_true rfl, Nat.le_of_ble_eq_true rfl⟩) rfl (fun r8 _ H locs hp8 hP hD hS => ?_)
  have hP : va_P (dC, dI) vwCl [(mo, .inr (5, [.ref mop, .ref mye, .ref mno, .ref mnu, .ref msz, .int (nI stk), .ref mre, .ref mce, .ref mco, .ref xc, .ref xa, .ref xm, .ref xv, .int (nI cnt), .int stp, .int (nI 0)])), (mop, .inl (cI, 320, .inl fo)), (mye, .inl (cI, 320, .inl fy)), (mno, .inl (cI, 320, .inl fn)), (mnu, .inl (cI, 320, .inl fk)), (msz, .inl (cI, 8, .inl zs)), (xc, .inl (cI, 8, .inl gc)), (xa, .inl (cI, 8, .inl ga)), (xm, .inl (cI, 8, .inl gm)), (xv, .inl (cI, 8, .inl gv))] H := hP
  have hD : va_D A [(mo, .inr (5, [.ref mop, .ref mye, .ref mno, .ref mnu, .ref msz, .int (nI stk), .ref mre, .ref mce, .ref mco, .ref xc, .ref xa, .ref xm, .ref xv, .int (nI cnt), .int stp, .int (nI 0)])), (mop, .inl (cI, 320, .inl fo)), (mye, .inl (cI, 320, .inl fy)), (mno, .inl (cI, 320, .inl fn)), (mnu, .inl (cI, 320, .inl fk)), (msz, .inl (cI, 8, .inl zs)), (xc, .inl (cI, 8, .inl gc)), (xa, .inl (cI, 8, .inl ga)), (xm, .inl (cI, 8, .inl gm)), (xv, .inl (cI, 8, .inl gv))] := hD
  rcases hp8 with ⟨hc8, rfl⟩ | ⟨hc8, _⟩
  rotate_left
  · exact absurd (by omega) hc8
  refine lv_if_ne (tgt := 16) hx hb d_Mo_compile_11 (by decide) (fun _ => ?_) (fun hc => absurd hc (by decide))
  refine lv_iconst (v := nI 1) hx hb d_Mo_compile_16 (by decide) ?_
  refine lv_istore_n hx hb d_Mo_compile_17 rfl hl (by decide) (lv' := [(3, .int (nI 1)), (0, .ref mo), (1, .int (nI j)), (2, .int v)]) rfl (fun ls hl => ?_)
  refine lv_iconst (v := nI 0) hx hb d_Mo_compile_18 (by decide) ?_
  refine lv_istore hx hb d_Mo_compile_19 hl (by decide) (lv' := [(4, .int (nI 0)), (3, .int (nI 1)), (0, .ref mo), (1, .int (nI j)), (2, .int v)]) rfl (fun ls hl => ?_)
  refine fs_loop2 (α1 := Nat) (α2 := Nat) (fun r acc => cnt - r) (fun r acc H locs ls => (r ≤ cnt) ∧ (acc = 1 + ((rs.take r).flatMap fx_one).length) ∧ va_P (dC, dI) vwCl [(mo, .inr (5, [.ref mop, .ref mye, .ref mno, .ref mnu, .ref msz, .int (nI stk), .ref mre, .ref mce, .ref mco, .ref xc, .ref xa, .ref xm, .ref xv, .int (nI cnt), .int stp, .int (nI 0)])), (mop, .inl (cI, 320, .inl fo)), (mye, .inl (cI, 320, .inl fy)), (mno, .inl (cI, 320, .inl fn)), (mnu, .inl (cI, 320, .inl fk)), (msz, .inl (cI, 8, .inl zs)), (xc, .inl (cI, 8, .inl gc)), (xa, .inl (cI, 8, .inl ga)), (xm, .inl (cI, 8, .inl gm)), (xv, .inl (cI, 8, .inl gv))] H ∧ va_D A [(mo, .inr (5, [.ref mop, .ref mye, .ref mno, .ref mnu, .ref msz, .int (nI stk), .ref mre, .ref mce, .ref mco, .ref xc, .ref xa, .ref xm, .ref xv, .int (nI cnt), .int stp, .int (nI 0)])), (mop, .inl (cI, 320, .inl fo)), (mye, .inl (cI, 320, .inl fy)), (mno, .inl (cI, 320, .inl fn)), (mnu, .inl (cI, 320, .inl fk)), (msz, .inl (cI, 8, .inl zs)), (xc, .inl (cI, 8, .inl gc)), (xa, .inl (cI, 8, .inl ga)), (xm, .inl (cI, 8, .inl gm)), (xv, .inl (cI, 8, .inl gv))] ∧ va_S A s.heap H locs ∧ lv_has ls 6 [(0, .ref mo), (1, .int (nI j)), (2, .int v), (3, .int (nI acc)), (4, .int (nI r))]) ?_ 0 1 ⟨by omega, by simp, hP, hD, hS, lv_sub hl [2, 3, 4, 1, 0] rfl⟩
  intro r acc H locs ls hI ih21
  obtain ⟨hrc, hacc, hP, hD, hS, hl⟩ := hI
  have hfl := fx_flat_le (rs.take r)
  have htk : (rs.take r).length ≤ rs.length := (by rw [List.length_take]; omega)
  refine lv_iload hx hb d_Mo_compile_21 (lv_at hl 4 rfl) ?_
  refine lv_aload_n hx hb d_Mo_compile_23 rfl (lv_at hl 0 rfl) ?_
  refine va_get (D := (dC, dI)) (ci := 5) (v := .int (nI cnt)) (C := R_Mo) (T := T_Mo) (N := 16) hx hb hts uin_Mo hown hK hP 0 rfl rfl 13 (by decide) (hts _ wi_443) (fun _ h9 => h9) rfl d_Mo_compile_24 ?_
  refine lv_icmp_ge (tgt := 55) hx hb d_Mo_compile_27 (by decide) (fun hc27 => ?_) (fun hc27 => ?_)
  · rw [nI_leI (by omega) (by omega)] at hc27
    refine lv_iload_n hx hb d_Mo_compile_55 rfl (lv_at hl 3 rfl) ?_
    refine lv_bipush (v := nI 40) hx hb d_Mo_compile_56 (by decide) ?_
    refine lv_icmp_le (tgt := 64) hx hb d_Mo_compile_58 (by decide) (fun hc58 => ?_) (fun hc58 => absurd (by have hfl9 := fx_flat_le rs; have e9 : acc = 1 + (rs.flatMap fx_one).length := (by rw [hacc, List.take_of_length_le (by omega)]); rw [nI_leI (by omega) (by omega)]; omega) hc58)
    rw [nI_leI (by omega) (by omega)] at hc58
    refine lv_aload_n hx hb d_Mo_compile_64 rfl (lv_at hl 0 rfl) ?_
    refine va_get (D := (dC, dI)) (ci := 5) (v := .ref msz) (C := R_Mo) (T := T_Mo) (N := 16) hx hb hts uin_Mo hown hK hP 0 rfl rfl 4 (by decide) (hts _ wi_434) (fun _ h9 => h9) rfl d_Mo_compile_65 ?_
    refine lv_iload_n hx hb d_Mo_compile_68 rfl (lv_at hl 1 rfl) ?_
    refine lv_iconst (v := nI 0) hx hb d_Mo_compile_69 (by decide) ?_
    refine fs_iast hx hb hK hP hD hS 5 0 rfl rfl j rfl (by decide) (by omega) d_Mo_compile_70 (fun H locs hP hD hS => ?_)
    have hP : va_P (dC, dI) vwCl [(mo, .inr (5, [.ref mop, .ref mye, .ref mno, .ref mnu, .ref msz, .int (nI stk), .ref mre, .ref mce, .ref mco, .ref xc, .ref xa, .ref xm, .ref xv, .int (nI cnt), .int stp, .int (nI 0)])), (mop, .inl (cI, 320, .inl fo)), (mye, .inl (cI, 320, .inl fy)), (mno, .inl (cI, 320, .inl fn)), (mnu, .inl (cI, 320, .inl fk)), (msz, .inl (cI, 8, .inl (upd zs j (nI 0)))), (xc, .inl (cI, 8, .inl gc)), (xa, .inl (cI, 8, .inl ga)), (xm, .inl (cI, 8, .inl gm)), (xv, .inl (cI, 8, .inl gv))] H := hP
    have hD : va_D A [(mo, .inr (5, [.ref mop, .ref mye, .ref mno, .ref mnu, .ref msz, .int (nI stk), .ref mre, .ref mce, .ref mco, .ref xc, .ref xa, .ref xm, .ref xv, .int (nI cnt), .int stp, .int (nI 0)])), (mop, .inl (cI, 320, .inl fo)), (mye, .inl (cI, 320, .inl fy)), (mno, .inl (cI, 320, .inl fn)), (mnu, .inl (cI, 320, .inl fk)), (msz, .inl (cI, 8, .inl (upd zs j (nI 0)))), (xc, .inl (cI, 8, .inl gc)), (xa, .inl (cI, 8, .inl ga)), (xm, .inl (cI, 8, .inl gm)), (xv, .inl (cI, 8, .inl gv))] := hD
    refine lv_iconst (v := nI 0) hx hb d_Mo_compile_71 (by decide) ?_
    refine lv_istore hx hb d_Mo_compile_72 hl (by decide) (lv' := [(4, .int (nI 0)), (0, .ref mo), (1, .int (nI j)), (2, .int v), (3, .int (nI acc))]) rfl (fun ls hl => ?_)
    have hacc9 : acc = 1 + (rs.flatMap fx_one).length := by rw [hacc, List.take_of_length_le (by omega)]
    have hfl9 := fx_flat_le rs
    clear hacc
    refine fs_loop6 (α1 := Nat) (α2 := Nat → Int32) (α3 := Nat → Int32) (α4 := Nat → Int32) (α5 := Nat → Int32) (α6 := Nat → Int32) (fun r po py pn pk pz => cnt - r) (fun r po py pn pk pz H locs ls => (r ≤ cnt) ∧ (pz j = nI ((rs.take r).flatMap fx_one).length) ∧ (fx_rep ((rs.take r).flatMap fx_one) (fun i => po (40 * j + i)) (fun i => py (40 * j + i)) (fun i => pn (40 * j + i)) (fun i => pk (40 * j + i))) ∧ (fx_same j fo fy fn fk zs po py pn pk pz) ∧ va_P (dC, dI) vwCl [(mo, .inr (5, [.ref mop, .ref mye, .ref mno, .ref mnu, .ref msz, .int (nI stk), .ref mre, .ref mce, .ref mco, .ref xc, .ref xa, .ref xm, .ref xv, .int (nI cnt), .int stp, .int (nI 0)])), (mop, .inl (cI, 320, .inl po)), (mye, .inl (cI, 320, .inl py)), (mno, .inl (cI, 320, .inl pn)), (mnu, .inl (cI, 320, .inl pk)), (msz, .inl (cI, 8, .inl pz)), (xc, .inl (cI, 8, .inl gc)), (xa, .inl (cI, 8, .inl ga)), (xm, .inl (cI, 8, .inl gm)), (xv, .inl (cI, 8, .inl gv))] H ∧ va_D A [(mo, .inr (5, [.ref mop, .ref mye, .ref mno, .ref mnu, .ref msz, .int (nI stk), .ref mre, .ref mce, .ref mco, .ref xc, .ref xa, .ref xm, .ref xv, .int (nI cnt), .int stp, .int (nI 0)])), (mop, .inl (cI, 320, .inl po)), (mye, .inl (cI, 320, .inl py)), (mno, .inl (cI, 320, .inl pn)), (mnu, .inl (cI, 320, .inl pk)), (msz, .inl (cI, 8, .inl pz)), (xc, .inl (cI, 8, .inl gc)), (xa, .inl (cI, 8, .inl ga)), (xm, .inl (cI, 8, .inl gm)), (xv, .inl (cI, 8, .inl gv))] ∧ va_S A s.heap H locs ∧ lv_has ls 6 [(0, .ref mo), (1, .int (nI j)), (2, .int v), (3, .int (nI acc)), (4, .int (nI r))]) ?_ 0 fo fy fn fk (upd zs j (nI 0)) ⟨by omega, pk_us, fx_rep_nil _ _ _ _, fx_same_z (fx_same_rf j fo fy fn fk zs) (nI 0), hP, hD, hS, lv_sub hl [1, 2, 3, 4, 0] rfl⟩
    intro r po py pn pk pz H locs ls hI ih74
    obtain ⟨hrc, hzs, hrep, hsm, hP, hD, hS, hl⟩ := hI
    refine lv_iload hx hb d_Mo_compile_74 (lv_at hl 4 rfl) ?_
    refine lv_aload_n hx hb d_Mo_compile_76 rfl (lv_at hl 0 rfl) ?_
    refine va_get (D := (dC, dI)) (ci := 5) (v := .int (nI cnt)) (C := R_Mo) (T := T_Mo) (N := 16) hx hb hts uin_Mo hown hK hP 0 rfl rfl 13 (by decide) (hts _ wi_443) (fun _ h9 => h9) rfl d_Mo_compile_77 ?_
    refine lv_icmp_ge (tgt := 205) hx hb d_Mo_compile_80 (by decide) (fun hc80 => ?_) (fun hc80 => ?_)
    · rw [nI_leI (by omega) (by omega)] at hc80
      have htl0 := fx_take_len rs r
      refine lv_aload_n hx hb d_Mo_compile_205 rfl (lv_at hl 0 rfl) ?_
      refine lv_iload_n hx hb d_Mo_compile_206 rfl (lv_at hl 1 rfl) ?_
      refine lv_bipush (v := nI 31) hx hb d_Mo_compile_207 (by decide) ?_
      refine lv_iconst (v := nI 0) hx hb d_Mo_compile_209 (by decide) ?_
      refine lv_iconst (v := nI 0) hx hb d_Mo_compile_210 (by decide) ?_
      refine lv_iload_n hx hb d_Mo_compile_211 rfl (lv_at hl 2 rfl) ?_
      refine fs_callv (wc := [(mo, .inr (5, [.ref mop, .ref mye, .ref mno, .ref mnu, .ref msz, .int (nI stk), .ref mre, .ref mce, .ref mco, .ref xc, .ref xa, .ref xm, .ref xv, .int (nI cnt), .int stp, .int (nI 0)])), (mop, .inl (cI, 320, .inl po)), (mye, .inl (cI, 320, .inl py)), (mno, .inl (cI, 320, .inl pn)), (mnu, .inl (cI, 320, .inl pk)), (msz, .inl (cI, 8, .inl pz))]) (wr := [(xc, .inl (cI, 8, .inl gc)), (xa, .inl (cI, 8, .inl ga)), (xm, .inl (cI, 8, .inl gm)), (xv, .inl (cI, 8, .inl gv))]) [0, 1, 2, 3, 4, 5] [6, 7, 8, 9] hP hD hK hS hA rfl rfl rfl (by decide) (fun hPc hDc => va_runV (C := R_Mo) (As := [.int (nI j), .int (nI 31), .int (nI 0), .int (nI 0), .int v]) (rest := []) ⟨hx, hb, hml, hown, hts⟩ (c_Mo_put mo mop mye mno mnu msz stk mre mce mco xc xa xm xv cnt stp (nI 0) po py pn pk pz j (((rs.take r).flatMap fx_one).length) (nI 31) (nI 0) (nI 0) v _ (by omega) (by omega) (hzs)) (⟨callB_of 5 hts (fs_g kin_Mo_put) rfl rfl rfl (hts _ wi_6) (hts _ wi_491) (by decide +kernel) ⟨Nat.le_of_ble_eq_true rfl, Nat.le_of_ble_eq_true rfl⟩, hts _ wi_493, hts _ sel_Mo_put⟩) (fs_preV (q0 := 0) rfl rfl hPc hK hDc) rfl rfl hl.1 rfl (lv_room (Nat.le_of_ble_eq_true rfl)) d_Mo_compile_212 ⟨Nat.le_of_ble_eq_true rfl, Nat.le_of_ble_eq_true rfl⟩) rfl (fun _ H locs hp212 hP hD hS => ?_)
      have hP : va_P (dC, dI) vwCl [(mo, .inr (5, [.ref mop, .ref mye, .ref mno, .ref mnu, .ref msz, .int (nI stk), .ref mre, .ref mce, .ref mco, .ref xc, .ref xa, .ref xm, .ref xv, .int (nI cnt), .int stp, .int (nI 0)])), (mop, .inl (cI, 320, .inl (upd po (40 * j + (((rs.take r).flatMap fx_one).length)) (nI 31)))), (mye, .inl (cI, 320, .inl (upd py (40 * j + (((rs.take r).flatMap fx_one).length)) (nI 0)))), (mno, .inl (cI, 320, .inl (upd pn (40 * j + (((rs.take r).flatMap fx_one).length)) (nI 0)))), (mnu, .inl (cI, 320, .inl (upd pk (40 * j + (((rs.take r).flatMap fx_one).length)) v))), (msz, .inl (cI, 8, .inl (upd pz j (nI ((((rs.take r).flatMap fx_one).length) + 1))))), (xc, .inl (cI, 8, .inl gc)), (xa, .inl (cI, 8, .inl ga)), (xm, .inl (cI, 8, .inl gm)), (xv, .inl (cI, 8, .inl gv))] H := hP.sub [4, 5, 6, 7, 8, 9, 0, 1, 2, 3] rfl
      have hD : va_D A [(mo, .inr (5, [.ref mop, .ref mye, .ref mno, .ref mnu, .ref msz, .int (nI stk), .ref mre, .ref mce, .ref mco, .ref xc, .ref xa, .ref xm, .ref xv, .int (nI cnt), .int stp, .int (nI 0)])), (mop, .inl (cI, 320, .inl (upd po (40 * j + (((rs.take r).flatMap fx_one).length)) (nI 31)))), (mye, .inl (cI, 320, .inl (upd py (40 * j + (((rs.take r).flatMap fx_one).length)) (nI 0)))), (mno, .inl (cI, 320, .inl (upd pn (40 * j + (((rs.take r).flatMap fx_one).length)) (nI 0)))), (mnu, .inl (cI, 320, .inl (upd pk (40 * j + (((rs.take r).flatMap fx_one).length)) v))), (msz, .inl (cI, 8, .inl (upd pz j (nI ((((rs.take r).flatMap fx_one).length) + 1))))), (xc, .inl (cI, 8, .inl gc)), (xa, .inl (cI, 8, .inl ga)), (xm, .inl (cI, 8, .inl gm)), (xv, .inl (cI, 8, .inl gv))] := hD.sub [4, 5, 6, 7, 8, 9, 0, 1, 2, 3] (by decide) rfl
      refine lv_iload_n hx hb d_Mo_compile_215 rfl (lv_at hl 3 rfl) ?_
      have hall : rs.take r = rs := List.take_of_length_le (by omega)
      have hr0 := fx_rep_put (m := ((rs.take r).flatMap fx_one).length) (o := 31) (y := 0) (n := 0) (k := v) rfl rfl rfl rfl hrep
      have hs0 := fx_same_put (m := ((rs.take r).flatMap fx_one).length) (by have := fx_take_len rs r; omega) (nI 31) (nI 0) (nI 0) v (nI (((rs.take r).flatMap fx_one).length + 1)) hsm
      have hcm : fx_cmp rs v = ((rs.take r).flatMap fx_one) ++ [(31, 0, 0, v)] := by rw [hall]; rfl
      rw [← hcm] at hr0
      have hln : (fx_cmp rs v).length = ((rs.take r).flatMap fx_one).length + 1 := by rw [hcm, List.length_append]; rfl
      have hac : acc = (fx_cmp rs v).length := by rw [hln, hall]; omega
      exact fs_iret hx hb hr hlocks hAe hK hS d_Mo_compile_216 (upd po (40 * j + (((rs.take r).flatMap fx_one).length)) (nI 31), upd py (40 * j + (((rs.take r).flatMap fx_one).length)) (nI 0), upd pn (40 * j + (((rs.take r).flatMap fx_one).length)) (nI 0), upd pk (40 * j + (((rs.take r).flatMap fx_one).length)) v, upd pz j (nI ((((rs.take r).flatMap fx_one).length) + 1))) (⟨by rw [hac], by dsimp only; rw [pk_us, hln], hr0, hs0⟩) hP hD
    rw [nI_leI (by omega) (by omega)] at hc80
    have htl := fx_take_len rs (r + 1)
    rw [fx_take hrr (by omega), List.length_append, fx_one_len] at htl
    dsimp only at htl
    have hl6 := fx_len_le (ga r)
    refine lv_aload_n hx hb d_Mo_compile_83 rfl (lv_at hl 0 rfl) ?_
    refine va_get (D := (dC, dI)) (ci := 5) (v := .ref xa) (C := R_Mo) (T := T_Mo) (N := 16) hx hb hts uin_Mo hown hK hP 0 rfl rfl 10 (by decide) (hts _ wi_440) (fun _ h9 => h9) rfl d_Mo_compile_84 ?_
    refine lv_iload hx hb d_Mo_compile_87 (lv_at hl 4 rfl) ?_
    refine fs_iald (v := ga r) hx hb hK hP 7 0 rfl rfl r rfl (by decide) (by omega) rfl d_Mo_compile_89 ?_
    refine lv_if_lt (tgt := 97) hx hb d_Mo_compile_90 (by decide) (fun hc90 => ?_) (fun hc90 => ?_)
    · rw [fs_lt0] at hc90
      refine lv_iconst (v := nI 0) hx hb d_Mo_compile_97 (by decide) ?_
      refine lv_istore hx hb d_Mo_compile_98 hl (by decide) (lv' := [(5, .int (nI 0)), (0, .ref mo), (1, .int (nI j)), (2, .int v), (3, .int (nI acc)), (4, .int (nI r))]) rfl (fun ls hl => ?_)
      have hv : ga r = -1 := fx_len3 (by omega) (harg r (by omega))
      have hlv : fx_len (ga r) = 3 := by rw [fx_len, if_pos hv]
      refine lv_aload_n hx hb d_Mo_compile_100 rfl (lv_at hl 1 rfl) ?_
      refine lv_iload_n hx hb d_Mo_compile_101 rfl (lv_at hl 2 rfl) ?_
      refine lv_iconst (v := nI 0) hx hb d_Mo_compile_102 (by decide) ?_
      refine lv_iconst (v := nI 0) hx hb d_Mo_compile_103 (by decide) ?_
      refine lv_iconst (v := nI 0) hx hb d_Mo_compile_104 (by decide) ?_
      refine lv_iconst (v := nI 0) hx hb d_Mo_compile_105 (by decide) ?_
      refine fs_callv (wc := [(mo, .inr (5, [.ref mop, .ref mye, .ref mno, .ref mnu, .ref msz, .int (nI stk), .ref mre, .ref mce, .ref mco, .ref xc, .ref xa, .ref xm, .ref xv, .int (nI cnt), .int stp, .int (nI 0)])), (mop, .inl (cI, 320, .inl po)), (mye, .inl (cI, 320, .inl py)), (mno, .inl (cI, 320, .inl pn)), (mnu, .inl (cI, 320, .inl pk)), (msz, .inl (cI, 8, .inl pz))]) (wr := [(xc, .inl (cI, 8, .inl gc)), (xa, .inl (cI, 8, .inl ga)), (xm, .inl (cI, 8, .inl gm)), (xv, .inl (cI, 8, .inl gv))]) [0, 1, 2, 3, 4, 5] [6, 7, 8, 9] hP hD hK hS hA rfl rfl rfl (by decide) (fun hPc hDc => va_runV (C := R_Mo) (As := [.int (nI j), .int (nI 0), .int (nI 0), .int (nI 0), .int (nI 0)]) (rest := []) ⟨hx, hb, hml, hown, hts⟩ (c_Mo_put mo mop mye mno mnu msz stk mre mce mco xc xa xm xv cnt stp (nI 0) po py pn pk pz j (((rs.take r).flatMap fx_one).length) (nI 0) (nI 0) (nI 0) (nI 0) _ (by omega) (by omega) (hzs)) (⟨callB_of 5 hts (fs_g kin_Mo_put) rfl rfl rfl (hts _ wi_6) (hts _ wi_491) (by decide +kernel) ⟨Nat.le_of_ble_eq_true rfl, Nat.le_of_ble_eq_true rfl⟩, hts _ wi_493, hts _ sel_Mo_put⟩) (fs_preV (q0 := 0) rfl rfl hPc hK hDc) rfl rfl hl.1 rfl (lv_room (Nat.le_of_ble_eq_true rfl)) d_Mo_compile_106 ⟨Nat.le_of_ble_eq_true rfl, Nat.le_of_ble_eq_true rfl⟩) rfl (fun _ H locs hp106 hP hD hS => ?_)
      have hP : va_P (dC, dI) vwCl [(mo, .inr (5, [.ref mop, .ref mye, .ref mno, .ref mnu, .ref msz, .int (nI stk), .ref mre, .ref mce, .ref mco, .ref xc, .ref xa, .ref xm, .ref xv, .int (nI cnt), .int stp, .int (nI 0)])), (mop, .inl (cI, 320, .inl (upd po (40 * j + (((rs.take r).flatMap fx_one).length)) (nI 0)))), (mye, .inl (cI, 320, .inl (upd py (40 * j + (((rs.take r).flatMap fx_one).length)) (nI 0)))), (mno, .inl (cI, 320, .inl (upd pn (40 * j + (((rs.take r).flatMap fx_one).length)) (nI 0)))), (mnu, .inl (cI, 320, .inl (upd pk (40 * j + (((rs.take r).flatMap fx_one).length)) (nI 0)))), (msz, .inl (cI, 8, .inl (upd pz j (nI ((((rs.take r).flatMap fx_one).length) + 1))))), (xc, .inl (cI, 8, .inl gc)), (xa, .inl (cI, 8, .inl ga)), (xm, .inl (cI, 8, .inl gm)), (xv, .inl (cI, 8, .inl gv))] H := hP.sub [4, 5, 6, 7, 8, 9, 0, 1, 2, 3] rfl
      have hD : va_D A [(mo, .inr (5, [.ref mop, .ref mye, .ref mno, .ref mnu, .ref msz, .int (nI stk), .ref mre, .ref mce, .ref mco, .ref xc, .ref xa, .ref xm, .ref xv, .int (nI cnt), .int stp, .int (nI 0)])), (mop, .inl (cI, 320, .inl (upd po (40 * j + (((rs.take r).flatMap fx_one).length)) (nI 0)))), (mye, .inl (cI, 320, .inl (upd py (40 * j + (((rs.take r).flatMap fx_one).length)) (nI 0)))), (mno, .inl (cI, 320, .inl (upd pn (40 * j + (((rs.take r).flatMap fx_one).length)) (nI 0)))), (mnu, .inl (cI, 320, .inl (upd pk (40 * j + (((rs.take r).flatMap fx_one).length)) (nI 0)))), (msz, .inl (cI, 8, .inl (upd pz j (nI ((((rs.take r).flatMap fx_one).length) + 1))))), (xc, .inl (cI, 8, .inl gc)), (xa, .inl (cI, 8, .inl ga)), (xm, .inl (cI, 8, .inl gm)), (xv, .inl (cI, 8, .inl gv))] := hD.sub [4, 5, 6, 7, 8, 9, 0, 1, 2, 3] (by decide) rfl
      refine lv_aload_n hx hb d_Mo_compile_109 rfl (lv_at hl 1 rfl) ?_
      refine lv_iload_n hx hb d_Mo_compile_110 rfl (lv_at hl 2 rfl) ?_
      refine lv_bipush (v := nI 26) hx hb d_Mo_compile_111 (by decide) ?_
      refine lv_iconst (v := nI 0) hx hb d_Mo_compile_113 (by decide) ?_
      refine lv_iload hx hb d_Mo_compile_114 (lv_at hl 0 rfl) ?_
      refine lv_if_eq (tgt := 123) hx hb d_Mo_compile_116 (by decide) (fun _ => ?_) (fun hc => absurd (by decide) hc)
      refine lv_iconst (v := nI 1) hx hb d_Mo_compile_123 (by decide) ?_
      refine lv_aload_n hx hb d_Mo_compile_124 rfl (lv_at hl 1 rfl) ?_
      refine va_get (D := (dC, dI)) (ci := 5) (v := .ref xc) (C := R_Mo) (T := T_Mo) (N := 16) hx hb hts uin_Mo hown hK hP 0 rfl rfl 9 (by decide) (hts _ wi_439) (fun _ h9 => h9) rfl d_Mo_compile_125 ?_
      refine lv_iload hx hb d_Mo_compile_128 (lv_at hl 5 rfl) ?_
      refine fs_iald (v := gc r) hx hb hK hP 6 0 rfl rfl r rfl (by decide) (by omega) rfl d_Mo_compile_130 ?_
      refine fs_callv (wc := [(mo, .inr (5, [.ref mop, .ref mye, .ref mno, .ref mnu, .ref msz, .int (nI stk), .ref mre, .ref mce, .ref mco, .ref xc, .ref xa, .ref xm, .ref xv, .int (nI cnt), .int stp, .int (nI 0)])), (mop, .inl (cI, 320, .inl (upd po (40 * j + (((rs.take r).flatMap fx_one).length)) (nI 0)))), (mye, .inl (cI, 320, .inl (upd py (40 * j + (((rs.take r).flatMap fx_one).length)) (nI 0)))), (mno, .inl (cI, 320, .inl (upd pn (40 * j + (((rs.take r).flatMap fx_one).length)) (nI 0)))), (mnu, .inl (cI, 320, .inl (upd pk (40 * j + (((rs.take r).flatMap fx_one).length)) (nI 0)))), (msz, .inl (cI, 8, .inl (upd pz j (nI ((((rs.take r).flatMap fx_one).length) + 1)))))]) (wr := [(xc, .inl (cI, 8, .inl gc)), (xa, .inl (cI, 8, .inl ga)), (xm, .inl (cI, 8, .inl gm)), (xv, .inl (cI, 8, .inl gv))]) [0, 1, 2, 3, 4, 5] [6, 7, 8, 9] hP hD hK hS hA rfl rfl rfl (by decide) (fun hPc hDc => va_runV (C := R_Mo) (As := [.int (nI j), .int (nI 26), .int (nI 0), .int (nI 1), .int (gc r)]) (rest := []) ⟨hx, hb, hml, hown, hts⟩ (c_Mo_put mo mop mye mno mnu msz stk mre mce mco xc xa xm xv cnt stp (nI 0) (upd po (40 * j + (((rs.take r).flatMap fx_one).length)) (nI 0)) (upd py (40 * j + (((rs.take r).flatMap fx_one).length)) (nI 0)) (upd pn (40 * j + (((rs.take r).flatMap fx_one).length)) (nI 0)) (upd pk (40 * j + (((rs.take r).flatMap fx_one).length)) (nI 0)) (upd pz j (nI ((((rs.take r).flatMap fx_one).length) + 1))) j (((rs.take r).flatMap fx_one).length + 1) (nI 26) (nI 0) (nI 1) (gc r) _ (by omega) (by omega) (pk_us)) (⟨callB_of 5 hts (fs_g kin_Mo_put) rfl rfl rfl (hts _ wi_6) (hts _ wi_491) (by decide +kernel) ⟨Nat.le_of_ble_eq_true rfl, Nat.le_of_ble_eq_true rfl⟩, hts _ wi_493, hts _ sel_Mo_put⟩) (fs_preV (q0 := 0) rfl rfl hPc hK hDc) rfl rfl hl.1 rfl (lv_room (Nat.le_of_ble_eq_true rfl)) d_Mo_compile_131 ⟨Nat.le_of_ble_eq_true rfl, Nat.le_of_ble_eq_true rfl⟩) rfl (fun _ H locs hp131 hP hD hS => ?_)
      have hP : va_P (dC, dI) vwCl [(mo, .inr (5, [.ref mop, .ref mye, .ref mno, .ref mnu, .ref msz, .int (nI stk), .ref mre, .ref mce, .ref mco, .ref xc, .ref xa, .ref xm, .ref xv, .int (nI cnt), .int stp, .int (nI 0)])), (mop, .inl (cI, 320, .inl (upd (upd po (40 * j + (((rs.take r).flatMap fx_one).length)) (nI 0)) (40 * j + (((rs.take r).flatMap fx_one).length + 1)) (nI 26)))), (mye, .inl (cI, 320, .inl (upd (upd py (40 * j + (((rs.take r).flatMap fx_one).length)) (nI 0)) (40 * j + (((rs.take r).flatMap fx_one).length + 1)) (nI 0)))), (mno, .inl (cI, 320, .inl (upd (upd pn (40 * j + (((rs.take r).flatMap fx_one).length)) (nI 0)) (40 * j + (((rs.take r).flatMap fx_one).length + 1)) (nI 1)))), (mnu, .inl (cI, 320, .inl (upd (upd pk (40 * j + (((rs.take r).flatMap fx_one).length)) (nI 0)) (40 * j + (((rs.take r).flatMap fx_one).length + 1)) (gc r)))), (msz, .inl (cI, 8, .inl (upd (upd pz j (nI ((((rs.take r).flatMap fx_one).length) + 1))) j (nI ((((rs.take r).flatMap fx_one).length + 1) + 1))))), (xc, .inl (cI, 8, .inl gc)), (xa, .inl (cI, 8, .inl ga)), (xm, .inl (cI, 8, .inl gm)), (xv, .inl (cI, 8, .inl gv))] H := hP.sub [4, 5, 6, 7, 8, 9, 0, 1, 2, 3] rfl
      have hD : va_D A [(mo, .inr (5, [.ref mop, .ref mye, .ref mno, .ref mnu, .ref msz, .int (nI stk), .ref mre, .ref mce, .ref mco, .ref xc, .ref xa, .ref xm, .ref xv, .int (nI cnt), .int stp, .int (nI 0)])), (mop, .inl (cI, 320, .inl (upd (upd po (40 * j + (((rs.take r).flatMap fx_one).length)) (nI 0)) (40 * j + (((rs.take r).flatMap fx_one).length + 1)) (nI 26)))), (mye, .inl (cI, 320, .inl (upd (upd py (40 * j + (((rs.take r).flatMap fx_one).length)) (nI 0)) (40 * j + (((rs.take r).flatMap fx_one).length + 1)) (nI 0)))), (mno, .inl (cI, 320, .inl (upd (upd pn (40 * j + (((rs.take r).flatMap fx_one).length)) (nI 0)) (40 * j + (((rs.take r).flatMap fx_one).length + 1)) (nI 1)))), (mnu, .inl (cI, 320, .inl (upd (upd pk (40 * j + (((rs.take r).flatMap fx_one).length)) (nI 0)) (40 * j + (((rs.take r).flatMap fx_one).length + 1)) (gc r)))), (msz, .inl (cI, 8, .inl (upd (upd pz j (nI ((((rs.take r).flatMap fx_one).length) + 1))) j (nI ((((rs.take r).flatMap fx_one).length + 1) + 1))))), (xc, .inl (cI, 8, .inl gc)), (xa, .inl (cI, 8, .inl ga)), (xm, .inl (cI, 8, .inl gm)), (xv, .inl (cI, 8, .inl gv))] := hD.sub [4, 5, 6, 7, 8, 9, 0, 1, 2, 3] (by decide) rfl
      refine lv_iload hx hb d_Mo_compile_134 (lv_at hl 0 rfl) ?_
      refine lv_if_eq (tgt := 188) hx hb d_Mo_compile_136 (by decide) (fun _ => ?_) (fun hc => absurd (by decide) hc)
      refine lv_aload_n hx hb d_Mo_compile_188 rfl (lv_at hl 1 rfl) ?_
      refine lv_iload_n hx hb d_Mo_compile_189 rfl (lv_at hl 2 rfl) ?_
      refine lv_bipush (v := nI 31) hx hb d_Mo_compile_190 (by decide) ?_
      refine lv_iconst (v := nI 0) hx hb d_Mo_compile_192 (by decide) ?_
      refine lv_iconst (v := nI 0) hx hb d_Mo_compile_193 (by decide) ?_
      refine lv_ldc (v := nI 1006632960) hx hb hown (hts _ wi_573) d_Mo_compile_194 ?_
      refine fs_callv (wc := [(mo, .inr (5, [.ref mop, .ref mye, .ref mno, .ref mnu, .ref msz, .int (nI stk), .ref mre, .ref mce, .ref mco, .ref xc, .ref xa, .ref xm, .ref xv, .int (nI cnt), .int stp, .int (nI 0)])), (mop, .inl (cI, 320, .inl (upd (upd po (40 * j + (((rs.take r).flatMap fx_one).length)) (nI 0)) (40 * j + (((rs.take r).flatMap fx_one).length + 1)) (nI 26)))), (mye, .inl (cI, 320, .inl (upd (upd py (40 * j + (((rs.take r).flatMap fx_one).length)) (nI 0)) (40 * j + (((rs.take r).flatMap fx_one).length + 1)) (nI 0)))), (mno, .inl (cI, 320, .inl (upd (upd pn (40 * j + (((rs.take r).flatMap fx_one).length)) (nI 0)) (40 * j + (((rs.take r).flatMap fx_one).length + 1)) (nI 1)))), (mnu, .inl (cI, 320, .inl (upd (upd pk (40 * j + (((rs.take r).flatMap fx_one).length)) (nI 0)) (40 * j + (((rs.take r).flatMap fx_one).length + 1)) (gc r)))), (msz, .inl (cI, 8, .inl (upd (upd pz j (nI ((((rs.take r).flatMap fx_one).length) + 1))) j (nI ((((rs.take r).flatMap fx_one).length + 1) + 1)))))]) (wr := [(xc, .inl (cI, 8, .inl gc)), (xa, .inl (cI, 8, .inl ga)), (xm, .inl (cI, 8, .inl gm)), (xv, .inl (cI, 8, .inl gv))]) [0, 1, 2, 3, 4, 5] [6, 7, 8, 9] hP hD hK hS hA rfl rfl rfl (by decide) (fun hPc hDc => va_runV (C := R_Mo) (As := [.int (nI j), .int (nI 31), .int (nI 0), .int (nI 0), .int (nI 1006632960)]) (rest := []) ⟨hx, hb, hml, hown, hts⟩ (c_Mo_put mo mop mye mno mnu msz stk mre mce mco xc xa xm xv cnt stp (nI 0) (upd (upd po (40 * j + (((rs.take r).flatMap fx_one).length)) (nI 0)) (40 * j + (((rs.take r).flatMap fx_one).length + 1)) (nI 26)) (upd (upd py (40 * j + (((rs.take r).flatMap fx_one).length)) (nI 0)) (40 * j + (((rs.take r).flatMap fx_one).length + 1)) (nI 0)) (upd (upd pn (40 * j + (((rs.take r).flatMap fx_one).length)) (nI 0)) (40 * j + (((rs.take r).flatMap fx_one).length + 1)) (nI 1)) (upd (upd pk (40 * j + (((rs.take r).flatMap fx_one).length)) (nI 0)) (40 * j + (((rs.take r).flatMap fx_one).length + 1)) (gc r)) (upd (upd pz j (nI ((((rs.take r).flatMap fx_one).length) + 1))) j (nI ((((rs.take r).flatMap fx_one).length + 1) + 1))) j (((rs.take r).flatMap fx_one).length + 1 + 1) (nI 31) (nI 0) (nI 0) (nI 1006632960) _ (by omega) (by omega) (pk_us)) (⟨callB_of 5 hts (fs_g kin_Mo_put) rfl rfl rfl (hts _ wi_6) (hts _ wi_491) (by decide +kernel) ⟨Nat.le_of_ble_eq_true rfl, Nat.le_of_ble_eq_true rfl⟩, hts _ wi_493, hts _ sel_Mo_put⟩) (fs_preV (q0 := 0) rfl rfl hPc hK hDc) rfl rfl hl.1 rfl (lv_room (Nat.le_of_ble_eq_true rfl)) d_Mo_compile_196 ⟨Nat.le_of_ble_eq_true rfl, Nat.le_of_ble_eq_true rfl⟩) rfl (fun _ H locs hp196 hP hD hS => ?_)
      have hP : va_P (dC, dI) vwCl [(mo, .inr (5, [.ref mop, .ref mye, .ref mno, .ref mnu, .ref msz, .int (nI stk), .ref mre, .ref mce, .ref mco, .ref xc, .ref xa, .ref xm, .ref xv, .int (nI cnt), .int stp, .int (nI 0)])), (mop, .inl (cI, 320, .inl (upd (upd (upd po (40 * j + (((rs.take r).flatMap fx_one).length)) (nI 0)) (40 * j + (((rs.take r).flatMap fx_one).length + 1)) (nI 26)) (40 * j + (((rs.take r).flatMap fx_one).length + 1 + 1)) (nI 31)))), (mye, .inl (cI, 320, .inl (upd (upd (upd py (40 * j + (((rs.take r).flatMap fx_one).length)) (nI 0)) (40 * j + (((rs.take r).flatMap fx_one).length + 1)) (nI 0)) (40 * j + (((rs.take r).flatMap fx_one).length + 1 + 1)) (nI 0)))), (mno, .inl (cI, 320, .inl (upd (upd (upd pn (40 * j + (((rs.take r).flatMap fx_one).length)) (nI 0)) (40 * j + (((rs.take r).flatMap fx_one).length + 1)) (nI 1)) (40 * j + (((rs.take r).flatMap fx_one).length + 1 + 1)) (nI 0)))), (mnu, .inl (cI, 320, .inl (upd (upd (upd pk (40 * j + (((rs.take r).flatMap fx_one).length)) (nI 0)) (40 * j + (((rs.take r).flatMap fx_one).length + 1)) (gc r)) (40 * j + (((rs.take r).flatMap fx_one).length + 1 + 1)) (nI 1006632960)))), (msz, .inl (cI, 8, .inl (upd (upd (upd pz j (nI ((((rs.take r).flatMap fx_one).length) + 1))) j (nI ((((rs.take r).flatMap fx_one).length + 1) + 1))) j (nI ((((rs.take r).flatMap fx_one).length + 1 + 1) + 1))))), (xc, .inl (cI, 8, .inl gc)), (xa, .inl (cI, 8, .inl ga)), (xm, .inl (cI, 8, .inl gm)), (xv, .inl (cI, 8, .inl gv))] H := hP.sub [4, 5, 6, 7, 8, 9, 0, 1, 2, 3] rfl
      have hD : va_D A [(mo, .inr (5, [.ref mop, .ref mye, .ref mno, .ref mnu, .ref msz, .int (nI stk), .ref mre, .ref mce, .ref mco, .ref xc, .ref xa, .ref xm, .ref xv, .int (nI cnt), .int stp, .int (nI 0)])), (mop, .inl (cI, 320, .inl (upd (upd (upd po (40 * j + (((rs.take r).flatMap fx_one).length)) (nI 0)) (40 * j + (((rs.take r).flatMap fx_one).length + 1)) (nI 26)) (40 * j + (((rs.take r).flatMap fx_one).length + 1 + 1)) (nI 31)))), (mye, .inl (cI, 320, .inl (upd (upd (upd py (40 * j + (((rs.take r).flatMap fx_one).length)) (nI 0)) (40 * j + (((rs.take r).flatMap fx_one).length + 1)) (nI 0)) (40 * j + (((rs.take r).flatMap fx_one).length + 1 + 1)) (nI 0)))), (mno, .inl (cI, 320, .inl (upd (upd (upd pn (40 * j + (((rs.take r).flatMap fx_one).length)) (nI 0)) (40 * j + (((rs.take r).flatMap fx_one).length + 1)) (nI 1)) (40 * j + (((rs.take r).flatMap fx_one).length + 1 + 1)) (nI 0)))), (mnu, .inl (cI, 320, .inl (upd (upd (upd pk (40 * j + (((rs.take r).flatMap fx_one).length)) (nI 0)) (40 * j + (((rs.take r).flatMap fx_one).length + 1)) (gc r)) (40 * j + (((rs.take r).flatMap fx_one).length + 1 + 1)) (nI 1006632960)))), (msz, .inl (cI, 8, .inl (upd (upd (upd pz j (nI ((((rs.take r).flatMap fx_one).length) + 1))) j (nI ((((rs.take r).flatMap fx_one).length + 1) + 1))) j (nI ((((rs.take r).flatMap fx_one).length + 1 + 1) + 1))))), (xc, .inl (cI, 8, .inl gc)), (xa, .inl (cI, 8, .inl ga)), (xm, .inl (cI, 8, .inl gm)), (xv, .inl (cI, 8, .inl gv))] := hD.sub [4, 5, 6, 7, 8, 9, 0, 1, 2, 3] (by decide) rfl
      have hr0 := hrep
      have hs0 := hsm
      have hr0 := fx_rep_put (m := ((rs.take r).flatMap fx_one).length) (o := 0) (y := 0) (n := 0) (k := 0) (by simp) rfl rfl rfl hr0
      have hs0 := fx_same_put (m := ((rs.take r).flatMap fx_one).length) (by omega) (nI 0) (nI 0) (nI 0) (0) (nI (((rs.take r).flatMap fx_one).length + 1)) hs0
      have hr0 := fx_rep_put (m := ((rs.take r).flatMap fx_one).length + 1) (o := 26) (y := 0) (n := 1) (k := gc r) (by simp) rfl rfl rfl hr0
      have hs0 := fx_same_put (m := ((rs.take r).flatMap fx_one).length + 1) (by omega) (nI 26) (nI 0) (nI 1) (gc r) (nI (((rs.take r).flatMap fx_one).length + 1 + 1)) hs0
      have hr0 := fx_rep_put (m := ((rs.take r).flatMap fx_one).length + 1 + 1) (o := 31) (y := 0) (n := 0) (k := 1006632960) (by simp) rfl rfl rfl hr0
      have hs0 := fx_same_put (m := ((rs.take r).flatMap fx_one).length + 1 + 1) (by omega) (nI 31) (nI 0) (nI 0) (1006632960) (nI (((rs.take r).flatMap fx_one).length + 1 + 1 + 1)) hs0
      have hone : (rs.take (r + 1)).flatMap fx_one = (((((rs.take r).flatMap fx_one) ++ [(0, 0, 0, 0)]) ++ [(26, 0, 1, gc r)]) ++ [(31, 0, 0, 1006632960)]) := by rw [fx_take hrr (by omega), fx_one, if_pos hv]; simp
      rw [← hone] at hr0
      refine lv_iinc (v := nI (r + 1)) (k := 5) hx hb d_Mo_compile_199 hl rfl (fs_incN r 1) (by decide) (lv' := [(4, .int (nI (r + 1))), (5, .int (nI 0)), (0, .ref mo), (1, .int (nI j)), (2, .int v), (3, .int (nI acc))]) rfl (fun ls hl => ?_)
      refine lv_goto (tgt := 74) hx hb d_Mo_compile_202 (by decide) ?_
      exact ih74 (r + 1) (upd (upd (upd po (40 * j + (((rs.take r).flatMap fx_one).length)) (nI 0)) (40 * j + (((rs.take r).flatMap fx_one).length + 1)) (nI 26)) (40 * j + (((rs.take r).flatMap fx_one).length + 1 + 1)) (nI 31)) (upd (upd (upd py (40 * j + (((rs.take r).flatMap fx_one).length)) (nI 0)) (40 * j + (((rs.take r).flatMap fx_one).length + 1)) (nI 0)) (40 * j + (((rs.take r).flatMap fx_one).length + 1 + 1)) (nI 0)) (upd (upd (upd pn (40 * j + (((rs.take r).flatMap fx_one).length)) (nI 0)) (40 * j + (((rs.take r).flatMap fx_one).length + 1)) (nI 1)) (40 * j + (((rs.take r).flatMap fx_one).length + 1 + 1)) (nI 0)) (upd (upd (upd pk (40 * j + (((rs.take r).flatMap fx_one).length)) (nI 0)) (40 * j + (((rs.take r).flatMap fx_one).length + 1)) (gc r)) (40 * j + (((rs.take r).flatMap fx_one).length + 1 + 1)) (nI 1006632960)) (upd (upd (upd pz j (nI ((((rs.take r).flatMap fx_one).length) + 1))) j (nI ((((rs.take r).flatMap fx_one).length + 1) + 1))) j (nI ((((rs.take r).flatMap fx_one).length + 1 + 1) + 1))) _ _ _ (by omega) ⟨by omega, (by rw [pk_us, fx_take hrr (by omega), List.length_append, fx_one_len]; dsimp only; rw [hlv]), hr0, hs0, hP, hD, hS, lv_sub hl [2, 3, 4, 5, 0] rfl⟩
    rw [fs_lt0] at hc90
    refine lv_iconst (v := nI 1) hx hb d_Mo_compile_93 (by decide) ?_
    refine lv_goto (tgt := 98) hx hb d_Mo_compile_94 (by decide) ?_
    refine lv_istore hx hb d_Mo_compile_98 hl (by decide) (lv' := [(5, .int (nI 1)), (0, .ref mo), (1, .int (nI j)), (2, .int v), (3, .int (nI acc)), (4, .int (nI r))]) rfl (fun ls hl => ?_)
    have hv : ¬ ga r = -1 := fx_len6 (by omega)
    have hlv : fx_len (ga r) = 6 := by rw [fx_len, if_neg hv]
    refine lv_aload_n hx hb d_Mo_compile_100 rfl (lv_at hl 1 rfl) ?_
    refine lv_iload_n hx hb d_Mo_compile_101 rfl (lv_at hl 2 rfl) ?_
    refine lv_iconst (v := nI 0) hx hb d_Mo_compile_102 (by decide) ?_
    refine lv_iconst (v := nI 0) hx hb d_Mo_compile_103 (by decide) ?_
    refine lv_iconst (v := nI 0) hx hb d_Mo_compile_104 (by decide) ?_
    refine lv_iconst (v := nI 0) hx hb d_Mo_compile_105 (by decide) ?_
    refine fs_callv (wc := [(mo, .inr (5, [.ref mop, .ref mye, .ref mno, .ref mnu, .ref msz, .int (nI stk), .ref mre, .ref mce, .ref mco, .ref xc, .ref xa, .ref xm, .ref xv, .int (nI cnt), .int stp, .int (nI 0)])), (mop, .inl (cI, 320, .inl po)), (mye, .inl (cI, 320, .inl py)), (mno, .inl (cI, 320, .inl pn)), (mnu, .inl (cI, 320, .inl pk)), (msz, .inl (cI, 8, .inl pz))]) (wr := [(xc, .inl (cI, 8, .inl gc)), (xa, .inl (cI, 8, .inl ga)), (xm, .inl (cI, 8, .inl gm)), (xv, .inl (cI, 8, .inl gv))]) [0, 1, 2, 3, 4, 5] [6, 7, 8, 9] hP hD hK hS hA rfl rfl rfl (by decide) (fun hPc hDc => va_runV (C := R_Mo) (As := [.int (nI j), .int (nI 0), .int (nI 0), .int (nI 0), .int (nI 0)]) (rest := []) ⟨hx, hb, hml, hown, hts⟩ (c_Mo_put mo mop mye mno mnu msz stk mre mce mco xc xa xm xv cnt stp (nI 0) po py pn pk pz j (((rs.take r).flatMap fx_one).length) (nI 0) (nI 0) (nI 0) (nI 0) _ (by omega) (by omega) (hzs)) (⟨callB_of 5 hts (fs_g kin_Mo_put) rfl rfl rfl (hts _ wi_6) (hts _ wi_491) (by decide +kernel) ⟨Nat.le_of_ble_eq_true rfl, Nat.le_of_ble_eq_true rfl⟩, hts _ wi_493, hts _ sel_Mo_put⟩) (fs_preV (q0 := 0) rfl rfl hPc hK hDc) rfl rfl hl.1 rfl (lv_room (Nat.le_of_ble_eq_true rfl)) d_Mo_compile_106 ⟨Nat.le_of_ble_eq_true rfl, Nat.le_of_ble_eq_true rfl⟩) rfl (fun _ H locs hp106 hP hD hS => ?_)
    have hP : va_P (dC, dI) vwCl [(mo, .inr (5, [.ref mop, .ref mye, .ref mno, .ref mnu, .ref msz, .int (nI stk), .ref mre, .ref mce, .ref mco, .ref xc, .ref xa, .ref xm, .ref xv, .int (nI cnt), .int stp, .int (nI 0)])), (mop, .inl (cI, 320, .inl (upd po (40 * j + (((rs.take r).flatMap fx_one).length)) (nI 0)))), (mye, .inl (cI, 320, .inl (upd py (40 * j + (((rs.take r).flatMap fx_one).length)) (nI 0)))), (mno, .inl (cI, 320, .inl (upd pn (40 * j + (((rs.take r).flatMap fx_one).length)) (nI 0)))), (mnu, .inl (cI, 320, .inl (upd pk (40 * j + (((rs.take r).flatMap fx_one).length)) (nI 0)))), (msz, .inl (cI, 8, .inl (upd pz j (nI ((((rs.take r).flatMap fx_one).length) + 1))))), (xc, .inl (cI, 8, .inl gc)), (xa, .inl (cI, 8, .inl ga)), (xm, .inl (cI, 8, .inl gm)), (xv, .inl (cI, 8, .inl gv))] H := hP.sub [4, 5, 6, 7, 8, 9, 0, 1, 2, 3] rfl
    have hD : va_D A [(mo, .inr (5, [.ref mop, .ref mye, .ref mno, .ref mnu, .ref msz, .int (nI stk), .ref mre, .ref mce, .ref mco, .ref xc, .ref xa, .ref xm, .ref xv, .int (nI cnt), .int stp, .int (nI 0)])), (mop, .inl (cI, 320, .inl (upd po (40 * j + (((rs.take r).flatMap fx_one).length)) (nI 0)))), (mye, .inl (cI, 320, .inl (upd py (40 * j + (((rs.take r).flatMap fx_one).length)) (nI 0)))), (mno, .inl (cI, 320, .inl (upd pn (40 * j + (((rs.take r).flatMap fx_one).length)) (nI 0)))), (mnu, .inl (cI, 320, .inl (upd pk (40 * j + (((rs.take r).flatMap fx_one).length)) (nI 0)))), (msz, .inl (cI, 8, .inl (upd pz j (nI ((((rs.take r).flatMap fx_one).length) + 1))))), (xc, .inl (cI, 8, .inl gc)), (xa, .inl (cI, 8, .inl ga)), (xm, .inl (cI, 8, .inl gm)), (xv, .inl (cI, 8, .inl gv))] := hD.sub [4, 5, 6, 7, 8, 9, 0, 1, 2, 3] (by decide) rfl
    refine lv_aload_n hx hb d_Mo_compile_109 rfl (lv_at hl 1 rfl) ?_
    refine lv_iload_n hx hb d_Mo_compile_110 rfl (lv_at hl 2 rfl) ?_
    refine lv_bipush (v := nI 26) hx hb d_Mo_compile_111 (by decide) ?_
    refine lv_iconst (v := nI 0) hx hb d_Mo_compile_113 (by decide) ?_
    refine lv_iload hx hb d_Mo_compile_114 (lv_at hl 0 rfl) ?_
    refine lv_if_eq (tgt := 123) hx hb d_Mo_compile_116 (by decide) (fun hc => absurd hc (by decide)) (fun _ => ?_)
    refine lv_iconst (v := nI 4) hx hb d_Mo_compile_119 (by decide) ?_
    refine lv_goto (tgt := 124) hx hb d_Mo_compile_120 (by decide) ?_
    refine lv_aload_n hx hb d_Mo_compile_124 rfl (lv_at hl 1 rfl) ?_
    refine va_get (D := (dC, dI)) (ci := 5) (v := .ref xc) (C := R_Mo) (T := T_Mo) (N := 16) hx hb hts uin_Mo hown hK hP 0 rfl rfl 9 (by decide) (hts _ wi_439) (fun _ h9 => h9) rfl d_Mo_compile_125 ?_
    refine lv_iload hx hb d_Mo_compile_128 (lv_at hl 5 rfl) ?_
    refine fs_iald (v := gc r) hx hb hK hP 6 0 rfl rfl r rfl (by decide) (by omega) rfl d_Mo_compile_130 ?_
    refine fs_callv (wc := [(mo, .inr (5, [.ref mop, .ref mye, .ref mno, .ref mnu, .ref msz, .int (nI stk), .ref mre, .ref mce, .ref mco, .ref xc, .ref xa, .ref xm, .ref xv, .int (nI cnt), .int stp, .int (nI 0)])), (mop, .inl (cI, 320, .inl (upd po (40 * j + (((rs.take r).flatMap fx_one).length)) (nI 0)))), (mye, .inl (cI, 320, .inl (upd py (40 * j + (((rs.take r).flatMap fx_one).length)) (nI 0)))), (mno, .inl (cI, 320, .inl (upd pn (40 * j + (((rs.take r).flatMap fx_one).length)) (nI 0)))), (mnu, .inl (cI, 320, .inl (upd pk (40 * j + (((rs.take r).flatMap fx_one).length)) (nI 0)))), (msz, .inl (cI, 8, .inl (upd pz j (nI ((((rs.take r).flatMap fx_one).length) + 1)))))]) (wr := [(xc, .inl (cI, 8, .inl gc)), (xa, .inl (cI, 8, .inl ga)), (xm, .inl (cI, 8, .inl gm)), (xv, .inl (cI, 8, .inl gv))]) [0, 1, 2, 3, 4, 5] [6, 7, 8, 9] hP hD hK hS hA rfl rfl rfl (by decide) (fun hPc hDc => va_runV (C := R_Mo) (As := [.int (nI j), .int (nI 26), .int (nI 0), .int (nI 4), .int (gc r)]) (rest := []) ⟨hx, hb, hml, hown, hts⟩ (c_Mo_put mo mop mye mno mnu msz stk mre mce mco xc xa xm xv cnt stp (nI 0) (upd po (40 * j + (((rs.take r).flatMap fx_one).length)) (nI 0)) (upd py (40 * j + (((rs.take r).flatMap fx_one).length)) (nI 0)) (upd pn (40 * j + (((rs.take r).flatMap fx_one).length)) (nI 0)) (upd pk (40 * j + (((rs.take r).flatMap fx_one).length)) (nI 0)) (upd pz j (nI ((((rs.take r).flatMap fx_one).length) + 1))) j (((rs.take r).flatMap fx_one).length + 1) (nI 26) (nI 0) (nI 4) (gc r) _ (by omega) (by omega) (pk_us)) (⟨callB_of 5 hts (fs_g kin_Mo_put) rfl rfl rfl (hts _ wi_6) (hts _ wi_491) (by decide +kernel) ⟨Nat.le_of_ble_eq_true rfl, Nat.le_of_ble_eq_true rfl⟩, hts _ wi_493, hts _ sel_Mo_put⟩) (fs_preV (q0 := 0) rfl rfl hPc hK hDc) rfl rfl hl.1 rfl (lv_room (Nat.le_of_ble_eq_true rfl)) d_Mo_compile_131 ⟨Nat.le_of_ble_eq_true rfl, Nat.le_of_ble_eq_true rfl⟩) rfl (fun _ H locs hp131 hP hD hS => ?_)
    have hP : va_P (dC, dI) vwCl [(mo, .inr (5, [.ref mop, .ref mye, .ref mno, .ref mnu, .ref msz, .int (nI stk), .ref mre, .ref mce, .ref mco, .ref xc, .ref xa, .ref xm, .ref xv, .int (nI cnt), .int stp, .int (nI 0)])), (mop, .inl (cI, 320, .inl (upd (upd po (40 * j + (((rs.take r).flatMap fx_one).length)) (nI 0)) (40 * j + (((rs.take r).flatMap fx_one).length + 1)) (nI 26)))), (mye, .inl (cI, 320, .inl (upd (upd py (40 * j + (((rs.take r).flatMap fx_one).length)) (nI 0)) (40 * j + (((rs.take r).flatMap fx_one).length + 1)) (nI 0)))), (mno, .inl (cI, 320, .inl (upd (upd pn (40 * j + (((rs.take r).flatMap fx_one).length)) (nI 0)) (40 * j + (((rs.take r).flatMap fx_one).length + 1)) (nI 4)))), (mnu, .inl (cI, 320, .inl (upd (upd pk (40 * j + (((rs.take r).flatMap fx_one).length)) (nI 0)) (40 * j + (((rs.take r).flatMap fx_one).length + 1)) (gc r)))), (msz, .inl (cI, 8, .inl (upd (upd pz j (nI ((((rs.take r).flatMap fx_one).length) + 1))) j (nI ((((rs.take r).flatMap fx_one).length + 1) + 1))))), (xc, .inl (cI, 8, .inl gc)), (xa, .inl (cI, 8, .inl ga)), (xm, .inl (cI, 8, .inl gm)), (xv, .inl (cI, 8, .inl gv))] H := hP.sub [4, 5, 6, 7, 8, 9, 0, 1, 2, 3] rfl
    have hD : va_D A [(mo, .inr (5, [.ref mop, .ref mye, .ref mno, .ref mnu, .ref msz, .int (nI stk), .ref mre, .ref mce, .ref mco, .ref xc, .ref xa, .ref xm, .ref xv, .int (nI cnt), .int stp, .int (nI 0)])), (mop, .inl (cI, 320, .inl (upd (upd po (40 * j + (((rs.take r).flatMap fx_one).length)) (nI 0)) (40 * j + (((rs.take r).flatMap fx_one).length + 1)) (nI 26)))), (mye, .inl (cI, 320, .inl (upd (upd py (40 * j + (((rs.take r).flatMap fx_one).length)) (nI 0)) (40 * j + (((rs.take r).flatMap fx_one).length + 1)) (nI 0)))), (mno, .inl (cI, 320, .inl (upd (upd pn (40 * j + (((rs.take r).flatMap fx_one).length)) (nI 0)) (40 * j + (((rs.take r).flatMap fx_one).length + 1)) (nI 4)))), (mnu, .inl (cI, 320, .inl (upd (upd pk (40 * j + (((rs.take r).flatMap fx_one).length)) (nI 0)) (40 * j + (((rs.take r).flatMap fx_one).length + 1)) (gc r)))), (msz, .inl (cI, 8, .inl (upd (upd pz j (nI ((((rs.take r).flatMap fx_one).length) + 1))) j (nI ((((rs.take r).flatMap fx_one).length + 1) + 1))))), (xc, .inl (cI, 8, .inl gc)), (xa, .inl (cI, 8, .inl ga)), (xm, .inl (cI, 8, .inl gm)), (xv, .inl (cI, 8, .inl gv))] := hD.sub [4, 5, 6, 7, 8, 9, 0, 1, 2, 3] (by decide) rfl
    refine lv_iload hx hb d_Mo_compile_134 (lv_at hl 0 rfl) ?_
    refine lv_if_eq (tgt := 188) hx hb d_Mo_compile_136 (by decide) (fun hc => absurd hc (by decide)) (fun _ => ?_)
    refine lv_aload_n hx hb d_Mo_compile_139 rfl (lv_at hl 1 rfl) ?_
    refine lv_iload_n hx hb d_Mo_compile_140 rfl (lv_at hl 2 rfl) ?_
    refine lv_iconst (v := nI 0) hx hb d_Mo_compile_141 (by decide) ?_
    refine lv_iconst (v := nI 0) hx hb d_Mo_compile_142 (by decide) ?_
    refine lv_iconst (v := nI 0) hx hb d_Mo_compile_143 (by decide) ?_
    refine lv_iconst (v := nI 4) hx hb d_Mo_compile_144 (by decide) ?_
    refine lv_aload_n hx hb d_Mo_compile_145 rfl (lv_at hl 1 rfl) ?_
    refine va_get (D := (dC, dI)) (ci := 5) (v := .ref xa) (C := R_Mo) (T := T_Mo) (N := 16) hx hb hts uin_Mo hown hK hP 0 rfl rfl 10 (by decide) (hts _ wi_440) (fun _ h9 => h9) rfl d_Mo_compile_146 ?_
    refine lv_iload hx hb d_Mo_compile_149 (lv_at hl 5 rfl) ?_
    refine fs_iald (v := ga r) hx hb hK hP 7 0 rfl rfl r rfl (by decide) (by omega) rfl d_Mo_compile_151 ?_
    refine lv_iadd hx hb d_Mo_compile_152 ?_
    refine fs_callv (wc := [(mo, .inr (5, [.ref mop, .ref mye, .ref mno, .ref mnu, .ref msz, .int (nI stk), .ref mre, .ref mce, .ref mco, .ref xc, .ref xa, .ref xm, .ref xv, .int (nI cnt), .int stp, .int (nI 0)])), (mop, .inl (cI, 320, .inl (upd (upd po (40 * j + (((rs.take r).flatMap fx_one).length)) (nI 0)) (40 * j + (((rs.take r).flatMap fx_one).length + 1)) (nI 26)))), (mye, .inl (cI, 320, .inl (upd (upd py (40 * j + (((rs.take r).flatMap fx_one).length)) (nI 0)) (40 * j + (((rs.take r).flatMap fx_one).length + 1)) (nI 0)))), (mno, .inl (cI, 320, .inl (upd (upd pn (40 * j + (((rs.take r).flatMap fx_one).length)) (nI 0)) (40 * j + (((rs.take r).flatMap fx_one).length + 1)) (nI 4)))), (mnu, .inl (cI, 320, .inl (upd (upd pk (40 * j + (((rs.take r).flatMap fx_one).length)) (nI 0)) (40 * j + (((rs.take r).flatMap fx_one).length + 1)) (gc r)))), (msz, .inl (cI, 8, .inl (upd (upd pz j (nI ((((rs.take r).flatMap fx_one).length) + 1))) j (nI ((((rs.take r).flatMap fx_one).length + 1) + 1)))))]) (wr := [(xc, .inl (cI, 8, .inl gc)), (xa, .inl (cI, 8, .inl ga)), (xm, .inl (cI, 8, .inl gm)), (xv, .inl (cI, 8, .inl gv))]) [0, 1, 2, 3, 4, 5] [6, 7, 8, 9] hP hD hK hS hA rfl rfl rfl (by decide) (fun hPc hDc => va_runV (C := R_Mo) (As := [.int (nI j), .int (nI 0), .int (nI 0), .int (nI 0), .int ((nI 4) + (ga r))]) (rest := []) ⟨hx, hb, hml, hown, hts⟩ (c_Mo_put mo mop mye mno mnu msz stk mre mce mco xc xa xm xv cnt stp (nI 0) (upd (upd po (40 * j + (((rs.take r).flatMap fx_one).length)) (nI 0)) (40 * j + (((rs.take r).flatMap fx_one).length + 1)) (nI 26)) (upd (upd py (40 * j + (((rs.take r).flatMap fx_one).length)) (nI 0)) (40 * j + (((rs.take r).flatMap fx_one).length + 1)) (nI 0)) (upd (upd pn (40 * j + (((rs.take r).flatMap fx_one).length)) (nI 0)) (40 * j + (((rs.take r).flatMap fx_one).length + 1)) (nI 4)) (upd (upd pk (40 * j + (((rs.take r).flatMap fx_one).length)) (nI 0)) (40 * j + (((rs.take r).flatMap fx_one).length + 1)) (gc r)) (upd (upd pz j (nI ((((rs.take r).flatMap fx_one).length) + 1))) j (nI ((((rs.take r).flatMap fx_one).length + 1) + 1))) j (((rs.take r).flatMap fx_one).length + 1 + 1) (nI 0) (nI 0) (nI 0) ((nI 4) + (ga r)) _ (by omega) (by omega) (pk_us)) (⟨callB_of 5 hts (fs_g kin_Mo_put) rfl rfl rfl (hts _ wi_6) (hts _ wi_491) (by decide +kernel) ⟨Nat.le_of_ble_eq_true rfl, Nat.le_of_ble_eq_true rfl⟩, hts _ wi_493, hts _ sel_Mo_put⟩) (fs_preV (q0 := 0) rfl rfl hPc hK hDc) rfl rfl hl.1 rfl (lv_room (Nat.le_of_ble_eq_true rfl)) d_Mo_compile_153 ⟨Nat.le_of_ble_eq_true rfl, Nat.le_of_ble_eq_true rfl⟩) rfl (fun _ H locs hp153 hP hD hS => ?_)
    have hP : va_P (dC, dI) vwCl [(mo, .inr (5, [.ref mop, .ref mye, .ref mno, .ref mnu, .ref msz, .int (nI stk), .ref mre, .ref mce, .ref mco, .ref xc, .ref xa, .ref xm, .ref xv, .int (nI cnt), .int stp, .int (nI 0)])), (mop, .inl (cI, 320, .inl (upd (upd (upd po (40 * j + (((rs.take r).flatMap fx_one).length)) (nI 0)) (40 * j + (((rs.take r).flatMap fx_one).length + 1)) (nI 26)) (40 * j + (((rs.take r).flatMap fx_one).length + 1 + 1)) (nI 0)))), (mye, .inl (cI, 320, .inl (upd (upd (upd py (40 * j + (((rs.take r).flatMap fx_one).length)) (nI 0)) (40 * j + (((rs.take r).flatMap fx_one).length + 1)) (nI 0)) (40 * j + (((rs.take r).flatMap fx_one).length + 1 + 1)) (nI 0)))), (mno, .inl (cI, 320, .inl (upd (upd (upd pn (40 * j + (((rs.take r).flatMap fx_one).length)) (nI 0)) (40 * j + (((rs.take r).flatMap fx_one).length + 1)) (nI 4)) (40 * j + (((rs.take r).flatMap fx_one).length + 1 + 1)) (nI 0)))), (mnu, .inl (cI, 320, .inl (upd (upd (upd pk (40 * j + (((rs.take r).flatMap fx_one).length)) (nI 0)) (40 * j + (((rs.take r).flatMap fx_one).length + 1)) (gc r)) (40 * j + (((rs.take r).flatMap fx_one).length + 1 + 1)) ((nI 4) + (ga r))))), (msz, .inl (cI, 8, .inl (upd (upd (upd pz j (nI ((((rs.take r).flatMap fx_one).length) + 1))) j (nI ((((rs.take r).flatMap fx_one).length + 1) + 1))) j (nI ((((rs.take r).flatMap fx_one).length + 1 + 1) + 1))))), (xc, .inl (cI, 8, .inl gc)), (xa, .inl (cI, 8, .inl ga)), (xm, .inl (cI, 8, .inl gm)), (xv, .inl (cI, 8, .inl gv))] H := hP.sub [4, 5, 6, 7, 8, 9, 0, 1, 2, 3] rfl
    have hD : va_D A [(mo, .inr (5, [.ref mop, .ref mye, .ref mno, .ref mnu, .ref msz, .int (nI stk), .ref mre, .ref mce, .ref mco, .ref xc, .ref xa, .ref xm, .ref xv, .int (nI cnt), .int stp, .int (nI 0)])), (mop, .inl (cI, 320, .inl (upd (upd (upd po (40 * j + (((rs.take r).flatMap fx_one).length)) (nI 0)) (40 * j + (((rs.take r).flatMap fx_one).length + 1)) (nI 26)) (40 * j + (((rs.take r).flatMap fx_one).length + 1 + 1)) (nI 0)))), (mye, .inl (cI, 320, .inl (upd (upd (upd py (40 * j + (((rs.take r).flatMap fx_one).length)) (nI 0)) (40 * j + (((rs.take r).flatMap fx_one).length + 1)) (nI 0)) (40 * j + (((rs.take r).flatMap fx_one).length + 1 + 1)) (nI 0)))), (mno, .inl (cI, 320, .inl (upd (upd (upd pn (40 * j + (((rs.take r).flatMap fx_one).length)) (nI 0)) (40 * j + (((rs.take r).flatMap fx_one).length + 1)) (nI 4)) (40 * j + (((rs.take r).flatMap fx_one).length + 1 + 1)) (nI 0)))), (mnu, .inl (cI, 320, .inl (upd (upd (upd pk (40 * j + (((rs.take r).flatMap fx_one).length)) (nI 0)) (40 * j + (((rs.take r).flatMap fx_one).length + 1)) (gc r)) (40 * j + (((rs.take r).flatMap fx_one).length + 1 + 1)) ((nI 4) + (ga r))))), (msz, .inl (cI, 8, .inl (upd (upd (upd pz j (nI ((((rs.take r).flatMap fx_one).length) + 1))) j (nI ((((rs.take r).flatMap fx_one).length + 1) + 1))) j (nI ((((rs.take r).flatMap fx_one).length + 1 + 1) + 1))))), (xc, .inl (cI, 8, .inl gc)), (xa, .inl (cI, 8, .inl ga)), (xm, .inl (cI, 8, .inl gm)), (xv, .inl (cI, 8, .inl gv))] := hD.sub [4, 5, 6, 7, 8, 9, 0, 1, 2, 3] (by decide) rfl
    refine lv_aload_n hx hb d_Mo_compile_156 rfl (lv_at hl 1 rfl) ?_
    refine lv_iload_n hx hb d_Mo_compile_157 rfl (lv_at hl 2 rfl) ?_
    refine lv_bipush (v := nI 14) hx hb d_Mo_compile_158 (by decide) ?_
    refine lv_iconst (v := nI 0) hx hb d_Mo_compile_160 (by decide) ?_
    refine lv_iconst (v := nI 0) hx hb d_Mo_compile_161 (by decide) ?_
    refine lv_aload_n hx hb d_Mo_compile_162 rfl (lv_at hl 1 rfl) ?_
    refine va_get (D := (dC, dI)) (ci := 5) (v := .ref xm) (C := R_Mo) (T := T_Mo) (N := 16) hx hb hts uin_Mo hown hK hP 0 rfl rfl 11 (by decide) (hts _ wi_441) (fun _ h9 => h9) rfl d_Mo_compile_163 ?_
    refine lv_iload hx hb d_Mo_compile_166 (lv_at hl 5 rfl) ?_
    refine fs_iald (v := gm r) hx hb hK hP 8 0 rfl rfl r rfl (by decide) (by omega) rfl d_Mo_compile_168 ?_
    refine fs_callv (wc := [(mo, .inr (5, [.ref mop, .ref mye, .ref mno, .ref mnu, .ref msz, .int (nI stk), .ref mre, .ref mce, .ref mco, .ref xc, .ref xa, .ref xm, .ref xv, .int (nI cnt), .int stp, .int (nI 0)])), (mop, .inl (cI, 320, .inl (upd (upd (upd po (40 * j + (((rs.take r).flatMap fx_one).length)) (nI 0)) (40 * j + (((rs.take r).flatMap fx_one).length + 1)) (nI 26)) (40 * j + (((rs.take r).flatMap fx_one).length + 1 + 1)) (nI 0)))), (mye, .inl (cI, 320, .inl (upd (upd (upd py (40 * j + (((rs.take r).flatMap fx_one).length)) (nI 0)) (40 * j + (((rs.take r).flatMap fx_one).length + 1)) (nI 0)) (40 * j + (((rs.take r).flatMap fx_one).length + 1 + 1)) (nI 0)))), (mno, .inl (cI, 320, .inl (upd (upd (upd pn (40 * j + (((rs.take r).flatMap fx_one).length)) (nI 0)) (40 * j + (((rs.take r).flatMap fx_one).length + 1)) (nI 4)) (40 * j + (((rs.take r).flatMap fx_one).length + 1 + 1)) (nI 0)))), (mnu, .inl (cI, 320, .inl (upd (upd (upd pk (40 * j + (((rs.take r).flatMap fx_one).length)) (nI 0)) (40 * j + (((rs.take r).flatMap fx_one).length + 1)) (gc r)) (40 * j + (((rs.take r).flatMap fx_one).length + 1 + 1)) ((nI 4) + (ga r))))), (msz, .inl (cI, 8, .inl (upd (upd (upd pz j (nI ((((rs.take r).flatMap fx_one).length) + 1))) j (nI ((((rs.take r).flatMap fx_one).length + 1) + 1))) j (nI ((((rs.take r).flatMap fx_one).length + 1 + 1) + 1)))))]) (wr := [(xc, .inl (cI, 8, .inl gc)), (xa, .inl (cI, 8, .inl ga)), (xm, .inl (cI, 8, .inl gm)), (xv, .inl (cI, 8, .inl gv))]) [0, 1, 2, 3, 4, 5] [6, 7, 8, 9] hP hD hK hS hA rfl rfl rfl (by decide) (fun hPc hDc => va_runV (C := R_Mo) (As := [.int (nI j), .int (nI 14), .int (nI 0), .int (nI 0), .int (gm r)]) (rest := []) ⟨hx, hb, hml, hown, hts⟩ (c_Mo_put mo mop mye mno mnu msz stk mre mce mco xc xa xm xv cnt stp (nI 0) (upd (upd (upd po (40 * j + (((rs.take r).flatMap fx_one).length)) (nI 0)) (40 * j + (((rs.take r).flatMap fx_one).length + 1)) (nI 26)) (40 * j + (((rs.take r).flatMap fx_one).length + 1 + 1)) (nI 0)) (upd (upd (upd py (40 * j + (((rs.take r).flatMap fx_one).length)) (nI 0)) (40 * j + (((rs.take r).flatMap fx_one).length + 1)) (nI 0)) (40 * j + (((rs.take r).flatMap fx_one).length + 1 + 1)) (nI 0)) (upd (upd (upd pn (40 * j + (((rs.take r).flatMap fx_one).length)) (nI 0)) (40 * j + (((rs.take r).flatMap fx_one).length + 1)) (nI 4)) (40 * j + (((rs.take r).flatMap fx_one).length + 1 + 1)) (nI 0)) (upd (upd (upd pk (40 * j + (((rs.take r).flatMap fx_one).length)) (nI 0)) (40 * j + (((rs.take r).flatMap fx_one).length + 1)) (gc r)) (40 * j + (((rs.take r).flatMap fx_one).length + 1 + 1)) ((nI 4) + (ga r))) (upd (upd (upd pz j (nI ((((rs.take r).flatMap fx_one).length) + 1))) j (nI ((((rs.take r).flatMap fx_one).length + 1) + 1))) j (nI ((((rs.take r).flatMap fx_one).length + 1 + 1) + 1))) j (((rs.take r).flatMap fx_one).length + 1 + 1 + 1) (nI 14) (nI 0) (nI 0) (gm r) _ (by omega) (by omega) (pk_us)) (⟨callB_of 5 hts (fs_g kin_Mo_put) rfl rfl rfl (hts _ wi_6) (hts _ wi_491) (by decide +kernel) ⟨Nat.le_of_ble_eq_true rfl, Nat.le_of_ble_eq_true rfl⟩, hts _ wi_493, hts _ sel_Mo_put⟩) (fs_preV (q0 := 0) rfl rfl hPc hK hDc) rfl rfl hl.1 rfl (lv_room (Nat.le_of_ble_eq_true rfl)) d_Mo_compile_169 ⟨Nat.le_of_ble_eq_true rfl, Nat.le_of_ble_eq_true rfl⟩) rfl (fun _ H locs hp169 hP hD hS => ?_)
    have hP : va_P (dC, dI) vwCl [(mo, .inr (5, [.ref mop, .ref mye, .ref mno, .ref mnu, .ref msz, .int (nI stk), .ref mre, .ref mce, .ref mco, .ref xc, .ref xa, .ref xm, .ref xv, .int (nI cnt), .int stp, .int (nI 0)])), (mop, .inl (cI, 320, .inl (upd (upd (upd (upd po (40 * j + (((rs.take r).flatMap fx_one).length)) (nI 0)) (40 * j + (((rs.take r).flatMap fx_one).length + 1)) (nI 26)) (40 * j + (((rs.take r).flatMap fx_one).length + 1 + 1)) (nI 0)) (40 * j + (((rs.take r).flatMap fx_one).length + 1 + 1 + 1)) (nI 14)))), (mye, .inl (cI, 320, .inl (upd (upd (upd (upd py (40 * j + (((rs.take r).flatMap fx_one).length)) (nI 0)) (40 * j + (((rs.take r).flatMap fx_one).length + 1)) (nI 0)) (40 * j + (((rs.take r).flatMap fx_one).length + 1 + 1)) (nI 0)) (40 * j + (((rs.take r).flatMap fx_one).length + 1 + 1 + 1)) (nI 0)))), (mno, .inl (cI, 320, .inl (upd (upd (upd (upd pn (40 * j + (((rs.take r).flatMap fx_one).length)) (nI 0)) (40 * j + (((rs.take r).flatMap fx_one).length + 1)) (nI 4)) (40 * j + (((rs.take r).flatMap fx_one).length + 1 + 1)) (nI 0)) (40 * j + (((rs.take r).flatMap fx_one).length + 1 + 1 + 1)) (nI 0)))), (mnu, .inl (cI, 320, .inl (upd (upd (upd (upd pk (40 * j + (((rs.take r).flatMap fx_one).length)) (nI 0)) (40 * j + (((rs.take r).flatMap fx_one).length + 1)) (gc r)) (40 * j + (((rs.take r).flatMap fx_one).length + 1 + 1)) ((nI 4) + (ga r))) (40 * j + (((rs.take r).flatMap fx_one).length + 1 + 1 + 1)) (gm r)))), (msz, .inl (cI, 8, .inl (upd (upd (upd (upd pz j (nI ((((rs.take r).flatMap fx_one).length) + 1))) j (nI ((((rs.take r).flatMap fx_one).length + 1) + 1))) j (nI ((((rs.take r).flatMap fx_one).length + 1 + 1) + 1))) j (nI ((((rs.take r).flatMap fx_one).length + 1 + 1 + 1) + 1))))), (xc, .inl (cI, 8, .inl gc)), (xa, .inl (cI, 8, .inl ga)), (xm, .inl (cI, 8, .inl gm)), (xv, .inl (cI, 8, .inl gv))] H := hP.sub [4, 5, 6, 7, 8, 9, 0, 1, 2, 3] rfl
    have hD : va_D A [(mo, .inr (5, [.ref mop, .ref mye, .ref mno, .ref mnu, .ref msz, .int (nI stk), .ref mre, .ref mce, .ref mco, .ref xc, .ref xa, .ref xm, .ref xv, .int (nI cnt), .int stp, .int (nI 0)])), (mop, .inl (cI, 320, .inl (upd (upd (upd (upd po (40 * j + (((rs.take r).flatMap fx_one).length)) (nI 0)) (40 * j + (((rs.take r).flatMap fx_one).length + 1)) (nI 26)) (40 * j + (((rs.take r).flatMap fx_one).length + 1 + 1)) (nI 0)) (40 * j + (((rs.take r).flatMap fx_one).length + 1 + 1 + 1)) (nI 14)))), (mye, .inl (cI, 320, .inl (upd (upd (upd (upd py (40 * j + (((rs.take r).flatMap fx_one).length)) (nI 0)) (40 * j + (((rs.take r).flatMap fx_one).length + 1)) (nI 0)) (40 * j + (((rs.take r).flatMap fx_one).length + 1 + 1)) (nI 0)) (40 * j + (((rs.take r).flatMap fx_one).length + 1 + 1 + 1)) (nI 0)))), (mno, .inl (cI, 320, .inl (upd (upd (upd (upd pn (40 * j + (((rs.take r).flatMap fx_one).length)) (nI 0)) (40 * j + (((rs.take r).flatMap fx_one).length + 1)) (nI 4)) (40 * j + (((rs.take r).flatMap fx_one).length + 1 + 1)) (nI 0)) (40 * j + (((rs.take r).flatMap fx_one).length + 1 + 1 + 1)) (nI 0)))), (mnu, .inl (cI, 320, .inl (upd (upd (upd (upd pk (40 * j + (((rs.take r).flatMap fx_one).length)) (nI 0)) (40 * j + (((rs.take r).flatMap fx_one).length + 1)) (gc r)) (40 * j + (((rs.take r).flatMap fx_one).length + 1 + 1)) ((nI 4) + (ga r))) (40 * j + (((rs.take r).flatMap fx_one).length + 1 + 1 + 1)) (gm r)))), (msz, .inl (cI, 8, .inl (upd (upd (upd (upd pz j (nI ((((rs.take r).flatMap fx_one).length) + 1))) j (nI ((((rs.take r).flatMap fx_one).length + 1) + 1))) j (nI ((((rs.take r).flatMap fx_one).length + 1 + 1) + 1))) j (nI ((((rs.take r).flatMap fx_one).length + 1 + 1 + 1) + 1))))), (xc, .inl (cI, 8, .inl gc)), (xa, .inl (cI, 8, .inl ga)), (xm, .inl (cI, 8, .inl gm)), (xv, .inl (cI, 8, .inl gv))] := hD.sub [4, 5, 6, 7, 8, 9, 0, 1, 2, 3] (by decide) rfl
    refine lv_aload_n hx hb d_Mo_compile_172 rfl (lv_at hl 1 rfl) ?_
    refine lv_iload_n hx hb d_Mo_compile_173 rfl (lv_at hl 2 rfl) ?_
    refine lv_bipush (v := nI 26) hx hb d_Mo_compile_174 (by decide) ?_
    refine lv_iconst (v := nI 0) hx hb d_Mo_compile_176 (by decide) ?_
    refine lv_iconst (v := nI 1) hx hb d_Mo_compile_177 (by decide) ?_
    refine lv_aload_n hx hb d_Mo_compile_178 rfl (lv_at hl 1 rfl) ?_
    refine va_get (D := (dC, dI)) (ci := 5) (v := .ref xv) (C := R_Mo) (T := T_Mo) (N := 16) hx hb hts uin_Mo hown hK hP 0 rfl rfl 12 (by decide) (hts _ wi_442) (fun _ h9 => h9) rfl d_Mo_compile_179 ?_
    refine lv_iload hx hb d_Mo_compile_182 (lv_at hl 5 rfl) ?_
    refine fs_iald (v := gv r) hx hb hK hP 9 0 rfl rfl r rfl (by decide) (by omega) rfl d_Mo_compile_184 ?_
    refine fs_callv (wc := [(mo, .inr (5, [.ref mop, .ref mye, .ref mno, .ref mnu, .ref msz, .int (nI stk), .ref mre, .ref mce, .ref mco, .ref xc, .ref xa, .ref xm, .ref xv, .int (nI cnt), .int stp, .int (nI 0)])), (mop, .inl (cI, 320, .inl (upd (upd (upd (upd po (40 * j + (((rs.take r).flatMap fx_one).length)) (nI 0)) (40 * j + (((rs.take r).flatMap fx_one).length + 1)) (nI 26)) (40 * j + (((rs.take r).flatMap fx_one).length + 1 + 1)) (nI 0)) (40 * j + (((rs.take r).flatMap fx_one).length + 1 + 1 + 1)) (nI 14)))), (mye, .inl (cI, 320, .inl (upd (upd (upd (upd py (40 * j + (((rs.take r).flatMap fx_one).length)) (nI 0)) (40 * j + (((rs.take r).flatMap fx_one).length + 1)) (nI 0)) (40 * j + (((rs.take r).flatMap fx_one).length + 1 + 1)) (nI 0)) (40 * j + (((rs.take r).flatMap fx_one).length + 1 + 1 + 1)) (nI 0)))), (mno, .inl (cI, 320, .inl (upd (upd (upd (upd pn (40 * j + (((rs.take r).flatMap fx_one).length)) (nI 0)) (40 * j + (((rs.take r).flatMap fx_one).length + 1)) (nI 4)) (40 * j + (((rs.take r).flatMap fx_one).length + 1 + 1)) (nI 0)) (40 * j + (((rs.take r).flatMap fx_one).length + 1 + 1 + 1)) (nI 0)))), (mnu, .inl (cI, 320, .inl (upd (upd (upd (upd pk (40 * j + (((rs.take r).flatMap fx_one).length)) (nI 0)) (40 * j + (((rs.take r).flatMap fx_one).length + 1)) (gc r)) (40 * j + (((rs.take r).flatMap fx_one).length + 1 + 1)) ((nI 4) + (ga r))) (40 * j + (((rs.take r).flatMap fx_one).length + 1 + 1 + 1)) (gm r)))), (msz, .inl (cI, 8, .inl (upd (upd (upd (upd pz j (nI ((((rs.take r).flatMap fx_one).length) + 1))) j (nI ((((rs.take r).flatMap fx_one).length + 1) + 1))) j (nI ((((rs.take r).flatMap fx_one).length + 1 + 1) + 1))) j (nI ((((rs.take r).flatMap fx_one).length + 1 + 1 + 1) + 1)))))]) (wr := [(xc, .inl (cI, 8, .inl gc)), (xa, .inl (cI, 8, .inl ga)), (xm, .inl (cI, 8, .inl gm)), (xv, .inl (cI, 8, .inl gv))]) [0, 1, 2, 3, 4, 5] [6, 7, 8, 9] hP hD hK hS hA rfl rfl rfl (by decide) (fun hPc hDc => va_runV (C := R_Mo) (As := [.int (nI j), .int (nI 26), .int (nI 0), .int (nI 1), .int (gv r)]) (rest := []) ⟨hx, hb, hml, hown, hts⟩ (c_Mo_put mo mop mye mno mnu msz stk mre mce mco xc xa xm xv cnt stp (nI 0) (upd (upd (upd (upd po (40 * j + (((rs.take r).flatMap fx_one).length)) (nI 0)) (40 * j + (((rs.take r).flatMap fx_one).length + 1)) (nI 26)) (40 * j + (((rs.take r).flatMap fx_one).length + 1 + 1)) (nI 0)) (40 * j + (((rs.take r).flatMap fx_one).length + 1 + 1 + 1)) (nI 14)) (upd (upd (upd (upd py (40 * j + (((rs.take r).flatMap fx_one).length)) (nI 0)) (40 * j + (((rs.take r).flatMap fx_one).length + 1)) (nI 0)) (40 * j + (((rs.take r).flatMap fx_one).length + 1 + 1)) (nI 0)) (40 * j + (((rs.take r).flatMap fx_one).length + 1 + 1 + 1)) (nI 0)) (upd (upd (upd (upd pn (40 * j + (((rs.take r).flatMap fx_one).length)) (nI 0)) (40 * j + (((rs.take r).flatMap fx_one).length + 1)) (nI 4)) (40 * j + (((rs.take r).flatMap fx_one).length + 1 + 1)) (nI 0)) (40 * j + (((rs.take r).flatMap fx_one).length + 1 + 1 + 1)) (nI 0)) (upd (upd (upd (upd pk (40 * j + (((rs.take r).flatMap fx_one).length)) (nI 0)) (40 * j + (((rs.take r).flatMap fx_one).length + 1)) (gc r)) (40 * j + (((rs.take r).flatMap fx_one).length + 1 + 1)) ((nI 4) + (ga r))) (40 * j + (((rs.take r).flatMap fx_one).length + 1 + 1 + 1)) (gm r)) (upd (upd (upd (upd pz j (nI ((((rs.take r).flatMap fx_one).length) + 1))) j (nI ((((rs.take r).flatMap fx_one).length + 1) + 1))) j (nI ((((rs.take r).flatMap fx_one).length + 1 + 1) + 1))) j (nI ((((rs.take r).flatMap fx_one).length + 1 + 1 + 1) + 1))) j (((rs.take r).flatMap fx_one).length + 1 + 1 + 1 + 1) (nI 26) (nI 0) (nI 1) (gv r) _ (by omega) (by omega) (pk_us)) (⟨callB_of 5 hts (fs_g kin_Mo_put) rfl rfl rfl (hts _ wi_6) (hts _ wi_491) (by decide +kernel) ⟨Nat.le_of_ble_eq_true rfl, Nat.le_of_ble_eq_true rfl⟩, hts _ wi_493, hts _ sel_Mo_put⟩) (fs_preV (q0 := 0) rfl rfl hPc hK hDc) rfl rfl hl.1 rfl (lv_room (Nat.le_of_ble_eq_true rfl)) d_Mo_compile_185 ⟨Nat.le_of_ble_eq_true rfl, Nat.le_of_ble_eq_true rfl⟩) rfl (fun _ H locs hp185 hP hD hS => ?_)
    have hP : va_P (dC, dI) vwCl [(mo, .inr (5, [.ref mop, .ref mye, .ref mno, .ref mnu, .ref msz, .int (nI stk), .ref mre, .ref mce, .ref mco, .ref xc, .ref xa, .ref xm, .ref xv, .int (nI cnt), .int stp, .int (nI 0)])), (mop, .inl (cI, 320, .inl (upd (upd (upd (upd (upd po (40 * j + (((rs.take r).flatMap fx_one).length)) (nI 0)) (40 * j + (((rs.take r).flatMap fx_one).length + 1)) (nI 26)) (40 * j + (((rs.take r).flatMap fx_one).length + 1 + 1)) (nI 0)) (40 * j + (((rs.take r).flatMap fx_one).length + 1 + 1 + 1)) (nI 14)) (40 * j + (((rs.take r).flatMap fx_one).length + 1 + 1 + 1 + 1)) (nI 26)))), (mye, .inl (cI, 320, .inl (upd (upd (upd (upd (upd py (40 * j + (((rs.take r).flatMap fx_one).length)) (nI 0)) (40 * j + (((rs.take r).flatMap fx_one).length + 1)) (nI 0)) (40 * j + (((rs.take r).flatMap fx_one).length + 1 + 1)) (nI 0)) (40 * j + (((rs.take r).flatMap fx_one).length + 1 + 1 + 1)) (nI 0)) (40 * j + (((rs.take r).flatMap fx_one).length + 1 + 1 + 1 + 1)) (nI 0)))), (mno, .inl (cI, 320, .inl (upd (upd (upd (upd (upd pn (40 * j + (((rs.take r).flatMap fx_one).length)) (nI 0)) (40 * j + (((rs.take r).flatMap fx_one).length + 1)) (nI 4)) (40 * j + (((rs.take r).flatMap fx_one).length + 1 + 1)) (nI 0)) (40 * j + (((rs.take r).flatMap fx_one).length + 1 + 1 + 1)) (nI 0)) (40 * j + (((rs.take r).flatMap fx_one).length + 1 + 1 + 1 + 1)) (nI 1)))), (mnu, .inl (cI, 320, .inl (upd (upd (upd (upd (upd pk (40 * j + (((rs.take r).flatMap fx_one).length)) (nI 0)) (40 * j + (((rs.take r).flatMap fx_one).length + 1)) (gc r)) (40 * j + (((rs.take r).flatMap fx_one).length + 1 + 1)) ((nI 4) + (ga r))) (40 * j + (((rs.take r).flatMap fx_one).length + 1 + 1 + 1)) (gm r)) (40 * j + (((rs.take r).flatMap fx_one).length + 1 + 1 + 1 + 1)) (gv r)))), (msz, .inl (cI, 8, .inl (upd (upd (upd (upd (upd pz j (nI ((((rs.take r).flatMap fx_one).length) + 1))) j (nI ((((rs.take r).flatMap fx_one).length + 1) + 1))) j (nI ((((rs.take r).flatMap fx_one).length + 1 + 1) + 1))) j (nI ((((rs.take r).flatMap fx_one).length + 1 + 1 + 1) + 1))) j (nI ((((rs.take r).flatMap fx_one).length + 1 + 1 + 1 + 1) + 1))))), (xc, .inl (cI, 8, .inl gc)), (xa, .inl (cI, 8, .inl ga)), (xm, .inl (cI, 8, .inl gm)), (xv, .inl (cI, 8, .inl gv))] H := hP.sub [4, 5, 6, 7, 8, 9, 0, 1, 2, 3] rfl
    have hD : va_D A [(mo, .inr (5, [.ref mop, .ref mye, .ref mno, .ref mnu, .ref msz, .int (nI stk), .ref mre, .ref mce, .ref mco, .ref xc, .ref xa, .ref xm, .ref xv, .int (nI cnt), .int stp, .int (nI 0)])), (mop, .inl (cI, 320, .inl (upd (upd (upd (upd (upd po (40 * j + (((rs.take r).flatMap fx_one).length)) (nI 0)) (40 * j + (((rs.take r).flatMap fx_one).length + 1)) (nI 26)) (40 * j + (((rs.take r).flatMap fx_one).length + 1 + 1)) (nI 0)) (40 * j + (((rs.take r).flatMap fx_one).length + 1 + 1 + 1)) (nI 14)) (40 * j + (((rs.take r).flatMap fx_one).length + 1 + 1 + 1 + 1)) (nI 26)))), (mye, .inl (cI, 320, .inl (upd (upd (upd (upd (upd py (40 * j + (((rs.take r).flatMap fx_one).length)) (nI 0)) (40 * j + (((rs.take r).flatMap fx_one).length + 1)) (nI 0)) (40 * j + (((rs.take r).flatMap fx_one).length + 1 + 1)) (nI 0)) (40 * j + (((rs.take r).flatMap fx_one).length + 1 + 1 + 1)) (nI 0)) (40 * j + (((rs.take r).flatMap fx_one).length + 1 + 1 + 1 + 1)) (nI 0)))), (mno, .inl (cI, 320, .inl (upd (upd (upd (upd (upd pn (40 * j + (((rs.take r).flatMap fx_one).length)) (nI 0)) (40 * j + (((rs.take r).flatMap fx_one).length + 1)) (nI 4)) (40 * j + (((rs.take r).flatMap fx_one).length + 1 + 1)) (nI 0)) (40 * j + (((rs.take r).flatMap fx_one).length + 1 + 1 + 1)) (nI 0)) (40 * j + (((rs.take r).flatMap fx_one).length + 1 + 1 + 1 + 1)) (nI 1)))), (mnu, .inl (cI, 320, .inl (upd (upd (upd (upd (upd pk (40 * j + (((rs.take r).flatMap fx_one).length)) (nI 0)) (40 * j + (((rs.take r).flatMap fx_one).length + 1)) (gc r)) (40 * j + (((rs.take r).flatMap fx_one).length + 1 + 1)) ((nI 4) + (ga r))) (40 * j + (((rs.take r).flatMap fx_one).length + 1 + 1 + 1)) (gm r)) (40 * j + (((rs.take r).flatMap fx_one).length + 1 + 1 + 1 + 1)) (gv r)))), (msz, .inl (cI, 8, .inl (upd (upd (upd (upd (upd pz j (nI ((((rs.take r).flatMap fx_one).length) + 1))) j (nI ((((rs.take r).flatMap fx_one).length + 1) + 1))) j (nI ((((rs.take r).flatMap fx_one).length + 1 + 1) + 1))) j (nI ((((rs.take r).flatMap fx_one).length + 1 + 1 + 1) + 1))) j (nI ((((rs.take r).flatMap fx_one).length + 1 + 1 + 1 + 1) + 1))))), (xc, .inl (cI, 8, .inl gc)), (xa, .inl (cI, 8, .inl ga)), (xm, .inl (cI, 8, .inl gm)), (xv, .inl (cI, 8, .inl gv))] := hD.sub [4, 5, 6, 7, 8, 9, 0, 1, 2, 3] (by decide) rfl
    refine lv_aload_n hx hb d_Mo_compile_188 rfl (lv_at hl 1 rfl) ?_
    refine lv_iload_n hx hb d_Mo_compile_189 rfl (lv_at hl 2 rfl) ?_
    refine lv_bipush (v := nI 31) hx hb d_Mo_compile_190 (by decide) ?_
    refine lv_iconst (v := nI 0) hx hb d_Mo_compile_192 (by decide) ?_
    refine lv_iconst (v := nI 0) hx hb d_Mo_compile_193 (by decide) ?_
    refine lv_ldc (v := nI 1006632960) hx hb hown (hts _ wi_573) d_Mo_compile_194 ?_
    refine fs_callv (wc := [(mo, .inr (5, [.ref mop, .ref mye, .ref mno, .ref mnu, .ref msz, .int (nI stk), .ref mre, .ref mce, .ref mco, .ref xc, .ref xa, .ref xm, .ref xv, .int (nI cnt), .int stp, .int (nI 0)])), (mop, .inl (cI, 320, .inl (upd (upd (upd (upd (upd po (40 * j + (((rs.take r).flatMap fx_one).length)) (nI 0)) (40 * j + (((rs.take r).flatMap fx_one).length + 1)) (nI 26)) (40 * j + (((rs.take r).flatMap fx_one).length + 1 + 1)) (nI 0)) (40 * j + (((rs.take r).flatMap fx_one).length + 1 + 1 + 1)) (nI 14)) (40 * j + (((rs.take r).flatMap fx_one).length + 1 + 1 + 1 + 1)) (nI 26)))), (mye, .inl (cI, 320, .inl (upd (upd (upd (upd (upd py (40 * j + (((rs.take r).flatMap fx_one).length)) (nI 0)) (40 * j + (((rs.take r).flatMap fx_one).length + 1)) (nI 0)) (40 * j + (((rs.take r).flatMap fx_one).length + 1 + 1)) (nI 0)) (40 * j + (((rs.take r).flatMap fx_one).length + 1 + 1 + 1)) (nI 0)) (40 * j + (((rs.take r).flatMap fx_one).length + 1 + 1 + 1 + 1)) (nI 0)))), (mno, .inl (cI, 320, .inl (upd (upd (upd (upd (upd pn (40 * j + (((rs.take r).flatMap fx_one).length)) (nI 0)) (40 * j + (((rs.take r).flatMap fx_one).length + 1)) (nI 4)) (40 * j + (((rs.take r).flatMap fx_one).length + 1 + 1)) (nI 0)) (40 * j + (((rs.take r).flatMap fx_one).length + 1 + 1 + 1)) (nI 0)) (40 * j + (((rs.take r).flatMap fx_one).length + 1 + 1 + 1 + 1)) (nI 1)))), (mnu, .inl (cI, 320, .inl (upd (upd (upd (upd (upd pk (40 * j + (((rs.take r).flatMap fx_one).length)) (nI 0)) (40 * j + (((rs.take r).flatMap fx_one).length + 1)) (gc r)) (40 * j + (((rs.take r).flatMap fx_one).length + 1 + 1)) ((nI 4) + (ga r))) (40 * j + (((rs.take r).flatMap fx_one).length + 1 + 1 + 1)) (gm r)) (40 * j + (((rs.take r).flatMap fx_one).length + 1 + 1 + 1 + 1)) (gv r)))), (msz, .inl (cI, 8, .inl (upd (upd (upd (upd (upd pz j (nI ((((rs.take r).flatMap fx_one).length) + 1))) j (nI ((((rs.take r).flatMap fx_one).length + 1) + 1))) j (nI ((((rs.take r).flatMap fx_one).length + 1 + 1) + 1))) j (nI ((((rs.take r).flatMap fx_one).length + 1 + 1 + 1) + 1))) j (nI ((((rs.take r).flatMap fx_one).length + 1 + 1 + 1 + 1) + 1)))))]) (wr := [(xc, .inl (cI, 8, .inl gc)), (xa, .inl (cI, 8, .inl ga)), (xm, .inl (cI, 8, .inl gm)), (xv, .inl (cI, 8, .inl gv))]) [0, 1, 2, 3, 4, 5] [6, 7, 8, 9] hP hD hK hS hA rfl rfl rfl (by decide) (fun hPc hDc => va_runV (C := R_Mo) (As := [.int (nI j), .int (nI 31), .int (nI 0), .int (nI 0), .int (nI 1006632960)]) (rest := []) ⟨hx, hb, hml, hown, hts⟩ (c_Mo_put mo mop mye mno mnu msz stk mre mce mco xc xa xm xv cnt stp (nI 0) (upd (upd (upd (upd (upd po (40 * j + (((rs.take r).flatMap fx_one).length)) (nI 0)) (40 * j + (((rs.take r).flatMap fx_one).length + 1)) (nI 26)) (40 * j + (((rs.take r).flatMap fx_one).length + 1 + 1)) (nI 0)) (40 * j + (((rs.take r).flatMap fx_one).length + 1 + 1 + 1)) (nI 14)) (40 * j + (((rs.take r).flatMap fx_one).length + 1 + 1 + 1 + 1)) (nI 26)) (upd (upd (upd (upd (upd py (40 * j + (((rs.take r).flatMap fx_one).length)) (nI 0)) (40 * j + (((rs.take r).flatMap fx_one).length + 1)) (nI 0)) (40 * j + (((rs.take r).flatMap fx_one).length + 1 + 1)) (nI 0)) (40 * j + (((rs.take r).flatMap fx_one).length + 1 + 1 + 1)) (nI 0)) (40 * j + (((rs.take r).flatMap fx_one).length + 1 + 1 + 1 + 1)) (nI 0)) (upd (upd (upd (upd (upd pn (40 * j + (((rs.take r).flatMap fx_one).length)) (nI 0)) (40 * j + (((rs.take r).flatMap fx_one).length + 1)) (nI 4)) (40 * j + (((rs.take r).flatMap fx_one).length + 1 + 1)) (nI 0)) (40 * j + (((rs.take r).flatMap fx_one).length + 1 + 1 + 1)) (nI 0)) (40 * j + (((rs.take r).flatMap fx_one).length + 1 + 1 + 1 + 1)) (nI 1)) (upd (upd (upd (upd (upd pk (40 * j + (((rs.take r).flatMap fx_one).length)) (nI 0)) (40 * j + (((rs.take r).flatMap fx_one).length + 1)) (gc r)) (40 * j + (((rs.take r).flatMap fx_one).length + 1 + 1)) ((nI 4) + (ga r))) (40 * j + (((rs.take r).flatMap fx_one).length + 1 + 1 + 1)) (gm r)) (40 * j + (((rs.take r).flatMap fx_one).length + 1 + 1 + 1 + 1)) (gv r)) (upd (upd (upd (upd (upd pz j (nI ((((rs.take r).flatMap fx_one).length) + 1))) j (nI ((((rs.take r).flatMap fx_one).length + 1) + 1))) j (nI ((((rs.take r).flatMap fx_one).length + 1 + 1) + 1))) j (nI ((((rs.take r).flatMap fx_one).length + 1 + 1 + 1) + 1))) j (nI ((((rs.take r).flatMap fx_one).length + 1 + 1 + 1 + 1) + 1))) j (((rs.take r).flatMap fx_one).length + 1 + 1 + 1 + 1 + 1) (nI 31) (nI 0) (nI 0) (nI 1006632960) _ (by omega) (by omega) (pk_us)) (⟨callB_of 5 hts (fs_g kin_Mo_put) rfl rfl rfl (hts _ wi_6) (hts _ wi_491) (by decide +kernel) ⟨Nat.le_of_ble_eq_true rfl, Nat.le_of_ble_eq_true rfl⟩, hts _ wi_493, hts _ sel_Mo_put⟩) (fs_preV (q0 := 0) rfl rfl hPc hK hDc) rfl rfl hl.1 rfl (lv_room (Nat.le_of_ble_eq_true rfl)) d_Mo_compile_196 ⟨Nat.le_of_ble_eq_true rfl, Nat.le_of_ble_eq_true rfl⟩) rfl (fun _ H locs hp196 hP hD hS => ?_)
    have hP : va_P (dC, dI) vwCl [(mo, .inr (5, [.ref mop, .ref mye, .ref mno, .ref mnu, .ref msz, .int (nI stk), .ref mre, .ref mce, .ref mco, .ref xc, .ref xa, .ref xm, .ref xv, .int (nI cnt), .int stp, .int (nI 0)])), (mop, .inl (cI, 320, .inl (upd (upd (upd (upd (upd (upd po (40 * j + (((rs.take r).flatMap fx_one).length)) (nI 0)) (40 * j + (((rs.take r).flatMap fx_one).length + 1)) (nI 26)) (40 * j + (((rs.take r).flatMap fx_one).length + 1 + 1)) (nI 0)) (40 * j + (((rs.take r).flatMap fx_one).length + 1 + 1 + 1)) (nI 14)) (40 * j + (((rs.take r).flatMap fx_one).length + 1 + 1 + 1 + 1)) (nI 26)) (40 * j + (((rs.take r).flatMap fx_one).length + 1 + 1 + 1 + 1 + 1)) (nI 31)))), (mye, .inl (cI, 320, .inl (upd (upd (upd (upd (upd (upd py (40 * j + (((rs.take r).flatMap fx_one).length)) (nI 0)) (40 * j + (((rs.take r).flatMap fx_one).length + 1)) (nI 0)) (40 * j + (((rs.take r).flatMap fx_one).length + 1 + 1)) (nI 0)) (40 * j + (((rs.take r).flatMap fx_one).length + 1 + 1 + 1)) (nI 0)) (40 * j + (((rs.take r).flatMap fx_one).length + 1 + 1 + 1 + 1)) (nI 0)) (40 * j + (((rs.take r).flatMap fx_one).length + 1 + 1 + 1 + 1 + 1)) (nI 0)))), (mno, .inl (cI, 320, .inl (upd (upd (upd (upd (upd (upd pn (40 * j + (((rs.take r).flatMap fx_one).length)) (nI 0)) (40 * j + (((rs.take r).flatMap fx_one).length + 1)) (nI 4)) (40 * j + (((rs.take r).flatMap fx_one).length + 1 + 1)) (nI 0)) (40 * j + (((rs.take r).flatMap fx_one).length + 1 + 1 + 1)) (nI 0)) (40 * j + (((rs.take r).flatMap fx_one).length + 1 + 1 + 1 + 1)) (nI 1)) (40 * j + (((rs.take r).flatMap fx_one).length + 1 + 1 + 1 + 1 + 1)) (nI 0)))), (mnu, .inl (cI, 320, .inl (upd (upd (upd (upd (upd (upd pk (40 * j + (((rs.take r).flatMap fx_one).length)) (nI 0)) (40 * j + (((rs.take r).flatMap fx_one).length + 1)) (gc r)) (40 * j + (((rs.take r).flatMap fx_one).length + 1 + 1)) ((nI 4) + (ga r))) (40 * j + (((rs.take r).flatMap fx_one).length + 1 + 1 + 1)) (gm r)) (40 * j + (((rs.take r).flatMap fx_one).length + 1 + 1 + 1 + 1)) (gv r)) (40 * j + (((rs.take r).flatMap fx_one).length + 1 + 1 + 1 + 1 + 1)) (nI 1006632960)))), (msz, .inl (cI, 8, .inl (upd (upd (upd (upd (upd (upd pz j (nI ((((rs.take r).flatMap fx_one).length) + 1))) j (nI ((((rs.take r).flatMap fx_one).length + 1) + 1))) j (nI ((((rs.take r).flatMap fx_one).length + 1 + 1) + 1))) j (nI ((((rs.take r).flatMap fx_one).length + 1 + 1 + 1) + 1))) j (nI ((((rs.take r).flatMap fx_one).length + 1 + 1 + 1 + 1) + 1))) j (nI ((((rs.take r).flatMap fx_one).length + 1 + 1 + 1 + 1 + 1) + 1))))), (xc, .inl (cI, 8, .inl gc)), (xa, .inl (cI, 8, .inl ga)), (xm, .inl (cI, 8, .inl gm)), (xv, .inl (cI, 8, .inl gv))] H := hP.sub [4, 5, 6, 7, 8, 9, 0, 1, 2, 3] rfl
    have hD : va_D A [(mo, .inr (5, [.ref mop, .ref mye, .ref mno, .ref mnu, .ref msz, .int (nI stk), .ref mre, .ref mce, .ref mco, .ref xc, .ref xa, .ref xm, .ref xv, .int (nI cnt), .int stp, .int (nI 0)])), (mop, .inl (cI, 320, .inl (upd (upd (upd (upd (upd (upd po (40 * j + (((rs.take r).flatMap fx_one).length)) (nI 0)) (40 * j + (((rs.take r).flatMap fx_one).length + 1)) (nI 26)) (40 * j + (((rs.take r).flatMap fx_one).length + 1 + 1)) (nI 0)) (40 * j + (((rs.take r).flatMap fx_one).length + 1 + 1 + 1)) (nI 14)) (40 * j + (((rs.take r).flatMap fx_one).length + 1 + 1 + 1 + 1)) (nI 26)) (40 * j + (((rs.take r).flatMap fx_one).length + 1 + 1 + 1 + 1 + 1)) (nI 31)))), (mye, .inl (cI, 320, .inl (upd (upd (upd (upd (upd (upd py (40 * j + (((rs.take r).flatMap fx_one).length)) (nI 0)) (40 * j + (((rs.take r).flatMap fx_one).length + 1)) (nI 0)) (40 * j + (((rs.take r).flatMap fx_one).length + 1 + 1)) (nI 0)) (40 * j + (((rs.take r).flatMap fx_one).length + 1 + 1 + 1)) (nI 0)) (40 * j + (((rs.take r).flatMap fx_one).length + 1 + 1 + 1 + 1)) (nI 0)) (40 * j + (((rs.take r).flatMap fx_one).length + 1 + 1 + 1 + 1 + 1)) (nI 0)))), (mno, .inl (cI, 320, .inl (upd (upd (upd (upd (upd (upd pn (40 * j + (((rs.take r).flatMap fx_one).length)) (nI 0)) (40 * j + (((rs.take r).flatMap fx_one).length + 1)) (nI 4)) (40 * j + (((rs.take r).flatMap fx_one).length + 1 + 1)) (nI 0)) (40 * j + (((rs.take r).flatMap fx_one).length + 1 + 1 + 1)) (nI 0)) (40 * j + (((rs.take r).flatMap fx_one).length + 1 + 1 + 1 + 1)) (nI 1)) (40 * j + (((rs.take r).flatMap fx_one).length + 1 + 1 + 1 + 1 + 1)) (nI 0)))), (mnu, .inl (cI, 320, .inl (upd (upd (upd (upd (upd (upd pk (40 * j + (((rs.take r).flatMap fx_one).length)) (nI 0)) (40 * j + (((rs.take r).flatMap fx_one).length + 1)) (gc r)) (40 * j + (((rs.take r).flatMap fx_one).length + 1 + 1)) ((nI 4) + (ga r))) (40 * j + (((rs.take r).flatMap fx_one).length + 1 + 1 + 1)) (gm r)) (40 * j + (((rs.take r).flatMap fx_one).length + 1 + 1 + 1 + 1)) (gv r)) (40 * j + (((rs.take r).flatMap fx_one).length + 1 + 1 + 1 + 1 + 1)) (nI 1006632960)))), (msz, .inl (cI, 8, .inl (upd (upd (upd (upd (upd (upd pz j (nI ((((rs.take r).flatMap fx_one).length) + 1))) j (nI ((((rs.take r).flatMap fx_one).length + 1) + 1))) j (nI ((((rs.take r).flatMap fx_one).length + 1 + 1) + 1))) j (nI ((((rs.take r).flatMap fx_one).length + 1 + 1 + 1) + 1))) j (nI ((((rs.take r).flatMap fx_one).length + 1 + 1 + 1 + 1) + 1))) j (nI ((((rs.take r).flatMap fx_one).length + 1 + 1 + 1 + 1 + 1) + 1))))), (xc, .inl (cI, 8, .inl gc)), (xa, .inl (cI, 8, .inl ga)), (xm, .inl (cI, 8, .inl gm)), (xv, .inl (cI, 8, .inl gv))] := hD.sub [4, 5, 6, 7, 8, 9, 0, 1, 2, 3] (by decide) rfl
    have hr0 := hrep
    have hs0 := hsm
    have hr0 := fx_rep_put (m := ((rs.take r).flatMap fx_one).length) (o := 0) (y := 0) (n := 0) (k := 0) (by simp) rfl rfl rfl hr0
    have hs0 := fx_same_put (m := ((rs.take r).flatMap fx_one).length) (by omega) (nI 0) (nI 0) (nI 0) (0) (nI (((rs.take r).flatMap fx_one).length + 1)) hs0
    have hr0 := fx_rep_put (m := ((rs.take r).flatMap fx_one).length + 1) (o := 26) (y := 0) (n := 4) (k := gc r) (by simp) rfl rfl rfl hr0
    have hs0 := fx_same_put (m := ((rs.take r).flatMap fx_one).length + 1) (by omega) (nI 26) (nI 0) (nI 4) (gc r) (nI (((rs.take r).flatMap fx_one).length + 1 + 1)) hs0
    have hr0 := fx_rep_put (m := ((rs.take r).flatMap fx_one).length + 1 + 1) (o := 0) (y := 0) (n := 0) (k := 4 + ga r) (by simp) rfl rfl rfl hr0
    have hs0 := fx_same_put (m := ((rs.take r).flatMap fx_one).length + 1 + 1) (by omega) (nI 0) (nI 0) (nI 0) (4 + ga r) (nI (((rs.take r).flatMap fx_one).length + 1 + 1 + 1)) hs0
    have hr0 := fx_rep_put (m := ((rs.take r).flatMap fx_one).length + 1 + 1 + 1) (o := 14) (y := 0) (n := 0) (k := gm r) (by simp) rfl rfl rfl hr0
    have hs0 := fx_same_put (m := ((rs.take r).flatMap fx_one).length + 1 + 1 + 1) (by omega) (nI 14) (nI 0) (nI 0) (gm r) (nI (((rs.take r).flatMap fx_one).length + 1 + 1 + 1 + 1)) hs0
    have hr0 := fx_rep_put (m := ((rs.take r).flatMap fx_one).length + 1 + 1 + 1 + 1) (o := 26) (y := 0) (n := 1) (k := gv r) (by simp) rfl rfl rfl hr0
    have hs0 := fx_same_put (m := ((rs.take r).flatMap fx_one).length + 1 + 1 + 1 + 1) (by omega) (nI 26) (nI 0) (nI 1) (gv r) (nI (((rs.take r).flatMap fx_one).length + 1 + 1 + 1 + 1 + 1)) hs0
    have hr0 := fx_rep_put (m := ((rs.take r).flatMap fx_one).length + 1 + 1 + 1 + 1 + 1) (o := 31) (y := 0) (n := 0) (k := 1006632960) (by simp) rfl rfl rfl hr0
    have hs0 := fx_same_put (m := ((rs.take r).flatMap fx_one).length + 1 + 1 + 1 + 1 + 1) (by omega) (nI 31) (nI 0) (nI 0) (1006632960) (nI (((rs.take r).flatMap fx_one).length + 1 + 1 + 1 + 1 + 1 + 1)) hs0
    have hone : (rs.take (r + 1)).flatMap fx_one = ((((((((rs.take r).flatMap fx_one) ++ [(0, 0, 0, 0)]) ++ [(26, 0, 4, gc r)]) ++ [(0, 0, 0, 4 + ga r)]) ++ [(14, 0, 0, gm r)]) ++ [(26, 0, 1, gv r)]) ++ [(31, 0, 0, 1006632960)]) := by rw [fx_take hrr (by omega), fx_one, if_neg hv]; simp
    rw [← hone] at hr0
    refine lv_iinc (v := nI (r + 1)) (k := 5) hx hb d_Mo_compile_199 hl rfl (fs_incN r 1) (by decide) (lv' := [(4, .int (nI (r + 1))), (5, .int (nI 1)), (0, .ref mo), (1, .int (nI j)), (2, .int v), (3, .int (nI acc))]) rfl (fun ls hl => ?_)
    refine lv_goto (tgt := 74) hx hb d_Mo_compile_202 (by decide) ?_
    exact ih74 (r + 1) (upd (upd (upd (upd (upd (upd po (40 * j + (((rs.take r).flatMap fx_one).length)) (nI 0)) (40 * j + (((rs.take r).flatMap fx_one).length + 1)) (nI 26)) (40 * j + (((rs.take r).flatMap fx_one).length + 1 + 1)) (nI 0)) (40 * j + (((rs.take r).flatMap fx_one).length + 1 + 1 + 1)) (nI 14)) (40 * j + (((rs.take r).flatMap fx_one).length + 1 + 1 + 1 + 1)) (nI 26)) (40 * j + (((rs.take r).flatMap fx_one).length + 1 + 1 + 1 + 1 + 1)) (nI 31)) (upd (upd (upd (upd (upd (upd py (40 * j + (((rs.take r).flatMap fx_one).length)) (nI 0)) (40 * j + (((rs.take r).flatMap fx_one).length + 1)) (nI 0)) (40 * j + (((rs.take r).flatMap fx_one).length + 1 + 1)) (nI 0)) (40 * j + (((rs.take r).flatMap fx_one).length + 1 + 1 + 1)) (nI 0)) (40 * j + (((rs.take r).flatMap fx_one).length + 1 + 1 + 1 + 1)) (nI 0)) (40 * j + (((rs.take r).flatMap fx_one).length + 1 + 1 + 1 + 1 + 1)) (nI 0)) (upd (upd (upd (upd (upd (upd pn (40 * j + (((rs.take r).flatMap fx_one).length)) (nI 0)) (40 * j + (((rs.take r).flatMap fx_one).length + 1)) (nI 4)) (40 * j + (((rs.take r).flatMap fx_one).length + 1 + 1)) (nI 0)) (40 * j + (((rs.take r).flatMap fx_one).length + 1 + 1 + 1)) (nI 0)) (40 * j + (((rs.take r).flatMap fx_one).length + 1 + 1 + 1 + 1)) (nI 1)) (40 * j + (((rs.take r).flatMap fx_one).length + 1 + 1 + 1 + 1 + 1)) (nI 0)) (upd (upd (upd (upd (upd (upd pk (40 * j + (((rs.take r).flatMap fx_one).length)) (nI 0)) (40 * j + (((rs.take r).flatMap fx_one).length + 1)) (gc r)) (40 * j + (((rs.take r).flatMap fx_one).length + 1 + 1)) ((nI 4) + (ga r))) (40 * j + (((rs.take r).flatMap fx_one).length + 1 + 1 + 1)) (gm r)) (40 * j + (((rs.take r).flatMap fx_one).length + 1 + 1 + 1 + 1)) (gv r)) (40 * j + (((rs.take r).flatMap fx_one).length + 1 + 1 + 1 + 1 + 1)) (nI 1006632960)) (upd (upd (upd (upd (upd (upd pz j (nI ((((rs.take r).flatMap fx_one).length) + 1))) j (nI ((((rs.take r).flatMap fx_one).length + 1) + 1))) j (nI ((((rs.take r).flatMap fx_one).length + 1 + 1) + 1))) j (nI ((((rs.take r).flatMap fx_one).length + 1 + 1 + 1) + 1))) j (nI ((((rs.take r).flatMap fx_one).length + 1 + 1 + 1 + 1) + 1))) j (nI ((((rs.take r).flatMap fx_one).length + 1 + 1 + 1 + 1 + 1) + 1))) _ _ _ (by omega) ⟨by omega, (by rw [pk_us, fx_take hrr (by omega), List.length_append, fx_one_len]; dsimp only; rw [hlv]), hr0, hs0, hP, hD, hS, lv_sub hl [2, 3, 4, 5, 0] rfl⟩
  rw [nI_leI (by omega) (by omega)] at hc27
  refine lv_iload_n hx hb d_Mo_compile_30 rfl (lv_at hl 3 rfl) ?_
  refine lv_aload_n hx hb d_Mo_compile_31 rfl (lv_at hl 0 rfl) ?_
  refine va_get (D := (dC, dI)) (ci := 5) (v := .ref xa) (C := R_Mo) (T := T_Mo) (N := 16) hx hb hts uin_Mo hown hK hP 0 rfl rfl 10 (by decide) (hts _ wi_440) (fun _ h9 => h9) rfl d_Mo_compile_32 ?_
  refine lv_iload hx hb d_Mo_compile_35 (lv_at hl 4 rfl) ?_
  refine fs_iald (v := ga r) hx hb hK hP 7 0 rfl rfl r rfl (by decide) (by omega) rfl d_Mo_compile_37 ?_
  refine lv_if_ge (tgt := 45) hx hb d_Mo_compile_38 (by decide) (fun hc38 => ?_) (fun hc38 => ?_)
  · rw [fs_ge0] at hc38
    refine lv_bipush (v := nI 6) hx hb d_Mo_compile_45 (by decide) ?_
    refine lv_iadd hx hb d_Mo_compile_47 ?_
    refine fs_eqi (nI_add _ _) ?_
    refine lv_istore_n hx hb d_Mo_compile_48 rfl hl (by decide) (lv' := [(3, .int (nI (acc + 6))), (0, .ref mo), (1, .int (nI j)), (2, .int v), (4, .int (nI r))]) rfl (fun ls hl => ?_)
    refine lv_iinc (v := nI (r + 1)) (k := 4) hx hb d_Mo_compile_49 hl rfl (fs_incN r 1) (by decide) (lv' := [(4, .int (nI (r + 1))), (3, .int (nI (acc + 6))), (0, .ref mo), (1, .int (nI j)), (2, .int v)]) rfl (fun ls hl => ?_)
    refine lv_goto (tgt := 21) hx hb d_Mo_compile_52 (by decide) ?_
    exact ih21 (r + 1) (acc + 6) _ _ _ (by omega) ⟨by omega, by rw [fx_take hrr (by omega), List.length_append, fx_one_len, hacc]; dsimp only; rw [fx_len, if_neg (fx_len6 (by omega))]; omega, hP, hD, hS, lv_sub hl [2, 3, 4, 1, 0] rfl⟩
  rw [fs_ge0] at hc38
  refine lv_iconst (v := nI 3) hx hb d_Mo_compile_41 (by decide) ?_
  refine lv_goto (tgt := 47) hx hb d_Mo_compile_42 (by decide) ?_
  refine lv_iadd hx hb d_Mo_compile_47 ?_
  refine fs_eqi (nI_add _ _) ?_
  refine lv_istore_n hx hb d_Mo_compile_48 rfl hl (by decide) (lv' := [(3, .int (nI (acc + 3))), (0, .ref mo), (1, .int (nI j)), (2, .int v), (4, .int (nI r))]) rfl (fun ls hl => ?_)
  refine lv_iinc (v := nI (r + 1)) (k := 4) hx hb d_Mo_compile_49 hl rfl (fs_incN r 1) (by decide) (lv' := [(4, .int (nI (r + 1))), (3, .int (nI (acc + 3))), (0, .ref mo), (1, .int (nI j)), (2, .int v)]) rfl (fun ls hl => ?_)
  refine lv_goto (tgt := 21) hx hb d_Mo_compile_52 (by decide) ?_
  exact ih21 (r + 1) (acc + 3) _ _ _ (by omega) ⟨by omega, by rw [fx_take hrr (by omega), List.length_append, fx_one_len, hacc]; dsimp only; rw [fx_len, if_pos (fx_len3 (by omega) (harg r (by omega)))]; omega, hP, hD, hS, lv_sub hl [2, 3, 4, 1, 0] rfl⟩

set_option maxHeartbeats 4000000 in
set_option maxRecDepth 100000 in
theorem c_Mo_compileF (mo mop mye mno mnu msz stk mre mce mco xc xa xm xv cnt : Nat) (stp thr : Int32) (gc ga gm gv : Nat → Int32) (rs : List fx_Rule) (j : Nat) (v : Int32) (sz : Nat) (hj : j < 4) (hcnt : cnt = rs.length) (hc8 : cnt ≤ 8) (hrr : fx_rrep rs gc ga gm gv) (harg : ∀ r, r < cnt → -1 ≤ (ga r).toInt) (htot : ¬ (rs.flatMap fx_one).length ≤ 39) : fs_I l y_Mo_compile (k_Mo_compile :: fs_T) { frames := 1, cells := 0, slots := 0, locals := 26 } (dC, dI) vwCl (fs_tys cI cZ cJ cF) [.ref mo, .int (nI j), .int v] [(mo, .inr (5, [.ref mop, .ref mye, .ref mno, .ref mnu, .ref msz, .int (nI stk), .ref mre, .ref mce, .ref mco, .ref xc, .ref xa, .ref xm, .ref xv, .int (nI cnt), .int stp, .int thr])), (xa, .inl (cI, 8, .inl ga))] sz (S := Unit) (fun r _ => r = (-2)) (fun _ => [(mo, .inr (5, [.ref mop, .ref mye, .ref mno, .ref mnu, .ref msz, .int (nI stk), .ref mre, .ref mce, .ref mco, .ref xc, .ref xa, .ref xm, .ref xv, .int (nI cnt), .int stp, .int (nI 0)])), (xa, .inl (cI, 8, .inl ga))]) 0 0 := by
  refine fs_head (by decide) (Nat.le_of_ble_eq_true rfl) ?_
  intro p e s m below meth c A ls hx hb hr hts hown hlocks hin hml hK hP hD hS hA hAe hsz hl
  have hl : lv_has ls 6 [(0, .ref mo), (1, .int (nI j)), (2, .int v)] := hl
  have hown : s.vm.findClass R_Mo = some m.cls := hown
  refine lv_aload_n hx hb d_Mo_compile_0 rfl (lv_at hl 0 rfl) ?_
  refine lv_iconst (v := nI 0) hx hb d_Mo_compile_1 (by decide) ?_
  refine va_put (D := (dC, dI)) (ci := 5) (v := .int (nI 0)) (ty := (.int)) (C := R_Mo) (T := T_Mo) (N := 16) hx hb hts uin_Mo t_Mo ok_Mo n_Mo hown hK hP hD hS 0 rfl rfl 15 (by decide) (hts _ wi_445) (fun _ h9 => h9) rfl (by decide +kernel) rfl rfl (Nat.le_of_ble_eq_true rfl) d_Mo_compile_2 (fun H locs hP hD hS => ?_)
  have hP : va_P (dC, dI) vwCl [(mo, .inr (5, [.ref mop, .ref mye, .ref mno, .ref mnu, .ref msz, .int (nI stk), .ref mre, .ref mce, .ref mco, .ref xc, .ref xa, .ref xm, .ref xv, .int (nI cnt), .int stp, .int (nI 0)])), (xa, .inl (cI, 8, .inl ga))] H := hP
  have hD : va_D A [(mo, .inr (5, [.ref mop, .ref mye, .ref mno, .ref mnu, .ref msz, .int (nI stk), .ref mre, .ref mce, .ref mco, .ref xc, .ref xa, .ref xm, .ref xv, .int (nI cnt), .int stp, .int (nI 0)])), (xa, .inl (cI, 8, .inl ga))] := hD
  refine lv_iload_n hx hb d_Mo_compile_5 rfl (lv_at hl 1 rfl) ?_
  refine lv_iconst (v := nI 0) hx hb d_Mo_compile_6 (by decide) ?_
  refine lv_iconst (v := nI 3) hx hb d_Mo_compile_7 (by decide) ?_
  refine fs_calli (wc := []) (wr := [(mo, .inr (5, [.ref mop, .ref mye, .ref mno, .ref mnu, .ref msz, .int (nI stk), .ref mre, .ref mce, .ref mco, .ref xc, .ref xa, .ref xm, .ref xv, .int (nI cnt), .int stp, .int (nI 0)])), (xa, .inl (cI, 8, .inl ga))]) [] [0, 1] hP hD hK hS hA rfl rfl rfl (by decide) (fun hPc hDc => va_runS (As := [.int (nI j), .int (nI 0), .int (nI 3)]) (rest := []) ⟨hx, hb, hml, hown, hts⟩ (c_Mo_within (nI j) (nI 0) (nI 3) (((j : Nat) : Int)) (((0 : Nat) : Int)) (((3 : Nat) : Int)) _ (nI_toInt (by omega)) (nI_toInt (by omega)) (nI_toInt (by omega))) (⟨callB_of 3 hts (fs_g kin_Mo_within) rfl rfl rfl (hts _ wi_6) (hts _ wi_488) (by decide +kernel) ⟨Nat.le_of_ble_eq_true rfl, Nat.le_of_ble_eq_true rfl⟩, hts _ wi_489⟩) (fs_preS hPc hK hDc) rfl rfl hl.1 rfl (lv_room (Nat.le_of_ble_eq_true rfl)) d_Mo_compile_8 ⟨Nat.le_of_ble_eq_true rfl, Nat.le_of_ble_eq_true rfl⟩) rfl (fun r8 _ H locs hp8 hP hD hS => ?_)
  have hP : va_P (dC, dI) vwCl [(mo, .inr (5, [.ref mop, .ref mye, .ref mno, .ref mnu, .ref msz, .int (nI stk), .ref mre, .ref mce, .ref mco, .ref xc, .ref xa, .ref xm, .ref xv, .int (nI cnt), .int stp, .int (nI 0)])), (xa, .inl (cI, 8, .inl ga))] H := hP
  have hD : va_D A [(mo, .inr (5, [.ref mop, .ref mye, .ref mno, .ref mnu, .ref msz, .int (nI stk), .ref mre, .ref mce, .ref mco, .ref xc, .ref xa, .ref xm, .ref xv, .int (nI cnt), .int stp, .int (nI 0)])), (xa, .inl (cI, 8, .inl ga))] := hD
  rcases hp8 with ⟨hc8, rfl⟩ | ⟨hc8, _⟩
  rotate_left
  · exact absurd (by omega) hc8
  refine lv_if_ne (tgt := 16) hx hb d_Mo_compile_11 (by decide) (fun _ => ?_) (fun hc => absurd hc (by decide))
  refine lv_iconst (v := nI 1) hx hb d_Mo_compile_16 (by decide) ?_
  refine lv_istore_n hx hb d_Mo_compile_17 rfl hl (by decide) (lv' := [(3, .int (nI 1)), (0, .ref mo), (1, .int (nI j)), (2, .int v)]) rfl (fun ls hl => ?_)
  refine lv_iconst (v := nI 0) hx hb d_Mo_compile_18 (by decide) ?_
  refine lv_istore hx hb d_Mo_compile_19 hl (by decide) (lv' := [(4, .int (nI 0)), (3, .int (nI 1)), (0, .ref mo), (1, .int (nI j)), (2, .int v)]) rfl (fun ls hl => ?_)
  refine fs_loop2 (α1 := Nat) (α2 := Nat) (fun r acc => cnt - r) (fun r acc H locs ls => (r ≤ cnt) ∧ (acc = 1 + ((rs.take r).flatMap fx_one).length) ∧ va_P (dC, dI) vwCl [(mo, .inr (5, [.ref mop, .ref mye, .ref mno, .ref mnu, .ref msz, .int (nI stk), .ref mre, .ref mce, .ref mco, .ref xc, .ref xa, .ref xm, .ref xv, .int (nI cnt), .int stp, .int (nI 0)])), (xa, .inl (cI, 8, .inl ga))] H ∧ va_D A [(mo, .inr (5, [.ref mop, .ref mye, .ref mno, .ref mnu, .ref msz, .int (nI stk), .ref mre, .ref mce, .ref mco, .ref xc, .ref xa, .ref xm, .ref xv, .int (nI cnt), .int stp, .int (nI 0)])), (xa, .inl (cI, 8, .inl ga))] ∧ va_S A s.heap H locs ∧ lv_has ls 6 [(0, .ref mo), (1, .int (nI j)), (2, .int v), (3, .int (nI acc)), (4, .int (nI r))]) ?_ 0 1 ⟨by omega, by simp, hP, hD, hS, lv_sub hl [2, 3, 4, 1, 0] rfl⟩
  intro r acc H locs ls hI ih21
  obtain ⟨hrc, hacc, hP, hD, hS, hl⟩ := hI
  have hfl := fx_flat_le (rs.take r)
  have htk : (rs.take r).length ≤ rs.length := (by rw [List.length_take]; omega)
  refine lv_iload hx hb d_Mo_compile_21 (lv_at hl 4 rfl) ?_
  refine lv_aload_n hx hb d_Mo_compile_23 rfl (lv_at hl 0 rfl) ?_
  refine va_get (D := (dC, dI)) (ci := 5) (v := .int (nI cnt)) (C := R_Mo) (T := T_Mo) (N := 16) hx hb hts uin_Mo hown hK hP 0 rfl rfl 13 (by decide) (hts _ wi_443) (fun _ h9 => h9) rfl d_Mo_compile_24 ?_
  refine lv_icmp_ge (tgt := 55) hx hb d_Mo_compile_27 (by decide) (fun hc27 => ?_) (fun hc27 => ?_)
  · rw [nI_leI (by omega) (by omega)] at hc27
    refine lv_iload_n hx hb d_Mo_compile_55 rfl (lv_at hl 3 rfl) ?_
    refine lv_bipush (v := nI 40) hx hb d_Mo_compile_56 (by decide) ?_
    refine lv_icmp_le (tgt := 64) hx hb d_Mo_compile_58 (by decide) (fun hc58 => absurd hc58 (by have hfl9 := fx_flat_le rs; have e9 : acc = 1 + (rs.flatMap fx_one).length := (by rw [hacc, List.take_of_length_le (by omega)]); rw [nI_leI (by omega) (by omega)]; omega)) (fun hc58 => ?_)
    rw [nI_leI (by omega) (by omega)] at hc58
    refine lv_bipush (v := (-2)) hx hb d_Mo_compile_61 (by decide) ?_
    exact fs_iret hx hb hr hlocks hAe hK hS d_Mo_compile_63 () (rfl) hP hD
  rw [nI_leI (by omega) (by omega)] at hc27
  refine lv_iload_n hx hb d_Mo_compile_30 rfl (lv_at hl 3 rfl) ?_
  refine lv_aload_n hx hb d_Mo_compile_31 rfl (lv_at hl 0 rfl) ?_
  refine va_get (D := (dC, dI)) (ci := 5) (v := .ref xa) (C := R_Mo) (T := T_Mo) (N := 16) hx hb hts uin_Mo hown hK hP 0 rfl rfl 10 (by decide) (hts _ wi_440) (fun _ h9 => h9) rfl d_Mo_compile_32 ?_
  refine lv_iload hx hb d_Mo_compile_35 (lv_at hl 4 rfl) ?_
  refine fs_iald (v := ga r) hx hb hK hP 1 0 rfl rfl r rfl (by decide) (by omega) rfl d_Mo_compile_37 ?_
  refine lv_if_ge (tgt := 45) hx hb d_Mo_compile_38 (by decide) (fun hc38 => ?_) (fun hc38 => ?_)
  · rw [fs_ge0] at hc38
    refine lv_bipush (v := nI 6) hx hb d_Mo_compile_45 (by decide) ?_
    refine lv_iadd hx hb d_Mo_compile_47 ?_
    refine fs_eqi (nI_add _ _) ?_
    refine lv_istore_n hx hb d_Mo_compile_48 rfl hl (by decide) (lv' := [(3, .int (nI (acc + 6))), (0, .ref mo), (1, .int (nI j)), (2, .int v), (4, .int (nI r))]) rfl (fun ls hl => ?_)
    refine lv_iinc (v := nI (r + 1)) (k := 4) hx hb d_Mo_compile_49 hl rfl (fs_incN r 1) (by decide) (lv' := [(4, .int (nI (r + 1))), (3, .int (nI (acc + 6))), (0, .ref mo), (1, .int (nI j)), (2, .int v)]) rfl (fun ls hl => ?_)
    refine lv_goto (tgt := 21) hx hb d_Mo_compile_52 (by decide) ?_
    exact ih21 (r + 1) (acc + 6) _ _ _ (by omega) ⟨by omega, by rw [fx_take hrr (by omega), List.length_append, fx_one_len, hacc]; dsimp only; rw [fx_len, if_neg (fx_len6 (by omega))]; omega, hP, hD, hS, lv_sub hl [2, 3, 4, 1, 0] rfl⟩
  rw [fs_ge0] at hc38
  refine lv_iconst (v := nI 3) hx hb d_Mo_compile_41 (by decide) ?_
  refine lv_goto (tgt := 47) hx hb d_Mo_compile_42 (by decide) ?_
  refine lv_iadd hx hb d_Mo_compile_47 ?_
  refine fs_eqi (nI_add _ _) ?_
  refine lv_istore_n hx hb d_Mo_compile_48 rfl hl (by decide) (lv' := [(3, .int (nI (acc + 3))), (0, .ref mo), (1, .int (nI j)), (2, .int v), (4, .int (nI r))]) rfl (fun ls hl => ?_)
  refine lv_iinc (v := nI (r + 1)) (k := 4) hx hb d_Mo_compile_49 hl rfl (fs_incN r 1) (by decide) (lv' := [(4, .int (nI (r + 1))), (3, .int (nI (acc + 3))), (0, .ref mo), (1, .int (nI j)), (2, .int v)]) rfl (fun ls hl => ?_)
  refine lv_goto (tgt := 21) hx hb d_Mo_compile_52 (by decide) ?_
  exact ih21 (r + 1) (acc + 3) _ _ _ (by omega) ⟨by omega, by rw [fx_take hrr (by omega), List.length_append, fx_one_len, hacc]; dsimp only; rw [fx_len, if_pos (fx_len3 (by omega) (harg r (by omega)))]; omega, hP, hD, hS, lv_sub hl [2, 3, 4, 1, 0] rfl⟩

set_option maxHeartbeats 4000000 in
set_option maxRecDepth 100000 in
theorem c_Mo_compileX (mo mop mye mno mnu msz stk mre mce mco xc xa xm xv cnt : Nat) (stp thr : Int32) (f v : Int32) (sz : Nat) (hf : ∀ j, j < 4 → f ≠ nI j) : fs_I l y_Mo_compile (k_Mo_compile :: fs_T) { frames := 1, cells := 0, slots := 0, locals := 26 } (dC, dI) vwCl (fs_tys cI cZ cJ cF) [.ref mo, .int f, .int v] [(mo, .inr (5, [.ref mop, .ref mye, .ref mno, .ref mnu, .ref msz, .int (nI stk), .ref mre, .ref mce, .ref mco, .ref xc, .ref xa, .ref xm, .ref xv, .int (nI cnt), .int stp, .int thr]))] sz (S := Unit) (fun r _ => r = (-1)) (fun _ => [(mo, .inr (5, [.ref mop, .ref mye, .ref mno, .ref mnu, .ref msz, .int (nI stk), .ref mre, .ref mce, .ref mco, .ref xc, .ref xa, .ref xm, .ref xv, .int (nI cnt), .int stp, .int (nI 0)]))]) 0 0 := by
  refine fs_head (by decide) (Nat.le_of_ble_eq_true rfl) ?_
  intro p e s m below meth c A ls hx hb hr hts hown hlocks hin hml hK hP hD hS hA hAe hsz hl
  have hl : lv_has ls 6 [(0, .ref mo), (1, .int f), (2, .int v)] := hl
  have hown : s.vm.findClass R_Mo = some m.cls := hown
  refine lv_aload_n hx hb d_Mo_compile_0 rfl (lv_at hl 0 rfl) ?_
  refine lv_iconst (v := nI 0) hx hb d_Mo_compile_1 (by decide) ?_
  refine va_put (D := (dC, dI)) (ci := 5) (v := .int (nI 0)) (ty := (.int)) (C := R_Mo) (T := T_Mo) (N := 16) hx hb hts uin_Mo t_Mo ok_Mo n_Mo hown hK hP hD hS 0 rfl rfl 15 (by decide) (hts _ wi_445) (fun _ h9 => h9) rfl (by decide +kernel) rfl rfl (Nat.le_of_ble_eq_true rfl) d_Mo_compile_2 (fun H locs hP hD hS => ?_)
  have hP : va_P (dC, dI) vwCl [(mo, .inr (5, [.ref mop, .ref mye, .ref mno, .ref mnu, .ref msz, .int (nI stk), .ref mre, .ref mce, .ref mco, .ref xc, .ref xa, .ref xm, .ref xv, .int (nI cnt), .int stp, .int (nI 0)]))] H := hP
  have hD : va_D A [(mo, .inr (5, [.ref mop, .ref mye, .ref mno, .ref mnu, .ref msz, .int (nI stk), .ref mre, .ref mce, .ref mco, .ref xc, .ref xa, .ref xm, .ref xv, .int (nI cnt), .int stp, .int (nI 0)]))] := hD
  refine lv_iload_n hx hb d_Mo_compile_5 rfl (lv_at hl 1 rfl) ?_
  refine lv_iconst (v := nI 0) hx hb d_Mo_compile_6 (by decide) ?_
  refine lv_iconst (v := nI 3) hx hb d_Mo_compile_7 (by decide) ?_
  refine fs_calli (wc := []) (wr := [(mo, .inr (5, [.ref mop, .ref mye, .ref mno, .ref mnu, .ref msz, .int (nI stk), .ref mre, .ref mce, .ref mco, .ref xc, .ref xa, .ref xm, .ref xv, .int (nI cnt), .int stp, .int (nI 0)]))]) [] [0] hP hD hK hS hA rfl rfl rfl (by decide) (fun hPc hDc => va_runS (As := [.int f, .int (nI 0), .int (nI 3)]) (rest := []) ⟨hx, hb, hml, hown, hts⟩ (c_Mo_within f (nI 0) (nI 3) (f.toInt) (((0 : Nat) : Int)) (((3 : Nat) : Int)) _ (rfl) (nI_toInt (by omega)) (nI_toInt (by omega))) (⟨callB_of 3 hts (fs_g kin_Mo_within) rfl rfl rfl (hts _ wi_6) (hts _ wi_488) (by decide +kernel) ⟨Nat.le_of_ble_eq_true rfl, Nat.le_of_ble_eq_true rfl⟩, hts _ wi_489⟩) (fs_preS hPc hK hDc) rfl rfl hl.1 rfl (lv_room (Nat.le_of_ble_eq_true rfl)) d_Mo_compile_8 ⟨Nat.le_of_ble_eq_true rfl, Nat.le_of_ble_eq_true rfl⟩) rfl (fun r8 _ H locs hp8 hP hD hS => ?_)
  have hP : va_P (dC, dI) vwCl [(mo, .inr (5, [.ref mop, .ref mye, .ref mno, .ref mnu, .ref msz, .int (nI stk), .ref mre, .ref mce, .ref mco, .ref xc, .ref xa, .ref xm, .ref xv, .int (nI cnt), .int stp, .int (nI 0)]))] H := hP
  have hD : va_D A [(mo, .inr (5, [.ref mop, .ref mye, .ref mno, .ref mnu, .ref msz, .int (nI stk), .ref mre, .ref mce, .ref mco, .ref xc, .ref xa, .ref xm, .ref xv, .int (nI cnt), .int stp, .int (nI 0)]))] := hD
  rcases hp8 with ⟨hc8, _⟩ | ⟨hc8, rfl⟩
  · obtain ⟨j, hj, e⟩ := fs_of (x := f) (n := 4) (by decide) (by omega) (by omega)
    exact absurd e (hf j hj)
  refine lv_if_ne (tgt := 16) hx hb d_Mo_compile_11 (by decide) (fun hc => absurd (by decide) hc) (fun _ => ?_)
  refine lv_iconst (v := (-1)) hx hb d_Mo_compile_14 (by decide) ?_
  exact fs_iret hx hb hr hlocks hAe hK hS d_Mo_compile_15 () (rfl) hP hD

theorem d_Mo_test_0 : decode b_Mo_test 0 = .ok (.aload_n 0, 1) := by decide +kernel
theorem d_Mo_test_1 : decode b_Mo_test 1 = .ok (.iload_n 1, 1) := by decide +kernel
theorem d_Mo_test_2 : decode b_Mo_test 2 = .ok (.iconst 0, 1) := by decide +kernel
theorem d_Mo_test_3 : decode b_Mo_test 3 = .ok (.iconst 3, 1) := by decide +kernel
theorem d_Mo_test_4 : decode b_Mo_test 4 = .ok (.invokestatic 51, 3) := by decide +kernel
theorem d_Mo_test_7 : decode b_Mo_test 7 = .ok (.ifCond .ne 7, 3) := by decide +kernel
theorem d_Mo_test_10 : decode b_Mo_test 10 = .ok (.iconst 1, 1) := by decide +kernel
theorem d_Mo_test_11 : decode b_Mo_test 11 = .ok (.goto 16, 3) := by decide +kernel
theorem d_Mo_test_14 : decode b_Mo_test 14 = .ok (.aload_n 0, 1) := by decide +kernel
theorem d_Mo_test_15 : decode b_Mo_test 15 = .ok (.iload_n 1, 1) := by decide +kernel
theorem d_Mo_test_16 : decode b_Mo_test 16 = .ok (.invokevirtual 69, 3) := by decide +kernel
theorem d_Mo_test_19 : decode b_Mo_test 19 = .ok (.ifCond .eq 7, 3) := by decide +kernel
theorem d_Mo_test_22 : decode b_Mo_test 22 = .ok (.iconst 2, 1) := by decide +kernel
theorem d_Mo_test_23 : decode b_Mo_test 23 = .ok (.goto 4, 3) := by decide +kernel
theorem d_Mo_test_26 : decode b_Mo_test 26 = .ok (.iconst 0, 1) := by decide +kernel
theorem d_Mo_test_27 : decode b_Mo_test 27 = .ok (.putfield 47, 3) := by decide +kernel
theorem d_Mo_test_30 : decode b_Mo_test 30 = .ok (.aload_n 0, 1) := by decide +kernel
theorem d_Mo_test_31 : decode b_Mo_test 31 = .ok (.getfield 47, 3) := by decide +kernel
theorem d_Mo_test_34 : decode b_Mo_test 34 = .ok (.ifCond .le 7, 3) := by decide +kernel
theorem d_Mo_test_37 : decode b_Mo_test 37 = .ok (.iconst 0, 1) := by decide +kernel
theorem d_Mo_test_38 : decode b_Mo_test 38 = .ok (.goto 8, 3) := by decide +kernel
theorem d_Mo_test_41 : decode b_Mo_test 41 = .ok (.aload_n 0, 1) := by decide +kernel
theorem d_Mo_test_42 : decode b_Mo_test 42 = .ok (.iload_n 1, 1) := by decide +kernel
theorem d_Mo_test_43 : decode b_Mo_test 43 = .ok (.invokevirtual 90, 3) := by decide +kernel
theorem d_Mo_test_46 : decode b_Mo_test 46 = .ok (.ireturn, 1) := by decide +kernel
set_option maxHeartbeats 4000000 in
set_option maxRecDepth 100000 in
theorem c_Mo_test (mo mop mye mno mnu msz stk mre mce mco xc xa xm xv cnt : Nat) (stp thr : Int32) (fo fy fn fk zs w cs cm : Nat → Int32) (L : fx_Prg) (j : Nat) (sz : Nat) (hj : j < 4) (hzs : zs j = nI L.length) (hrep : fx_rep L (fun i => fo (40 * j + i)) (fun i => fy (40 * j + i)) (fun i => fn (40 * j + i)) (fun i => fk (40 * j + i))) (hok : fx_ok L) (hc0 : fx_chk L = 0) : fs_I l y_Mo_test (k_Mo_test :: fs_T) { frames := 3, cells := 0, slots := 0, locals := 72 } (dC, dI) vwCl (fs_tys cI cZ cJ cF) [.ref mo, .int (nI j)] [(mo, .inr (5, [.ref mop, .ref mye, .ref mno, .ref mnu, .ref msz, .int (nI stk), .ref mre, .ref mce, .ref mco, .ref xc, .ref xa, .ref xm, .ref xv, .int (nI cnt), .int stp, .int thr])), (mop, .inl (cI, 320, .inl fo)), (mye, .inl (cI, 320, .inl fy)), (mno, .inl (cI, 320, .inl fn)), (mnu, .inl (cI, 320, .inl fk)), (msz, .inl (cI, 8, .inl zs)), (mre, .inl (cI, 16, .inl w)), (mce, .inl (cI, 16, .inl cs)), (mco, .inl (cZ, 41, .inl cm))] sz (S := (Nat → Int32) × (Nat → Int32)) (fun r _ => r = (fx_do L w).1) (fun u => [(mo, .inr (5, [.ref mop, .ref mye, .ref mno, .ref mnu, .ref msz, .int (nI stk), .ref mre, .ref mce, .ref mco, .ref xc, .ref xa, .ref xm, .ref xv, .int (nI cnt), .int (nI ((fx_do L w).2)), .int (nI 0)])), (mop, .inl (cI, 320, .inl fo)), (mye, .inl (cI, 320, .inl fy)), (mno, .inl (cI, 320, .inl fn)), (mnu, .inl (cI, 320, .inl fk)), (msz, .inl (cI, 8, .inl zs)), (mre, .inl (cI, 16, .inl w)), (mce, .inl (cI, 16, .inl u.1)), (mco, .inl (cZ, 41, .inl u.2))]) 0 0 := by
  refine fs_head (by decide) (Nat.le_of_ble_eq_true rfl) ?_
  intro p e s m below meth c A ls hx hb hr hts hown hlocks hin hml hK hP hD hS hA hAe hsz hl
  have hl : lv_has ls 2 [(0, .ref mo), (1, .int (nI j))] := hl
  have hown : s.vm.findClass R_Mo = some m.cls := hown
  refine lv_aload_n hx hb d_Mo_test_0 rfl (lv_at hl 0 rfl) ?_
  refine lv_iload_n hx hb d_Mo_test_1 rfl (lv_at hl 1 rfl) ?_
  refine lv_iconst (v := nI 0) hx hb d_Mo_test_2 (by decide) ?_
  refine lv_iconst (v := nI 3) hx hb d_Mo_test_3 (by decide) ?_
  refine fs_calli (wc := []) (wr := [(mo, .inr (5, [.ref mop, .ref mye, .ref mno, .ref mnu, .ref msz, .int (nI stk), .ref mre, .ref mce, .ref mco, .ref xc, .ref xa, .ref xm, .ref xv, .int (nI cnt), .int stp, .int thr])), (mop, .inl (cI, 320, .inl fo)), (mye, .inl (cI, 320, .inl fy)), (mno, .inl (cI, 320, .inl fn)), (mnu, .inl (cI, 320, .inl fk)), (msz, .inl (cI, 8, .inl zs)), (mre, .inl (cI, 16, .inl w)), (mce, .inl (cI, 16, .inl cs)), (mco, .inl (cZ, 41, .inl cm))]) [] [0, 1, 2, 3, 4, 5, 6, 7, 8] hP hD hK hS hA rfl rfl rfl (by decide) (fun hPc hDc => va_runS (As := [.int (nI j), .int (nI 0), .int (nI 3)]) (rest := [.ref mo]) ⟨hx, hb, hml, hown, hts⟩ (c_Mo_within (nI j) (nI 0) (nI 3) (((j : Nat) : Int)) (((0 : Nat) : Int)) (((3 : Nat) : Int)) _ (nI_toInt (by omega)) (nI_toInt (by omega)) (nI_toInt (by omega))) (⟨callB_of 3 hts (fs_g kin_Mo_within) rfl rfl rfl (hts _ wi_6) (hts _ wi_488) (by decide +kernel) ⟨Nat.le_of_ble_eq_true rfl, Nat.le_of_ble_eq_true rfl⟩, hts _ wi_489⟩) (fs_preS hPc hK hDc) rfl rfl hl.1 rfl (lv_room (Nat.le_of_ble_eq_true rfl)) d_Mo_test_4 ⟨Nat.le_of_ble_eq_true rfl, Nat.le_of_ble_eq_true rfl⟩) rfl (fun r4 _ H locs hp4 hP hD hS => ?_)
  have hP : va_P (dC, dI) vwCl [(mo, .inr (5, [.ref mop, .ref mye, .ref mno, .ref mnu, .ref msz, .int (nI stk), .ref mre, .ref mce, .ref mco, .ref xc, .ref xa, .ref xm, .ref xv, .int (nI cnt), .int stp, .int thr])), (mop, .inl (cI, 320, .inl fo)), (mye, .inl (cI, 320, .inl fy)), (mno, .inl (cI, 320, .inl fn)), (mnu, .inl (cI, 320, .inl fk)), (msz, .inl (cI, 8, .inl zs)), (mre, .inl (cI, 16, .inl w)), (mce, .inl (cI, 16, .inl cs)), (mco, .inl (cZ, 41, .inl cm))] H := hP
  have hD : va_D A [(mo, .inr (5, [.ref mop, .ref mye, .ref mno, .ref mnu, .ref msz, .int (nI stk), .ref mre, .ref mce, .ref mco, .ref xc, .ref xa, .ref xm, .ref xv, .int (nI cnt), .int stp, .int thr])), (mop, .inl (cI, 320, .inl fo)), (mye, .inl (cI, 320, .inl fy)), (mno, .inl (cI, 320, .inl fn)), (mnu, .inl (cI, 320, .inl fk)), (msz, .inl (cI, 8, .inl zs)), (mre, .inl (cI, 16, .inl w)), (mce, .inl (cI, 16, .inl cs)), (mco, .inl (cZ, 41, .inl cm))] := hD
  rcases hp4 with ⟨hc4, rfl⟩ | ⟨hc4, _⟩
  rotate_left
  · exact absurd (by omega) hc4
  refine lv_if_ne (tgt := 14) hx hb d_Mo_test_7 (by decide) (fun _ => ?_) (fun hc => absurd hc (by decide))
  refine lv_aload_n hx hb d_Mo_test_14 rfl (lv_at hl 0 rfl) ?_
  refine lv_iload_n hx hb d_Mo_test_15 rfl (lv_at hl 1 rfl) ?_
  refine fs_calli (wc := [(mo, .inr (5, [.ref mop, .ref mye, .ref mno, .ref mnu, .ref msz, .int (nI stk), .ref mre, .ref mce, .ref mco, .ref xc, .ref xa, .ref xm, .ref xv, .int (nI cnt), .int stp, .int thr])), (mop, .inl (cI, 320, .inl fo)), (mye, .inl (cI, 320, .inl fy)), (mno, .inl (cI, 320, .inl fn)), (mnu, .inl (cI, 320, .inl fk)), (msz, .inl (cI, 8, .inl zs)), (mco, .inl (cZ, 41, .inl cm))]) (wr := [(mre, .inl (cI, 16, .inl w)), (mce, .inl (cI, 16, .inl cs))]) [0, 1, 2, 3, 4, 5, 8] [6, 7] hP hD hK hS hA rfl rfl rfl (by decide) (fun hPc hDc => va_runV (C := R_Mo) (As := [.int (nI j)]) (rest := [.ref mo]) ⟨hx, hb, hml, hown, hts⟩ (c_Mo_check mo mop mye mno mnu msz stk mre mce mco xc xa xm xv cnt stp thr fo fy fn fk zs cm L j _ (by omega) hzs hrep hok) (⟨callB_of 1 hts (fs_g kin_Mo_check) rfl rfl rfl (hts _ wi_6) (hts _ wi_519) (by decide +kernel) ⟨Nat.le_of_ble_eq_true rfl, Nat.le_of_ble_eq_true rfl⟩, hts _ wi_521, hts _ sel_Mo_check⟩) (fs_preV (q0 := 0) rfl rfl hPc hK hDc) rfl rfl hl.1 rfl (lv_room (Nat.le_of_ble_eq_true rfl)) d_Mo_test_16 ⟨Nat.le_of_ble_eq_true rfl, Nat.le_of_ble_eq_true rfl⟩) rfl (fun r16 u16 H locs hp16 hP hD hS => ?_)
  have hP : va_P (dC, dI) vwCl [(mo, .inr (5, [.ref mop, .ref mye, .ref mno, .ref mnu, .ref msz, .int (nI stk), .ref mre, .ref mce, .ref mco, .ref xc, .ref xa, .ref xm, .ref xv, .int (nI cnt), .int stp, .int thr])), (mop, .inl (cI, 320, .inl fo)), (mye, .inl (cI, 320, .inl fy)), (mno, .inl (cI, 320, .inl fn)), (mnu, .inl (cI, 320, .inl fk)), (msz, .inl (cI, 8, .inl zs)), (mre, .inl (cI, 16, .inl w)), (mce, .inl (cI, 16, .inl cs)), (mco, .inl (cZ, 41, .inl u16))] H := hP.sub [2, 3, 4, 5, 6, 7, 0, 1, 8] rfl
  have hD : va_D A [(mo, .inr (5, [.ref mop, .ref mye, .ref mno, .ref mnu, .ref msz, .int (nI stk), .ref mre, .ref mce, .ref mco, .ref xc, .ref xa, .ref xm, .ref xv, .int (nI cnt), .int stp, .int thr])), (mop, .inl (cI, 320, .inl fo)), (mye, .inl (cI, 320, .inl fy)), (mno, .inl (cI, 320, .inl fn)), (mnu, .inl (cI, 320, .inl fk)), (msz, .inl (cI, 8, .inl zs)), (mre, .inl (cI, 16, .inl w)), (mce, .inl (cI, 16, .inl cs)), (mco, .inl (cZ, 41, .inl u16))] := hD.sub [2, 3, 4, 5, 6, 7, 0, 1, 8] (by decide) rfl
  subst hp16
  have hchk := fx_chk_lt hok.1
  refine lv_if_eq (tgt := 26) hx hb d_Mo_test_19 (by decide) (fun hc19 => ?_) (fun hc19 => absurd ((congrArg nI hc0).trans nI_0) hc19)
  try rw [← nI_0] at hc19
  rw [nI_eq (by omega) (by omega)] at hc19
  refine lv_iconst (v := nI 0) hx hb d_Mo_test_26 (by decide) ?_
  refine va_put (D := (dC, dI)) (ci := 5) (v := .int (nI 0)) (ty := (.int)) (C := R_Mo) (T := T_Mo) (N := 16) hx hb hts uin_Mo t_Mo ok_Mo n_Mo hown hK hP hD hS 0 rfl rfl 15 (by decide) (hts _ wi_445) (fun _ h9 => h9) rfl (by decide +kernel) rfl rfl (Nat.le_of_ble_eq_true rfl) d_Mo_test_27 (fun H locs hP hD hS => ?_)
  have hP : va_P (dC, dI) vwCl [(mo, .inr (5, [.ref mop, .ref mye, .ref mno, .ref mnu, .ref msz, .int (nI stk), .ref mre, .ref mce, .ref mco, .ref xc, .ref xa, .ref xm, .ref xv, .int (nI cnt), .int stp, .int (nI 0)])), (mop, .inl (cI, 320, .inl fo)), (mye, .inl (cI, 320, .inl fy)), (mno, .inl (cI, 320, .inl fn)), (mnu, .inl (cI, 320, .inl fk)), (msz, .inl (cI, 8, .inl zs)), (mre, .inl (cI, 16, .inl w)), (mce, .inl (cI, 16, .inl cs)), (mco, .inl (cZ, 41, .inl u16))] H := hP
  have hD : va_D A [(mo, .inr (5, [.ref mop, .ref mye, .ref mno, .ref mnu, .ref msz, .int (nI stk), .ref mre, .ref mce, .ref mco, .ref xc, .ref xa, .ref xm, .ref xv, .int (nI cnt), .int stp, .int (nI 0)])), (mop, .inl (cI, 320, .inl fo)), (mye, .inl (cI, 320, .inl fy)), (mno, .inl (cI, 320, .inl fn)), (mnu, .inl (cI, 320, .inl fk)), (msz, .inl (cI, 8, .inl zs)), (mre, .inl (cI, 16, .inl w)), (mce, .inl (cI, 16, .inl cs)), (mco, .inl (cZ, 41, .inl u16))] := hD
  refine lv_aload_n hx hb d_Mo_test_30 rfl (lv_at hl 0 rfl) ?_
  refine va_get (D := (dC, dI)) (ci := 5) (v := .int (nI 0)) (C := R_Mo) (T := T_Mo) (N := 16) hx hb hts uin_Mo hown hK hP 0 rfl rfl 15 (by decide) (hts _ wi_445) (fun _ h9 => h9) rfl d_Mo_test_31 ?_
  refine lv_if_le (tgt := 41) hx hb d_Mo_test_34 (by decide) (fun _ => ?_) (fun hc => absurd (by decide) hc)
  refine lv_aload_n hx hb d_Mo_test_41 rfl (lv_at hl 0 rfl) ?_
  refine lv_iload_n hx hb d_Mo_test_42 rfl (lv_at hl 1 rfl) ?_
  refine fs_calli (wc := [(mo, .inr (5, [.ref mop, .ref mye, .ref mno, .ref mnu, .ref msz, .int (nI stk), .ref mre, .ref mce, .ref mco, .ref xc, .ref xa, .ref xm, .ref xv, .int (nI cnt), .int stp, .int (nI 0)])), (mop, .inl (cI, 320, .inl fo)), (mye, .inl (cI, 320, .inl fy)), (mno, .inl (cI, 320, .inl fn)), (mnu, .inl (cI, 320, .inl fk)), (msz, .inl (cI, 8, .inl zs)), (mre, .inl (cI, 16, .inl w)), (mce, .inl (cI, 16, .inl cs))]) (wr := [(mco, .inl (cZ, 41, .inl u16))]) [0, 1, 2, 3, 4, 5, 6, 7] [8] hP hD hK hS hA rfl rfl rfl (by decide) (fun hPc hDc => va_runV (C := R_Mo) (As := [.int (nI j)]) (rest := []) ⟨hx, hb, hml, hown, hts⟩ (c_Mo_run mo mop mye mno mnu msz stk mre mce mco xc xa xm xv cnt stp (nI 0) fo fy fn fk zs w cs L j _ (by omega) hzs hrep hok (fx_good_of0 hc0)) (⟨callB_of 1 hts (fs_g kin_Mo_run) rfl rfl rfl (hts _ wi_6) (hts _ wi_543) (by decide +kernel) ⟨Nat.le_of_ble_eq_true rfl, Nat.le_of_ble_eq_true rfl⟩, hts _ wi_545, hts _ sel_Mo_run⟩) (fs_preV (q0 := 0) rfl rfl hPc hK hDc) rfl rfl hl.1 rfl (lv_room (Nat.le_of_ble_eq_true rfl)) d_Mo_test_43 ⟨Nat.le_of_ble_eq_true rfl, Nat.le_of_ble_eq_true rfl⟩) rfl (fun r43 v43 H locs hp43 hP hD hS => ?_)
  have hP : va_P (dC, dI) vwCl [(mo, .inr (5, [.ref mop, .ref mye, .ref mno, .ref mnu, .ref msz, .int (nI stk), .ref mre, .ref mce, .ref mco, .ref xc, .ref xa, .ref xm, .ref xv, .int (nI cnt), .int (nI ((fx_do L w).2)), .int (nI 0)])), (mop, .inl (cI, 320, .inl fo)), (mye, .inl (cI, 320, .inl fy)), (mno, .inl (cI, 320, .inl fn)), (mnu, .inl (cI, 320, .inl fk)), (msz, .inl (cI, 8, .inl zs)), (mre, .inl (cI, 16, .inl w)), (mce, .inl (cI, 16, .inl v43)), (mco, .inl (cZ, 41, .inl u16))] H := hP.sub [1, 2, 3, 4, 5, 6, 7, 8, 0] rfl
  have hD : va_D A [(mo, .inr (5, [.ref mop, .ref mye, .ref mno, .ref mnu, .ref msz, .int (nI stk), .ref mre, .ref mce, .ref mco, .ref xc, .ref xa, .ref xm, .ref xv, .int (nI cnt), .int (nI ((fx_do L w).2)), .int (nI 0)])), (mop, .inl (cI, 320, .inl fo)), (mye, .inl (cI, 320, .inl fy)), (mno, .inl (cI, 320, .inl fn)), (mnu, .inl (cI, 320, .inl fk)), (msz, .inl (cI, 8, .inl zs)), (mre, .inl (cI, 16, .inl w)), (mce, .inl (cI, 16, .inl v43)), (mco, .inl (cZ, 41, .inl u16))] := hD.sub [1, 2, 3, 4, 5, 6, 7, 8, 0] (by decide) rfl
  subst hp43
  exact fs_iret hx hb hr hlocks hAe hK hS d_Mo_test_46 (v43, u16) (rfl) hP hD

set_option maxHeartbeats 4000000 in
set_option maxRecDepth 100000 in
theorem c_Mo_testB (mo mop mye mno mnu msz stk mre mce mco xc xa xm xv cnt : Nat) (stp thr : Int32) (fo fy fn fk zs cm : Nat → Int32) (L : fx_Prg) (j : Nat) (sz : Nat) (hj : j < 4) (hzs : zs j = nI L.length) (hrep : fx_rep L (fun i => fo (40 * j + i)) (fun i => fy (40 * j + i)) (fun i => fn (40 * j + i)) (fun i => fk (40 * j + i))) (hok : fx_ok L) (hc0 : ¬ fx_chk L = 0) : fs_I l y_Mo_test (k_Mo_test :: fs_T) { frames := 3, cells := 0, slots := 0, locals := 72 } (dC, dI) vwCl (fs_tys cI cZ cJ cF) [.ref mo, .int (nI j)] [(mo, .inr (5, [.ref mop, .ref mye, .ref mno, .ref mnu, .ref msz, .int (nI stk), .ref mre, .ref mce, .ref mco, .ref xc, .ref xa, .ref xm, .ref xv, .int (nI cnt), .int stp, .int thr])), (mop, .inl (cI, 320, .inl fo)), (mye, .inl (cI, 320, .inl fy)), (mno, .inl (cI, 320, .inl fn)), (mnu, .inl (cI, 320, .inl fk)), (msz, .inl (cI, 8, .inl zs)), (mco, .inl (cZ, 41, .inl cm))] sz (S := Nat → Int32) (fun r _ => r = nI 0) (fun u => [(mo, .inr (5, [.ref mop, .ref mye, .ref mno, .ref mnu, .ref msz, .int (nI stk), .ref mre, .ref mce, .ref mco, .ref xc, .ref xa, .ref xm, .ref xv, .int (nI cnt), .int stp, .int (nI 2)])), (mop, .inl (cI, 320, .inl fo)), (mye, .inl (cI, 320, .inl fy)), (mno, .inl (cI, 320, .inl fn)), (mnu, .inl (cI, 320, .inl fk)), (msz, .inl (cI, 8, .inl zs)), (mco, .inl (cZ, 41, .inl u))]) 0 0 := by
  refine fs_head (by decide) (Nat.le_of_ble_eq_true rfl) ?_
  intro p e s m below meth c A ls hx hb hr hts hown hlocks hin hml hK hP hD hS hA hAe hsz hl
  have hl : lv_has ls 2 [(0, .ref mo), (1, .int (nI j))] := hl
  have hown : s.vm.findClass R_Mo = some m.cls := hown
  refine lv_aload_n hx hb d_Mo_test_0 rfl (lv_at hl 0 rfl) ?_
  refine lv_iload_n hx hb d_Mo_test_1 rfl (lv_at hl 1 rfl) ?_
  refine lv_iconst (v := nI 0) hx hb d_Mo_test_2 (by decide) ?_
  refine lv_iconst (v := nI 3) hx hb d_Mo_test_3 (by decide) ?_
  refine fs_calli (wc := []) (wr := [(mo, .inr (5, [.ref mop, .ref mye, .ref mno, .ref mnu, .ref msz, .int (nI stk), .ref mre, .ref mce, .ref mco, .ref xc, .ref xa, .ref xm, .ref xv, .int (nI cnt), .int stp, .int thr])), (mop, .inl (cI, 320, .inl fo)), (mye, .inl (cI, 320, .inl fy)), (mno, .inl (cI, 320, .inl fn)), (mnu, .inl (cI, 320, .inl fk)), (msz, .inl (cI, 8, .inl zs)), (mco, .inl (cZ, 41, .inl cm))]) [] [0, 1, 2, 3, 4, 5, 6] hP hD hK hS hA rfl rfl rfl (by decide) (fun hPc hDc => va_runS (As := [.int (nI j), .int (nI 0), .int (nI 3)]) (rest := [.ref mo]) ⟨hx, hb, hml, hown, hts⟩ (c_Mo_within (nI j) (nI 0) (nI 3) (((j : Nat) : Int)) (((0 : Nat) : Int)) (((3 : Nat) : Int)) _ (nI_toInt (by omega)) (nI_toInt (by omega)) (nI_toInt (by omega))) (⟨callB_of 3 hts (fs_g kin_Mo_within) rfl rfl rfl (hts _ wi_6) (hts _ wi_488) (by decide +kernel) ⟨Nat.le_of_ble_eq_true rfl, Nat.le_of_ble_eq_true rfl⟩, hts _ wi_489⟩) (fs_preS hPc hK hDc) rfl rfl hl.1 rfl (lv_room (Nat.le_of_ble_eq_true rfl)) d_Mo_test_4 ⟨Nat.le_of_ble_eq_true rfl, Nat.le_of_ble_eq_true rfl⟩) rfl (fun r4 _ H locs hp4 hP hD hS => ?_)
  have hP : va_P (dC, dI) vwCl [(mo, .inr (5, [.ref mop, .ref mye, .ref mno, .ref mnu, .ref msz, .int (nI stk), .ref mre, .ref mce, .ref mco, .ref xc, .ref xa, .ref xm, .ref xv, .int (nI cnt), .int stp, .int thr])), (mop, .inl (cI, 320, .inl fo)), (mye, .inl (cI, 320, .inl fy)), (mno, .inl (cI, 320, .inl fn)), (mnu, .inl (cI, 320, .inl fk)), (msz, .inl (cI, 8, .inl zs)), (mco, .inl (cZ, 41, .inl cm))] H := hP
  have hD : va_D A [(mo, .inr (5, [.ref mop, .ref mye, .ref mno, .ref mnu, .ref msz, .int (nI stk), .ref mre, .ref mce, .ref mco, .ref xc, .ref xa, .ref xm, .ref xv, .int (nI cnt), .int stp, .int thr])), (mop, .inl (cI, 320, .inl fo)), (mye, .inl (cI, 320, .inl fy)), (mno, .inl (cI, 320, .inl fn)), (mnu, .inl (cI, 320, .inl fk)), (msz, .inl (cI, 8, .inl zs)), (mco, .inl (cZ, 41, .inl cm))] := hD
  rcases hp4 with ⟨hc4, rfl⟩ | ⟨hc4, _⟩
  rotate_left
  · exact absurd (by omega) hc4
  refine lv_if_ne (tgt := 14) hx hb d_Mo_test_7 (by decide) (fun _ => ?_) (fun hc => absurd hc (by decide))
  refine lv_aload_n hx hb d_Mo_test_14 rfl (lv_at hl 0 rfl) ?_
  refine lv_iload_n hx hb d_Mo_test_15 rfl (lv_at hl 1 rfl) ?_
  refine fs_calli (wc := [(mo, .inr (5, [.ref mop, .ref mye, .ref mno, .ref mnu, .ref msz, .int (nI stk), .ref mre, .ref mce, .ref mco, .ref xc, .ref xa, .ref xm, .ref xv, .int (nI cnt), .int stp, .int thr])), (mop, .inl (cI, 320, .inl fo)), (mye, .inl (cI, 320, .inl fy)), (mno, .inl (cI, 320, .inl fn)), (mnu, .inl (cI, 320, .inl fk)), (msz, .inl (cI, 8, .inl zs)), (mco, .inl (cZ, 41, .inl cm))]) (wr := []) [0, 1, 2, 3, 4, 5, 6] [] hP hD hK hS hA rfl rfl rfl (by decide) (fun hPc hDc => va_runV (C := R_Mo) (As := [.int (nI j)]) (rest := [.ref mo]) ⟨hx, hb, hml, hown, hts⟩ (c_Mo_check mo mop mye mno mnu msz stk mre mce mco xc xa xm xv cnt stp thr fo fy fn fk zs cm L j _ (by omega) hzs hrep hok) (⟨callB_of 1 hts (fs_g kin_Mo_check) rfl rfl rfl (hts _ wi_6) (hts _ wi_519) (by decide +kernel) ⟨Nat.le_of_ble_eq_true rfl, Nat.le_of_ble_eq_true rfl⟩, hts _ wi_521, hts _ sel_Mo_check⟩) (fs_preV (q0 := 0) rfl rfl hPc hK hDc) rfl rfl hl.1 rfl (lv_room (Nat.le_of_ble_eq_true rfl)) d_Mo_test_16 ⟨Nat.le_of_ble_eq_true rfl, Nat.le_of_ble_eq_true rfl⟩) rfl (fun r16 u16 H locs hp16 hP hD hS => ?_)
  have hP : va_P (dC, dI) vwCl [(mo, .inr (5, [.ref mop, .ref mye, .ref mno, .ref mnu, .ref msz, .int (nI stk), .ref mre, .ref mce, .ref mco, .ref xc, .ref xa, .ref xm, .ref xv, .int (nI cnt), .int stp, .int thr])), (mop, .inl (cI, 320, .inl fo)), (mye, .inl (cI, 320, .inl fy)), (mno, .inl (cI, 320, .inl fn)), (mnu, .inl (cI, 320, .inl fk)), (msz, .inl (cI, 8, .inl zs)), (mco, .inl (cZ, 41, .inl u16))] H := hP
  have hD : va_D A [(mo, .inr (5, [.ref mop, .ref mye, .ref mno, .ref mnu, .ref msz, .int (nI stk), .ref mre, .ref mce, .ref mco, .ref xc, .ref xa, .ref xm, .ref xv, .int (nI cnt), .int stp, .int thr])), (mop, .inl (cI, 320, .inl fo)), (mye, .inl (cI, 320, .inl fy)), (mno, .inl (cI, 320, .inl fn)), (mnu, .inl (cI, 320, .inl fk)), (msz, .inl (cI, 8, .inl zs)), (mco, .inl (cZ, 41, .inl u16))] := hD
  subst hp16
  have hchk := fx_chk_lt hok.1
  refine lv_if_eq (tgt := 26) hx hb d_Mo_test_19 (by decide) (fun hc19 => absurd (by have := fx_chk_lt hok.1; rw [← nI_0, nI_eq (by omega) (by omega)] at hc19; exact hc19) hc0) (fun hc19 => ?_)
  try rw [← nI_0] at hc19
  rw [nI_eq (by omega) (by omega)] at hc19
  refine lv_iconst (v := nI 2) hx hb d_Mo_test_22 (by decide) ?_
  refine lv_goto (tgt := 27) hx hb d_Mo_test_23 (by decide) ?_
  refine va_put (D := (dC, dI)) (ci := 5) (v := .int (nI 2)) (ty := (.int)) (C := R_Mo) (T := T_Mo) (N := 16) hx hb hts uin_Mo t_Mo ok_Mo n_Mo hown hK hP hD hS 0 rfl rfl 15 (by decide) (hts _ wi_445) (fun _ h9 => h9) rfl (by decide +kernel) rfl rfl (Nat.le_of_ble_eq_true rfl) d_Mo_test_27 (fun H locs hP hD hS => ?_)
  have hP : va_P (dC, dI) vwCl [(mo, .inr (5, [.ref mop, .ref mye, .ref mno, .ref mnu, .ref msz, .int (nI stk), .ref mre, .ref mce, .ref mco, .ref xc, .ref xa, .ref xm, .ref xv, .int (nI cnt), .int stp, .int (nI 2)])), (mop, .inl (cI, 320, .inl fo)), (mye, .inl (cI, 320, .inl fy)), (mno, .inl (cI, 320, .inl fn)), (mnu, .inl (cI, 320, .inl fk)), (msz, .inl (cI, 8, .inl zs)), (mco, .inl (cZ, 41, .inl u16))] H := hP
  have hD : va_D A [(mo, .inr (5, [.ref mop, .ref mye, .ref mno, .ref mnu, .ref msz, .int (nI stk), .ref mre, .ref mce, .ref mco, .ref xc, .ref xa, .ref xm, .ref xv, .int (nI cnt), .int stp, .int (nI 2)])), (mop, .inl (cI, 320, .inl fo)), (mye, .inl (cI, 320, .inl fy)), (mno, .inl (cI, 320, .inl fn)), (mnu, .inl (cI, 320, .inl fk)), (msz, .inl (cI, 8, .inl zs)), (mco, .inl (cZ, 41, .inl u16))] := hD
  refine lv_aload_n hx hb d_Mo_test_30 rfl (lv_at hl 0 rfl) ?_
  refine va_get (D := (dC, dI)) (ci := 5) (v := .int (nI 2)) (C := R_Mo) (T := T_Mo) (N := 16) hx hb hts uin_Mo hown hK hP 0 rfl rfl 15 (by decide) (hts _ wi_445) (fun _ h9 => h9) rfl d_Mo_test_31 ?_
  refine lv_if_le (tgt := 41) hx hb d_Mo_test_34 (by decide) (fun hc => absurd hc (by decide)) (fun _ => ?_)
  refine lv_iconst (v := nI 0) hx hb d_Mo_test_37 (by decide) ?_
  refine lv_goto (tgt := 46) hx hb d_Mo_test_38 (by decide) ?_
  exact fs_iret hx hb hr hlocks hAe hK hS d_Mo_test_46 u16 (rfl) hP hD

set_option maxHeartbeats 4000000 in
set_option maxRecDepth 100000 in
theorem c_Mo_testX (mo mop mye mno mnu msz stk mre mce mco xc xa xm xv cnt : Nat) (stp thr : Int32) (f : Int32) (sz : Nat) (hf : ∀ j, j < 4 → f ≠ nI j) : fs_I l y_Mo_test (k_Mo_test :: fs_T) { frames := 3, cells := 0, slots := 0, locals := 72 } (dC, dI) vwCl (fs_tys cI cZ cJ cF) [.ref mo, .int f] [(mo, .inr (5, [.ref mop, .ref mye, .ref mno, .ref mnu, .ref msz, .int (nI stk), .ref mre, .ref mce, .ref mco, .ref xc, .ref xa, .ref xm, .ref xv, .int (nI cnt), .int stp, .int thr]))] sz (S := Unit) (fun r _ => r = nI 0) (fun _ => [(mo, .inr (5, [.ref mop, .ref mye, .ref mno, .ref mnu, .ref msz, .int (nI stk), .ref mre, .ref mce, .ref mco, .ref xc, .ref xa, .ref xm, .ref xv, .int (nI cnt), .int stp, .int (nI 1)]))]) 0 0 := by
  refine fs_head (by decide) (Nat.le_of_ble_eq_true rfl) ?_
  intro p e s m below meth c A ls hx hb hr hts hown hlocks hin hml hK hP hD hS hA hAe hsz hl
  have hl : lv_has ls 2 [(0, .ref mo), (1, .int f)] := hl
  have hown : s.vm.findClass R_Mo = some m.cls := hown
  refine lv_aload_n hx hb d_Mo_test_0 rfl (lv_at hl 0 rfl) ?_
  refine lv_iload_n hx hb d_Mo_test_1 rfl (lv_at hl 1 rfl) ?_
  refine lv_iconst (v := nI 0) hx hb d_Mo_test_2 (by decide) ?_
  refine lv_iconst (v := nI 3) hx hb d_Mo_test_3 (by decide) ?_
  refine fs_calli (wc := []) (wr := [(mo, .inr (5, [.ref mop, .ref mye, .ref mno, .ref mnu, .ref msz, .int (nI stk), .ref mre, .ref mce, .ref mco, .ref xc, .ref xa, .ref xm, .ref xv, .int (nI cnt), .int stp, .int thr]))]) [] [0] hP hD hK hS hA rfl rfl rfl (by decide) (fun hPc hDc => va_runS (As := [.int f, .int (nI 0), .int (nI 3)]) (rest := [.ref mo]) ⟨hx, hb, hml, hown, hts⟩ (c_Mo_within f (nI 0) (nI 3) (f.toInt) (((0 : Nat) : Int)) (((3 : Nat) : Int)) _ (rfl) (nI_toInt (by omega)) (nI_toInt (by omega))) (⟨callB_of 3 hts (fs_g kin_Mo_within) rfl rfl rfl (hts _ wi_6) (hts _ wi_488) (by decide +kernel) ⟨Nat.le_of_ble_eq_true rfl, Nat.le_of_ble_eq_true rfl⟩, hts _ wi_489⟩) (fs_preS hPc hK hDc) rfl rfl hl.1 rfl (lv_room (Nat.le_of_ble_eq_true rfl)) d_Mo_test_4 ⟨Nat.le_of_ble_eq_true rfl, Nat.le_of_ble_eq_true rfl⟩) rfl (fun r4 _ H locs hp4 hP hD hS => ?_)
  have hP : va_P (dC, dI) vwCl [(mo, .inr (5, [.ref mop, .ref mye, .ref mno, .ref mnu, .ref msz, .int (nI stk), .ref mre, .ref mce, .ref mco, .ref xc, .ref xa, .ref xm, .ref xv, .int (nI cnt), .int stp, .int thr]))] H := hP
  have hD : va_D A [(mo, .inr (5, [.ref mop, .ref mye, .ref mno, .ref mnu, .ref msz, .int (nI stk), .ref mre, .ref mce, .ref mco, .ref xc, .ref xa, .ref xm, .ref xv, .int (nI cnt), .int stp, .int thr]))] := hD
  rcases hp4 with ⟨hc4, _⟩ | ⟨hc4, rfl⟩
  · obtain ⟨j, hj, e⟩ := fs_of (x := f) (n := 4) (by decide) (by omega) (by omega)
    exact absurd e (hf j hj)
  refine lv_if_ne (tgt := 14) hx hb d_Mo_test_7 (by decide) (fun hc => absurd (by decide) hc) (fun _ => ?_)
  refine lv_iconst (v := nI 1) hx hb d_Mo_test_10 (by decide) ?_
  refine lv_goto (tgt := 27) hx hb d_Mo_test_11 (by decide) ?_
  refine va_put (D := (dC, dI)) (ci := 5) (v := .int (nI 1)) (ty := (.int)) (C := R_Mo) (T := T_Mo) (N := 16) hx hb hts uin_Mo t_Mo ok_Mo n_Mo hown hK hP hD hS 0 rfl rfl 15 (by decide) (hts _ wi_445) (fun _ h9 => h9) rfl (by decide +kernel) rfl rfl (Nat.le_of_ble_eq_true rfl) d_Mo_test_27 (fun H locs hP hD hS => ?_)
  have hP : va_P (dC, dI) vwCl [(mo, .inr (5, [.ref mop, .ref mye, .ref mno, .ref mnu, .ref msz, .int (nI stk), .ref mre, .ref mce, .ref mco, .ref xc, .ref xa, .ref xm, .ref xv, .int (nI cnt), .int stp, .int (nI 1)]))] H := hP
  have hD : va_D A [(mo, .inr (5, [.ref mop, .ref mye, .ref mno, .ref mnu, .ref msz, .int (nI stk), .ref mre, .ref mce, .ref mco, .ref xc, .ref xa, .ref xm, .ref xv, .int (nI cnt), .int stp, .int (nI 1)]))] := hD
  refine lv_aload_n hx hb d_Mo_test_30 rfl (lv_at hl 0 rfl) ?_
  refine va_get (D := (dC, dI)) (ci := 5) (v := .int (nI 1)) (C := R_Mo) (T := T_Mo) (N := 16) hx hb hts uin_Mo hown hK hP 0 rfl rfl 15 (by decide) (hts _ wi_445) (fun _ h9 => h9) rfl d_Mo_test_31 ?_
  refine lv_if_le (tgt := 41) hx hb d_Mo_test_34 (by decide) (fun hc => absurd hc (by decide)) (fun _ => ?_)
  refine lv_iconst (v := nI 0) hx hb d_Mo_test_37 (by decide) ?_
  refine lv_goto (tgt := 46) hx hb d_Mo_test_38 (by decide) ?_
  exact fs_iret hx hb hr hlocks hAe hK hS d_Mo_test_46 () (rfl) hP hD

theorem d_Mo_install_0 : decode b_Mo_install 0 = .ok (.aload_n 0, 1) := by decide +kernel
theorem d_Mo_install_1 : decode b_Mo_install 1 = .ok (.iload_n 1, 1) := by decide +kernel
theorem d_Mo_install_2 : decode b_Mo_install 2 = .ok (.iconst 0, 1) := by decide +kernel
theorem d_Mo_install_3 : decode b_Mo_install 3 = .ok (.iconst 3, 1) := by decide +kernel
theorem d_Mo_install_4 : decode b_Mo_install 4 = .ok (.invokestatic 51, 3) := by decide +kernel
theorem d_Mo_install_7 : decode b_Mo_install 7 = .ok (.ifCond .ne 7, 3) := by decide +kernel
theorem d_Mo_install_10 : decode b_Mo_install 10 = .ok (.iconst 1, 1) := by decide +kernel
theorem d_Mo_install_11 : decode b_Mo_install 11 = .ok (.goto 28, 3) := by decide +kernel
theorem d_Mo_install_14 : decode b_Mo_install 14 = .ok (.aload_n 0, 1) := by decide +kernel
theorem d_Mo_install_15 : decode b_Mo_install 15 = .ok (.iload_n 1, 1) := by decide +kernel
theorem d_Mo_install_16 : decode b_Mo_install 16 = .ok (.invokevirtual 69, 3) := by decide +kernel
theorem d_Mo_install_19 : decode b_Mo_install 19 = .ok (.ifCond .eq 7, 3) := by decide +kernel
theorem d_Mo_install_22 : decode b_Mo_install 22 = .ok (.iconst 2, 1) := by decide +kernel
theorem d_Mo_install_23 : decode b_Mo_install 23 = .ok (.goto 16, 3) := by decide +kernel
theorem d_Mo_install_26 : decode b_Mo_install 26 = .ok (.aload_n 0, 1) := by decide +kernel
theorem d_Mo_install_27 : decode b_Mo_install 27 = .ok (.getfield 97, 3) := by decide +kernel
theorem d_Mo_install_30 : decode b_Mo_install 30 = .ok (.iconst 4, 1) := by decide +kernel
theorem d_Mo_install_31 : decode b_Mo_install 31 = .ok (.if_icmp .ne 7, 3) := by decide +kernel
theorem d_Mo_install_34 : decode b_Mo_install 34 = .ok (.iconst 3, 1) := by decide +kernel
theorem d_Mo_install_35 : decode b_Mo_install 35 = .ok (.goto 4, 3) := by decide +kernel
theorem d_Mo_install_38 : decode b_Mo_install 38 = .ok (.iconst 0, 1) := by decide +kernel
theorem d_Mo_install_39 : decode b_Mo_install 39 = .ok (.putfield 47, 3) := by decide +kernel
theorem d_Mo_install_42 : decode b_Mo_install 42 = .ok (.aload_n 0, 1) := by decide +kernel
theorem d_Mo_install_43 : decode b_Mo_install 43 = .ok (.getfield 47, 3) := by decide +kernel
theorem d_Mo_install_46 : decode b_Mo_install 46 = .ok (.ifCond .le 5, 3) := by decide +kernel
theorem d_Mo_install_49 : decode b_Mo_install 49 = .ok (.iconst 0, 1) := by decide +kernel
theorem d_Mo_install_50 : decode b_Mo_install 50 = .ok (.ireturn, 1) := by decide +kernel
theorem d_Mo_install_51 : decode b_Mo_install 51 = .ok (.iconst 4, 1) := by decide +kernel
theorem d_Mo_install_52 : decode b_Mo_install 52 = .ok (.aload_n 0, 1) := by decide +kernel
theorem d_Mo_install_53 : decode b_Mo_install 53 = .ok (.getfield 97, 3) := by decide +kernel
theorem d_Mo_install_56 : decode b_Mo_install 56 = .ok (.iadd, 1) := by decide +kernel
theorem d_Mo_install_57 : decode b_Mo_install 57 = .ok (.istore_n 2, 1) := by decide +kernel
theorem d_Mo_install_58 : decode b_Mo_install 58 = .ok (.aload_n 0, 1) := by decide +kernel
theorem d_Mo_install_59 : decode b_Mo_install 59 = .ok (.getfield 22, 3) := by decide +kernel
theorem d_Mo_install_62 : decode b_Mo_install 62 = .ok (.iload_n 2, 1) := by decide +kernel
theorem d_Mo_install_63 : decode b_Mo_install 63 = .ok (.iconst 0, 1) := by decide +kernel
theorem d_Mo_install_64 : decode b_Mo_install 64 = .ok (.iastore, 1) := by decide +kernel
theorem d_Mo_install_65 : decode b_Mo_install 65 = .ok (.iconst 0, 1) := by decide +kernel
theorem d_Mo_install_66 : decode b_Mo_install 66 = .ok (.istore_n 3, 1) := by decide +kernel
theorem d_Mo_install_67 : decode b_Mo_install 67 = .ok (.iload_n 3, 1) := by decide +kernel
theorem d_Mo_install_68 : decode b_Mo_install 68 = .ok (.aload_n 0, 1) := by decide +kernel
theorem d_Mo_install_69 : decode b_Mo_install 69 = .ok (.getfield 22, 3) := by decide +kernel
theorem d_Mo_install_72 : decode b_Mo_install 72 = .ok (.iload_n 1, 1) := by decide +kernel
theorem d_Mo_install_73 : decode b_Mo_install 73 = .ok (.iaload, 1) := by decide +kernel
theorem d_Mo_install_74 : decode b_Mo_install 74 = .ok (.if_icmp .ge 58, 3) := by decide +kernel
theorem d_Mo_install_77 : decode b_Mo_install 77 = .ok (.aload_n 0, 1) := by decide +kernel
theorem d_Mo_install_78 : decode b_Mo_install 78 = .ok (.iload_n 2, 1) := by decide +kernel
theorem d_Mo_install_79 : decode b_Mo_install 79 = .ok (.aload_n 0, 1) := by decide +kernel
theorem d_Mo_install_80 : decode b_Mo_install 80 = .ok (.getfield 7, 3) := by decide +kernel
theorem d_Mo_install_83 : decode b_Mo_install 83 = .ok (.bipush 40, 2) := by decide +kernel
theorem d_Mo_install_85 : decode b_Mo_install 85 = .ok (.iload_n 1, 1) := by decide +kernel
theorem d_Mo_install_86 : decode b_Mo_install 86 = .ok (.imul, 1) := by decide +kernel
theorem d_Mo_install_87 : decode b_Mo_install 87 = .ok (.iload_n 3, 1) := by decide +kernel
theorem d_Mo_install_88 : decode b_Mo_install 88 = .ok (.iadd, 1) := by decide +kernel
theorem d_Mo_install_89 : decode b_Mo_install 89 = .ok (.iaload, 1) := by decide +kernel
theorem d_Mo_install_90 : decode b_Mo_install 90 = .ok (.aload_n 0, 1) := by decide +kernel
theorem d_Mo_install_91 : decode b_Mo_install 91 = .ok (.getfield 13, 3) := by decide +kernel
theorem d_Mo_install_94 : decode b_Mo_install 94 = .ok (.bipush 40, 2) := by decide +kernel
theorem d_Mo_install_96 : decode b_Mo_install 96 = .ok (.iload_n 1, 1) := by decide +kernel
theorem d_Mo_install_97 : decode b_Mo_install 97 = .ok (.imul, 1) := by decide +kernel
theorem d_Mo_install_98 : decode b_Mo_install 98 = .ok (.iload_n 3, 1) := by decide +kernel
theorem d_Mo_install_99 : decode b_Mo_install 99 = .ok (.iadd, 1) := by decide +kernel
theorem d_Mo_install_100 : decode b_Mo_install 100 = .ok (.iaload, 1) := by decide +kernel
theorem d_Mo_install_101 : decode b_Mo_install 101 = .ok (.aload_n 0, 1) := by decide +kernel
theorem d_Mo_install_102 : decode b_Mo_install 102 = .ok (.getfield 16, 3) := by decide +kernel
theorem d_Mo_install_105 : decode b_Mo_install 105 = .ok (.bipush 40, 2) := by decide +kernel
theorem d_Mo_install_107 : decode b_Mo_install 107 = .ok (.iload_n 1, 1) := by decide +kernel
theorem d_Mo_install_108 : decode b_Mo_install 108 = .ok (.imul, 1) := by decide +kernel
theorem d_Mo_install_109 : decode b_Mo_install 109 = .ok (.iload_n 3, 1) := by decide +kernel
theorem d_Mo_install_110 : decode b_Mo_install 110 = .ok (.iadd, 1) := by decide +kernel
theorem d_Mo_install_111 : decode b_Mo_install 111 = .ok (.iaload, 1) := by decide +kernel
theorem d_Mo_install_112 : decode b_Mo_install 112 = .ok (.aload_n 0, 1) := by decide +kernel
theorem d_Mo_install_113 : decode b_Mo_install 113 = .ok (.getfield 19, 3) := by decide +kernel
theorem d_Mo_install_116 : decode b_Mo_install 116 = .ok (.bipush 40, 2) := by decide +kernel
theorem d_Mo_install_118 : decode b_Mo_install 118 = .ok (.iload_n 1, 1) := by decide +kernel
theorem d_Mo_install_119 : decode b_Mo_install 119 = .ok (.imul, 1) := by decide +kernel
theorem d_Mo_install_120 : decode b_Mo_install 120 = .ok (.iload_n 3, 1) := by decide +kernel
theorem d_Mo_install_121 : decode b_Mo_install 121 = .ok (.iadd, 1) := by decide +kernel
theorem d_Mo_install_122 : decode b_Mo_install 122 = .ok (.iaload, 1) := by decide +kernel
theorem d_Mo_install_123 : decode b_Mo_install 123 = .ok (.invokevirtual 55, 3) := by decide +kernel
theorem d_Mo_install_126 : decode b_Mo_install 126 = .ok (.iinc 3 1, 3) := by decide +kernel
theorem d_Mo_install_129 : decode b_Mo_install 129 = .ok (.goto (-62), 3) := by decide +kernel
theorem d_Mo_install_132 : decode b_Mo_install 132 = .ok (.aload_n 0, 1) := by decide +kernel
theorem d_Mo_install_133 : decode b_Mo_install 133 = .ok (.dup, 1) := by decide +kernel
theorem d_Mo_install_134 : decode b_Mo_install 134 = .ok (.getfield 97, 3) := by decide +kernel
theorem d_Mo_install_137 : decode b_Mo_install 137 = .ok (.iconst 1, 1) := by decide +kernel
theorem d_Mo_install_138 : decode b_Mo_install 138 = .ok (.iadd, 1) := by decide +kernel
theorem d_Mo_install_139 : decode b_Mo_install 139 = .ok (.putfield 97, 3) := by decide +kernel
theorem d_Mo_install_142 : decode b_Mo_install 142 = .ok (.aload_n 0, 1) := by decide +kernel
theorem d_Mo_install_143 : decode b_Mo_install 143 = .ok (.getfield 97, 3) := by decide +kernel
theorem d_Mo_install_146 : decode b_Mo_install 146 = .ok (.ireturn, 1) := by decide +kernel
set_option maxHeartbeats 4000000 in
set_option maxRecDepth 100000 in
theorem c_Mo_installX (mo mop mye mno mnu msz stk mre mce mco xc xa xm xv cnt : Nat) (stp thr : Int32) (f : Int32) (sz : Nat) (hf : ∀ j, j < 4 → f ≠ nI j) : fs_I l y_Mo_install (k_Mo_install :: fs_T) { frames := 3, cells := 0, slots := 0, locals := 72 } (dC, dI) vwCl (fs_tys cI cZ cJ cF) [.ref mo, .int f] [(mo, .inr (5, [.ref mop, .ref mye, .ref mno, .ref mnu, .ref msz, .int (nI stk), .ref mre, .ref mce, .ref mco, .ref xc, .ref xa, .ref xm, .ref xv, .int (nI cnt), .int stp, .int thr]))] sz (S := Unit) (fun r _ => r = nI 0) (fun _ => [(mo, .inr (5, [.ref mop, .ref mye, .ref mno, .ref mnu, .ref msz, .int (nI stk), .ref mre, .ref mce, .ref mco, .ref xc, .ref xa, .ref xm, .ref xv, .int (nI cnt), .int stp, .int (nI 1)]))]) 0 0 := by
  refine fs_head (by decide) (Nat.le_of_ble_eq_true rfl) ?_
  intro p e s m below meth c A ls hx hb hr hts hown hlocks hin hml hK hP hD hS hA hAe hsz hl
  have hl : lv_has ls 4 [(0, .ref mo), (1, .int f)] := hl
  have hown : s.vm.findClass R_Mo = some m.cls := hown
  refine lv_aload_n hx hb d_Mo_install_0 rfl (lv_at hl 0 rfl) ?_
  refine lv_iload_n hx hb d_Mo_install_1 rfl (lv_at hl 1 rfl) ?_
  refine lv_iconst (v := nI 0) hx hb d_Mo_install_2 (by decide) ?_
  refine lv_iconst (v := nI 3) hx hb d_Mo_install_3 (by decide) ?_
  refine fs_calli (wc := []) (wr := [(mo, .inr (5, [.ref mop, .ref mye, .ref mno, .ref mnu, .ref msz, .int (nI stk), .ref mre, .ref mce, .ref mco, .ref xc, .ref xa, .ref xm, .ref xv, .int (nI cnt), .int stp, .int thr]))]) [] [0] hP hD hK hS hA rfl rfl rfl (by decide) (fun hPc hDc => va_runS (As := [.int f, .int (nI 0), .int (nI 3)]) (rest := [.ref mo]) ⟨hx, hb, hml, hown, hts⟩ (c_Mo_within f (nI 0) (nI 3) (f.toInt) (((0 : Nat) : Int)) (((3 : Nat) : Int)) _ (rfl) (nI_toInt (by omega)) (nI_toInt (by omega))) (⟨callB_of 3 hts (fs_g kin_Mo_within) rfl rfl rfl (hts _ wi_6) (hts _ wi_488) (by decide +kernel) ⟨Nat.le_of_ble_eq_true rfl, Nat.le_of_ble_eq_true rfl⟩, hts _ wi_489⟩) (fs_preS hPc hK hDc) rfl rfl hl.1 rfl (lv_room (Nat.le_of_ble_eq_true rfl)) d_Mo_install_4 ⟨Nat.le_of_ble_eq_true rfl, Nat.le_of_ble_eq_true rfl⟩) rfl (fun r4 _ H locs hp4 hP hD hS => ?_)
  have hP : va_P (dC, dI) vwCl [(mo, .inr (5, [.ref mop, .ref mye, .ref mno, .ref mnu, .ref msz, .int (nI stk), .ref mre, .ref mce, .ref mco, .ref xc, .ref xa, .ref xm, .ref xv, .int (nI cnt), .int stp, .int thr]))] H := hP
  have hD : va_D A [(mo, .inr (5, [.ref mop, .ref mye, .ref mno, .ref mnu, .ref msz, .int (nI stk), .ref mre, .ref mce, .ref mco, .ref xc, .ref xa, .ref xm, .ref xv, .int (nI cnt), .int stp, .int thr]))] := hD
  rcases hp4 with ⟨hc4, _⟩ | ⟨hc4, rfl⟩
  · obtain ⟨j, hj, e⟩ := fs_of (x := f) (n := 4) (by decide) (by omega) (by omega)
    exact absurd e (hf j hj)
  refine lv_if_ne (tgt := 14) hx hb d_Mo_install_7 (by decide) (fun hc => absurd (by decide) hc) (fun _ => ?_)
  refine lv_iconst (v := nI 1) hx hb d_Mo_install_10 (by decide) ?_
  refine lv_goto (tgt := 39) hx hb d_Mo_install_11 (by decide) ?_
  refine va_put (D := (dC, dI)) (ci := 5) (v := .int (nI 1)) (ty := (.int)) (C := R_Mo) (T := T_Mo) (N := 16) hx hb hts uin_Mo t_Mo ok_Mo n_Mo hown hK hP hD hS 0 rfl rfl 15 (by decide) (hts _ wi_445) (fun _ h9 => h9) rfl (by decide +kernel) rfl rfl (Nat.le_of_ble_eq_true rfl) d_Mo_install_39 (fun H locs hP hD hS => ?_)
  have hP : va_P (dC, dI) vwCl [(mo, .inr (5, [.ref mop, .ref mye, .ref mno, .ref mnu, .ref msz, .int (nI stk), .ref mre, .ref mce, .ref mco, .ref xc, .ref xa, .ref xm, .ref xv, .int (nI cnt), .int stp, .int (nI 1)]))] H := hP
  have hD : va_D A [(mo, .inr (5, [.ref mop, .ref mye, .ref mno, .ref mnu, .ref msz, .int (nI stk), .ref mre, .ref mce, .ref mco, .ref xc, .ref xa, .ref xm, .ref xv, .int (nI cnt), .int stp, .int (nI 1)]))] := hD
  refine lv_aload_n hx hb d_Mo_install_42 rfl (lv_at hl 0 rfl) ?_
  refine va_get (D := (dC, dI)) (ci := 5) (v := .int (nI 1)) (C := R_Mo) (T := T_Mo) (N := 16) hx hb hts uin_Mo hown hK hP 0 rfl rfl 15 (by decide) (hts _ wi_445) (fun _ h9 => h9) rfl d_Mo_install_43 ?_
  refine lv_if_le (tgt := 51) hx hb d_Mo_install_46 (by decide) (fun hc => absurd hc (by decide)) (fun _ => ?_)
  refine lv_iconst (v := nI 0) hx hb d_Mo_install_49 (by decide) ?_
  exact fs_iret hx hb hr hlocks hAe hK hS d_Mo_install_50 () (rfl) hP hD

set_option maxHeartbeats 4000000 in
set_option maxRecDepth 100000 in
theorem c_Mo_installB (mo mop mye mno mnu msz stk mre mce mco xc xa xm xv cnt : Nat) (stp thr : Int32) (fo fy fn fk zs cm : Nat → Int32) (L : fx_Prg) (j : Nat) (sz : Nat) (hj : j < 4) (hzs : zs j = nI L.length) (hrep : fx_rep L (fun i => fo (40 * j + i)) (fun i => fy (40 * j + i)) (fun i => fn (40 * j + i)) (fun i => fk (40 * j + i))) (hok : fx_ok L) (hc0 : ¬ fx_chk L = 0) : fs_I l y_Mo_install (k_Mo_install :: fs_T) { frames := 3, cells := 0, slots := 0, locals := 72 } (dC, dI) vwCl (fs_tys cI cZ cJ cF) [.ref mo, .int (nI j)] [(mo, .inr (5, [.ref mop, .ref mye, .ref mno, .ref mnu, .ref msz, .int (nI stk), .ref mre, .ref mce, .ref mco, .ref xc, .ref xa, .ref xm, .ref xv, .int (nI cnt), .int stp, .int thr])), (mop, .inl (cI, 320, .inl fo)), (mye, .inl (cI, 320, .inl fy)), (mno, .inl (cI, 320, .inl fn)), (mnu, .inl (cI, 320, .inl fk)), (msz, .inl (cI, 8, .inl zs)), (mco, .inl (cZ, 41, .inl cm))] sz (S := Nat → Int32) (fun r _ => r = nI 0) (fun u => [(mo, .inr (5, [.ref mop, .ref mye, .ref mno, .ref mnu, .ref msz, .int (nI stk), .ref mre, .ref mce, .ref mco, .ref xc, .ref xa, .ref xm, .ref xv, .int (nI cnt), .int stp, .int (nI 2)])), (mop, .inl (cI, 320, .inl fo)), (mye, .inl (cI, 320, .inl fy)), (mno, .inl (cI, 320, .inl fn)), (mnu, .inl (cI, 320, .inl fk)), (msz, .inl (cI, 8, .inl zs)), (mco, .inl (cZ, 41, .inl u))]) 0 0 := by
  refine fs_head (by decide) (Nat.le_of_ble_eq_true rfl) ?_
  intro p e s m below meth c A ls hx hb hr hts hown hlocks hin hml hK hP hD hS hA hAe hsz hl
  have hl : lv_has ls 4 [(0, .ref mo), (1, .int (nI j))] := hl
  have hown : s.vm.findClass R_Mo = some m.cls := hown
  refine lv_aload_n hx hb d_Mo_install_0 rfl (lv_at hl 0 rfl) ?_
  refine lv_iload_n hx hb d_Mo_install_1 rfl (lv_at hl 1 rfl) ?_
  refine lv_iconst (v := nI 0) hx hb d_Mo_install_2 (by decide) ?_
  refine lv_iconst (v := nI 3) hx hb d_Mo_install_3 (by decide) ?_
  refine fs_calli (wc := []) (wr := [(mo, .inr (5, [.ref mop, .ref mye, .ref mno, .ref mnu, .ref msz, .int (nI stk), .ref mre, .ref mce, .ref mco, .ref xc, .ref xa, .ref xm, .ref xv, .int (nI cnt), .int stp, .int thr])), (mop, .inl (cI, 320, .inl fo)), (mye, .inl (cI, 320, .inl fy)), (mno, .inl (cI, 320, .inl fn)), (mnu, .inl (cI, 320, .inl fk)), (msz, .inl (cI, 8, .inl zs)), (mco, .inl (cZ, 41, .inl cm))]) [] [0, 1, 2, 3, 4, 5, 6] hP hD hK hS hA rfl rfl rfl (by decide) (fun hPc hDc => va_runS (As := [.int (nI j), .int (nI 0), .int (nI 3)]) (rest := [.ref mo]) ⟨hx, hb, hml, hown, hts⟩ (c_Mo_within (nI j) (nI 0) (nI 3) (((j : Nat) : Int)) (((0 : Nat) : Int)) (((3 : Nat) : Int)) _ (nI_toInt (by omega)) (nI_toInt (by omega)) (nI_toInt (by omega))) (⟨callB_of 3 hts (fs_g kin_Mo_within) rfl rfl rfl (hts _ wi_6) (hts _ wi_488) (by decide +kernel) ⟨Nat.le_of_ble_eq_true rfl, Nat.le_of_ble_eq_true rfl⟩, hts _ wi_489⟩) (fs_preS hPc hK hDc) rfl rfl hl.1 rfl (lv_room (Nat.le_of_ble_eq_true rfl)) d_Mo_install_4 ⟨Nat.le_of_ble_eq_true rfl, Nat.le_of_ble_eq_true rfl⟩) rfl (fun r4 _ H locs hp4 hP hD hS => ?_)
  have hP : va_P (dC, dI) vwCl [(mo, .inr (5, [.ref mop, .ref mye, .ref mno, .ref mnu, .ref msz, .int (nI stk), .ref mre, .ref mce, .ref mco, .ref xc, .ref xa, .ref xm, .ref xv, .int (nI cnt), .int stp, .int thr])), (mop, .inl (cI, 320, .inl fo)), (mye, .inl (cI, 320, .inl fy)), (mno, .inl (cI, 320, .inl fn)), (mnu, .inl (cI, 320, .inl fk)), (msz, .inl (cI, 8, .inl zs)), (mco, .inl (cZ, 41, .inl cm))] H := hP
  have hD : va_D A [(mo, .inr (5, [.ref mop, .ref mye, .ref mno, .ref mnu, .ref msz, .int (nI stk), .ref mre, .ref mce, .ref mco, .ref xc, .ref xa, .ref xm, .ref xv, .int (nI cnt), .int stp, .int thr])), (mop, .inl (cI, 320, .inl fo)), (mye, .inl (cI, 320, .inl fy)), (mno, .inl (cI, 320, .inl fn)), (mnu, .inl (cI, 320, .inl fk)), (msz, .inl (cI, 8, .inl zs)), (mco, .inl (cZ, 41, .inl cm))] := hD
  rcases hp4 with ⟨hc4, rfl⟩ | ⟨hc4, _⟩
  rotate_left
  · exact absurd (by omega) hc4
  refine lv_if_ne (tgt := 14) hx hb d_Mo_install_7 (by decide) (fun _ => ?_) (fun hc => absurd hc (by decide))
  refine lv_aload_n hx hb d_Mo_install_14 rfl (lv_at hl 0 rfl) ?_
  refine lv_iload_n hx hb d_Mo_install_15 rfl (lv_at hl 1 rfl) ?_
  refine fs_calli (wc := [(mo, .inr (5, [.ref mop, .ref mye, .ref mno, .ref mnu, .ref msz, .int (nI stk), .ref mre, .ref mce, .ref mco, .ref xc, .ref xa, .ref xm, .ref xv, .int (nI cnt), .int stp, .int thr])), (mop, .inl (cI, 320, .inl fo)), (mye, .inl (cI, 320, .inl fy)), (mno, .inl (cI, 320, .inl fn)), (mnu, .inl (cI, 320, .inl fk)), (msz, .inl (cI, 8, .inl zs)), (mco, .inl (cZ, 41, .inl cm))]) (wr := []) [0, 1, 2, 3, 4, 5, 6] [] hP hD hK hS hA rfl rfl rfl (by decide) (fun hPc hDc => va_runV (C := R_Mo) (As := [.int (nI j)]) (rest := [.ref mo]) ⟨hx, hb, hml, hown, hts⟩ (c_Mo_check mo mop mye mno mnu msz stk mre mce mco xc xa xm xv cnt stp thr fo fy fn fk zs cm L j _ (by omega) hzs hrep hok) (⟨callB_of 1 hts (fs_g kin_Mo_check) rfl rfl rfl (hts _ wi_6) (hts _ wi_519) (by decide +kernel) ⟨Nat.le_of_ble_eq_true rfl, Nat.le_of_ble_eq_true rfl⟩, hts _ wi_521, hts _ sel_Mo_check⟩) (fs_preV (q0 := 0) rfl rfl hPc hK hDc) rfl rfl hl.1 rfl (lv_room (Nat.le_of_ble_eq_true rfl)) d_Mo_install_16 ⟨Nat.le_of_ble_eq_true rfl, Nat.le_of_ble_eq_true rfl⟩) rfl (fun r16 u16 H locs hp16 hP hD hS => ?_)
  have hP : va_P (dC, dI) vwCl [(mo, .inr (5, [.ref mop, .ref mye, .ref mno, .ref mnu, .ref msz, .int (nI stk), .ref mre, .ref mce, .ref mco, .ref xc, .ref xa, .ref xm, .ref xv, .int (nI cnt), .int stp, .int thr])), (mop, .inl (cI, 320, .inl fo)), (mye, .inl (cI, 320, .inl fy)), (mno, .inl (cI, 320, .inl fn)), (mnu, .inl (cI, 320, .inl fk)), (msz, .inl (cI, 8, .inl zs)), (mco, .inl (cZ, 41, .inl u16))] H := hP
  have hD : va_D A [(mo, .inr (5, [.ref mop, .ref mye, .ref mno, .ref mnu, .ref msz, .int (nI stk), .ref mre, .ref mce, .ref mco, .ref xc, .ref xa, .ref xm, .ref xv, .int (nI cnt), .int stp, .int thr])), (mop, .inl (cI, 320, .inl fo)), (mye, .inl (cI, 320, .inl fy)), (mno, .inl (cI, 320, .inl fn)), (mnu, .inl (cI, 320, .inl fk)), (msz, .inl (cI, 8, .inl zs)), (mco, .inl (cZ, 41, .inl u16))] := hD
  subst hp16
  have hchk := fx_chk_lt hok.1
  refine lv_if_eq (tgt := 26) hx hb d_Mo_install_19 (by decide) (fun hc19 => absurd (by have := fx_chk_lt hok.1; rw [← nI_0, nI_eq (by omega) (by omega)] at hc19; exact hc19) hc0) (fun hc19 => ?_)
  try rw [← nI_0] at hc19
  rw [nI_eq (by omega) (by omega)] at hc19
  refine lv_iconst (v := nI 2) hx hb d_Mo_install_22 (by decide) ?_
  refine lv_goto (tgt := 39) hx hb d_Mo_install_23 (by decide) ?_
  refine va_put (D := (dC, dI)) (ci := 5) (v := .int (nI 2)) (ty := (.int)) (C := R_Mo) (T := T_Mo) (N := 16) hx hb hts uin_Mo t_Mo ok_Mo n_Mo hown hK hP hD hS 0 rfl rfl 15 (by decide) (hts _ wi_445) (fun _ h9 => h9) rfl (by decide +kernel) rfl rfl (Nat.le_of_ble_eq_true rfl) d_Mo_install_39 (fun H locs hP hD hS => ?_)
  have hP : va_P (dC, dI) vwCl [(mo, .inr (5, [.ref mop, .ref mye, .ref mno, .ref mnu, .ref msz, .int (nI stk), .ref mre, .ref mce, .ref mco, .ref xc, .ref xa, .ref xm, .ref xv, .int (nI cnt), .int stp, .int (nI 2)])), (mop, .inl (cI, 320, .inl fo)), (mye, .inl (cI, 320, .inl fy)), (mno, .inl (cI, 320, .inl fn)), (mnu, .inl (cI, 320, .inl fk)), (msz, .inl (cI, 8, .inl zs)), (mco, .inl (cZ, 41, .inl u16))] H := hP
  have hD : va_D A [(mo, .inr (5, [.ref mop, .ref mye, .ref mno, .ref mnu, .ref msz, .int (nI stk), .ref mre, .ref mce, .ref mco, .ref xc, .ref xa, .ref xm, .ref xv, .int (nI cnt), .int stp, .int (nI 2)])), (mop, .inl (cI, 320, .inl fo)), (mye, .inl (cI, 320, .inl fy)), (mno, .inl (cI, 320, .inl fn)), (mnu, .inl (cI, 320, .inl fk)), (msz, .inl (cI, 8, .inl zs)), (mco, .inl (cZ, 41, .inl u16))] := hD
  refine lv_aload_n hx hb d_Mo_install_42 rfl (lv_at hl 0 rfl) ?_
  refine va_get (D := (dC, dI)) (ci := 5) (v := .int (nI 2)) (C := R_Mo) (T := T_Mo) (N := 16) hx hb hts uin_Mo hown hK hP 0 rfl rfl 15 (by decide) (hts _ wi_445) (fun _ h9 => h9) rfl d_Mo_install_43 ?_
  refine lv_if_le (tgt := 51) hx hb d_Mo_install_46 (by decide) (fun hc => absurd hc (by decide)) (fun _ => ?_)
  refine lv_iconst (v := nI 0) hx hb d_Mo_install_49 (by decide) ?_
  exact fs_iret hx hb hr hlocks hAe hK hS d_Mo_install_50 u16 (rfl) hP hD

set_option maxHeartbeats 4000000 in
set_option maxRecDepth 100000 in
theorem c_Mo_installS (mo mop mye mno mnu msz mre mce mco xc xa xm xv cnt : Nat) (stp thr : Int32) (fo fy fn fk zs cm : Nat → Int32) (L : fx_Prg) (j : Nat) (sz : Nat) (hj : j < 4) (hzs : zs j = nI L.length) (hrep : fx_rep L (fun i => fo (40 * j + i)) (fun i => fy (40 * j + i)) (fun i => fn (40 * j + i)) (fun i => fk (40 * j + i))) (hok : fx_ok L) (hc0 : fx_chk L = 0) : fs_I l y_Mo_install (k_Mo_install :: fs_T) { frames := 3, cells := 0, slots := 0, locals := 72 } (dC, dI) vwCl (fs_tys cI cZ cJ cF) [.ref mo, .int (nI j)] [(mo, .inr (5, [.ref mop, .ref mye, .ref mno, .ref mnu, .ref msz, .int (nI 4), .ref mre, .ref mce, .ref mco, .ref xc, .ref xa, .ref xm, .ref xv, .int (nI cnt), .int stp, .int thr])), (mop, .inl (cI, 320, .inl fo)), (mye, .inl (cI, 320, .inl fy)), (mno, .inl (cI, 320, .inl fn)), (mnu, .inl (cI, 320, .inl fk)), (msz, .inl (cI, 8, .inl zs)), (mco, .inl (cZ, 41, .inl cm))] sz (S := Nat → Int32) (fun r _ => r = nI 0) (fun u => [(mo, .inr (5, [.ref mop, .ref mye, .ref mno, .ref mnu, .ref msz, .int (nI 4), .ref mre, .ref mce, .ref mco, .ref xc, .ref xa, .ref xm, .ref xv, .int (nI cnt), .int stp, .int (nI 3)])), (mop, .inl (cI, 320, .inl fo)), (mye, .inl (cI, 320, .inl fy)), (mno, .inl (cI, 320, .inl fn)), (mnu, .inl (cI, 320, .inl fk)), (msz, .inl (cI, 8, .inl zs)), (mco, .inl (cZ, 41, .inl u))]) 0 0 := by
  refine fs_head (by decide) (Nat.le_of_ble_eq_true rfl) ?_
  intro p e s m below meth c A ls hx hb hr hts hown hlocks hin hml hK hP hD hS hA hAe hsz hl
  have hl : lv_has ls 4 [(0, .ref mo), (1, .int (nI j))] := hl
  have hown : s.vm.findClass R_Mo = some m.cls := hown
  refine lv_aload_n hx hb d_Mo_install_0 rfl (lv_at hl 0 rfl) ?_
  refine lv_iload_n hx hb d_Mo_install_1 rfl (lv_at hl 1 rfl) ?_
  refine lv_iconst (v := nI 0) hx hb d_Mo_install_2 (by decide) ?_
  refine lv_iconst (v := nI 3) hx hb d_Mo_install_3 (by decide) ?_
  refine fs_calli (wc := []) (wr := [(mo, .inr (5, [.ref mop, .ref mye, .ref mno, .ref mnu, .ref msz, .int (nI 4), .ref mre, .ref mce, .ref mco, .ref xc, .ref xa, .ref xm, .ref xv, .int (nI cnt), .int stp, .int thr])), (mop, .inl (cI, 320, .inl fo)), (mye, .inl (cI, 320, .inl fy)), (mno, .inl (cI, 320, .inl fn)), (mnu, .inl (cI, 320, .inl fk)), (msz, .inl (cI, 8, .inl zs)), (mco, .inl (cZ, 41, .inl cm))]) [] [0, 1, 2, 3, 4, 5, 6] hP hD hK hS hA rfl rfl rfl (by decide) (fun hPc hDc => va_runS (As := [.int (nI j), .int (nI 0), .int (nI 3)]) (rest := [.ref mo]) ⟨hx, hb, hml, hown, hts⟩ (c_Mo_within (nI j) (nI 0) (nI 3) (((j : Nat) : Int)) (((0 : Nat) : Int)) (((3 : Nat) : Int)) _ (nI_toInt (by omega)) (nI_toInt (by omega)) (nI_toInt (by omega))) (⟨callB_of 3 hts (fs_g kin_Mo_within) rfl rfl rfl (hts _ wi_6) (hts _ wi_488) (by decide +kernel) ⟨Nat.le_of_ble_eq_true rfl, Nat.le_of_ble_eq_true rfl⟩, hts _ wi_489⟩) (fs_preS hPc hK hDc) rfl rfl hl.1 rfl (lv_room (Nat.le_of_ble_eq_true rfl)) d_Mo_install_4 ⟨Nat.le_of_ble_eq_true rfl, Nat.le_of_ble_eq_true rfl⟩) rfl (fun r4 _ H locs hp4 hP hD hS => ?_)
  have hP : va_P (dC, dI) vwCl [(mo, .inr (5, [.ref mop, .ref mye, .ref mno, .ref mnu, .ref msz, .int (nI 4), .ref mre, .ref mce, .ref mco, .ref xc, .ref xa, .ref xm, .ref xv, .int (nI cnt), .int stp, .int thr])), (mop, .inl (cI, 320, .inl fo)), (mye, .inl (cI, 320, .inl fy)), (mno, .inl (cI, 320, .inl fn)), (mnu, .inl (cI, 320, .inl fk)), (msz, .inl (cI, 8, .inl zs)), (mco, .inl (cZ, 41, .inl cm))] H := hP
  have hD : va_D A [(mo, .inr (5, [.ref mop, .ref mye, .ref mno, .ref mnu, .ref msz, .int (nI 4), .ref mre, .ref mce, .ref mco, .ref xc, .ref xa, .ref xm, .ref xv, .int (nI cnt), .int stp, .int thr])), (mop, .inl (cI, 320, .inl fo)), (mye, .inl (cI, 320, .inl fy)), (mno, .inl (cI, 320, .inl fn)), (mnu, .inl (cI, 320, .inl fk)), (msz, .inl (cI, 8, .inl zs)), (mco, .inl (cZ, 41, .inl cm))] := hD
  rcases hp4 with ⟨hc4, rfl⟩ | ⟨hc4, _⟩
  rotate_left
  · exact absurd (by omega) hc4
  refine lv_if_ne (tgt := 14) hx hb d_Mo_install_7 (by decide) (fun _ => ?_) (fun hc => absurd hc (by decide))
  refine lv_aload_n hx hb d_Mo_install_14 rfl (lv_at hl 0 rfl) ?_
  refine lv_iload_n hx hb d_Mo_install_15 rfl (lv_at hl 1 rfl) ?_
  refine fs_calli (wc := [(mo, .inr (5, [.ref mop, .ref mye, .ref mno, .ref mnu, .ref msz, .int (nI 4), .ref mre, .ref mce, .ref mco, .ref xc, .ref xa, .ref xm, .ref xv, .int (nI cnt), .int stp, .int thr])), (mop, .inl (cI, 320, .inl fo)), (mye, .inl (cI, 320, .inl fy)), (mno, .inl (cI, 320, .inl fn)), (mnu, .inl (cI, 320, .inl fk)), (msz, .inl (cI, 8, .inl zs)), (mco, .inl (cZ, 41, .inl cm))]) (wr := []) [0, 1, 2, 3, 4, 5, 6] [] hP hD hK hS hA rfl rfl rfl (by decide) (fun hPc hDc => va_runV (C := R_Mo) (As := [.int (nI j)]) (rest := [.ref mo]) ⟨hx, hb, hml, hown, hts⟩ (c_Mo_check mo mop mye mno mnu msz 4 mre mce mco xc xa xm xv cnt stp thr fo fy fn fk zs cm L j _ (by omega) hzs hrep hok) (⟨callB_of 1 hts (fs_g kin_Mo_check) rfl rfl rfl (hts _ wi_6) (hts _ wi_519) (by decide +kernel) ⟨Nat.le_of_ble_eq_true rfl, Nat.le_of_ble_eq_true rfl⟩, hts _ wi_521, hts _ sel_Mo_check⟩) (fs_preV (q0 := 0) rfl rfl hPc hK hDc) rfl rfl hl.1 rfl (lv_room (Nat.le_of_ble_eq_true rfl)) d_Mo_install_16 ⟨Nat.le_of_ble_eq_true rfl, Nat.le_of_ble_eq_true rfl⟩) rfl (fun r16 u16 H locs hp16 hP hD hS => ?_)
  have hP : va_P (dC, dI) vwCl [(mo, .inr (5, [.ref mop, .ref mye, .ref mno, .ref mnu, .ref msz, .int (nI 4), .ref mre, .ref mce, .ref mco, .ref xc, .ref xa, .ref xm, .ref xv, .int (nI cnt), .int stp, .int thr])), (mop, .inl (cI, 320, .inl fo)), (mye, .inl (cI, 320, .inl fy)), (mno, .inl (cI, 320, .inl fn)), (mnu, .inl (cI, 320, .inl fk)), (msz, .inl (cI, 8, .inl zs)), (mco, .inl (cZ, 41, .inl u16))] H := hP
  have hD : va_D A [(mo, .inr (5, [.ref mop, .ref mye, .ref mno, .ref mnu, .ref msz, .int (nI 4), .ref mre, .ref mce, .ref mco, .ref xc, .ref xa, .ref xm, .ref xv, .int (nI cnt), .int stp, .int thr])), (mop, .inl (cI, 320, .inl fo)), (mye, .inl (cI, 320, .inl fy)), (mno, .inl (cI, 320, .inl fn)), (mnu, .inl (cI, 320, .inl fk)), (msz, .inl (cI, 8, .inl zs)), (mco, .inl (cZ, 41, .inl u16))] := hD
  subst hp16
  have hchk := fx_chk_lt hok.1
  refine lv_if_eq (tgt := 26) hx hb d_Mo_install_19 (by decide) (fun hc19 => ?_) (fun hc19 => absurd ((congrArg nI hc0).trans nI_0) hc19)
  try rw [← nI_0] at hc19
  rw [nI_eq (by omega) (by omega)] at hc19
  refine lv_aload_n hx hb d_Mo_install_26 rfl (lv_at hl 0 rfl) ?_
  refine va_get (D := (dC, dI)) (ci := 5) (v := .int (nI 4)) (C := R_Mo) (T := T_Mo) (N := 16) hx hb hts uin_Mo hown hK hP 0 rfl rfl 5 (by decide) (hts _ wi_435) (fun _ h9 => h9) rfl d_Mo_install_27 ?_
  refine lv_iconst (v := nI 4) hx hb d_Mo_install_30 (by decide) ?_
  refine lv_icmp_ne (tgt := 38) hx hb d_Mo_install_31 (by decide) (fun hc => absurd (by decide) hc) (fun _ => ?_)
  refine lv_iconst (v := nI 3) hx hb d_Mo_install_34 (by decide) ?_
  refine lv_goto (tgt := 39) hx hb d_Mo_install_35 (by decide) ?_
  refine va_put (D := (dC, dI)) (ci := 5) (v := .int (nI 3)) (ty := (.int)) (C := R_Mo) (T := T_Mo) (N := 16) hx hb hts uin_Mo t_Mo ok_Mo n_Mo hown hK hP hD hS 0 rfl rfl 15 (by decide) (hts _ wi_445) (fun _ h9 => h9) rfl (by decide +kernel) rfl rfl (Nat.le_of_ble_eq_true rfl) d_Mo_install_39 (fun H locs hP hD hS => ?_)
  have hP : va_P (dC, dI) vwCl [(mo, .inr (5, [.ref mop, .ref mye, .ref mno, .ref mnu, .ref msz, .int (nI 4), .ref mre, .ref mce, .ref mco, .ref xc, .ref xa, .ref xm, .ref xv, .int (nI cnt), .int stp, .int (nI 3)])), (mop, .inl (cI, 320, .inl fo)), (mye, .inl (cI, 320, .inl fy)), (mno, .inl (cI, 320, .inl fn)), (mnu, .inl (cI, 320, .inl fk)), (msz, .inl (cI, 8, .inl zs)), (mco, .inl (cZ, 41, .inl u16))] H := hP
  have hD : va_D A [(mo, .inr (5, [.ref mop, .ref mye, .ref mno, .ref mnu, .ref msz, .int (nI 4), .ref mre, .ref mce, .ref mco, .ref xc, .ref xa, .ref xm, .ref xv, .int (nI cnt), .int stp, .int (nI 3)])), (mop, .inl (cI, 320, .inl fo)), (mye, .inl (cI, 320, .inl fy)), (mno, .inl (cI, 320, .inl fn)), (mnu, .inl (cI, 320, .inl fk)), (msz, .inl (cI, 8, .inl zs)), (mco, .inl (cZ, 41, .inl u16))] := hD
  refine lv_aload_n hx hb d_Mo_install_42 rfl (lv_at hl 0 rfl) ?_
  refine va_get (D := (dC, dI)) (ci := 5) (v := .int (nI 3)) (C := R_Mo) (T := T_Mo) (N := 16) hx hb hts uin_Mo hown hK hP 0 rfl rfl 15 (by decide) (hts _ wi_445) (fun _ h9 => h9) rfl d_Mo_install_43 ?_
  refine lv_if_le (tgt := 51) hx hb d_Mo_install_46 (by decide) (fun hc => absurd hc (by decide)) (fun _ => ?_)
  refine lv_iconst (v := nI 0) hx hb d_Mo_install_49 (by decide) ?_
  exact fs_iret hx hb hr hlocks hAe hK hS d_Mo_install_50 u16 (rfl) hP hD

set_option maxHeartbeats 4000000 in
set_option maxRecDepth 100000 in
theorem c_Mo_install (mo mop mye mno mnu msz stk mre mce mco xc xa xm xv cnt : Nat) (stp thr : Int32) (fo fy fn fk zs cm : Nat → Int32) (L : fx_Prg) (j : Nat) (sz : Nat) (hj : j < 4) (hzs : zs j = nI L.length) (hrep : fx_rep L (fun i => fo (40 * j + i)) (fun i => fy (40 * j + i)) (fun i => fn (40 * j + i)) (fun i => fk (40 * j + i))) (hok : fx_ok L) (hc0 : fx_chk L = 0) (hst : stk < 4) : fs_I l y_Mo_install (k_Mo_install :: fs_T) { frames := 3, cells := 0, slots := 0, locals := 72 } (dC, dI) vwCl (fs_tys cI cZ cJ cF) [.ref mo, .int (nI j)] [(mo, .inr (5, [.ref mop, .ref mye, .ref mno, .ref mnu, .ref msz, .int (nI stk), .ref mre, .ref mce, .ref mco, .ref xc, .ref xa, .ref xm, .ref xv, .int (nI cnt), .int stp, .int thr])), (mop, .inl (cI, 320, .inl fo)), (mye, .inl (cI, 320, .inl fy)), (mno, .inl (cI, 320, .inl fn)), (mnu, .inl (cI, 320, .inl fk)), (msz, .inl (cI, 8, .inl zs)), (mco, .inl (cZ, 41, .inl cm))] sz (S := (Nat → Int32) × (Nat → Int32) × (Nat → Int32) × (Nat → Int32) × (Nat → Int32) × (Nat → Int32)) (fun r u => r = nI (stk + 1) ∧ u.2.2.2.2.1 (4 + stk) = nI L.length ∧ fx_rep L (fun i => u.1 (40 * (4 + stk) + i)) (fun i => u.2.1 (40 * (4 + stk) + i)) (fun i => u.2.2.1 (40 * (4 + stk) + i)) (fun i => u.2.2.2.1 (40 * (4 + stk) + i)) ∧ fx_same (4 + stk) fo fy fn fk zs u.1 u.2.1 u.2.2.1 u.2.2.2.1 u.2.2.2.2.1) (fun u => [(mo, .inr (5, [.ref mop, .ref mye, .ref mno, .ref mnu, .ref msz, .int (nI (stk + 1)), .ref mre, .ref mce, .ref mco, .ref xc, .ref xa, .ref xm, .ref xv, .int (nI cnt), .int stp, .int (nI 0)])), (mop, .inl (cI, 320, .inl u.1)), (mye, .inl (cI, 320, .inl u.2.1)), (mno, .inl (cI, 320, .inl u.2.2.1)), (mnu, .inl (cI, 320, .inl u.2.2.2.1)), (msz, .inl (cI, 8, .inl u.2.2.2.2.1)), (mco, .inl (cZ, 41, .inl u.2.2.2.2.2))]) 0 0 := by
  refine fs_head (by decide) (Nat.le_of_ble_eq_true rfl) ?_
  intro p e s m below meth c A ls hx hb hr hts hown hlocks hin hml hK hP hD hS hA hAe hsz hl
  have hl : lv_has ls 4 [(0, .ref mo), (1, .int (nI j))] := hl
  have hown : s.vm.findClass R_Mo = some m.cls := hown
  have hlen := hok.1
  refine lv_aload_n hx hb d_Mo_install_0 rfl (lv_at hl 0 rfl) ?_
  refine lv_iload_n hx hb d_Mo_install_1 rfl (lv_at hl 1 rfl) ?_
  refine lv_iconst (v := nI 0) hx hb d_Mo_install_2 (by decide) ?_
  refine lv_iconst (v := nI 3) hx hb d_Mo_install_3 (by decide) ?_
  refine fs_calli (wc := []) (wr := [(mo, .inr (5, [.ref mop, .ref mye, .ref mno, .ref mnu, .ref msz, .int (nI stk), .ref mre, .ref mce, .ref mco, .ref xc, .ref xa, .ref xm, .ref xv, .int (nI cnt), .int stp, .int thr])), (mop, .inl (cI, 320, .inl fo)), (mye, .inl (cI, 320, .inl fy)), (mno, .inl (cI, 320, .inl fn)), (mnu, .inl (cI, 320, .inl fk)), (msz, .inl (cI, 8, .inl zs)), (mco, .inl (cZ, 41, .inl cm))]) [] [0, 1, 2, 3, 4, 5, 6] hP hD hK hS hA rfl rfl rfl (by decide) (fun hPc hDc => va_runS (As := [.int (nI j), .int (nI 0), .int (nI 3)]) (rest := [.ref mo]) ⟨hx, hb, hml, hown, hts⟩ (c_Mo_within (nI j) (nI 0) (nI 3) (((j : Nat) : Int)) (((0 : Nat) : Int)) (((3 : Nat) : Int)) _ (nI_toInt (by omega)) (nI_toInt (by omega)) (nI_toInt (by omega))) (⟨callB_of 3 hts (fs_g kin_Mo_within) rfl rfl rfl (hts _ wi_6) (hts _ wi_488) (by decide +kernel) ⟨Nat.le_of_ble_eq_true rfl, Nat.le_of_ble_eq_true rfl⟩, hts _ wi_489⟩) (fs_preS hPc hK hDc) rfl rfl hl.1 rfl (lv_room (Nat.le_of_ble_eq_true rfl)) d_Mo_install_4 ⟨Nat.le_of_ble_eq_true rfl, Nat.le_of_ble_eq_true rfl⟩) rfl (fun r4 _ H locs hp4 hP hD hS => ?_)
  have hP : va_P (dC, dI) vwCl [(mo, .inr (5, [.ref mop, .ref mye, .ref mno, .ref mnu, .ref msz, .int (nI stk), .ref mre, .ref mce, .ref mco, .ref xc, .ref xa, .ref xm, .ref xv, .int (nI cnt), .int stp, .int thr])), (mop, .inl (cI, 320, .inl fo)), (mye, .inl (cI, 320, .inl fy)), (mno, .inl (cI, 320, .inl fn)), (mnu, .inl (cI, 320, .inl fk)), (msz, .inl (cI, 8, .inl zs)), (mco, .inl (cZ, 41, .inl cm))] H := hP
  have hD : va_D A [(mo, .inr (5, [.ref mop, .ref mye, .ref mno, .ref mnu, .ref msz, .int (nI stk), .ref mre, .ref mce, .ref mco, .ref xc, .ref xa, .ref xm, .ref xv, .int (nI cnt), .int stp, .int thr])), (mop, .inl (cI, 320, .inl fo)), (mye, .inl (cI, 320, .inl fy)), (mno, .inl (cI, 320, .inl fn)), (mnu, .inl (cI, 320, .inl fk)), (msz, .inl (cI, 8, .inl zs)), (mco, .inl (cZ, 41, .inl cm))] := hD
  rcases hp4 with ⟨hc4, rfl⟩ | ⟨hc4, _⟩
  rotate_left
  · exact absurd (by omega) hc4
  refine lv_if_ne (tgt := 14) hx hb d_Mo_install_7 (by decide) (fun _ => ?_) (fun hc => absurd hc (by decide))
  refine lv_aload_n hx hb d_Mo_install_14 rfl (lv_at hl 0 rfl) ?_
  refine lv_iload_n hx hb d_Mo_install_15 rfl (lv_at hl 1 rfl) ?_
  refine fs_calli (wc := [(mo, .inr (5, [.ref mop, .ref mye, .ref mno, .ref mnu, .ref msz, .int (nI stk), .ref mre, .ref mce, .ref mco, .ref xc, .ref xa, .ref xm, .ref xv, .int (nI cnt), .int stp, .int thr])), (mop, .inl (cI, 320, .inl fo)), (mye, .inl (cI, 320, .inl fy)), (mno, .inl (cI, 320, .inl fn)), (mnu, .inl (cI, 320, .inl fk)), (msz, .inl (cI, 8, .inl zs)), (mco, .inl (cZ, 41, .inl cm))]) (wr := []) [0, 1, 2, 3, 4, 5, 6] [] hP hD hK hS hA rfl rfl rfl (by decide) (fun hPc hDc => va_runV (C := R_Mo) (As := [.int (nI j)]) (rest := [.ref mo]) ⟨hx, hb, hml, hown, hts⟩ (c_Mo_check mo mop mye mno mnu msz stk mre mce mco xc xa xm xv cnt stp thr fo fy fn fk zs cm L j _ (by omega) hzs hrep hok) (⟨callB_of 1 hts (fs_g kin_Mo_check) rfl rfl rfl (hts _ wi_6) (hts _ wi_519) (by decide +kernel) ⟨Nat.le_of_ble_eq_true rfl, Nat.le_of_ble_eq_true rfl⟩, hts _ wi_521, hts _ sel_Mo_check⟩) (fs_preV (q0 := 0) rfl rfl hPc hK hDc) rfl rfl hl.1 rfl (lv_room (Nat.le_of_ble_eq_true rfl)) d_Mo_install_16 ⟨Nat.le_of_ble_eq_true rfl, Nat.le_of_ble_eq_true rfl⟩) rfl (fun r16 u16 H locs hp16 hP hD hS => ?_)
  have hP : va_P (dC, dI) vwCl [(mo, .inr (5, [.ref mop, .ref mye, .ref mno, .ref mnu, .ref msz, .int (nI stk), .ref mre, .ref mce, .ref mco, .ref xc, .ref xa, .ref xm, .ref xv, .int (nI cnt), .int stp, .int thr])), (mop, .inl (cI, 320, .inl fo)), (mye, .inl (cI, 320, .inl fy)), (mno, .inl (cI, 320, .inl fn)), (mnu, .inl (cI, 320, .inl fk)), (msz, .inl (cI, 8, .inl zs)), (mco, .inl (cZ, 41, .inl u16))] H := hP
  have hD : va_D A [(mo, .inr (5, [.ref mop, .ref mye, .ref mno, .ref mnu, .ref msz, .int (nI stk), .ref mre, .ref mce, .ref mco, .ref xc, .ref xa, .ref xm, .ref xv, .int (nI cnt), .int stp, .int thr])), (mop, .inl (cI, 320, .inl fo)), (mye, .inl (cI, 320, .inl fy)), (mno, .inl (cI, 320, .inl fn)), (mnu, .inl (cI, 320, .inl fk)), (msz, .inl (cI, 8, .inl zs)), (mco, .inl (cZ, 41, .inl u16))] := hD
  subst hp16
  have hchk := fx_chk_lt hok.1
  refine lv_if_eq (tgt := 26) hx hb d_Mo_install_19 (by decide) (fun hc19 => ?_) (fun hc19 => absurd ((congrArg nI hc0).trans nI_0) hc19)
  try rw [← nI_0] at hc19
  rw [nI_eq (by omega) (by omega)] at hc19
  refine lv_aload_n hx hb d_Mo_install_26 rfl (lv_at hl 0 rfl) ?_
  refine va_get (D := (dC, dI)) (ci := 5) (v := .int (nI stk)) (C := R_Mo) (T := T_Mo) (N := 16) hx hb hts uin_Mo hown hK hP 0 rfl rfl 5 (by decide) (hts _ wi_435) (fun _ h9 => h9) rfl d_Mo_install_27 ?_
  refine lv_iconst (v := nI 4) hx hb d_Mo_install_30 (by decide) ?_
  refine lv_icmp_ne (tgt := 38) hx hb d_Mo_install_31 (by decide) (fun hc31 => ?_) (fun hc31 => absurd hc31 (by rw [nI_eq (by omega) (by omega)]; omega))
  rw [nI_eq (by omega) (by omega)] at hc31
  refine lv_iconst (v := nI 0) hx hb d_Mo_install_38 (by decide) ?_
  refine va_put (D := (dC, dI)) (ci := 5) (v := .int (nI 0)) (ty := (.int)) (C := R_Mo) (T := T_Mo) (N := 16) hx hb hts uin_Mo t_Mo ok_Mo n_Mo hown hK hP hD hS 0 rfl rfl 15 (by decide) (hts _ wi_445) (fun _ h9 => h9) rfl (by decide +kernel) rfl rfl (Nat.le_of_ble_eq_true rfl) d_Mo_install_39 (fun H locs hP hD hS => ?_)
  have hP : va_P (dC, dI) vwCl [(mo, .inr (5, [.ref mop, .ref mye, .ref mno, .ref mnu, .ref msz, .int (nI stk), .ref mre, .ref mce, .ref mco, .ref xc, .ref xa, .ref xm, .ref xv, .int (nI cnt), .int stp, .int (nI 0)])), (mop, .inl (cI, 320, .inl fo)), (mye, .inl (cI, 320, .inl fy)), (mno, .inl (cI, 320, .inl fn)), (mnu, .inl (cI, 320, .inl fk)), (msz, .inl (cI, 8, .inl zs)), (mco, .inl (cZ, 41, .inl u16))] H := hP
  have hD : va_D A [(mo, .inr (5, [.ref mop, .ref mye, .ref mno, .ref mnu, .ref msz, .int (nI stk), .ref mre, .ref mce, .ref mco, .ref xc, .ref xa, .ref xm, .ref xv, .int (nI cnt), .int stp, .int (nI 0)])), (mop, .inl (cI, 320, .inl fo)), (mye, .inl (cI, 320, .inl fy)), (mno, .inl (cI, 320, .inl fn)), (mnu, .inl (cI, 320, .inl fk)), (msz, .inl (cI, 8, .inl zs)), (mco, .inl (cZ, 41, .inl u16))] := hD
  refine lv_aload_n hx hb d_Mo_install_42 rfl (lv_at hl 0 rfl) ?_
  refine va_get (D := (dC, dI)) (ci := 5) (v := .int (nI 0)) (C := R_Mo) (T := T_Mo) (N := 16) hx hb hts uin_Mo hown hK hP 0 rfl rfl 15 (by decide) (hts _ wi_445) (fun _ h9 => h9) rfl d_Mo_install_43 ?_
  refine lv_if_le (tgt := 51) hx hb d_Mo_install_46 (by decide) (fun _ => ?_) (fun hc => absurd (by decide) hc)
  refine lv_iconst (v := nI 4) hx hb d_Mo_install_51 (by decide) ?_
  refine lv_aload_n hx hb d_Mo_install_52 rfl (lv_at hl 0 rfl) ?_
  refine va_get (D := (dC, dI)) (ci := 5) (v := .int (nI stk)) (C := R_Mo) (T := T_Mo) (N := 16) hx hb hts uin_Mo hown hK hP 0 rfl rfl 5 (by decide) (hts _ wi_435) (fun _ h9 => h9) rfl d_Mo_install_53 ?_
  refine lv_iadd hx hb d_Mo_install_56 ?_
  refine fs_eqi (nI_add _ _) ?_
  refine lv_istore_n hx hb d_Mo_install_57 rfl hl (by decide) (lv' := [(2, .int (nI (4 + stk))), (0, .ref mo), (1, .int (nI j))]) rfl (fun ls hl => ?_)
  refine lv_aload_n hx hb d_Mo_install_58 rfl (lv_at hl 1 rfl) ?_
  refine va_get (D := (dC, dI)) (ci := 5) (v := .ref msz) (C := R_Mo) (T := T_Mo) (N := 16) hx hb hts uin_Mo hown hK hP 0 rfl rfl 4 (by decide) (hts _ wi_434) (fun _ h9 => h9) rfl d_Mo_install_59 ?_
  refine lv_iload_n hx hb d_Mo_install_62 rfl (lv_at hl 0 rfl) ?_
  refine lv_iconst (v := nI 0) hx hb d_Mo_install_63 (by decide) ?_
  refine fs_iast hx hb hK hP hD hS 5 0 rfl rfl (4 + stk) rfl (by decide) (by omega) d_Mo_install_64 (fun H locs hP hD hS => ?_)
  have hP : va_P (dC, dI) vwCl [(mo, .inr (5, [.ref mop, .ref mye, .ref mno, .ref mnu, .ref msz, .int (nI stk), .ref mre, .ref mce, .ref mco, .ref xc, .ref xa, .ref xm, .ref xv, .int (nI cnt), .int stp, .int (nI 0)])), (mop, .inl (cI, 320, .inl fo)), (mye, .inl (cI, 320, .inl fy)), (mno, .inl (cI, 320, .inl fn)), (mnu, .inl (cI, 320, .inl fk)), (msz, .inl (cI, 8, .inl (upd zs (4 + stk) (nI 0)))), (mco, .inl (cZ, 41, .inl u16))] H := hP
  have hD : va_D A [(mo, .inr (5, [.ref mop, .ref mye, .ref mno, .ref mnu, .ref msz, .int (nI stk), .ref mre, .ref mce, .ref mco, .ref xc, .ref xa, .ref xm, .ref xv, .int (nI cnt), .int stp, .int (nI 0)])), (mop, .inl (cI, 320, .inl fo)), (mye, .inl (cI, 320, .inl fy)), (mno, .inl (cI, 320, .inl fn)), (mnu, .inl (cI, 320, .inl fk)), (msz, .inl (cI, 8, .inl (upd zs (4 + stk) (nI 0)))), (mco, .inl (cZ, 41, .inl u16))] := hD
  refine lv_iconst (v := nI 0) hx hb d_Mo_install_65 (by decide) ?_
  refine lv_istore_n hx hb d_Mo_install_66 rfl hl (by decide) (lv' := [(3, .int (nI 0)), (2, .int (nI (4 + stk))), (0, .ref mo), (1, .int (nI j))]) rfl (fun ls hl => ?_)
  refine fs_loop6 (α1 := Nat) (α2 := Nat → Int32) (α3 := Nat → Int32) (α4 := Nat → Int32) (α5 := Nat → Int32) (α6 := Nat → Int32) (fun i po py pn pk pz => L.length - i) (fun i po py pn pk pz H locs ls => (i ≤ L.length) ∧ (pz (4 + stk) = nI i) ∧ (pz j = nI L.length) ∧ (fx_rep L (fun i => po (40 * j + i)) (fun i => py (40 * j + i)) (fun i => pn (40 * j + i)) (fun i => pk (40 * j + i))) ∧ (fx_rep (L.take i) (fun i => po (40 * (4 + stk) + i)) (fun i => py (40 * (4 + stk) + i)) (fun i => pn (40 * (4 + stk) + i)) (fun i => pk (40 * (4 + stk) + i))) ∧ (fx_same (4 + stk) fo fy fn fk zs po py pn pk pz) ∧ va_P (dC, dI) vwCl [(mo, .inr (5, [.ref mop, .ref mye, .ref mno, .ref mnu, .ref msz, .int (nI stk), .ref mre, .ref mce, .ref mco, .ref xc, .ref xa, .ref xm, .ref xv, .int (nI cnt), .int stp, .int (nI 0)])), (mop, .inl (cI, 320, .inl po)), (mye, .inl (cI, 320, .inl py)), (mno, .inl (cI, 320, .inl pn)), (mnu, .inl (cI, 320, .inl pk)), (msz, .inl (cI, 8, .inl pz)), (mco, .inl (cZ, 41, .inl u16))] H ∧ va_D A [(mo, .inr (5, [.ref mop, .ref mye, .ref mno, .ref mnu, .ref msz, .int (nI stk), .ref mre, .ref mce, .ref mco, .ref xc, .ref xa, .ref xm, .ref xv, .int (nI cnt), .int stp, .int (nI 0)])), (mop, .inl (cI, 320, .inl po)), (mye, .inl (cI, 320, .inl py)), (mno, .inl (cI, 320, .inl pn)), (mnu, .inl (cI, 320, .inl pk)), (msz, .inl (cI, 8, .inl pz)), (mco, .inl (cZ, 41, .inl u16))] ∧ va_S A s.heap H locs ∧ lv_has ls 4 [(0, .ref mo), (1, .int (nI j)), (2, .int (nI (4 + stk))), (3, .int (nI i))]) ?_ 0 fo fy fn fk (upd zs (4 + stk) (nI 0)) ⟨by omega, pk_us, (by rw [pk_un (by omega)]; exact hzs), hrep, fx_rep_nil _ _ _ _, fx_same_z (fx_same_rf (4 + stk) fo fy fn fk zs) (nI 0), hP, hD, hS, lv_sub hl [2, 3, 1, 0] rfl⟩
  intro i po py pn pk pz H locs ls hI ih67
  obtain ⟨hi, hz4, hzj, hrep, hr2, hsm, hP, hD, hS, hl⟩ := hI
  refine lv_iload_n hx hb d_Mo_install_67 rfl (lv_at hl 3 rfl) ?_
  refine lv_aload_n hx hb d_Mo_install_68 rfl (lv_at hl 0 rfl) ?_
  refine va_get (D := (dC, dI)) (ci := 5) (v := .ref msz) (C := R_Mo) (T := T_Mo) (N := 16) hx hb hts uin_Mo hown hK hP 0 rfl rfl 4 (by decide) (hts _ wi_434) (fun _ h9 => h9) rfl d_Mo_install_69 ?_
  refine lv_iload_n hx hb d_Mo_install_72 rfl (lv_at hl 1 rfl) ?_
  refine fs_iald (v := nI L.length) hx hb hK hP 5 0 rfl rfl j rfl (by decide) (by omega) hzj d_Mo_install_73 ?_
  refine lv_icmp_ge (tgt := 132) hx hb d_Mo_install_74 (by decide) (fun hc74 => ?_) (fun hc74 => ?_)
  · rw [nI_leI (by omega) (by omega)] at hc74
    refine lv_aload_n hx hb d_Mo_install_132 rfl (lv_at hl 0 rfl) ?_
    refine lv_dup hx hb d_Mo_install_133 rfl ?_
    refine va_get (D := (dC, dI)) (ci := 5) (v := .int (nI stk)) (C := R_Mo) (T := T_Mo) (N := 16) hx hb hts uin_Mo hown hK hP 0 rfl rfl 5 (by decide) (hts _ wi_435) (fun _ h9 => h9) rfl d_Mo_install_134 ?_
    refine lv_iconst (v := nI 1) hx hb d_Mo_install_137 (by decide) ?_
    refine lv_iadd hx hb d_Mo_install_138 ?_
    refine fs_eqi (nI_add _ _) ?_
    refine va_put (D := (dC, dI)) (ci := 5) (v := .int (nI (stk + 1))) (ty := (.int)) (C := R_Mo) (T := T_Mo) (N := 16) hx hb hts uin_Mo t_Mo ok_Mo n_Mo hown hK hP hD hS 0 rfl rfl 5 (by decide) (hts _ wi_435) (fun _ h9 => h9) rfl (by decide +kernel) rfl rfl (Nat.le_of_ble_eq_true rfl) d_Mo_install_139 (fun H locs hP hD hS => ?_)
    have hP : va_P (dC, dI) vwCl [(mo, .inr (5, [.ref mop, .ref mye, .ref mno, .ref mnu, .ref msz, .int (nI (stk + 1)), .ref mre, .ref mce, .ref mco, .ref xc, .ref xa, .ref xm, .ref xv, .int (nI cnt), .int stp, .int (nI 0)])), (mop, .inl (cI, 320, .inl po)), (mye, .inl (cI, 320, .inl py)), (mno, .inl (cI, 320, .inl pn)), (mnu, .inl (cI, 320, .inl pk)), (msz, .inl (cI, 8, .inl pz)), (mco, .inl (cZ, 41, .inl u16))] H := hP
    have hD : va_D A [(mo, .inr (5, [.ref mop, .ref mye, .ref mno, .ref mnu, .ref msz, .int (nI (stk + 1)), .ref mre, .ref mce, .ref mco, .ref xc, .ref xa, .ref xm, .ref xv, .int (nI cnt), .int stp, .int (nI 0)])), (mop, .inl (cI, 320, .inl po)), (mye, .inl (cI, 320, .inl py)), (mno, .inl (cI, 320, .inl pn)), (mnu, .inl (cI, 320, .inl pk)), (msz, .inl (cI, 8, .inl pz)), (mco, .inl (cZ, 41, .inl u16))] := hD
    refine lv_aload_n hx hb d_Mo_install_142 rfl (lv_at hl 0 rfl) ?_
    refine va_get (D := (dC, dI)) (ci := 5) (v := .int (nI (stk + 1))) (C := R_Mo) (T := T_Mo) (N := 16) hx hb hts uin_Mo hown hK hP 0 rfl rfl 5 (by decide) (hts _ wi_435) (fun _ h9 => h9) rfl d_Mo_install_143 ?_
    have hall : L.take i = L := List.take_of_length_le (by omega)
    rw [hall] at hr2
    exact fs_iret hx hb hr hlocks hAe hK hS d_Mo_install_146 (po, py, pn, pk, pz, u16) (⟨rfl, by dsimp only; rw [hz4]; congr 1; omega, hr2, hsm⟩) hP hD
  rw [nI_leI (by omega) (by omega)] at hc74
  have hil : i < L.length := by omega
  have hO := (hok.2 i hil).1
  refine lv_aload_n hx hb d_Mo_install_77 rfl (lv_at hl 0 rfl) ?_
  refine lv_iload_n hx hb d_Mo_install_78 rfl (lv_at hl 2 rfl) ?_
  refine lv_aload_n hx hb d_Mo_install_79 rfl (lv_at hl 0 rfl) ?_
  refine va_get (D := (dC, dI)) (ci := 5) (v := .ref mop) (C := R_Mo) (T := T_Mo) (N := 16) hx hb hts uin_Mo hown hK hP 0 rfl rfl 0 (by decide) (hts _ wi_430) (fun _ h9 => h9) rfl d_Mo_install_80 ?_
  refine lv_bipush (v := nI 40) hx hb d_Mo_install_83 (by decide) ?_
  refine lv_iload_n hx hb d_Mo_install_85 rfl (lv_at hl 1 rfl) ?_
  refine lv_imul hx hb d_Mo_install_86 ?_
  refine fs_eqi (pk_mul _ _) ?_
  refine lv_iload_n hx hb d_Mo_install_87 rfl (lv_at hl 3 rfl) ?_
  refine lv_iadd hx hb d_Mo_install_88 ?_
  refine fs_eqi (nI_add _ _) ?_
  refine fs_iald (v := nI (fx_O L i)) hx hb hK hP 1 0 rfl rfl (40 * j + i) rfl (by decide) (by omega) ((hrep i (by omega)).1) d_Mo_install_89 ?_
  refine lv_aload_n hx hb d_Mo_install_90 rfl (lv_at hl 0 rfl) ?_
  refine va_get (D := (dC, dI)) (ci := 5) (v := .ref mye) (C := R_Mo) (T := T_Mo) (N := 16) hx hb hts uin_Mo hown hK hP 0 rfl rfl 1 (by decide) (hts _ wi_431) (fun _ h9 => h9) rfl d_Mo_install_91 ?_
  refine lv_bipush (v := nI 40) hx hb d_Mo_install_94 (by decide) ?_
  refine lv_iload_n hx hb d_Mo_install_96 rfl (lv_at hl 1 rfl) ?_
  refine lv_imul hx hb d_Mo_install_97 ?_
  refine fs_eqi (pk_mul _ _) ?_
  refine lv_iload_n hx hb d_Mo_install_98 rfl (lv_at hl 3 rfl) ?_
  refine lv_iadd hx hb d_Mo_install_99 ?_
  refine fs_eqi (nI_add _ _) ?_
  refine fs_iald (v := nI (fx_Y L i)) hx hb hK hP 2 0 rfl rfl (40 * j + i) rfl (by decide) (by omega) ((hrep i (by omega)).2.1) d_Mo_install_100 ?_
  refine lv_aload_n hx hb d_Mo_install_101 rfl (lv_at hl 0 rfl) ?_
  refine va_get (D := (dC, dI)) (ci := 5) (v := .ref mno) (C := R_Mo) (T := T_Mo) (N := 16) hx hb hts uin_Mo hown hK hP 0 rfl rfl 2 (by decide) (hts _ wi_432) (fun _ h9 => h9) rfl d_Mo_install_102 ?_
  refine lv_bipush (v := nI 40) hx hb d_Mo_install_105 (by decide) ?_
  refine lv_iload_n hx hb d_Mo_install_107 rfl (lv_at hl 1 rfl) ?_
  refine lv_imul hx hb d_Mo_install_108 ?_
  refine fs_eqi (pk_mul _ _) ?_
  refine lv_iload_n hx hb d_Mo_install_109 rfl (lv_at hl 3 rfl) ?_
  refine lv_iadd hx hb d_Mo_install_110 ?_
  refine fs_eqi (nI_add _ _) ?_
  refine fs_iald (v := nI (fx_N L i)) hx hb hK hP 3 0 rfl rfl (40 * j + i) rfl (by decide) (by omega) ((hrep i (by omega)).2.2.1) d_Mo_install_111 ?_
  refine lv_aload_n hx hb d_Mo_install_112 rfl (lv_at hl 0 rfl) ?_
  refine va_get (D := (dC, dI)) (ci := 5) (v := .ref mnu) (C := R_Mo) (T := T_Mo) (N := 16) hx hb hts uin_Mo hown hK hP 0 rfl rfl 3 (by decide) (hts _ wi_433) (fun _ h9 => h9) rfl d_Mo_install_113 ?_
  refine lv_bipush (v := nI 40) hx hb d_Mo_install_116 (by decide) ?_
  refine lv_iload_n hx hb d_Mo_install_118 rfl (lv_at hl 1 rfl) ?_
  refine lv_imul hx hb d_Mo_install_119 ?_
  refine fs_eqi (pk_mul _ _) ?_
  refine lv_iload_n hx hb d_Mo_install_120 rfl (lv_at hl 3 rfl) ?_
  refine lv_iadd hx hb d_Mo_install_121 ?_
  refine fs_eqi (nI_add _ _) ?_
  refine fs_iald (v := fx_K L i) hx hb hK hP 4 0 rfl rfl (40 * j + i) rfl (by decide) (by omega) ((hrep i (by omega)).2.2.2) d_Mo_install_122 ?_
  refine fs_callv (wc := [(mo, .inr (5, [.ref mop, .ref mye, .ref mno, .ref mnu, .ref msz, .int (nI stk), .ref mre, .ref mce, .ref mco, .ref xc, .ref xa, .ref xm, .ref xv, .int (nI cnt), .int stp, .int (nI 0)])), (mop, .inl (cI, 320, .inl po)), (mye, .inl (cI, 320, .inl py)), (mno, .inl (cI, 320, .inl pn)), (mnu, .inl (cI, 320, .inl pk)), (msz, .inl (cI, 8, .inl pz))]) (wr := [(mco, .inl (cZ, 41, .inl u16))]) [0, 1, 2, 3, 4, 5] [6] hP hD hK hS hA rfl rfl rfl (by decide) (fun hPc hDc => va_runV (C := R_Mo) (As := [.int (nI (4 + stk)), .int (nI (fx_O L i)), .int (nI (fx_Y L i)), .int (nI (fx_N L i)), .int (fx_K L i)]) (rest := []) ⟨hx, hb, hml, hown, hts⟩ (c_Mo_put mo mop mye mno mnu msz stk mre mce mco xc xa xm xv cnt stp (nI 0) po py pn pk pz (4 + stk) i (nI (fx_O L i)) (nI (fx_Y L i)) (nI (fx_N L i)) (fx_K L i) _ (by omega) (by omega) (hz4)) (⟨callB_of 5 hts (fs_g kin_Mo_put) rfl rfl rfl (hts _ wi_6) (hts _ wi_491) (by decide +kernel) ⟨Nat.le_of_ble_eq_true rfl, Nat.le_of_ble_eq_true rfl⟩, hts _ wi_493, hts _ sel_Mo_put⟩) (fs_preV (q0 := 0) rfl rfl hPc hK hDc) rfl rfl hl.1 rfl (lv_room (Nat.le_of_ble_eq_true rfl)) d_Mo_install_123 ⟨Nat.le_of_ble_eq_true rfl, Nat.le_of_ble_eq_true rfl⟩) rfl (fun _ H locs hp123 hP hD hS => ?_)
  have hP : va_P (dC, dI) vwCl [(mo, .inr (5, [.ref mop, .ref mye, .ref mno, .ref mnu, .ref msz, .int (nI stk), .ref mre, .ref mce, .ref mco, .ref xc, .ref xa, .ref xm, .ref xv, .int (nI cnt), .int stp, .int (nI 0)])), (mop, .inl (cI, 320, .inl (upd po (40 * (4 + stk) + i) (nI (fx_O L i))))), (mye, .inl (cI, 320, .inl (upd py (40 * (4 + stk) + i) (nI (fx_Y L i))))), (mno, .inl (cI, 320, .inl (upd pn (40 * (4 + stk) + i) (nI (fx_N L i))))), (mnu, .inl (cI, 320, .inl (upd pk (40 * (4 + stk) + i) (fx_K L i)))), (msz, .inl (cI, 8, .inl (upd pz (4 + stk) (nI (i + 1))))), (mco, .inl (cZ, 41, .inl u16))] H := hP.sub [1, 2, 3, 4, 5, 6, 0] rfl
  have hD : va_D A [(mo, .inr (5, [.ref mop, .ref mye, .ref mno, .ref mnu, .ref msz, .int (nI stk), .ref mre, .ref mce, .ref mco, .ref xc, .ref xa, .ref xm, .ref xv, .int (nI cnt), .int stp, .int (nI 0)])), (mop, .inl (cI, 320, .inl (upd po (40 * (4 + stk) + i) (nI (fx_O L i))))), (mye, .inl (cI, 320, .inl (upd py (40 * (4 + stk) + i) (nI (fx_Y L i))))), (mno, .inl (cI, 320, .inl (upd pn (40 * (4 + stk) + i) (nI (fx_N L i))))), (mnu, .inl (cI, 320, .inl (upd pk (40 * (4 + stk) + i) (fx_K L i)))), (msz, .inl (cI, 8, .inl (upd pz (4 + stk) (nI (i + 1))))), (mco, .inl (cZ, 41, .inl u16))] := hD.sub [1, 2, 3, 4, 5, 6, 0] (by decide) rfl
  refine lv_iinc (v := nI (i + 1)) (k := 3) hx hb d_Mo_install_126 hl rfl (fs_incN i 1) (by decide) (lv' := [(3, .int (nI (i + 1))), (0, .ref mo), (1, .int (nI j)), (2, .int (nI (4 + stk)))]) rfl (fun ls hl => ?_)
  refine lv_goto (tgt := 67) hx hb d_Mo_install_129 (by decide) ?_
  exact ih67 (i + 1) (upd po (40 * (4 + stk) + i) (nI (fx_O L i))) (upd py (40 * (4 + stk) + i) (nI (fx_Y L i))) (upd pn (40 * (4 + stk) + i) (nI (fx_N L i))) (upd pk (40 * (4 + stk) + i) (fx_K L i)) (upd pz (4 + stk) (nI (i + 1))) _ _ _ (by omega) ⟨by omega, pk_us, (by rw [pk_un (by omega)]; exact hzj), fx_rep_same (fx_same_put (m := i) (by omega) (nI (fx_O L i)) (nI (fx_Y L i)) (nI (fx_N L i)) (fx_K L i) (nI (i + 1)) (fx_same_rf (4 + stk) po py pn pk pz)) (by omega) (by omega) hrep, (by rw [fx_take1 (by omega)]; exact fx_rep_put (m := i) (by rw [List.length_take]; omega) rfl rfl rfl hr2), fx_same_put (m := i) (by omega) _ _ _ _ _ hsm, hP, hD, hS, lv_sub hl [1, 2, 3, 0] rfl⟩

/-- the strictest verdict, the later one among equals -/
def fx_jud (V : Nat → Int32) : Nat → Int32 → Int32
  | 0, b => b
  | n + 1, b => fx_jud V n (if V n >>> (nI 8 &&& 31) < b >>> (nI 8 &&& 31) then V n else b)
def fx_jdg (V : Nat → Int32) (n : Nat) : Int32 := if n = 0 then nI 1006632960 else fx_jud V (n - 1) (V (n - 1))
def fx_dn (n : Nat) : Int32 := nI n - 1
theorem fx_dn_s (n : Nat) : fx_dn (n + 1) = nI n := nI_pred n
theorem fx_dn_i (n : Nat) : nI n + Int32.ofInt (-1) = fx_dn n := by
  rw [show Int32.ofInt (-1) = - 1 from by decide, ← Int32.sub_eq_add_neg]
  rfl
theorem d_Mo_judge_0 : decode b_Mo_judge 0 = .ok (.aload_n 0, 1) := by decide +kernel
theorem d_Mo_judge_1 : decode b_Mo_judge 1 = .ok (.iconst 0, 1) := by decide +kernel
theorem d_Mo_judge_2 : decode b_Mo_judge 2 = .ok (.putfield 47, 3) := by decide +kernel
theorem d_Mo_judge_5 : decode b_Mo_judge 5 = .ok (.ldc 96, 2) := by decide +kernel
theorem d_Mo_judge_7 : decode b_Mo_judge 7 = .ok (.istore_n 1, 1) := by decide +kernel
theorem d_Mo_judge_8 : decode b_Mo_judge 8 = .ok (.aload_n 0, 1) := by decide +kernel
theorem d_Mo_judge_9 : decode b_Mo_judge 9 = .ok (.getfield 97, 3) := by decide +kernel
theorem d_Mo_judge_12 : decode b_Mo_judge 12 = .ok (.iconst 1, 1) := by decide +kernel
theorem d_Mo_judge_13 : decode b_Mo_judge 13 = .ok (.isub, 1) := by decide +kernel
theorem d_Mo_judge_14 : decode b_Mo_judge 14 = .ok (.istore_n 2, 1) := by decide +kernel
theorem d_Mo_judge_15 : decode b_Mo_judge 15 = .ok (.iload_n 2, 1) := by decide +kernel
theorem d_Mo_judge_16 : decode b_Mo_judge 16 = .ok (.ifCond .lt 40, 3) := by decide +kernel
theorem d_Mo_judge_19 : decode b_Mo_judge 19 = .ok (.aload_n 0, 1) := by decide +kernel
theorem d_Mo_judge_20 : decode b_Mo_judge 20 = .ok (.iconst 4, 1) := by decide +kernel
theorem d_Mo_judge_21 : decode b_Mo_judge 21 = .ok (.iload_n 2, 1) := by decide +kernel
theorem d_Mo_judge_22 : decode b_Mo_judge 22 = .ok (.iadd, 1) := by decide +kernel
theorem d_Mo_judge_23 : decode b_Mo_judge 23 = .ok (.invokevirtual 90, 3) := by decide +kernel
theorem d_Mo_judge_26 : decode b_Mo_judge 26 = .ok (.istore_n 3, 1) := by decide +kernel
theorem d_Mo_judge_27 : decode b_Mo_judge 27 = .ok (.iload_n 2, 1) := by decide +kernel
theorem d_Mo_judge_28 : decode b_Mo_judge 28 = .ok (.aload_n 0, 1) := by decide +kernel
theorem d_Mo_judge_29 : decode b_Mo_judge 29 = .ok (.getfield 97, 3) := by decide +kernel
theorem d_Mo_judge_32 : decode b_Mo_judge 32 = .ok (.iconst 1, 1) := by decide +kernel
theorem d_Mo_judge_33 : decode b_Mo_judge 33 = .ok (.isub, 1) := by decide +kernel
theorem d_Mo_judge_34 : decode b_Mo_judge 34 = .ok (.if_icmp .eq 14, 3) := by decide +kernel
theorem d_Mo_judge_37 : decode b_Mo_judge 37 = .ok (.iload_n 3, 1) := by decide +kernel
theorem d_Mo_judge_38 : decode b_Mo_judge 38 = .ok (.bipush 8, 2) := by decide +kernel
theorem d_Mo_judge_40 : decode b_Mo_judge 40 = .ok (.ishr, 1) := by decide +kernel
theorem d_Mo_judge_41 : decode b_Mo_judge 41 = .ok (.iload_n 1, 1) := by decide +kernel
theorem d_Mo_judge_42 : decode b_Mo_judge 42 = .ok (.bipush 8, 2) := by decide +kernel
theorem d_Mo_judge_44 : decode b_Mo_judge 44 = .ok (.ishr, 1) := by decide +kernel
theorem d_Mo_judge_45 : decode b_Mo_judge 45 = .ok (.if_icmp .ge 5, 3) := by decide +kernel
theorem d_Mo_judge_48 : decode b_Mo_judge 48 = .ok (.iload_n 3, 1) := by decide +kernel
theorem d_Mo_judge_49 : decode b_Mo_judge 49 = .ok (.istore_n 1, 1) := by decide +kernel
theorem d_Mo_judge_50 : decode b_Mo_judge 50 = .ok (.iinc 2 (-1), 3) := by decide +kernel
theorem d_Mo_judge_53 : decode b_Mo_judge 53 = .ok (.goto (-38), 3) := by decide +kernel
theorem d_Mo_judge_56 : decode b_Mo_judge 56 = .ok (.iload_n 1, 1) := by decide +kernel
theorem d_Mo_judge_57 : decode b_Mo_judge 57 = .ok (.ireturn, 1) := by decide +kernel
set_option maxHeartbeats 4000000 in
set_option maxRecDepth 100000 in
theorem c_Mo_judge (mo mop mye mno mnu msz stk mre mce mco xc xa xm xv cnt : Nat) (stp thr : Int32) (fo fy fn fk zs w cs : Nat → Int32) (Ls : Nat → fx_Prg) (sz : Nat) (hs4 : stk ≤ 4) (hst : ∀ t, t < stk → zs (4 + t) = nI (Ls t).length ∧ fx_rep (Ls t) (fun i => fo (40 * (4 + t) + i)) (fun i => fy (40 * (4 + t) + i)) (fun i => fn (40 * (4 + t) + i)) (fun i => fk (40 * (4 + t) + i)) ∧ fx_ok (Ls t) ∧ fx_good (Ls t)) : fs_I l y_Mo_judge (k_Mo_judge :: fs_T) { frames := 3, cells := 0, slots := 0, locals := 70 } (dC, dI) vwCl (fs_tys cI cZ cJ cF) [.ref mo] [(mo, .inr (5, [.ref mop, .ref mye, .ref mno, .ref mnu, .ref msz, .int (nI stk), .ref mre, .ref mce, .ref mco, .ref xc, .ref xa, .ref xm, .ref xv, .int (nI cnt), .int stp, .int thr])), (mop, .inl (cI, 320, .inl fo)), (mye, .inl (cI, 320, .inl fy)), (mno, .inl (cI, 320, .inl fn)), (mnu, .inl (cI, 320, .inl fk)), (msz, .inl (cI, 8, .inl zs)), (mre, .inl (cI, 16, .inl w)), (mce, .inl (cI, 16, .inl cs))] sz (S := Int32 × (Nat → Int32)) (fun r u => r = fx_jdg (fun t => (fx_do (Ls t) w).1) stk ∧ ((stk = 0 ∧ u.1 = stp) ∨ (0 < stk ∧ u.1 = nI (fx_do (Ls 0) w).2))) (fun u => [(mo, .inr (5, [.ref mop, .ref mye, .ref mno, .ref mnu, .ref msz, .int (nI stk), .ref mre, .ref mce, .ref mco, .ref xc, .ref xa, .ref xm, .ref xv, .int (nI cnt), .int u.1, .int (nI 0)])), (mop, .inl (cI, 320, .inl fo)), (mye, .inl (cI, 320, .inl fy)), (mno, .inl (cI, 320, .inl fn)), (mnu, .inl (cI, 320, .inl fk)), (msz, .inl (cI, 8, .inl zs)), (mre, .inl (cI, 16, .inl w)), (mce, .inl (cI, 16, .inl u.2))]) 0 0 := by
  refine fs_head (by decide) (Nat.le_of_ble_eq_true rfl) ?_
  intro p e s m below meth c A ls hx hb hr hts hown hlocks hin hml hK hP hD hS hA hAe hsz hl
  have hl : lv_has ls 4 [(0, .ref mo)] := hl
  have hown : s.vm.findClass R_Mo = some m.cls := hown
  refine lv_aload_n hx hb d_Mo_judge_0 rfl (lv_at hl 0 rfl) ?_
  refine lv_iconst (v := nI 0) hx hb d_Mo_judge_1 (by decide) ?_
  refine va_put (D := (dC, dI)) (ci := 5) (v := .int (nI 0)) (ty := (.int)) (C := R_Mo) (T := T_Mo) (N := 16) hx hb hts uin_Mo t_Mo ok_Mo n_Mo hown hK hP hD hS 0 rfl rfl 15 (by decide) (hts _ wi_445) (fun _ h9 => h9) rfl (by decide +kernel) rfl rfl (Nat.le_of_ble_eq_true rfl) d_Mo_judge_2 (fun H locs hP hD hS => ?_)
  have hP : va_P (dC, dI) vwCl [(mo, .inr (5, [.ref mop, .ref mye, .ref mno, .ref mnu, .ref msz, .int (nI stk), .ref mre, .ref mce, .ref mco, .ref xc, .ref xa, .ref xm, .ref xv, .int (nI cnt), .int stp, .int (nI 0)])), (mop, .inl (cI, 320, .inl fo)), (mye, .inl (cI, 320, .inl fy)), (mno, .inl (cI, 320, .inl fn)), (mnu, .inl (cI, 320, .inl fk)), (msz, .inl (cI, 8, .inl zs)), (mre, .inl (cI, 16, .inl w)), (mce, .inl (cI, 16, .inl cs))] H := hP
  have hD : va_D A [(mo, .inr (5, [.ref mop, .ref mye, .ref mno, .ref mnu, .ref msz, .int (nI stk), .ref mre, .ref mce, .ref mco, .ref xc, .ref xa, .ref xm, .ref xv, .int (nI cnt), .int stp, .int (nI 0)])), (mop, .inl (cI, 320, .inl fo)), (mye, .inl (cI, 320, .inl fy)), (mno, .inl (cI, 320, .inl fn)), (mnu, .inl (cI, 320, .inl fk)), (msz, .inl (cI, 8, .inl zs)), (mre, .inl (cI, 16, .inl w)), (mce, .inl (cI, 16, .inl cs))] := hD
  refine lv_ldc (v := nI 1006632960) hx hb hown (hts _ wi_573) d_Mo_judge_5 ?_
  refine lv_istore_n hx hb d_Mo_judge_7 rfl hl (by decide) (lv' := [(1, .int (nI 1006632960)), (0, .ref mo)]) rfl (fun ls hl => ?_)
  refine lv_aload_n hx hb d_Mo_judge_8 rfl (lv_at hl 1 rfl) ?_
  refine va_get (D := (dC, dI)) (ci := 5) (v := .int (nI stk)) (C := R_Mo) (T := T_Mo) (N := 16) hx hb hts uin_Mo hown hK hP 0 rfl rfl 5 (by decide) (hts _ wi_435) (fun _ h9 => h9) rfl d_Mo_judge_9 ?_
  refine lv_iconst (v := nI 1) hx hb d_Mo_judge_12 (by decide) ?_
  refine lv_isub hx hb d_Mo_judge_13 ?_
  refine fs_eqi (v := fx_dn stk) rfl ?_
  refine lv_istore_n hx hb d_Mo_judge_14 rfl hl (by decide) (lv' := [(2, .int (fx_dn stk)), (1, .int (nI 1006632960)), (0, .ref mo)]) rfl (fun ls hl => ?_)
  refine fs_loop4 (α1 := Nat) (α2 := Int32) (α3 := Int32) (α4 := Nat → Int32) (fun n best stq cs => n) (fun n best stq cs H locs ls => (n ≤ stk) ∧ ((n = stk ∧ best = nI 1006632960) ∨ (n < stk ∧ fx_jud (fun t => (fx_do (Ls t) w).1) n best = fx_jdg (fun t => (fx_do (Ls t) w).1) stk)) ∧ ((n = stk ∧ stq = stp) ∨ (n < stk ∧ stq = nI (fx_do (Ls n) w).2)) ∧ va_P (dC, dI) vwCl [(mo, .inr (5, [.ref mop, .ref mye, .ref mno, .ref mnu, .ref msz, .int (nI stk), .ref mre, .ref mce, .ref mco, .ref xc, .ref xa, .ref xm, .ref xv, .int (nI cnt), .int stq, .int (nI 0)])), (mop, .inl (cI, 320, .inl fo)), (mye, .inl (cI, 320, .inl fy)), (mno, .inl (cI, 320, .inl fn)), (mnu, .inl (cI, 320, .inl fk)), (msz, .inl (cI, 8, .inl zs)), (mre, .inl (cI, 16, .inl w)), (mce, .inl (cI, 16, .inl cs))] H ∧ va_D A [(mo, .inr (5, [.ref mop, .ref mye, .ref mno, .ref mnu, .ref msz, .int (nI stk), .ref mre, .ref mce, .ref mco, .ref xc, .ref xa, .ref xm, .ref xv, .int (nI cnt), .int stq, .int (nI 0)])), (mop, .inl (cI, 320, .inl fo)), (mye, .inl (cI, 320, .inl fy)), (mno, .inl (cI, 320, .inl fn)), (mnu, .inl (cI, 320, .inl fk)), (msz, .inl (cI, 8, .inl zs)), (mre, .inl (cI, 16, .inl w)), (mce, .inl (cI, 16, .inl cs))] ∧ va_S A s.heap H locs ∧ lv_has ls 4 [(0, .ref mo), (1, .int best), (2, .int (fx_dn n))]) ?_ stk (nI 1006632960) stp cs ⟨by omega, Or.inl ⟨rfl, rfl⟩, Or.inl ⟨rfl, rfl⟩, hP, hD, hS, lv_sub hl [2, 1, 0] rfl⟩
  intro n best stq cs H locs ls hI ih15
  obtain ⟨hn, hj, hq, hP, hD, hS, hl⟩ := hI
  rcases n with _ | k
  · have hl : lv_has ls 4 [(0, .ref mo), (1, .int best), (2, .int ((-1)))] := hl
    refine lv_iload_n hx hb d_Mo_judge_15 rfl (lv_at hl 2 rfl) ?_
    refine lv_if_lt (tgt := 56) hx hb d_Mo_judge_16 (by decide) (fun _ => ?_) (fun hc => absurd (by decide) hc)
    refine lv_iload_n hx hb d_Mo_judge_56 rfl (lv_at hl 1 rfl) ?_
    have hbest : best = fx_jdg (fun t => (fx_do (Ls t) w).1) stk := by
      rcases hj with ⟨h, h2⟩ | ⟨h, h2⟩
      · rw [h2, fx_jdg, if_pos h.symm]
      · exact h2
    exact fs_iret hx hb hr hlocks hAe hK hS d_Mo_judge_57 (stq, cs) (⟨hbest, hq.imp (fun h => ⟨h.1.symm, h.2⟩) id⟩) hP hD
  have hl : lv_has ls 4 [(0, .ref mo), (1, .int best), (2, .int (nI k))] := by rw [fx_dn_s] at hl; exact hl
  obtain ⟨hz9, hr9, ho9, hg9⟩ := hst k (by omega)
  refine lv_iload_n hx hb d_Mo_judge_15 rfl (lv_at hl 2 rfl) ?_
  refine lv_if_lt (tgt := 56) hx hb d_Mo_judge_16 (by decide) (fun hc => absurd hc (nI_pos (by omega))) (fun _ => ?_)
  refine lv_aload_n hx hb d_Mo_judge_19 rfl (lv_at hl 0 rfl) ?_
  refine lv_iconst (v := nI 4) hx hb d_Mo_judge_20 (by decide) ?_
  refine lv_iload_n hx hb d_Mo_judge_21 rfl (lv_at hl 2 rfl) ?_
  refine lv_iadd hx hb d_Mo_judge_22 ?_
  refine fs_eqi (nI_add _ _) ?_
  refine fs_calli (wc := [(mo, .inr (5, [.ref mop, .ref mye, .ref mno, .ref mnu, .ref msz, .int (nI stk), .ref mre, .ref mce, .ref mco, .ref xc, .ref xa, .ref xm, .ref xv, .int (nI cnt), .int stq, .int (nI 0)])), (mop, .inl (cI, 320, .inl fo)), (mye, .inl (cI, 320, .inl fy)), (mno, .inl (cI, 320, .inl fn)), (mnu, .inl (cI, 320, .inl fk)), (msz, .inl (cI, 8, .inl zs)), (mre, .inl (cI, 16, .inl w)), (mce, .inl (cI, 16, .inl cs))]) (wr := []) [0, 1, 2, 3, 4, 5, 6, 7] [] hP hD hK hS hA rfl rfl rfl (by decide) (fun hPc hDc => va_runV (C := R_Mo) (As := [.int (nI (4 + k))]) (rest := []) ⟨hx, hb, hml, hown, hts⟩ (c_Mo_run mo mop mye mno mnu msz stk mre mce mco xc xa xm xv cnt stq (nI 0) fo fy fn fk zs w cs (Ls k) (4 + k) _ (by omega) hz9 hr9 ho9 hg9) (⟨callB_of 1 hts (fs_g kin_Mo_run) rfl rfl rfl (hts _ wi_6) (hts _ wi_543) (by decide +kernel) ⟨Nat.le_of_ble_eq_true rfl, Nat.le_of_ble_eq_true rfl⟩, hts _ wi_545, hts _ sel_Mo_run⟩) (fs_preV (q0 := 0) rfl rfl hPc hK hDc) rfl rfl hl.1 rfl (lv_room (Nat.le_of_ble_eq_true rfl)) d_Mo_judge_23 ⟨Nat.le_of_ble_eq_true rfl, Nat.le_of_ble_eq_true rfl⟩) rfl (fun r23 v23 H locs hp23 hP hD hS => ?_)
  have hP : va_P (dC, dI) vwCl [(mo, .inr (5, [.ref mop, .ref mye, .ref mno, .ref mnu, .ref msz, .int (nI stk), .ref mre, .ref mce, .ref mco, .ref xc, .ref xa, .ref xm, .ref xv, .int (nI cnt), .int (nI ((fx_do (Ls k) w).2)), .int (nI 0)])), (mop, .inl (cI, 320, .inl fo)), (mye, .inl (cI, 320, .inl fy)), (mno, .inl (cI, 320, .inl fn)), (mnu, .inl (cI, 320, .inl fk)), (msz, .inl (cI, 8, .inl zs)), (mre, .inl (cI, 16, .inl w)), (mce, .inl (cI, 16, .inl v23))] H := hP
  have hD : va_D A [(mo, .inr (5, [.ref mop, .ref mye, .ref mno, .ref mnu, .ref msz, .int (nI stk), .ref mre, .ref mce, .ref mco, .ref xc, .ref xa, .ref xm, .ref xv, .int (nI cnt), .int (nI ((fx_do (Ls k) w).2)), .int (nI 0)])), (mop, .inl (cI, 320, .inl fo)), (mye, .inl (cI, 320, .inl fy)), (mno, .inl (cI, 320, .inl fn)), (mnu, .inl (cI, 320, .inl fk)), (msz, .inl (cI, 8, .inl zs)), (mre, .inl (cI, 16, .inl w)), (mce, .inl (cI, 16, .inl v23))] := hD
  subst hp23
  refine lv_istore_n hx hb d_Mo_judge_26 rfl hl (by decide) (lv' := [(3, .int ((fx_do (Ls k) w).1)), (0, .ref mo), (1, .int best), (2, .int (nI k))]) rfl (fun ls hl => ?_)
  refine lv_iload_n hx hb d_Mo_judge_27 rfl (lv_at hl 3 rfl) ?_
  refine lv_aload_n hx hb d_Mo_judge_28 rfl (lv_at hl 1 rfl) ?_
  refine va_get (D := (dC, dI)) (ci := 5) (v := .int (nI stk)) (C := R_Mo) (T := T_Mo) (N := 16) hx hb hts uin_Mo hown hK hP 0 rfl rfl 5 (by decide) (hts _ wi_435) (fun _ h9 => h9) rfl d_Mo_judge_29 ?_
  refine lv_iconst (v := nI 1) hx hb d_Mo_judge_32 (by decide) ?_
  refine lv_isub hx hb d_Mo_judge_33 ?_
  refine fs_eqi (pk_sub (by omega)) ?_
  refine lv_icmp_eq (tgt := 48) hx hb d_Mo_judge_34 (by decide) (fun hc34 => ?_) (fun hc34 => ?_)
  · rw [nI_eq (by omega) (by omega)] at hc34
    refine lv_iload_n hx hb d_Mo_judge_48 rfl (lv_at hl 0 rfl) ?_
    refine lv_istore_n hx hb d_Mo_judge_49 rfl hl (by decide) (lv' := [(1, .int ((fx_do (Ls k) w).1)), (3, .int ((fx_do (Ls k) w).1)), (0, .ref mo), (2, .int (nI k))]) rfl (fun ls hl => ?_)
    refine lv_iinc (v := fx_dn k) (k := 3) hx hb d_Mo_judge_50 hl rfl (fx_dn_i k) (by decide) (lv' := [(2, .int (fx_dn k)), (1, .int ((fx_do (Ls k) w).1)), (3, .int ((fx_do (Ls k) w).1)), (0, .ref mo)]) rfl (fun ls hl => ?_)
    refine lv_goto (tgt := 15) hx hb d_Mo_judge_53 (by decide) ?_
    exact ih15 k ((fx_do (Ls k) w).1) (nI (fx_do (Ls k) w).2) v23 _ _ _ (by omega) ⟨by omega, Or.inr ⟨by omega, by unfold fx_jdg; rw [if_neg (by omega), show stk - 1 = k from by omega]⟩, Or.inr ⟨by omega, rfl⟩, hP, hD, hS, lv_sub hl [3, 1, 0] rfl⟩
  rw [nI_eq (by omega) (by omega)] at hc34
  refine lv_iload_n hx hb d_Mo_judge_37 rfl (lv_at hl 0 rfl) ?_
  refine lv_bipush (v := nI 8) hx hb d_Mo_judge_38 (by decide) ?_
  refine lv_ishr hx hb d_Mo_judge_40 ?_
  refine lv_iload_n hx hb d_Mo_judge_41 rfl (lv_at hl 2 rfl) ?_
  refine lv_bipush (v := nI 8) hx hb d_Mo_judge_42 (by decide) ?_
  refine lv_ishr hx hb d_Mo_judge_44 ?_
  refine lv_icmp_ge (tgt := 50) hx hb d_Mo_judge_45 (by decide) (fun hc45 => ?_) (fun hc45 => ?_)
  · refine lv_iinc (v := fx_dn k) (k := 3) hx hb d_Mo_judge_50 hl rfl (fx_dn_i k) (by decide) (lv' := [(2, .int (fx_dn k)), (3, .int ((fx_do (Ls k) w).1)), (0, .ref mo), (1, .int best)]) rfl (fun ls hl => ?_)
    refine lv_goto (tgt := 15) hx hb d_Mo_judge_53 (by decide) ?_
    exact ih15 k best (nI (fx_do (Ls k) w).2) v23 _ _ _ (by omega) ⟨by omega, Or.inr ⟨by omega, (by rcases hj with ⟨h, _⟩ | ⟨_, h⟩; omega; rw [fx_jud, if_neg (by rw [Int32.not_lt]; exact hc45)] at h; exact h)⟩, Or.inr ⟨by omega, rfl⟩, hP, hD, hS, lv_sub hl [2, 3, 0] rfl⟩
  refine lv_iload_n hx hb d_Mo_judge_48 rfl (lv_at hl 0 rfl) ?_
  refine lv_istore_n hx hb d_Mo_judge_49 rfl hl (by decide) (lv' := [(1, .int ((fx_do (Ls k) w).1)), (3, .int ((fx_do (Ls k) w).1)), (0, .ref mo), (2, .int (nI k))]) rfl (fun ls hl => ?_)
  refine lv_iinc (v := fx_dn k) (k := 3) hx hb d_Mo_judge_50 hl rfl (fx_dn_i k) (by decide) (lv' := [(2, .int (fx_dn k)), (1, .int ((fx_do (Ls k) w).1)), (3, .int ((fx_do (Ls k) w).1)), (0, .ref mo)]) rfl (fun ls hl => ?_)
  refine lv_goto (tgt := 15) hx hb d_Mo_judge_53 (by decide) ?_
  exact ih15 k ((fx_do (Ls k) w).1) (nI (fx_do (Ls k) w).2) v23 _ _ _ (by omega) ⟨by omega, Or.inr ⟨by omega, (by rcases hj with ⟨h, _⟩ | ⟨_, h⟩; omega; rw [fx_jud, if_pos (by rw [Int32.not_le] at hc45; exact hc45)] at h; exact h)⟩, Or.inr ⟨by omega, rfl⟩, hP, hD, hS, lv_sub hl [3, 1, 0] rfl⟩

end MO4
