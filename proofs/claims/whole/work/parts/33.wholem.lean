section MW
variable {l : Launch} {dC : Nat → ClassId} {dI : Nat → Nat → Nat} {cI cZ cJ cF : ClassId}
/-- the cells of the model -/
def MC (cI cZ : ClassId) (mo : Nat) (v : Nat → Nat) (M : fx_M) : va_W := match M with
  | (stk, w, cnt, stp, thr, fo, fy, fn, fk, zs, gc, ga, gm, gv, cs, cm) => [(mo, .inr (5, [.ref (v 0), .ref (v 1), .ref (v 2), .ref (v 3), .ref (v 4), .int (nI stk), .ref (v 5), .ref (v 6), .ref (v 7), .ref (v 8), .ref (v 9), .ref (v 10), .ref (v 11), .int (nI cnt), .int stp, .int thr])), (v 0, .inl (cI, 320, .inl fo)), (v 1, .inl (cI, 320, .inl fy)), (v 2, .inl (cI, 320, .inl fn)), (v 3, .inl (cI, 320, .inl fk)), (v 4, .inl (cI, 8, .inl zs)), (v 5, .inl (cI, 16, .inl w)), (v 6, .inl (cI, 16, .inl cs)), (v 7, .inl (cZ, 41, .inl cm)), (v 8, .inl (cI, 8, .inl gc)), (v 9, .inl (cI, 8, .inl ga)), (v 10, .inl (cI, 8, .inl gm)), (v 11, .inl (cI, 8, .inl gv))]
set_option maxHeartbeats 4000000 in
set_option maxRecDepth 100000 in
theorem x_Mo_size (mo : Nat) (v : Nat → Nat) (A : fx_A) (M : fx_M) (f : Int32) (sz : Nat) (hI : fx_AI A) (hM : fx_mr A M) : fs_I l y_Mo_size (k_Mo_size :: fs_T) { frames := 1, cells := 0, slots := 0, locals := 22 } (dC, dI) vwCl (fs_tys cI cZ cJ cF) [.ref mo, .int f] (MC cI cZ mo v M) sz (S := fx_A × fx_M) (fun r z => (r, z.1) = fa_size A f ∧ fx_mr z.1 z.2) (fun z => MC cI cZ mo v z.2) 0 0 := by
  obtain ⟨Ls, stkA, wA, rs, dnA⟩ := A
  obtain ⟨stk, w, cnt, stp, thr, fo, fy, fn, fk, zs, gc, ga, gm, gv, cs, cm⟩ := M
  obtain ⟨e1, e2, e3, e4, hreps, hrr⟩ := (show stk = stkA ∧ w = wA ∧ cnt = rs.length ∧ stp = dnA ∧ (∀ f, f < 8 → zs f = nI (Ls f).length ∧ fx_rep (Ls f) (fun i => fo (40 * f + i)) (fun i => fy (40 * f + i)) (fun i => fn (40 * f + i)) (fun i => fk (40 * f + i))) ∧ fx_rrep rs gc ga gm gv from hM)
  subst e1 e2 e3 e4
  obtain ⟨hok, hs4, hgood, hr8, hargs⟩ := (show (∀ f, fx_ok (Ls f)) ∧ stk ≤ 4 ∧ (∀ t, t < stk → fx_chk (Ls (4 + t)) = 0) ∧ rs.length ≤ 8 ∧ ∀ q ∈ rs, -1 ≤ q.2.1.toInt ∧ q.2.1.toInt < 12 from hI)
  cases e : fx_ix 4 f with
  | none =>
    have hf := fx_ix_none (by decide) e
    exact lf_I (wr := [(v 0, .inl (cI, 320, .inl fo)), (v 1, .inl (cI, 320, .inl fy)), (v 2, .inl (cI, 320, .inl fn)), (v 3, .inl (cI, 320, .inl fk)), (v 4, .inl (cI, 8, .inl zs)), (v 5, .inl (cI, 16, .inl w)), (v 6, .inl (cI, 16, .inl cs)), (v 7, .inl (cZ, 41, .inl cm)), (v 8, .inl (cI, 8, .inl gc)), (v 9, .inl (cI, 8, .inl ga)), (v 10, .inl (cI, 8, .inl gm)), (v 11, .inl (cI, 8, .inl gv))]) (c_Mo_sizeX mo (v 0) (v 1) (v 2) (v 3) (v 4) stk (v 5) (v 6) (v 7) (v 8) (v 9) (v 10) (v 11) rs.length stp thr f _ hf) [0] [1, 2, 3, 4, 5, 6, 7, 8, 9, 10, 11, 12] rfl rfl rfl (by decide) rfl [12, 0, 1, 2, 3, 4, 5, 6, 7, 8, 9, 10, 11] rfl (fun r _ hr => ⟨((Ls, stk, w, rs, stp), (stk, w, rs.length, stp, nI 0, fo, fy, fn, fk, zs, gc, ga, gm, gv, cs, cm)), ⟨by rw [hr]; simp only [fa_size, e], fx_mr_mk rfl hreps hrr⟩, rfl⟩)
  | some j =>
    obtain ⟨hj, rfl⟩ := fx_ix_some e
    obtain ⟨hzs, hrep⟩ := hreps j (by omega)
    exact lf_I (wr := [(v 0, .inl (cI, 320, .inl fo)), (v 1, .inl (cI, 320, .inl fy)), (v 2, .inl (cI, 320, .inl fn)), (v 3, .inl (cI, 320, .inl fk)), (v 5, .inl (cI, 16, .inl w)), (v 6, .inl (cI, 16, .inl cs)), (v 7, .inl (cZ, 41, .inl cm)), (v 8, .inl (cI, 8, .inl gc)), (v 9, .inl (cI, 8, .inl ga)), (v 10, .inl (cI, 8, .inl gm)), (v 11, .inl (cI, 8, .inl gv))]) (c_Mo_size mo (v 0) (v 1) (v 2) (v 3) (v 4) stk (v 5) (v 6) (v 7) (v 8) (v 9) (v 10) (v 11) rs.length stp thr zs j (Ls j).length _ hj hzs) [0, 5] [1, 2, 3, 4, 6, 7, 8, 9, 10, 11, 12] rfl rfl rfl (by decide) rfl [11, 0, 1, 2, 3, 12, 4, 5, 6, 7, 8, 9, 10] rfl (fun r _ hr => ⟨((Ls, stk, w, rs, stp), (stk, w, rs.length, stp, nI 0, fo, fy, fn, fk, zs, gc, ga, gm, gv, cs, cm)), ⟨by rw [hr]; simp only [fa_size, e], fx_mr_mk rfl hreps hrr⟩, rfl⟩)
set_option maxHeartbeats 4000000 in
set_option maxRecDepth 100000 in
theorem x_Mo_clear (mo : Nat) (v : Nat → Nat) (A : fx_A) (M : fx_M) (f : Int32) (sz : Nat) (hI : fx_AI A) (hM : fx_mr A M) : fs_I l y_Mo_clear (k_Mo_clear :: fs_T) { frames := 1, cells := 0, slots := 0, locals := 22 } (dC, dI) vwCl (fs_tys cI cZ cJ cF) [.ref mo, .int f] (MC cI cZ mo v M) sz (S := fx_A × fx_M) (fun r z => (r, z.1) = fa_clear A f ∧ fx_mr z.1 z.2) (fun z => MC cI cZ mo v z.2) 0 0 := by
  obtain ⟨Ls, stkA, wA, rs, dnA⟩ := A
  obtain ⟨stk, w, cnt, stp, thr, fo, fy, fn, fk, zs, gc, ga, gm, gv, cs, cm⟩ := M
  obtain ⟨e1, e2, e3, e4, hreps, hrr⟩ := (show stk = stkA ∧ w = wA ∧ cnt = rs.length ∧ stp = dnA ∧ (∀ f, f < 8 → zs f = nI (Ls f).length ∧ fx_rep (Ls f) (fun i => fo (40 * f + i)) (fun i => fy (40 * f + i)) (fun i => fn (40 * f + i)) (fun i => fk (40 * f + i))) ∧ fx_rrep rs gc ga gm gv from hM)
  subst e1 e2 e3 e4
  obtain ⟨hok, hs4, hgood, hr8, hargs⟩ := (show (∀ f, fx_ok (Ls f)) ∧ stk ≤ 4 ∧ (∀ t, t < stk → fx_chk (Ls (4 + t)) = 0) ∧ rs.length ≤ 8 ∧ ∀ q ∈ rs, -1 ≤ q.2.1.toInt ∧ q.2.1.toInt < 12 from hI)
  cases e : fx_ix 4 f with
  | none =>
    have hf := fx_ix_none (by decide) e
    exact lf_I (wr := [(v 0, .inl (cI, 320, .inl fo)), (v 1, .inl (cI, 320, .inl fy)), (v 2, .inl (cI, 320, .inl fn)), (v 3, .inl (cI, 320, .inl fk)), (v 4, .inl (cI, 8, .inl zs)), (v 5, .inl (cI, 16, .inl w)), (v 6, .inl (cI, 16, .inl cs)), (v 7, .inl (cZ, 41, .inl cm)), (v 8, .inl (cI, 8, .inl gc)), (v 9, .inl (cI, 8, .inl ga)), (v 10, .inl (cI, 8, .inl gm)), (v 11, .inl (cI, 8, .inl gv))]) (c_Mo_clearX mo (v 0) (v 1) (v 2) (v 3) (v 4) stk (v 5) (v 6) (v 7) (v 8) (v 9) (v 10) (v 11) rs.length stp thr f _ hf) [0] [1, 2, 3, 4, 5, 6, 7, 8, 9, 10, 11, 12] rfl rfl rfl (by decide) rfl [12, 0, 1, 2, 3, 4, 5, 6, 7, 8, 9, 10, 11] rfl (fun r _ hr => ⟨((Ls, stk, w, rs, stp), (stk, w, rs.length, stp, nI 0, fo, fy, fn, fk, zs, gc, ga, gm, gv, cs, cm)), ⟨by rw [hr]; simp only [fa_clear, e], fx_mr_mk rfl hreps hrr⟩, rfl⟩)
  | some j =>
    obtain ⟨hj, rfl⟩ := fx_ix_some e
    obtain ⟨hzs, hrep⟩ := hreps j (by omega)
    exact lf_I (wr := [(v 0, .inl (cI, 320, .inl fo)), (v 1, .inl (cI, 320, .inl fy)), (v 2, .inl (cI, 320, .inl fn)), (v 3, .inl (cI, 320, .inl fk)), (v 5, .inl (cI, 16, .inl w)), (v 6, .inl (cI, 16, .inl cs)), (v 7, .inl (cZ, 41, .inl cm)), (v 8, .inl (cI, 8, .inl gc)), (v 9, .inl (cI, 8, .inl ga)), (v 10, .inl (cI, 8, .inl gm)), (v 11, .inl (cI, 8, .inl gv))]) (c_Mo_clear mo (v 0) (v 1) (v 2) (v 3) (v 4) stk (v 5) (v 6) (v 7) (v 8) (v 9) (v 10) (v 11) rs.length stp thr zs j (Ls j).length _ hj hzs) [0, 5] [1, 2, 3, 4, 6, 7, 8, 9, 10, 11, 12] rfl rfl rfl (by decide) rfl [11, 0, 1, 2, 3, 12, 4, 5, 6, 7, 8, 9, 10] rfl (fun r _ hr => ⟨((fx_u Ls j [], stk, w, rs, stp), (stk, w, rs.length, stp, nI 0, fo, fy, fn, fk, upd zs j (nI 0), gc, ga, gm, gv, cs, cm)), ⟨by rw [hr]; simp only [fa_clear, e], fx_mr_mk rfl (fx_mreps_u hok hreps j (fx_same_z (fx_same_rf j fo fy fn fk zs) (nI 0)) (by simp [upd]) (fx_rep_nil _ _ _ _)) hrr⟩, rfl⟩)
set_option maxHeartbeats 4000000 in
set_option maxRecDepth 100000 in
theorem x_Mo_shape (mo : Nat) (v : Nat → Nat) (A : fx_A) (M : fx_M) (f i : Int32) (sz : Nat) (hI : fx_AI A) (hM : fx_mr A M) : fs_I l y_Mo_shape (k_Mo_shape :: fs_T) { frames := 2, cells := 0, slots := 0, locals := 44 } (dC, dI) vwCl (fs_tys cI cZ cJ cF) [.ref mo, .int f, .int i] (MC cI cZ mo v M) sz (S := fx_A × fx_M) (fun r z => (r, z.1) = fa_shape A f i ∧ fx_mr z.1 z.2) (fun z => MC cI cZ mo v z.2) 0 0 := by
  obtain ⟨Ls, stkA, wA, rs, dnA⟩ := A
  obtain ⟨stk, w, cnt, stp, thr, fo, fy, fn, fk, zs, gc, ga, gm, gv, cs, cm⟩ := M
  obtain ⟨e1, e2, e3, e4, hreps, hrr⟩ := (show stk = stkA ∧ w = wA ∧ cnt = rs.length ∧ stp = dnA ∧ (∀ f, f < 8 → zs f = nI (Ls f).length ∧ fx_rep (Ls f) (fun i => fo (40 * f + i)) (fun i => fy (40 * f + i)) (fun i => fn (40 * f + i)) (fun i => fk (40 * f + i))) ∧ fx_rrep rs gc ga gm gv from hM)
  subst e1 e2 e3 e4
  obtain ⟨hok, hs4, hgood, hr8, hargs⟩ := (show (∀ f, fx_ok (Ls f)) ∧ stk ≤ 4 ∧ (∀ t, t < stk → fx_chk (Ls (4 + t)) = 0) ∧ rs.length ≤ 8 ∧ ∀ q ∈ rs, -1 ≤ q.2.1.toInt ∧ q.2.1.toInt < 12 from hI)
  cases e : fx_ix 4 f with
  | none =>
    have hf := fx_ix_none (by decide) e
    exact lf_I (wr := [(v 0, .inl (cI, 320, .inl fo)), (v 1, .inl (cI, 320, .inl fy)), (v 2, .inl (cI, 320, .inl fn)), (v 3, .inl (cI, 320, .inl fk)), (v 4, .inl (cI, 8, .inl zs)), (v 5, .inl (cI, 16, .inl w)), (v 6, .inl (cI, 16, .inl cs)), (v 7, .inl (cZ, 41, .inl cm)), (v 8, .inl (cI, 8, .inl gc)), (v 9, .inl (cI, 8, .inl ga)), (v 10, .inl (cI, 8, .inl gm)), (v 11, .inl (cI, 8, .inl gv))]) (c_Mo_shapeX mo (v 0) (v 1) (v 2) (v 3) (v 4) stk (v 5) (v 6) (v 7) (v 8) (v 9) (v 10) (v 11) rs.length stp thr f i _ hf) [0] [1, 2, 3, 4, 5, 6, 7, 8, 9, 10, 11, 12] rfl rfl rfl (by decide) rfl [12, 0, 1, 2, 3, 4, 5, 6, 7, 8, 9, 10, 11] rfl (fun r _ hr => ⟨((Ls, stk, w, rs, stp), (stk, w, rs.length, stp, nI 0, fo, fy, fn, fk, zs, gc, ga, gm, gv, cs, cm)), ⟨by rw [hr]; simp only [fa_shape, e], fx_mr_mk rfl hreps hrr⟩, rfl⟩)
  | some j =>
    obtain ⟨hj, rfl⟩ := fx_ix_some e
    obtain ⟨hzs, hrep⟩ := hreps j (by omega)
    cases e2 : fx_ix (Ls j).length i with
    | none =>
      have hi := fx_ix_none (by have := (hok j).1; omega) e2
      exact lf_I (wr := [(v 0, .inl (cI, 320, .inl fo)), (v 1, .inl (cI, 320, .inl fy)), (v 2, .inl (cI, 320, .inl fn)), (v 3, .inl (cI, 320, .inl fk)), (v 5, .inl (cI, 16, .inl w)), (v 6, .inl (cI, 16, .inl cs)), (v 7, .inl (cZ, 41, .inl cm)), (v 8, .inl (cI, 8, .inl gc)), (v 9, .inl (cI, 8, .inl ga)), (v 10, .inl (cI, 8, .inl gm)), (v 11, .inl (cI, 8, .inl gv))]) (c_Mo_shapeY mo (v 0) (v 1) (v 2) (v 3) (v 4) stk (v 5) (v 6) (v 7) (v 8) (v 9) (v 10) (v 11) rs.length stp thr zs j (Ls j).length i _ hj (hok j).1 hzs hi) [0, 5] [1, 2, 3, 4, 6, 7, 8, 9, 10, 11, 12] rfl rfl rfl (by decide) rfl [11, 0, 1, 2, 3, 12, 4, 5, 6, 7, 8, 9, 10] rfl (fun r _ hr => ⟨((Ls, stk, w, rs, stp), (stk, w, rs.length, stp, nI 0, fo, fy, fn, fk, zs, gc, ga, gm, gv, cs, cm)), ⟨by rw [hr]; simp only [fa_shape, e, e2], fx_mr_mk rfl hreps hrr⟩, rfl⟩)
    | some t =>
      obtain ⟨ht, rfl⟩ := fx_ix_some e2
      exact lf_I (wr := [(v 5, .inl (cI, 16, .inl w)), (v 6, .inl (cI, 16, .inl cs)), (v 7, .inl (cZ, 41, .inl cm)), (v 8, .inl (cI, 8, .inl gc)), (v 9, .inl (cI, 8, .inl ga)), (v 10, .inl (cI, 8, .inl gm)), (v 11, .inl (cI, 8, .inl gv))]) (c_Mo_shape mo (v 0) (v 1) (v 2) (v 3) (v 4) stk (v 5) (v 6) (v 7) (v 8) (v 9) (v 10) (v 11) rs.length stp thr fo fy fn fk zs (Ls j) j t _ hj hzs hrep (hok j) ht) [0, 1, 2, 3, 4, 5] [6, 7, 8, 9, 10, 11, 12] rfl rfl rfl (by decide) rfl [7, 8, 9, 10, 11, 12, 0, 1, 2, 3, 4, 5, 6] rfl (fun r _ hr => ⟨((Ls, stk, w, rs, stp), (stk, w, rs.length, stp, nI 0, fo, fy, fn, fk, zs, gc, ga, gm, gv, cs, cm)), ⟨by rw [hr]; simp only [fa_shape, e, e2], fx_mr_mk rfl hreps hrr⟩, rfl⟩)
set_option maxHeartbeats 4000000 in
set_option maxRecDepth 100000 in
theorem x_Mo_number (mo : Nat) (v : Nat → Nat) (A : fx_A) (M : fx_M) (f i : Int32) (sz : Nat) (hI : fx_AI A) (hM : fx_mr A M) : fs_I l y_Mo_number (k_Mo_number :: fs_T) { frames := 2, cells := 0, slots := 0, locals := 44 } (dC, dI) vwCl (fs_tys cI cZ cJ cF) [.ref mo, .int f, .int i] (MC cI cZ mo v M) sz (S := fx_A × fx_M) (fun r z => (r, z.1) = fa_number A f i ∧ fx_mr z.1 z.2) (fun z => MC cI cZ mo v z.2) 0 0 := by
  obtain ⟨Ls, stkA, wA, rs, dnA⟩ := A
  obtain ⟨stk, w, cnt, stp, thr, fo, fy, fn, fk, zs, gc, ga, gm, gv, cs, cm⟩ := M
  obtain ⟨e1, e2, e3, e4, hreps, hrr⟩ := (show stk = stkA ∧ w = wA ∧ cnt = rs.length ∧ stp = dnA ∧ (∀ f, f < 8 → zs f = nI (Ls f).length ∧ fx_rep (Ls f) (fun i => fo (40 * f + i)) (fun i => fy (40 * f + i)) (fun i => fn (40 * f + i)) (fun i => fk (40 * f + i))) ∧ fx_rrep rs gc ga gm gv from hM)
  subst e1 e2 e3 e4
  obtain ⟨hok, hs4, hgood, hr8, hargs⟩ := (show (∀ f, fx_ok (Ls f)) ∧ stk ≤ 4 ∧ (∀ t, t < stk → fx_chk (Ls (4 + t)) = 0) ∧ rs.length ≤ 8 ∧ ∀ q ∈ rs, -1 ≤ q.2.1.toInt ∧ q.2.1.toInt < 12 from hI)
  cases e : fx_ix 4 f with
  | none =>
    have hf := fx_ix_none (by decide) e
    exact lf_I (wr := [(v 0, .inl (cI, 320, .inl fo)), (v 1, .inl (cI, 320, .inl fy)), (v 2, .inl (cI, 320, .inl fn)), (v 3, .inl (cI, 320, .inl fk)), (v 4, .inl (cI, 8, .inl zs)), (v 5, .inl (cI, 16, .inl w)), (v 6, .inl (cI, 16, .inl cs)), (v 7, .inl (cZ, 41, .inl cm)), (v 8, .inl (cI, 8, .inl gc)), (v 9, .inl (cI, 8, .inl ga)), (v 10, .inl (cI, 8, .inl gm)), (v 11, .inl (cI, 8, .inl gv))]) (c_Mo_numberX mo (v 0) (v 1) (v 2) (v 3) (v 4) stk (v 5) (v 6) (v 7) (v 8) (v 9) (v 10) (v 11) rs.length stp thr f i _ hf) [0] [1, 2, 3, 4, 5, 6, 7, 8, 9, 10, 11, 12] rfl rfl rfl (by decide) rfl [12, 0, 1, 2, 3, 4, 5, 6, 7, 8, 9, 10, 11] rfl (fun r _ hr => ⟨((Ls, stk, w, rs, stp), (stk, w, rs.length, stp, nI 0, fo, fy, fn, fk, zs, gc, ga, gm, gv, cs, cm)), ⟨by rw [hr]; simp only [fa_number, e], fx_mr_mk rfl hreps hrr⟩, rfl⟩)
  | some j =>
    obtain ⟨hj, rfl⟩ := fx_ix_some e
    obtain ⟨hzs, hrep⟩ := hreps j (by omega)
    cases e2 : fx_ix (Ls j).length i with
    | none =>
      have hi := fx_ix_none (by have := (hok j).1; omega) e2
      exact lf_I (wr := [(v 0, .inl (cI, 320, .inl fo)), (v 1, .inl (cI, 320, .inl fy)), (v 2, .inl (cI, 320, .inl fn)), (v 3, .inl (cI, 320, .inl fk)), (v 5, .inl (cI, 16, .inl w)), (v 6, .inl (cI, 16, .inl cs)), (v 7, .inl (cZ, 41, .inl cm)), (v 8, .inl (cI, 8, .inl gc)), (v 9, .inl (cI, 8, .inl ga)), (v 10, .inl (cI, 8, .inl gm)), (v 11, .inl (cI, 8, .inl gv))]) (c_Mo_numberY mo (v 0) (v 1) (v 2) (v 3) (v 4) stk (v 5) (v 6) (v 7) (v 8) (v 9) (v 10) (v 11) rs.length stp thr zs j (Ls j).length i _ hj (hok j).1 hzs hi) [0, 5] [1, 2, 3, 4, 6, 7, 8, 9, 10, 11, 12] rfl rfl rfl (by decide) rfl [11, 0, 1, 2, 3, 12, 4, 5, 6, 7, 8, 9, 10] rfl (fun r _ hr => ⟨((Ls, stk, w, rs, stp), (stk, w, rs.length, stp, nI 0, fo, fy, fn, fk, zs, gc, ga, gm, gv, cs, cm)), ⟨by rw [hr]; simp only [fa_number, e, e2], fx_mr_mk rfl hreps hrr⟩, rfl⟩)
    | some t =>
      obtain ⟨ht, rfl⟩ := fx_ix_some e2
      exact lf_I (wr := [(v 5, .inl (cI, 16, .inl w)), (v 6, .inl (cI, 16, .inl cs)), (v 7, .inl (cZ, 41, .inl cm)), (v 8, .inl (cI, 8, .inl gc)), (v 9, .inl (cI, 8, .inl ga)), (v 10, .inl (cI, 8, .inl gm)), (v 11, .inl (cI, 8, .inl gv))]) (c_Mo_number mo (v 0) (v 1) (v 2) (v 3) (v 4) stk (v 5) (v 6) (v 7) (v 8) (v 9) (v 10) (v 11) rs.length stp thr fo fy fn fk zs (Ls j) j t _ hj hzs hrep (hok j) ht) [0, 1, 2, 3, 4, 5] [6, 7, 8, 9, 10, 11, 12] rfl rfl rfl (by decide) rfl [7, 8, 9, 10, 11, 12, 0, 1, 2, 3, 4, 5, 6] rfl (fun r _ hr => ⟨((Ls, stk, w, rs, stp), (stk, w, rs.length, stp, nI 0, fo, fy, fn, fk, zs, gc, ga, gm, gv, cs, cm)), ⟨by rw [hr]; simp only [fa_number, e, e2], fx_mr_mk rfl hreps hrr⟩, rfl⟩)
set_option maxHeartbeats 4000000 in
set_option maxRecDepth 100000 in
theorem x_Mo_fault (mo : Nat) (v : Nat → Nat) (A : fx_A) (M : fx_M) (f : Int32) (sz : Nat) (hI : fx_AI A) (hM : fx_mr A M) : fs_I l y_Mo_fault (k_Mo_fault :: fs_T) { frames := 3, cells := 0, slots := 0, locals := 72 } (dC, dI) vwCl (fs_tys cI cZ cJ cF) [.ref mo, .int f] (MC cI cZ mo v M) sz (S := fx_A × fx_M) (fun r z => (r, z.1) = fa_fault A f ∧ fx_mr z.1 z.2) (fun z => MC cI cZ mo v z.2) 0 0 := by
  obtain ⟨Ls, stkA, wA, rs, dnA⟩ := A
  obtain ⟨stk, w, cnt, stp, thr, fo, fy, fn, fk, zs, gc, ga, gm, gv, cs, cm⟩ := M
  obtain ⟨e1, e2, e3, e4, hreps, hrr⟩ := (show stk = stkA ∧ w = wA ∧ cnt = rs.length ∧ stp = dnA ∧ (∀ f, f < 8 → zs f = nI (Ls f).length ∧ fx_rep (Ls f) (fun i => fo (40 * f + i)) (fun i => fy (40 * f + i)) (fun i => fn (40 * f + i)) (fun i => fk (40 * f + i))) ∧ fx_rrep rs gc ga gm gv from hM)
  subst e1 e2 e3 e4
  obtain ⟨hok, hs4, hgood, hr8, hargs⟩ := (show (∀ f, fx_ok (Ls f)) ∧ stk ≤ 4 ∧ (∀ t, t < stk → fx_chk (Ls (4 + t)) = 0) ∧ rs.length ≤ 8 ∧ ∀ q ∈ rs, -1 ≤ q.2.1.toInt ∧ q.2.1.toInt < 12 from hI)
  cases e : fx_ix 4 f with
  | none =>
    have hf := fx_ix_none (by decide) e
    exact lf_I (wr := [(v 0, .inl (cI, 320, .inl fo)), (v 1, .inl (cI, 320, .inl fy)), (v 2, .inl (cI, 320, .inl fn)), (v 3, .inl (cI, 320, .inl fk)), (v 4, .inl (cI, 8, .inl zs)), (v 5, .inl (cI, 16, .inl w)), (v 6, .inl (cI, 16, .inl cs)), (v 7, .inl (cZ, 41, .inl cm)), (v 8, .inl (cI, 8, .inl gc)), (v 9, .inl (cI, 8, .inl ga)), (v 10, .inl (cI, 8, .inl gm)), (v 11, .inl (cI, 8, .inl gv))]) (c_Mo_faultX mo (v 0) (v 1) (v 2) (v 3) (v 4) stk (v 5) (v 6) (v 7) (v 8) (v 9) (v 10) (v 11) rs.length stp thr f _ hf) [0] [1, 2, 3, 4, 5, 6, 7, 8, 9, 10, 11, 12] rfl rfl rfl (by decide) rfl [12, 0, 1, 2, 3, 4, 5, 6, 7, 8, 9, 10, 11] rfl (fun r _ hr => ⟨((Ls, stk, w, rs, stp), (stk, w, rs.length, stp, nI 0, fo, fy, fn, fk, zs, gc, ga, gm, gv, cs, cm)), ⟨by rw [hr]; simp only [fa_fault, e], fx_mr_mk rfl hreps hrr⟩, rfl⟩)
  | some j =>
    obtain ⟨hj, rfl⟩ := fx_ix_some e
    obtain ⟨hzs, hrep⟩ := hreps j (by omega)
    exact lf_I (wr := [(v 5, .inl (cI, 16, .inl w)), (v 6, .inl (cI, 16, .inl cs)), (v 8, .inl (cI, 8, .inl gc)), (v 9, .inl (cI, 8, .inl ga)), (v 10, .inl (cI, 8, .inl gm)), (v 11, .inl (cI, 8, .inl gv))]) (c_Mo_fault mo (v 0) (v 1) (v 2) (v 3) (v 4) stk (v 5) (v 6) (v 7) (v 8) (v 9) (v 10) (v 11) rs.length stp thr fo fy fn fk zs cm (Ls j) j _ hj hzs hrep (hok j)) [0, 1, 2, 3, 4, 5, 8] [6, 7, 9, 10, 11, 12] rfl rfl rfl (by decide) rfl [6, 7, 8, 9, 10, 11, 0, 1, 12, 2, 3, 4, 5] rfl (fun r m' hr => ⟨((Ls, stk, w, rs, stp), (stk, w, rs.length, stp, nI 0, fo, fy, fn, fk, zs, gc, ga, gm, gv, cs, m')), ⟨by rw [hr]; simp only [fa_fault, e], fx_mr_mk rfl hreps hrr⟩, rfl⟩)
set_option maxHeartbeats 4000000 in
set_option maxRecDepth 100000 in
theorem x_Mo_place (mo : Nat) (v : Nat → Nat) (A : fx_A) (M : fx_M) (f : Int32) (sz : Nat) (hI : fx_AI A) (hM : fx_mr A M) : fs_I l y_Mo_place (k_Mo_place :: fs_T) { frames := 3, cells := 0, slots := 0, locals := 72 } (dC, dI) vwCl (fs_tys cI cZ cJ cF) [.ref mo, .int f] (MC cI cZ mo v M) sz (S := fx_A × fx_M) (fun r z => (r, z.1) = fa_place A f ∧ fx_mr z.1 z.2) (fun z => MC cI cZ mo v z.2) 0 0 := by
  obtain ⟨Ls, stkA, wA, rs, dnA⟩ := A
  obtain ⟨stk, w, cnt, stp, thr, fo, fy, fn, fk, zs, gc, ga, gm, gv, cs, cm⟩ := M
  obtain ⟨e1, e2, e3, e4, hreps, hrr⟩ := (show stk = stkA ∧ w = wA ∧ cnt = rs.length ∧ stp = dnA ∧ (∀ f, f < 8 → zs f = nI (Ls f).length ∧ fx_rep (Ls f) (fun i => fo (40 * f + i)) (fun i => fy (40 * f + i)) (fun i => fn (40 * f + i)) (fun i => fk (40 * f + i))) ∧ fx_rrep rs gc ga gm gv from hM)
  subst e1 e2 e3 e4
  obtain ⟨hok, hs4, hgood, hr8, hargs⟩ := (show (∀ f, fx_ok (Ls f)) ∧ stk ≤ 4 ∧ (∀ t, t < stk → fx_chk (Ls (4 + t)) = 0) ∧ rs.length ≤ 8 ∧ ∀ q ∈ rs, -1 ≤ q.2.1.toInt ∧ q.2.1.toInt < 12 from hI)
  cases e : fx_ix 4 f with
  | none =>
    have hf := fx_ix_none (by decide) e
    exact lf_I (wr := [(v 0, .inl (cI, 320, .inl fo)), (v 1, .inl (cI, 320, .inl fy)), (v 2, .inl (cI, 320, .inl fn)), (v 3, .inl (cI, 320, .inl fk)), (v 4, .inl (cI, 8, .inl zs)), (v 5, .inl (cI, 16, .inl w)), (v 6, .inl (cI, 16, .inl cs)), (v 7, .inl (cZ, 41, .inl cm)), (v 8, .inl (cI, 8, .inl gc)), (v 9, .inl (cI, 8, .inl ga)), (v 10, .inl (cI, 8, .inl gm)), (v 11, .inl (cI, 8, .inl gv))]) (c_Mo_placeX mo (v 0) (v 1) (v 2) (v 3) (v 4) stk (v 5) (v 6) (v 7) (v 8) (v 9) (v 10) (v 11) rs.length stp thr f _ hf) [0] [1, 2, 3, 4, 5, 6, 7, 8, 9, 10, 11, 12] rfl rfl rfl (by decide) rfl [12, 0, 1, 2, 3, 4, 5, 6, 7, 8, 9, 10, 11] rfl (fun r _ hr => ⟨((Ls, stk, w, rs, stp), (stk, w, rs.length, stp, nI 0, fo, fy, fn, fk, zs, gc, ga, gm, gv, cs, cm)), ⟨by rw [hr]; simp only [fa_place, e], fx_mr_mk rfl hreps hrr⟩, rfl⟩)
  | some j =>
    obtain ⟨hj, rfl⟩ := fx_ix_some e
    obtain ⟨hzs, hrep⟩ := hreps j (by omega)
    exact lf_I (wr := [(v 5, .inl (cI, 16, .inl w)), (v 6, .inl (cI, 16, .inl cs)), (v 8, .inl (cI, 8, .inl gc)), (v 9, .inl (cI, 8, .inl ga)), (v 10, .inl (cI, 8, .inl gm)), (v 11, .inl (cI, 8, .inl gv))]) (c_Mo_place mo (v 0) (v 1) (v 2) (v 3) (v 4) stk (v 5) (v 6) (v 7) (v 8) (v 9) (v 10) (v 11) rs.length stp thr fo fy fn fk zs cm (Ls j) j _ hj hzs hrep (hok j)) [0, 1, 2, 3, 4, 5, 8] [6, 7, 9, 10, 11, 12] rfl rfl rfl (by decide) rfl [6, 7, 8, 9, 10, 11, 0, 1, 12, 2, 3, 4, 5] rfl (fun r m' hr => ⟨((Ls, stk, w, rs, stp), (stk, w, rs.length, stp, nI 0, fo, fy, fn, fk, zs, gc, ga, gm, gv, cs, m')), ⟨by rw [hr]; simp only [fa_place, e], fx_mr_mk rfl hreps hrr⟩, rfl⟩)
set_option maxHeartbeats 4000000 in
set_option maxRecDepth 100000 in
theorem x_Mo_set (mo : Nat) (v : Nat → Nat) (A : fx_A) (M : fx_M) (i x : Int32) (sz : Nat) (hI : fx_AI A) (hM : fx_mr A M) : fs_I l y_Mo_set (k_Mo_set :: fs_T) { frames := 1, cells := 0, slots := 0, locals := 22 } (dC, dI) vwCl (fs_tys cI cZ cJ cF) [.ref mo, .int i, .int x] (MC cI cZ mo v M) sz (S := fx_A × fx_M) (fun r z => (r, z.1) = fa_set A i x ∧ fx_mr z.1 z.2) (fun z => MC cI cZ mo v z.2) 0 0 := by
  obtain ⟨Ls, stkA, wA, rs, dnA⟩ := A
  obtain ⟨stk, w, cnt, stp, thr, fo, fy, fn, fk, zs, gc, ga, gm, gv, cs, cm⟩ := M
  obtain ⟨e1, e2, e3, e4, hreps, hrr⟩ := (show stk = stkA ∧ w = wA ∧ cnt = rs.length ∧ stp = dnA ∧ (∀ f, f < 8 → zs f = nI (Ls f).length ∧ fx_rep (Ls f) (fun i => fo (40 * f + i)) (fun i => fy (40 * f + i)) (fun i => fn (40 * f + i)) (fun i => fk (40 * f + i))) ∧ fx_rrep rs gc ga gm gv from hM)
  subst e1 e2 e3 e4
  obtain ⟨hok, hs4, hgood, hr8, hargs⟩ := (show (∀ f, fx_ok (Ls f)) ∧ stk ≤ 4 ∧ (∀ t, t < stk → fx_chk (Ls (4 + t)) = 0) ∧ rs.length ≤ 8 ∧ ∀ q ∈ rs, -1 ≤ q.2.1.toInt ∧ q.2.1.toInt < 12 from hI)
  cases e : fx_ix 16 i with
  | none =>
    have hi := fx_ix_none (by decide) e
    exact lf_I (wr := [(v 0, .inl (cI, 320, .inl fo)), (v 1, .inl (cI, 320, .inl fy)), (v 2, .inl (cI, 320, .inl fn)), (v 3, .inl (cI, 320, .inl fk)), (v 4, .inl (cI, 8, .inl zs)), (v 5, .inl (cI, 16, .inl w)), (v 6, .inl (cI, 16, .inl cs)), (v 7, .inl (cZ, 41, .inl cm)), (v 8, .inl (cI, 8, .inl gc)), (v 9, .inl (cI, 8, .inl ga)), (v 10, .inl (cI, 8, .inl gm)), (v 11, .inl (cI, 8, .inl gv))]) (c_Mo_setX mo (v 0) (v 1) (v 2) (v 3) (v 4) stk (v 5) (v 6) (v 7) (v 8) (v 9) (v 10) (v 11) rs.length stp thr i x _ hi) [0] [1, 2, 3, 4, 5, 6, 7, 8, 9, 10, 11, 12] rfl rfl rfl (by decide) rfl [12, 0, 1, 2, 3, 4, 5, 6, 7, 8, 9, 10, 11] rfl (fun r _ hr => ⟨((Ls, stk, w, rs, stp), (stk, w, rs.length, stp, nI 0, fo, fy, fn, fk, zs, gc, ga, gm, gv, cs, cm)), ⟨by rw [hr]; simp only [fa_set, e], fx_mr_mk rfl hreps hrr⟩, rfl⟩)
  | some t =>
    obtain ⟨ht, rfl⟩ := fx_ix_some e
    exact lf_I (wr := [(v 0, .inl (cI, 320, .inl fo)), (v 1, .inl (cI, 320, .inl fy)), (v 2, .inl (cI, 320, .inl fn)), (v 3, .inl (cI, 320, .inl fk)), (v 4, .inl (cI, 8, .inl zs)), (v 6, .inl (cI, 16, .inl cs)), (v 7, .inl (cZ, 41, .inl cm)), (v 8, .inl (cI, 8, .inl gc)), (v 9, .inl (cI, 8, .inl ga)), (v 10, .inl (cI, 8, .inl gm)), (v 11, .inl (cI, 8, .inl gv))]) (c_Mo_set mo (v 0) (v 1) (v 2) (v 3) (v 4) stk (v 5) (v 6) (v 7) (v 8) (v 9) (v 10) (v 11) rs.length stp thr w t x _ ht) [0, 6] [1, 2, 3, 4, 5, 7, 8, 9, 10, 11, 12] rfl rfl rfl (by decide) rfl [11, 0, 1, 2, 3, 4, 12, 5, 6, 7, 8, 9, 10] rfl (fun r _ hr => ⟨((Ls, stk, upd w t x, rs, stp), (stk, upd w t x, rs.length, stp, nI 0, fo, fy, fn, fk, zs, gc, ga, gm, gv, cs, cm)), ⟨by rw [hr]; simp only [fa_set, e], fx_mr_mk rfl hreps hrr⟩, rfl⟩)
set_option maxHeartbeats 4000000 in
set_option maxRecDepth 100000 in
theorem x_Mo_steps (mo : Nat) (v : Nat → Nat) (A : fx_A) (M : fx_M)  (sz : Nat) (hI : fx_AI A) (hM : fx_mr A M) : fs_I l y_Mo_steps (k_Mo_steps :: fs_T) { frames := 0, cells := 0, slots := 0, locals := 0 } (dC, dI) vwCl (fs_tys cI cZ cJ cF) [.ref mo] (MC cI cZ mo v M) sz (S := fx_A × fx_M) (fun r z => (r, z.1) = fa_steps A ∧ fx_mr z.1 z.2) (fun z => MC cI cZ mo v z.2) 0 0 := by
  obtain ⟨Ls, stkA, wA, rs, dnA⟩ := A
  obtain ⟨stk, w, cnt, stp, thr, fo, fy, fn, fk, zs, gc, ga, gm, gv, cs, cm⟩ := M
  obtain ⟨e1, e2, e3, e4, hreps, hrr⟩ := (show stk = stkA ∧ w = wA ∧ cnt = rs.length ∧ stp = dnA ∧ (∀ f, f < 8 → zs f = nI (Ls f).length ∧ fx_rep (Ls f) (fun i => fo (40 * f + i)) (fun i => fy (40 * f + i)) (fun i => fn (40 * f + i)) (fun i => fk (40 * f + i))) ∧ fx_rrep rs gc ga gm gv from hM)
  subst e1 e2 e3 e4
  obtain ⟨hok, hs4, hgood, hr8, hargs⟩ := (show (∀ f, fx_ok (Ls f)) ∧ stk ≤ 4 ∧ (∀ t, t < stk → fx_chk (Ls (4 + t)) = 0) ∧ rs.length ≤ 8 ∧ ∀ q ∈ rs, -1 ≤ q.2.1.toInt ∧ q.2.1.toInt < 12 from hI)
  exact lf_I (wr := [(v 0, .inl (cI, 320, .inl fo)), (v 1, .inl (cI, 320, .inl fy)), (v 2, .inl (cI, 320, .inl fn)), (v 3, .inl (cI, 320, .inl fk)), (v 4, .inl (cI, 8, .inl zs)), (v 5, .inl (cI, 16, .inl w)), (v 6, .inl (cI, 16, .inl cs)), (v 7, .inl (cZ, 41, .inl cm)), (v 8, .inl (cI, 8, .inl gc)), (v 9, .inl (cI, 8, .inl ga)), (v 10, .inl (cI, 8, .inl gm)), (v 11, .inl (cI, 8, .inl gv))]) (c_Mo_steps mo (v 0) (v 1) (v 2) (v 3) (v 4) stk (v 5) (v 6) (v 7) (v 8) (v 9) (v 10) (v 11) rs.length stp thr _) [0] [1, 2, 3, 4, 5, 6, 7, 8, 9, 10, 11, 12] rfl rfl rfl (by decide) rfl [12, 0, 1, 2, 3, 4, 5, 6, 7, 8, 9, 10, 11] rfl (fun r _ hr => ⟨((Ls, stk, w, rs, stp), (stk, w, rs.length, stp, nI 0, fo, fy, fn, fk, zs, gc, ga, gm, gv, cs, cm)), ⟨by rw [hr]; rfl, fx_mr_mk rfl hreps hrr⟩, rfl⟩)
set_option maxHeartbeats 4000000 in
set_option maxRecDepth 100000 in
theorem x_Mo_thrown (mo : Nat) (v : Nat → Nat) (A : fx_A) (M : fx_M)  (sz : Nat) (hI : fx_AI A) (hM : fx_mr A M) : fs_I l y_Mo_thrown (k_Mo_thrown :: fs_T) { frames := 0, cells := 0, slots := 0, locals := 0 } (dC, dI) vwCl (fs_tys cI cZ cJ cF) [.ref mo] (MC cI cZ mo v M) sz (S := fx_M) (fun r z => r = M.2.2.2.2.1 ∧ z = M) (fun z => MC cI cZ mo v z) 0 0 := by
  obtain ⟨Ls, stkA, wA, rs, dnA⟩ := A
  obtain ⟨stk, w, cnt, stp, thr, fo, fy, fn, fk, zs, gc, ga, gm, gv, cs, cm⟩ := M
  obtain ⟨e1, e2, e3, e4, hreps, hrr⟩ := (show stk = stkA ∧ w = wA ∧ cnt = rs.length ∧ stp = dnA ∧ (∀ f, f < 8 → zs f = nI (Ls f).length ∧ fx_rep (Ls f) (fun i => fo (40 * f + i)) (fun i => fy (40 * f + i)) (fun i => fn (40 * f + i)) (fun i => fk (40 * f + i))) ∧ fx_rrep rs gc ga gm gv from hM)
  subst e1 e2 e3 e4
  obtain ⟨hok, hs4, hgood, hr8, hargs⟩ := (show (∀ f, fx_ok (Ls f)) ∧ stk ≤ 4 ∧ (∀ t, t < stk → fx_chk (Ls (4 + t)) = 0) ∧ rs.length ≤ 8 ∧ ∀ q ∈ rs, -1 ≤ q.2.1.toInt ∧ q.2.1.toInt < 12 from hI)
  exact lf_I (wr := [(v 0, .inl (cI, 320, .inl fo)), (v 1, .inl (cI, 320, .inl fy)), (v 2, .inl (cI, 320, .inl fn)), (v 3, .inl (cI, 320, .inl fk)), (v 4, .inl (cI, 8, .inl zs)), (v 5, .inl (cI, 16, .inl w)), (v 6, .inl (cI, 16, .inl cs)), (v 7, .inl (cZ, 41, .inl cm)), (v 8, .inl (cI, 8, .inl gc)), (v 9, .inl (cI, 8, .inl ga)), (v 10, .inl (cI, 8, .inl gm)), (v 11, .inl (cI, 8, .inl gv))]) (c_Mo_thrown mo (v 0) (v 1) (v 2) (v 3) (v 4) stk (v 5) (v 6) (v 7) (v 8) (v 9) (v 10) (v 11) rs.length stp thr _) [0] [1, 2, 3, 4, 5, 6, 7, 8, 9, 10, 11, 12] rfl rfl rfl (by decide) rfl [12, 0, 1, 2, 3, 4, 5, 6, 7, 8, 9, 10, 11] rfl (fun r _ hr => ⟨(stk, w, rs.length, stp, thr, fo, fy, fn, fk, zs, gc, ga, gm, gv, cs, cm), ⟨hr, rfl⟩, rfl⟩)
set_option maxHeartbeats 4000000 in
set_option maxRecDepth 100000 in
theorem x_Mo_rule (mo : Nat) (v : Nat → Nat) (A : fx_A) (M : fx_M) (v1 v2 v3 v4 : Int32) (sz : Nat) (hI : fx_AI A) (hM : fx_mr A M) : fs_I l y_Mo_rule (k_Mo_rule :: fs_T) { frames := 1, cells := 0, slots := 0, locals := 22 } (dC, dI) vwCl (fs_tys cI cZ cJ cF) [.ref mo, .int v1, .int v2, .int v3, .int v4] (MC cI cZ mo v M) sz (S := fx_A × fx_M) (fun r z => (r, z.1) = fa_rule A v1 v2 v3 v4 ∧ fx_mr z.1 z.2) (fun z => MC cI cZ mo v z.2) 0 0 := by
  obtain ⟨Ls, stkA, wA, rs, dnA⟩ := A
  obtain ⟨stk, w, cnt, stp, thr, fo, fy, fn, fk, zs, gc, ga, gm, gv, cs, cm⟩ := M
  obtain ⟨e1, e2, e3, e4, hreps, hrr⟩ := (show stk = stkA ∧ w = wA ∧ cnt = rs.length ∧ stp = dnA ∧ (∀ f, f < 8 → zs f = nI (Ls f).length ∧ fx_rep (Ls f) (fun i => fo (40 * f + i)) (fun i => fy (40 * f + i)) (fun i => fn (40 * f + i)) (fun i => fk (40 * f + i))) ∧ fx_rrep rs gc ga gm gv from hM)
  subst e1 e2 e3 e4
  obtain ⟨hok, hs4, hgood, hr8, hargs⟩ := (show (∀ f, fx_ok (Ls f)) ∧ stk ≤ 4 ∧ (∀ t, t < stk → fx_chk (Ls (4 + t)) = 0) ∧ rs.length ≤ 8 ∧ ∀ q ∈ rs, -1 ≤ q.2.1.toInt ∧ q.2.1.toInt < 12 from hI)
  by_cases ha : -1 ≤ v2.toInt ∧ v2.toInt < 12
  · by_cases hl : rs.length < 8
    · exact lf_I (wr := [(v 0, .inl (cI, 320, .inl fo)), (v 1, .inl (cI, 320, .inl fy)), (v 2, .inl (cI, 320, .inl fn)), (v 3, .inl (cI, 320, .inl fk)), (v 4, .inl (cI, 8, .inl zs)), (v 5, .inl (cI, 16, .inl w)), (v 6, .inl (cI, 16, .inl cs)), (v 7, .inl (cZ, 41, .inl cm))]) (c_Mo_rule mo (v 0) (v 1) (v 2) (v 3) (v 4) stk (v 5) (v 6) (v 7) (v 8) (v 9) (v 10) (v 11) rs.length stp thr gc ga gm gv v1 v2 v3 v4 _ ha hl) [0, 9, 10, 11, 12] [1, 2, 3, 4, 5, 6, 7, 8] rfl rfl rfl (by decide) rfl [8, 0, 1, 2, 3, 4, 5, 6, 7, 9, 10, 11, 12] rfl (fun r _ hr => ⟨((Ls, stk, w, rs ++ [(v1, v2, v3, v4)], stp), (stk, w, rs.length + 1, stp, nI 0, fo, fy, fn, fk, zs, upd gc rs.length v1, upd ga rs.length v2, upd gm rs.length v3, upd gv rs.length v4, cs, cm)), ⟨by rw [hr]; simp only [fa_rule, ha, hl, and_self, if_true], fx_mr_mk (by simp) hreps (fx_rrep_app hrr v1 v2 v3 v4)⟩, rfl⟩)
    · have h8 : rs.length = 8 := by omega
      have key := c_Mo_ruleF (l := l) (dC := dC) (dI := dI) (cI := cI) (cZ := cZ) (cJ := cJ) (cF := cF) mo (v 0) (v 1) (v 2) (v 3) (v 4) stk (v 5) (v 6) (v 7) (v 8) (v 9) (v 10) (v 11) stp thr gc ga gm gv v1 v2 v3 v4 sz ha
      rw [show nI 8 = nI rs.length from by rw [h8]] at key
      exact lf_I (wr := [(v 0, .inl (cI, 320, .inl fo)), (v 1, .inl (cI, 320, .inl fy)), (v 2, .inl (cI, 320, .inl fn)), (v 3, .inl (cI, 320, .inl fk)), (v 4, .inl (cI, 8, .inl zs)), (v 5, .inl (cI, 16, .inl w)), (v 6, .inl (cI, 16, .inl cs)), (v 7, .inl (cZ, 41, .inl cm))]) (key) [0, 9, 10, 11, 12] [1, 2, 3, 4, 5, 6, 7, 8] rfl rfl rfl (by decide) rfl [8, 0, 1, 2, 3, 4, 5, 6, 7, 9, 10, 11, 12] rfl (fun r _ hr => ⟨((Ls, stk, w, rs, stp), (stk, w, rs.length, stp, nI 0, fo, fy, fn, fk, zs, gc, ga, gm, gv, cs, cm)), ⟨by rw [hr]; simp only [fa_rule, ha, hl, and_self, if_true, if_false], fx_mr_mk rfl hreps hrr⟩, rfl⟩)
  · exact lf_I (wr := [(v 0, .inl (cI, 320, .inl fo)), (v 1, .inl (cI, 320, .inl fy)), (v 2, .inl (cI, 320, .inl fn)), (v 3, .inl (cI, 320, .inl fk)), (v 4, .inl (cI, 8, .inl zs)), (v 5, .inl (cI, 16, .inl w)), (v 6, .inl (cI, 16, .inl cs)), (v 7, .inl (cZ, 41, .inl cm)), (v 8, .inl (cI, 8, .inl gc)), (v 9, .inl (cI, 8, .inl ga)), (v 10, .inl (cI, 8, .inl gm)), (v 11, .inl (cI, 8, .inl gv))]) (c_Mo_ruleX mo (v 0) (v 1) (v 2) (v 3) (v 4) stk (v 5) (v 6) (v 7) (v 8) (v 9) (v 10) (v 11) rs.length stp thr v1 v2 v3 v4 _ ha) [0] [1, 2, 3, 4, 5, 6, 7, 8, 9, 10, 11, 12] rfl rfl rfl (by decide) rfl [12, 0, 1, 2, 3, 4, 5, 6, 7, 8, 9, 10, 11] rfl (fun r _ hr => ⟨((Ls, stk, w, rs, stp), (stk, w, rs.length, stp, nI 0, fo, fy, fn, fk, zs, gc, ga, gm, gv, cs, cm)), ⟨by rw [hr]; simp only [fa_rule, ha, if_false], fx_mr_mk rfl hreps hrr⟩, rfl⟩)
set_option maxHeartbeats 4000000 in
set_option maxRecDepth 100000 in
theorem x_Mo_forget (mo : Nat) (v : Nat → Nat) (A : fx_A) (M : fx_M)  (sz : Nat) (hI : fx_AI A) (hM : fx_mr A M) : fs_I l y_Mo_forget (k_Mo_forget :: fs_T) { frames := 0, cells := 0, slots := 0, locals := 0 } (dC, dI) vwCl (fs_tys cI cZ cJ cF) [.ref mo] (MC cI cZ mo v M) sz (S := fx_A × fx_M) (fun r z => (r, z.1) = fa_forget A ∧ fx_mr z.1 z.2) (fun z => MC cI cZ mo v z.2) 0 0 := by
  obtain ⟨Ls, stkA, wA, rs, dnA⟩ := A
  obtain ⟨stk, w, cnt, stp, thr, fo, fy, fn, fk, zs, gc, ga, gm, gv, cs, cm⟩ := M
  obtain ⟨e1, e2, e3, e4, hreps, hrr⟩ := (show stk = stkA ∧ w = wA ∧ cnt = rs.length ∧ stp = dnA ∧ (∀ f, f < 8 → zs f = nI (Ls f).length ∧ fx_rep (Ls f) (fun i => fo (40 * f + i)) (fun i => fy (40 * f + i)) (fun i => fn (40 * f + i)) (fun i => fk (40 * f + i))) ∧ fx_rrep rs gc ga gm gv from hM)
  subst e1 e2 e3 e4
  obtain ⟨hok, hs4, hgood, hr8, hargs⟩ := (show (∀ f, fx_ok (Ls f)) ∧ stk ≤ 4 ∧ (∀ t, t < stk → fx_chk (Ls (4 + t)) = 0) ∧ rs.length ≤ 8 ∧ ∀ q ∈ rs, -1 ≤ q.2.1.toInt ∧ q.2.1.toInt < 12 from hI)
  exact lf_I (wr := [(v 0, .inl (cI, 320, .inl fo)), (v 1, .inl (cI, 320, .inl fy)), (v 2, .inl (cI, 320, .inl fn)), (v 3, .inl (cI, 320, .inl fk)), (v 4, .inl (cI, 8, .inl zs)), (v 5, .inl (cI, 16, .inl w)), (v 6, .inl (cI, 16, .inl cs)), (v 7, .inl (cZ, 41, .inl cm)), (v 8, .inl (cI, 8, .inl gc)), (v 9, .inl (cI, 8, .inl ga)), (v 10, .inl (cI, 8, .inl gm)), (v 11, .inl (cI, 8, .inl gv))]) (c_Mo_forget mo (v 0) (v 1) (v 2) (v 3) (v 4) stk (v 5) (v 6) (v 7) (v 8) (v 9) (v 10) (v 11) rs.length stp thr _) [0] [1, 2, 3, 4, 5, 6, 7, 8, 9, 10, 11, 12] rfl rfl rfl (by decide) rfl [12, 0, 1, 2, 3, 4, 5, 6, 7, 8, 9, 10, 11] rfl (fun r _ hr => ⟨((Ls, stk, w, [], stp), (stk, w, 0, stp, nI 0, fo, fy, fn, fk, zs, gc, ga, gm, gv, cs, cm)), ⟨by rw [hr]; rfl, fx_mr_mk rfl hreps (fx_rrep_nil _ _ _ _)⟩, rfl⟩)
set_option maxHeartbeats 4000000 in
set_option maxRecDepth 100000 in
theorem x_Mo_compile (mo : Nat) (v : Nat → Nat) (A : fx_A) (M : fx_M) (f x : Int32) (sz : Nat) (hI : fx_AI A) (hM : fx_mr A M) : fs_I l y_Mo_compile (k_Mo_compile :: fs_T) { frames := 1, cells := 0, slots := 0, locals := 26 } (dC, dI) vwCl (fs_tys cI cZ cJ cF) [.ref mo, .int f, .int x] (MC cI cZ mo v M) sz (S := fx_A × fx_M) (fun r z => (r, z.1) = fa_compile A f x ∧ fx_mr z.1 z.2) (fun z => MC cI cZ mo v z.2) 0 0 := by
  obtain ⟨Ls, stkA, wA, rs, dnA⟩ := A
  obtain ⟨stk, w, cnt, stp, thr, fo, fy, fn, fk, zs, gc, ga, gm, gv, cs, cm⟩ := M
  obtain ⟨e1, e2, e3, e4, hreps, hrr⟩ := (show stk = stkA ∧ w = wA ∧ cnt = rs.length ∧ stp = dnA ∧ (∀ f, f < 8 → zs f = nI (Ls f).length ∧ fx_rep (Ls f) (fun i => fo (40 * f + i)) (fun i => fy (40 * f + i)) (fun i => fn (40 * f + i)) (fun i => fk (40 * f + i))) ∧ fx_rrep rs gc ga gm gv from hM)
  subst e1 e2 e3 e4
  obtain ⟨hok, hs4, hgood, hr8, hargs⟩ := (show (∀ f, fx_ok (Ls f)) ∧ stk ≤ 4 ∧ (∀ t, t < stk → fx_chk (Ls (4 + t)) = 0) ∧ rs.length ≤ 8 ∧ ∀ q ∈ rs, -1 ≤ q.2.1.toInt ∧ q.2.1.toInt < 12 from hI)
  cases e : fx_ix 4 f with
  | none =>
    have hf := fx_ix_none (by decide) e
    exact lf_I (wr := [(v 0, .inl (cI, 320, .inl fo)), (v 1, .inl (cI, 320, .inl fy)), (v 2, .inl (cI, 320, .inl fn)), (v 3, .inl (cI, 320, .inl fk)), (v 4, .inl (cI, 8, .inl zs)), (v 5, .inl (cI, 16, .inl w)), (v 6, .inl (cI, 16, .inl cs)), (v 7, .inl (cZ, 41, .inl cm)), (v 8, .inl (cI, 8, .inl gc)), (v 9, .inl (cI, 8, .inl ga)), (v 10, .inl (cI, 8, .inl gm)), (v 11, .inl (cI, 8, .inl gv))]) (c_Mo_compileX mo (v 0) (v 1) (v 2) (v 3) (v 4) stk (v 5) (v 6) (v 7) (v 8) (v 9) (v 10) (v 11) rs.length stp thr f x _ hf) [0] [1, 2, 3, 4, 5, 6, 7, 8, 9, 10, 11, 12] rfl rfl rfl (by decide) rfl [12, 0, 1, 2, 3, 4, 5, 6, 7, 8, 9, 10, 11] rfl (fun r _ hr => ⟨((Ls, stk, w, rs, stp), (stk, w, rs.length, stp, nI 0, fo, fy, fn, fk, zs, gc, ga, gm, gv, cs, cm)), ⟨by rw [hr]; simp only [fa_compile, e], fx_mr_mk rfl hreps hrr⟩, rfl⟩)
  | some j =>
    obtain ⟨hj, rfl⟩ := fx_ix_some e
    obtain ⟨hzs, hrep⟩ := hreps j (by omega)
    by_cases ht : (rs.flatMap fx_one).length ≤ 39
    · exact lf_I (wr := [(v 5, .inl (cI, 16, .inl w)), (v 6, .inl (cI, 16, .inl cs)), (v 7, .inl (cZ, 41, .inl cm))]) (c_Mo_compile mo (v 0) (v 1) (v 2) (v 3) (v 4) stk (v 5) (v 6) (v 7) (v 8) (v 9) (v 10) (v 11) rs.length stp thr fo fy fn fk zs gc ga gm gv rs j x _ hj rfl hr8 hrr (fx_rrep_arg hrr hargs) ht) [0, 1, 2, 3, 4, 5, 9, 10, 11, 12] [6, 7, 8] rfl rfl rfl (by decide) rfl [3, 4, 5, 6, 7, 8, 0, 1, 2, 9, 10, 11, 12] rfl (fun r z hr => ⟨((fx_u Ls j (fx_cmp rs x), stk, w, rs, stp), (stk, w, rs.length, stp, nI 0, z.1, z.2.1, z.2.2.1, z.2.2.2.1, z.2.2.2.2, gc, ga, gm, gv, cs, cm)), ⟨by rw [hr.1]; simp only [fa_compile, e, ht, if_true], fx_mr_mk rfl (fx_mreps_u hok hreps j hr.2.2.2 hr.2.1 hr.2.2.1) hrr⟩, rfl⟩)
    · exact lf_I (wr := [(v 0, .inl (cI, 320, .inl fo)), (v 1, .inl (cI, 320, .inl fy)), (v 2, .inl (cI, 320, .inl fn)), (v 3, .inl (cI, 320, .inl fk)), (v 4, .inl (cI, 8, .inl zs)), (v 5, .inl (cI, 16, .inl w)), (v 6, .inl (cI, 16, .inl cs)), (v 7, .inl (cZ, 41, .inl cm)), (v 8, .inl (cI, 8, .inl gc)), (v 10, .inl (cI, 8, .inl gm)), (v 11, .inl (cI, 8, .inl gv))]) (c_Mo_compileF mo (v 0) (v 1) (v 2) (v 3) (v 4) stk (v 5) (v 6) (v 7) (v 8) (v 9) (v 10) (v 11) rs.length stp thr gc ga gm gv rs j x _ hj rfl hr8 hrr (fx_rrep_arg hrr hargs) ht) [0, 10] [1, 2, 3, 4, 5, 6, 7, 8, 9, 11, 12] rfl rfl rfl (by decide) rfl [11, 0, 1, 2, 3, 4, 5, 6, 7, 8, 12, 9, 10] rfl (fun r _ hr => ⟨((Ls, stk, w, rs, stp), (stk, w, rs.length, stp, nI 0, fo, fy, fn, fk, zs, gc, ga, gm, gv, cs, cm)), ⟨by rw [hr]; simp only [fa_compile, e, ht, if_false], fx_mr_mk rfl hreps hrr⟩, rfl⟩)
set_option maxHeartbeats 4000000 in
set_option maxRecDepth 100000 in
theorem x_Mo_judge (mo : Nat) (v : Nat → Nat) (A : fx_A) (M : fx_M)  (sz : Nat) (hI : fx_AI A) (hM : fx_mr A M) : fs_I l y_Mo_judge (k_Mo_judge :: fs_T) { frames := 3, cells := 0, slots := 0, locals := 70 } (dC, dI) vwCl (fs_tys cI cZ cJ cF) [.ref mo] (MC cI cZ mo v M) sz (S := fx_A × fx_M) (fun r z => (r, z.1) = fa_judge A ∧ fx_mr z.1 z.2) (fun z => MC cI cZ mo v z.2) 0 0 := by
  obtain ⟨Ls, stkA, wA, rs, dnA⟩ := A
  obtain ⟨stk, w, cnt, stp, thr, fo, fy, fn, fk, zs, gc, ga, gm, gv, cs, cm⟩ := M
  obtain ⟨e1, e2, e3, e4, hreps, hrr⟩ := (show stk = stkA ∧ w = wA ∧ cnt = rs.length ∧ stp = dnA ∧ (∀ f, f < 8 → zs f = nI (Ls f).length ∧ fx_rep (Ls f) (fun i => fo (40 * f + i)) (fun i => fy (40 * f + i)) (fun i => fn (40 * f + i)) (fun i => fk (40 * f + i))) ∧ fx_rrep rs gc ga gm gv from hM)
  subst e1 e2 e3 e4
  obtain ⟨hok, hs4, hgood, hr8, hargs⟩ := (show (∀ f, fx_ok (Ls f)) ∧ stk ≤ 4 ∧ (∀ t, t < stk → fx_chk (Ls (4 + t)) = 0) ∧ rs.length ≤ 8 ∧ ∀ q ∈ rs, -1 ≤ q.2.1.toInt ∧ q.2.1.toInt < 12 from hI)
  by_cases h0 : stk = 0
  · subst h0
    exact lf_I (wr := [(v 7, .inl (cZ, 41, .inl cm)), (v 8, .inl (cI, 8, .inl gc)), (v 9, .inl (cI, 8, .inl ga)), (v 10, .inl (cI, 8, .inl gm)), (v 11, .inl (cI, 8, .inl gv))]) (c_Mo_judge mo (v 0) (v 1) (v 2) (v 3) (v 4) 0 (v 5) (v 6) (v 7) (v 8) (v 9) (v 10) (v 11) rs.length stp thr fo fy fn fk zs w cs (fun t => Ls (4 + t)) _ hs4 (fun t ht => ⟨(hreps (4 + t) (by omega)).1, (hreps (4 + t) (by omega)).2, hok (4 + t), fx_good_of0 (hgood t ht)⟩)) [0, 1, 2, 3, 4, 5, 6, 7] [8, 9, 10, 11, 12] rfl rfl rfl (by decide) rfl [5, 6, 7, 8, 9, 10, 11, 12, 0, 1, 2, 3, 4] rfl (fun r z hr => ⟨((Ls, 0, w, rs, z.1), (0, w, rs.length, z.1, nI 0, fo, fy, fn, fk, zs, gc, ga, gm, gv, z.2, cm)), ⟨by rw [hr.1, (hr.2.resolve_right (fun h => absurd h.1 (by decide))).2]; rfl, fx_mr_mk rfl hreps hrr⟩, rfl⟩)
  · exact lf_I (wr := [(v 7, .inl (cZ, 41, .inl cm)), (v 8, .inl (cI, 8, .inl gc)), (v 9, .inl (cI, 8, .inl ga)), (v 10, .inl (cI, 8, .inl gm)), (v 11, .inl (cI, 8, .inl gv))]) (c_Mo_judge mo (v 0) (v 1) (v 2) (v 3) (v 4) stk (v 5) (v 6) (v 7) (v 8) (v 9) (v 10) (v 11) rs.length stp thr fo fy fn fk zs w cs (fun t => Ls (4 + t)) _ hs4 (fun t ht => ⟨(hreps (4 + t) (by omega)).1, (hreps (4 + t) (by omega)).2, hok (4 + t), fx_good_of0 (hgood t ht)⟩)) [0, 1, 2, 3, 4, 5, 6, 7] [8, 9, 10, 11, 12] rfl rfl rfl (by decide) rfl [5, 6, 7, 8, 9, 10, 11, 12, 0, 1, 2, 3, 4] rfl (fun r z hr => ⟨((Ls, stk, w, rs, z.1), (stk, w, rs.length, z.1, nI 0, fo, fy, fn, fk, zs, gc, ga, gm, gv, z.2, cm)), ⟨by rw [hr.1, (hr.2.resolve_left (fun h => h0 h.1)).2]; simp only [fa_judge, h0, if_false], fx_mr_mk rfl hreps hrr⟩, rfl⟩)
set_option maxHeartbeats 4000000 in
set_option maxRecDepth 100000 in
theorem x_Mo_add (mo : Nat) (v : Nat → Nat) (A : fx_A) (M : fx_M) (f o y n k : Int32) (sz : Nat) (hI : fx_AI A) (hM : fx_mr A M) : fs_I l y_Mo_add (k_Mo_add :: fs_T) { frames := 1, cells := 0, slots := 0, locals := 26 } (dC, dI) vwCl (fs_tys cI cZ cJ cF) [.ref mo, .int f, .int o, .int y, .int n, .int k] (MC cI cZ mo v M) sz (S := fx_A × fx_M) (fun r z => (r, z.1) = fa_add A f o y n k ∧ fx_mr z.1 z.2) (fun z => MC cI cZ mo v z.2) 0 0 := by
  obtain ⟨Ls, stkA, wA, rs, dnA⟩ := A
  obtain ⟨stk, w, cnt, stp, thr, fo, fy, fn, fk, zs, gc, ga, gm, gv, cs, cm⟩ := M
  obtain ⟨e1, e2, e3, e4, hreps, hrr⟩ := (show stk = stkA ∧ w = wA ∧ cnt = rs.length ∧ stp = dnA ∧ (∀ f, f < 8 → zs f = nI (Ls f).length ∧ fx_rep (Ls f) (fun i => fo (40 * f + i)) (fun i => fy (40 * f + i)) (fun i => fn (40 * f + i)) (fun i => fk (40 * f + i))) ∧ fx_rrep rs gc ga gm gv from hM)
  subst e1 e2 e3 e4
  obtain ⟨hok, hs4, hgood, hr8, hargs⟩ := (show (∀ f, fx_ok (Ls f)) ∧ stk ≤ 4 ∧ (∀ t, t < stk → fx_chk (Ls (4 + t)) = 0) ∧ rs.length ≤ 8 ∧ ∀ q ∈ rs, -1 ≤ q.2.1.toInt ∧ q.2.1.toInt < 12 from hI)
  by_cases hb : (∃ j, j < 4 ∧ f = nI j) ∧ 0 ≤ o.toInt ∧ o.toInt ≤ 31 ∧ (∃ j, j < 256 ∧ y = nI j) ∧ (∃ j, j < 256 ∧ n = nI j)
  · obtain ⟨⟨j, hj, rfl⟩, ho0, ho1, ⟨vy, hvy, rfl⟩, ⟨vn, hvn, rfl⟩⟩ := hb
    obtain ⟨vo, hvo, rfl⟩ := fx_of_int (n := 31) (by decide) ho0 ho1
    have hvo : vo < 32 := by omega
    obtain ⟨hzs, hrep⟩ := hreps j (by omega)
    have hN := fa_add_N (A := (Ls, stk, w, rs, stp)) (k := k) (j := j) hj hvo hvy hvn
    by_cases hl : (Ls j).length < 40
    · exact lf_I (wr := [(v 5, .inl (cI, 16, .inl w)), (v 6, .inl (cI, 16, .inl cs)), (v 7, .inl (cZ, 41, .inl cm)), (v 8, .inl (cI, 8, .inl gc)), (v 9, .inl (cI, 8, .inl ga)), (v 10, .inl (cI, 8, .inl gm)), (v 11, .inl (cI, 8, .inl gv))]) (c_Mo_add mo (v 0) (v 1) (v 2) (v 3) (v 4) stk (v 5) (v 6) (v 7) (v 8) (v 9) (v 10) (v 11) rs.length stp thr fo fy fn fk zs j (Ls j).length vo vy vn k _ hj hvo hvy hvn hl hzs) [0, 1, 2, 3, 4, 5] [6, 7, 8, 9, 10, 11, 12] rfl rfl rfl (by decide) rfl [7, 8, 9, 10, 11, 12, 0, 1, 2, 3, 4, 5, 6] rfl (fun r _ hr => ⟨((fx_u Ls j (Ls j ++ [(vo, vy, vn, k)]), stk, w, rs, stp), (stk, w, rs.length, stp, nI 0, upd fo (40 * j + (Ls j).length) (nI vo), upd fy (40 * j + (Ls j).length) (nI vy), upd fn (40 * j + (Ls j).length) (nI vn), upd fk (40 * j + (Ls j).length) k, upd zs j (nI ((Ls j).length + 1)), gc, ga, gm, gv, cs, cm)), ⟨by rw [hr, hN, if_pos hl], fx_mr_mk rfl (fx_mreps_u hok hreps j (fx_same_put hl (nI vo) (nI vy) (nI vn) k (nI ((Ls j).length + 1)) (fx_same_rf j fo fy fn fk zs)) (by simp [upd]) (fx_rep_put rfl rfl rfl rfl hrep)) hrr⟩, rfl⟩)
    · have h40 : (Ls j).length = 40 := by have := (hok j).1; omega
      exact lf_I (wr := [(v 0, .inl (cI, 320, .inl fo)), (v 1, .inl (cI, 320, .inl fy)), (v 2, .inl (cI, 320, .inl fn)), (v 3, .inl (cI, 320, .inl fk)), (v 5, .inl (cI, 16, .inl w)), (v 6, .inl (cI, 16, .inl cs)), (v 7, .inl (cZ, 41, .inl cm)), (v 8, .inl (cI, 8, .inl gc)), (v 9, .inl (cI, 8, .inl ga)), (v 10, .inl (cI, 8, .inl gm)), (v 11, .inl (cI, 8, .inl gv))]) (c_Mo_addF mo (v 0) (v 1) (v 2) (v 3) (v 4) stk (v 5) (v 6) (v 7) (v 8) (v 9) (v 10) (v 11) rs.length stp thr zs j vo vy vn k _ hj hvo hvy hvn (by rw [hzs, h40])) [0, 5] [1, 2, 3, 4, 6, 7, 8, 9, 10, 11, 12] rfl rfl rfl (by decide) rfl [11, 0, 1, 2, 3, 12, 4, 5, 6, 7, 8, 9, 10] rfl (fun r _ hr => ⟨((Ls, stk, w, rs, stp), (stk, w, rs.length, stp, nI 0, fo, fy, fn, fk, zs, gc, ga, gm, gv, cs, cm)), ⟨by rw [hr, hN, if_neg hl], fx_mr_mk rfl hreps hrr⟩, rfl⟩)
  · exact lf_I (wr := [(v 0, .inl (cI, 320, .inl fo)), (v 1, .inl (cI, 320, .inl fy)), (v 2, .inl (cI, 320, .inl fn)), (v 3, .inl (cI, 320, .inl fk)), (v 4, .inl (cI, 8, .inl zs)), (v 5, .inl (cI, 16, .inl w)), (v 6, .inl (cI, 16, .inl cs)), (v 7, .inl (cZ, 41, .inl cm)), (v 8, .inl (cI, 8, .inl gc)), (v 9, .inl (cI, 8, .inl ga)), (v 10, .inl (cI, 8, .inl gm)), (v 11, .inl (cI, 8, .inl gv))]) (c_Mo_addX mo (v 0) (v 1) (v 2) (v 3) (v 4) stk (v 5) (v 6) (v 7) (v 8) (v 9) (v 10) (v 11) rs.length stp thr f o y n k _ hb) [0] [1, 2, 3, 4, 5, 6, 7, 8, 9, 10, 11, 12] rfl rfl rfl (by decide) rfl [12, 0, 1, 2, 3, 4, 5, 6, 7, 8, 9, 10, 11] rfl (fun r _ hr => ⟨((Ls, stk, w, rs, stp), (stk, w, rs.length, stp, nI 0, fo, fy, fn, fk, zs, gc, ga, gm, gv, cs, cm)), ⟨by rw [hr, fa_add_X hb], fx_mr_mk rfl hreps hrr⟩, rfl⟩)
set_option maxHeartbeats 4000000 in
set_option maxRecDepth 100000 in
theorem x_Mo_test (mo : Nat) (v : Nat → Nat) (A : fx_A) (M : fx_M) (f : Int32) (sz : Nat) (hI : fx_AI A) (hM : fx_mr A M) : fs_I l y_Mo_test (k_Mo_test :: fs_T) { frames := 3, cells := 0, slots := 0, locals := 72 } (dC, dI) vwCl (fs_tys cI cZ cJ cF) [.ref mo, .int f] (MC cI cZ mo v M) sz (S := fx_A × fx_M) (fun r z => r = (fa_test A f).2.1 ∧ z.2.2.2.2.2.1 = (fa_test A f).1 ∧ z.1 = (fa_test A f).2.2 ∧ fx_mr z.1 z.2) (fun z => MC cI cZ mo v z.2) 0 0 := by
  obtain ⟨Ls, stkA, wA, rs, dnA⟩ := A
  obtain ⟨stk, w, cnt, stp, thr, fo, fy, fn, fk, zs, gc, ga, gm, gv, cs, cm⟩ := M
  obtain ⟨e1, e2, e3, e4, hreps, hrr⟩ := (show stk = stkA ∧ w = wA ∧ cnt = rs.length ∧ stp = dnA ∧ (∀ f, f < 8 → zs f = nI (Ls f).length ∧ fx_rep (Ls f) (fun i => fo (40 * f + i)) (fun i => fy (40 * f + i)) (fun i => fn (40 * f + i)) (fun i => fk (40 * f + i))) ∧ fx_rrep rs gc ga gm gv from hM)
  subst e1 e2 e3 e4
  obtain ⟨hok, hs4, hgood, hr8, hargs⟩ := (show (∀ f, fx_ok (Ls f)) ∧ stk ≤ 4 ∧ (∀ t, t < stk → fx_chk (Ls (4 + t)) = 0) ∧ rs.length ≤ 8 ∧ ∀ q ∈ rs, -1 ≤ q.2.1.toInt ∧ q.2.1.toInt < 12 from hI)
  cases e : fx_ix 4 f with
  | none =>
    have hf := fx_ix_none (by decide) e
    exact lf_I (wr := [(v 0, .inl (cI, 320, .inl fo)), (v 1, .inl (cI, 320, .inl fy)), (v 2, .inl (cI, 320, .inl fn)), (v 3, .inl (cI, 320, .inl fk)), (v 4, .inl (cI, 8, .inl zs)), (v 5, .inl (cI, 16, .inl w)), (v 6, .inl (cI, 16, .inl cs)), (v 7, .inl (cZ, 41, .inl cm)), (v 8, .inl (cI, 8, .inl gc)), (v 9, .inl (cI, 8, .inl ga)), (v 10, .inl (cI, 8, .inl gm)), (v 11, .inl (cI, 8, .inl gv))]) (c_Mo_testX mo (v 0) (v 1) (v 2) (v 3) (v 4) stk (v 5) (v 6) (v 7) (v 8) (v 9) (v 10) (v 11) rs.length stp thr f _ hf) [0] [1, 2, 3, 4, 5, 6, 7, 8, 9, 10, 11, 12] rfl rfl rfl (by decide) rfl [12, 0, 1, 2, 3, 4, 5, 6, 7, 8, 9, 10, 11] rfl (fun r _ hr => ⟨((Ls, stk, w, rs, stp), (stk, w, rs.length, stp, nI 1, fo, fy, fn, fk, zs, gc, ga, gm, gv, cs, cm)), ⟨by rw [hr]; simp only [fa_test, e], by simp only [fa_test, e], by simp only [fa_test, e], fx_mr_mk rfl hreps hrr⟩, rfl⟩)
  | some j =>
    obtain ⟨hj, rfl⟩ := fx_ix_some e
    obtain ⟨hzs, hrep⟩ := hreps j (by omega)
    by_cases hc0 : fx_chk (Ls j) = 0
    · exact lf_I (wr := [(v 8, .inl (cI, 8, .inl gc)), (v 9, .inl (cI, 8, .inl ga)), (v 10, .inl (cI, 8, .inl gm)), (v 11, .inl (cI, 8, .inl gv))]) (c_Mo_test mo (v 0) (v 1) (v 2) (v 3) (v 4) stk (v 5) (v 6) (v 7) (v 8) (v 9) (v 10) (v 11) rs.length stp thr fo fy fn fk zs w cs cm (Ls j) j _ hj hzs hrep (hok j) hc0) [0, 1, 2, 3, 4, 5, 6, 7, 8] [9, 10, 11, 12] rfl rfl rfl (by decide) rfl [4, 5, 6, 7, 8, 9, 10, 11, 12, 0, 1, 2, 3] rfl (fun r z hr => ⟨((Ls, stk, w, rs, nI (fx_do (Ls j) w).2), (stk, w, rs.length, nI (fx_do (Ls j) w).2, nI 0, fo, fy, fn, fk, zs, gc, ga, gm, gv, z.1, z.2)), ⟨by rw [hr]; simp only [fa_test, e, hc0, if_true], by simp only [fa_test, e, hc0, if_true], by simp only [fa_test, e, hc0, if_true], fx_mr_mk rfl hreps hrr⟩, rfl⟩)
    · exact lf_I (wr := [(v 5, .inl (cI, 16, .inl w)), (v 6, .inl (cI, 16, .inl cs)), (v 8, .inl (cI, 8, .inl gc)), (v 9, .inl (cI, 8, .inl ga)), (v 10, .inl (cI, 8, .inl gm)), (v 11, .inl (cI, 8, .inl gv))]) (c_Mo_testB mo (v 0) (v 1) (v 2) (v 3) (v 4) stk (v 5) (v 6) (v 7) (v 8) (v 9) (v 10) (v 11) rs.length stp thr fo fy fn fk zs cm (Ls j) j _ hj hzs hrep (hok j) hc0) [0, 1, 2, 3, 4, 5, 8] [6, 7, 9, 10, 11, 12] rfl rfl rfl (by decide) rfl [6, 7, 8, 9, 10, 11, 0, 1, 12, 2, 3, 4, 5] rfl (fun r m' hr => ⟨((Ls, stk, w, rs, stp), (stk, w, rs.length, stp, nI 2, fo, fy, fn, fk, zs, gc, ga, gm, gv, cs, m')), ⟨by rw [hr]; simp only [fa_test, e, hc0, if_false], by simp only [fa_test, e, hc0, if_false], by simp only [fa_test, e, hc0, if_false], fx_mr_mk rfl hreps hrr⟩, rfl⟩)
set_option maxHeartbeats 4000000 in
set_option maxRecDepth 100000 in
theorem x_Mo_install (mo : Nat) (v : Nat → Nat) (A : fx_A) (M : fx_M) (f : Int32) (sz : Nat) (hI : fx_AI A) (hM : fx_mr A M) : fs_I l y_Mo_install (k_Mo_install :: fs_T) { frames := 3, cells := 0, slots := 0, locals := 72 } (dC, dI) vwCl (fs_tys cI cZ cJ cF) [.ref mo, .int f] (MC cI cZ mo v M) sz (S := fx_A × fx_M) (fun r z => r = (fa_install A f).2.1 ∧ z.2.2.2.2.2.1 = (fa_install A f).1 ∧ z.1 = (fa_install A f).2.2 ∧ fx_mr z.1 z.2) (fun z => MC cI cZ mo v z.2) 0 0 := by
  obtain ⟨Ls, stkA, wA, rs, dnA⟩ := A
  obtain ⟨stk, w, cnt, stp, thr, fo, fy, fn, fk, zs, gc, ga, gm, gv, cs, cm⟩ := M
  obtain ⟨e1, e2, e3, e4, hreps, hrr⟩ := (show stk = stkA ∧ w = wA ∧ cnt = rs.length ∧ stp = dnA ∧ (∀ f, f < 8 → zs f = nI (Ls f).length ∧ fx_rep (Ls f) (fun i => fo (40 * f + i)) (fun i => fy (40 * f + i)) (fun i => fn (40 * f + i)) (fun i => fk (40 * f + i))) ∧ fx_rrep rs gc ga gm gv from hM)
  subst e1 e2 e3 e4
  obtain ⟨hok, hs4, hgood, hr8, hargs⟩ := (show (∀ f, fx_ok (Ls f)) ∧ stk ≤ 4 ∧ (∀ t, t < stk → fx_chk (Ls (4 + t)) = 0) ∧ rs.length ≤ 8 ∧ ∀ q ∈ rs, -1 ≤ q.2.1.toInt ∧ q.2.1.toInt < 12 from hI)
  cases e : fx_ix 4 f with
  | none =>
    have hf := fx_ix_none (by decide) e
    exact lf_I (wr := [(v 0, .inl (cI, 320, .inl fo)), (v 1, .inl (cI, 320, .inl fy)), (v 2, .inl (cI, 320, .inl fn)), (v 3, .inl (cI, 320, .inl fk)), (v 4, .inl (cI, 8, .inl zs)), (v 5, .inl (cI, 16, .inl w)), (v 6, .inl (cI, 16, .inl cs)), (v 7, .inl (cZ, 41, .inl cm)), (v 8, .inl (cI, 8, .inl gc)), (v 9, .inl (cI, 8, .inl ga)), (v 10, .inl (cI, 8, .inl gm)), (v 11, .inl (cI, 8, .inl gv))]) (c_Mo_installX mo (v 0) (v 1) (v 2) (v 3) (v 4) stk (v 5) (v 6) (v 7) (v 8) (v 9) (v 10) (v 11) rs.length stp thr f _ hf) [0] [1, 2, 3, 4, 5, 6, 7, 8, 9, 10, 11, 12] rfl rfl rfl (by decide) rfl [12, 0, 1, 2, 3, 4, 5, 6, 7, 8, 9, 10, 11] rfl (fun r _ hr => ⟨((Ls, stk, w, rs, stp), (stk, w, rs.length, stp, nI 1, fo, fy, fn, fk, zs, gc, ga, gm, gv, cs, cm)), ⟨by rw [hr]; simp only [fa_install, e], by simp only [fa_install, e], by simp only [fa_install, e], fx_mr_mk rfl hreps hrr⟩, rfl⟩)
  | some j =>
    obtain ⟨hj, rfl⟩ := fx_ix_some e
    obtain ⟨hzs, hrep⟩ := hreps j (by omega)
    by_cases hc0 : fx_chk (Ls j) = 0
    · by_cases hst : stk < 4
      · exact lf_I (wr := [(v 5, .inl (cI, 16, .inl w)), (v 6, .inl (cI, 16, .inl cs)), (v 8, .inl (cI, 8, .inl gc)), (v 9, .inl (cI, 8, .inl ga)), (v 10, .inl (cI, 8, .inl gm)), (v 11, .inl (cI, 8, .inl gv))]) (c_Mo_install mo (v 0) (v 1) (v 2) (v 3) (v 4) stk (v 5) (v 6) (v 7) (v 8) (v 9) (v 10) (v 11) rs.length stp thr fo fy fn fk zs cm (Ls j) j _ hj hzs hrep (hok j) hc0 hst) [0, 1, 2, 3, 4, 5, 8] [6, 7, 9, 10, 11, 12] rfl rfl rfl (by decide) rfl [6, 7, 8, 9, 10, 11, 0, 1, 12, 2, 3, 4, 5] rfl (fun r z hr => ⟨((fx_u Ls (4 + stk) (Ls j), stk + 1, w, rs, stp), (stk + 1, w, rs.length, stp, nI 0, z.1, z.2.1, z.2.2.1, z.2.2.2.1, z.2.2.2.2.1, gc, ga, gm, gv, cs, z.2.2.2.2.2)), ⟨by rw [hr.1]; simp only [fa_install, e, hc0, hst, if_true], by simp only [fa_install, e, hc0, hst, if_true], by simp only [fa_install, e, hc0, hst, if_true], fx_mr_mk rfl (fx_mreps_u hok hreps (4 + stk) hr.2.2.2 hr.2.1 hr.2.2.1) hrr⟩, rfl⟩)
      · have hs : stk = 4 := by omega
        subst hs
        exact lf_I (wr := [(v 5, .inl (cI, 16, .inl w)), (v 6, .inl (cI, 16, .inl cs)), (v 8, .inl (cI, 8, .inl gc)), (v 9, .inl (cI, 8, .inl ga)), (v 10, .inl (cI, 8, .inl gm)), (v 11, .inl (cI, 8, .inl gv))]) (c_Mo_installS mo (v 0) (v 1) (v 2) (v 3) (v 4) (v 5) (v 6) (v 7) (v 8) (v 9) (v 10) (v 11) rs.length stp thr fo fy fn fk zs cm (Ls j) j _ hj hzs hrep (hok j) hc0) [0, 1, 2, 3, 4, 5, 8] [6, 7, 9, 10, 11, 12] rfl rfl rfl (by decide) rfl [6, 7, 8, 9, 10, 11, 0, 1, 12, 2, 3, 4, 5] rfl (fun r m' hr => ⟨((Ls, 4, w, rs, stp), (4, w, rs.length, stp, nI 3, fo, fy, fn, fk, zs, gc, ga, gm, gv, cs, m')), ⟨by rw [hr]; simp only [fa_install, e, hc0, if_true, hst, if_false], by simp only [fa_install, e, hc0, if_true, hst, if_false], by simp only [fa_install, e, hc0, if_true, hst, if_false], fx_mr_mk rfl hreps hrr⟩, rfl⟩)
    · exact lf_I (wr := [(v 5, .inl (cI, 16, .inl w)), (v 6, .inl (cI, 16, .inl cs)), (v 8, .inl (cI, 8, .inl gc)), (v 9, .inl (cI, 8, .inl ga)), (v 10, .inl (cI, 8, .inl gm)), (v 11, .inl (cI, 8, .inl gv))]) (c_Mo_installB mo (v 0) (v 1) (v 2) (v 3) (v 4) stk (v 5) (v 6) (v 7) (v 8) (v 9) (v 10) (v 11) rs.length stp thr fo fy fn fk zs cm (Ls j) j _ hj hzs hrep (hok j) hc0) [0, 1, 2, 3, 4, 5, 8] [6, 7, 9, 10, 11, 12] rfl rfl rfl (by decide) rfl [6, 7, 8, 9, 10, 11, 0, 1, 12, 2, 3, 4, 5] rfl (fun r m' hr => ⟨((Ls, stk, w, rs, stp), (stk, w, rs.length, stp, nI 2, fo, fy, fn, fk, zs, gc, ga, gm, gv, cs, m')), ⟨by rw [hr]; simp only [fa_install, e, hc0, if_false], by simp only [fa_install, e, hc0, if_false], by simp only [fa_install, e, hc0, if_false], fx_mr_mk rfl hreps hrr⟩, rfl⟩)
end MW
