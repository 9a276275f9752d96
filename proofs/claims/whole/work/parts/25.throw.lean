/-! what is thrown, and how it is caught -/
section TH1
variable {p : Program} {l : Launch} {e : Env} {R : Room} {s : State} {m : MethodId} {args : Array Value} {below : List Frame} {meth : Method} {c : Code} {T : State} {locs : List Loc} {cells slots : Nat}
/-- a walk begun anew where it stands -/
theorem th_rebase (X : Stand p l e R s m args below meth c T locs cells slots) {k n : Nat} (hc : cells + k ≤ R.cells) (hs : slots + n ≤ R.slots) : Stand p l e { R with cells := k, slots := n } (T.setFrames (.invoking m args :: below)) m args below meth c T [] 0 0 := by
  obtain ⟨g₀, hfr⟩ := X.frames_eq
  have hcur : T.cur < T.threads.size := State.cur_lt_of_frames hfr
  have hfr' : (T.setFrames (.invoking m args :: below)).frames = .invoking m args :: below := State.frames_setFrames _ hcur
  have hmeth' : T.vm.method? m = some meth := X.method'
  obtain ⟨t, ht, -⟩ := State.frames_cons hfr
  obtain ⟨t', ht', -⟩ := State.frames_cons hfr'
  refine ⟨X.admits, X.cas, X.clock, hfr', ?_, ?_, hmeth', X.code, X.here, X.tail, State.WarmedH.refl (T.setFrames (.invoking m args :: below)), (by rw [State.stackLimits_setFrames]), (by rw [State.stackBytes_setFrames]), ?_⟩
  · have h := X.room
    have hlu : (T.setFrames (.invoking m args :: below)).localsInUse = s.localsInUse := by
      rw [State.localsInUse_invoking hfr' hmeth' X.code, State.localsInUse_invoking X.frames X.method X.code]
    have hfl : (T.setFrames (.invoking m args :: below)).frames.length = s.frames.length := by rw [hfr', X.frames]
    have h1 := X.cellsAbove hc
    have h2 := X.slotsAbove hs
    have h3 := X.book
    have h4 : e.platform.stackLimits (T.setFrames (.invoking m args :: below)).me = e.platform.stackLimits s.me := by rw [State.stackLimits_setFrames]; exact X.limits
    have h5 : (T.setFrames (.invoking m args :: below)).me.stackBytes = s.me.stackBytes := by rw [State.stackBytes_setFrames]; exact X.bytes
    simp only [State.hasRoom, Bool.and_eq_true, decide_eq_true_eq] at h ⊢
    rw [hlu, hfl, h4, h5]
    exact ⟨⟨⟨h.1.1.1, h1⟩, h2⟩, h3⟩
  · have h := X.hears
    have hal := X.warmed.alike
    unfold State.hears at h ⊢
    cases below with
    | nil => simpa [State.setFrames, hal.method?] using h
    | cons b r =>
      cases b <;> simpa [State.setFrames, State.code?_eq, hal.method?] using h
  · have h := (State.sameButNew.refl (T.setFrames (.invoking m args :: below)) ht').setFrames T.frames (by simpa [State.setFrames] using hcur)
    rw [State.setFrames_setFrames, State.setFrames_self ht] at h
    exact h
end TH1
