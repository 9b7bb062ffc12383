/-! CALLS of what throws; a body with a handler -/
section CALLX
variable {X : CX} {own : String} {cc : ByteArray} {cells slots pc : Nat} {ls : List (Option Value)} {rest : List Value} {h : Hp} {M : MD} {d d0 mc ms : Nat} {post : Option Value → Hp → Prop} {px : Hp → Prop}
set_option maxHeartbeats 1000000 in
theorem Qcx.goX (C : Cx X own cc) {H : Heap} {locs : List Loc} {sl : Array Slot} {st0 : List Value} {a : Array Value} {x : ExceptionTableEntry}
    (ht : X.c.exceptionTable.toList = [x]) (hx : covers x pc = true) (h0 : x.catchType ≠ 0) (hlink : Cond.classLink own x.catchType NSE ∈ gw) (hcast : va_Nw (.castable NSE NSE) X.s)
    (hr : vx_Run X.p X.l X.e X.Rm X.s X.m X.args X.below X.meth X.c H locs cells slots mc ms (F0 X.m pc sl st0) rest (Qcx X.D X.dA X.base post a) (XCx X.D X.dA X.base px) (fun q => X.base ≤ q)) (b : va_S (fun q => X.base ≤ q) X.s.heap H locs) (c : lh sl X.nL ls)
    (kk : ∀ v h', post v h' → At X (cells + mc) (slots + ms) (pc + 3) ls (v.toList ++ rest) h') (kx : ∀ q h', px h' → At X (cells + mc) (slots + ms) x.handlerPc ls [va_rf (some q)] h') : W X.p X.l X.e X.Rm X.s X.m X.args X.below X.meth X.c H locs cells slots X.Q (F0 X.m pc sl st0) := by
  intro T hT Y
  rcases hr T hT Y with ⟨v, st₀, t, T', L, h0', Y', hL, e1, e2, ⟨⟨v', h', hv, hp, hw⟩, hz, hk⟩, stp⟩ | ⟨q, st₀, t, T', L, E, ce, h0', Y', hL, e1, e2, ⟨rfl, ⟨h', hp, hw⟩, hz, hk⟩, hce, hcv, hcl, stp⟩
  · cases hv
    rw [h0'] at hz hk
    have hWm : X.s.vm.Alike t.vm := by rw [← e2]; exact Y'.warmed.alike
    obtain ⟨t2, a1, b1⟩ := kk v h' hp T'.heap (locs ++ L) sl (by rw [e1]; exact hw.1.moved hWm.symm)
      ⟨Nat.le_trans b.1 (by rw [e1]; exact hz), fun q h1 h2 => by rw [e1, hk q (Nat.lt_of_lt_of_le h1 b.1) h2]; exact b.2.1 q h1 h2, fun q hq => by
        rcases List.mem_append.mp hq with h | h
        · exact b.2.2 q h
        · exact hL q h⟩ c T' rfl Y'
    exact ⟨t2, stp t2 a1, b1⟩
  · rw [h0'] at hz hk
    have hWm : X.s.vm.Alike t.vm := by rw [← e2]; exact Y'.warmed.alike
    have hW := kx q h' hp T'.heap (locs ++ L) sl (by rw [e1]; exact hw.moved hWm.symm)
      ⟨Nat.le_trans b.1 (by rw [e1]; exact hz), fun q h1 h2 => by rw [e1, hk q (Nat.lt_of_lt_of_le h1 b.1) h2]; exact b.2.1 q h1 h2, fun q hq => by
        rcases List.mem_append.mp hq with h | h
        · exact b.2.2 q h
        · exact hL q h⟩ c
    obtain ⟨t2, a1, b1⟩ := cx_catch (pc := pc) (ls := sl) (rest := rest) (E := NSE) (name := NSE) (q := q) C.2.2.2.1 ht hx h0 (C.2.2.2.2.1 _ hlink) (va_Nw.use rfl hcast) (by rw [e1]; exact hce) hcv hcl hW T' rfl Y'
    exact ⟨t2, stp.trans a1, b1⟩
theorem WdT.at (C : Cx X own cc) (hT : ExtT X.base X.s X.s.heap) {H : Heap} {locs : List Loc} (q : Hok X.D X.dA X.base h X.s H) (b : va_S (fun q => X.base ≤ q) X.s.heap H locs) (U : State) (hU : U.heap = H) (hW : X.s.WarmedH U.vm) : Wd X.D X.dA X.base h U ∧ ExtT X.base U U.heap := by
  refine ⟨Wd.at C q b U hU hW, ?_⟩
  subst hU
  exact hT.warm hW (fun x h1 h2 => b.2.1 x h1 (Nat.not_le.mpr h2))
set_option maxHeartbeats 1000000 in
theorem st_callVX (C : Cx X own cc) (hT : ExtT X.base X.s X.s.heap) {idx n b ci : Nat} {As : List Value} {R : String} {T : u_T} {N : Nat} {mc0 ms0 : Nat} {x : ExceptionTableEntry} (hR : X.Rm = rmd d0 mc0 ms0) (hl : X.l.stackTraces = false) (hok : cOk own idx n M) (hw1 : Cond.instanceMethod M.1 ∈ gw) (hw2 : Cond.selects R M.1 M.1 ∈ gw) (hc : gcls[ci]? = some (R, T, N)) (hyc : M.1.cls = R) (hci : ci < 10) (hd : decode cc pc = .ok (.invokevirtual idx, 3)) (hn : As.length = n) (hdd : d < d0) (hcat : (rest.map fun v => v.category).sum ≤ 8)
    (ht : X.c.exceptionTable.toList = [x]) (hx : covers x pc = true) (h0 : x.catchType ≠ 0) (hlink : Cond.classLink own x.catchType NSE ∈ gw)
    (hK : h.K b = ci + 1) (hct : CtX M d mc ms (.ref b :: As) h post px) (hmc : cells + mc ≤ mc0) (hms : slots + ms ≤ ms0)
    (kk : ∀ v h', post v h' → At X (cells + mc) (slots + ms) (pc + 3) ls (v.toList ++ rest) h') (kx : ∀ q h', px h' → At X (cells + mc) (slots + ms) x.handlerPc ls [va_rf (some q)] h') : At X cells slots pc ls (As.reverse ++ .ref b :: rest) h := by
  intro H locs sl q bb c
  obtain ⟨k1, k2, k3, k4, k5⟩ := hok
  refine Qcx.goX C ht hx h0 hlink hT.2.2.2.2.2.2.2 (vx_runV (As := As) (rest := rest) (Ts := gw) ⟨C.1, C.2.1, C.2.2.1, C.2.2.2.1, C.2.2.2.2.1⟩ (hct X.l X.D X.dA X.base hl) (cwV n C.2.2.2.2.1 (gw_good (fun w hw => ?_)) rfl rfl rfl ⟨hyc, k4⟩ ⟨?_, ?_⟩) ⟨WdT.blind _ _ _ _ _, va_recv C.2.2.2.2.2.1 (va1 (q.1 b _ (cof_ob hK hci)).2) hc (q0 := 0) rfl, fun U hU hW => ⟨rfl, WdT.at C hT q bb U hU hW⟩⟩ rfl hn c.1 rfl (lv_room hcat) hd ⟨?_, ?_⟩) bb c kk kx
  · unfold wsV at hw
    rcases List.mem_append.mp hw with h1 | h1
    · simp only [List.mem_cons, List.not_mem_nil, or_false] at h1
      rcases h1 with rfl | rfl | rfl | rfl
      · exact k1
      · exact hw1
      · exact hw2
      · rw [← hyc]; exact k3
    · exact mws_in k2 w h1
  · rw [hR]; show d + 1 ≤ d0; omega
  · rw [hR]; show 8 + (M.2.2.1 + 11) + 30 * d ≤ 30 * d0; omega
  · rw [hR]; exact hmc
  · rw [hR]; exact hms
end CALLX
section CTH
def mwsH (M : MD) (hh : List (Nat × Nat × Nat × Nat)) : List Cond := .codeWith M.1 M.2.1 M.2.2.1 M.2.2.2 hh :: gw
def CtH (M : MD) (hh : List (Nat × Nat × Nat × Nat)) (d mc ms : Nat) (av : List Value) (h : Hp) (post : Option Value → Hp → Prop) : Prop :=
  ∀ (l : Launch) (D : va_G) (dA : Nat → ClassId) (base : Nat), l.stackTraces = false → Met l M.1 (mwsH M hh) (rmd d mc ms) (va_Pc av (fun U => Wd D dA base h U ∧ ExtT base U U.heap)) (Qcx D dA base post) mc ms (fun q => base ≤ q)
theorem CtH.of {M : MD} {hh : List (Nat × Nat × Nat × Nat)} {d mc ms : Nat} {av : List Value} {h : Hp} {post : Option Value → Hp → Prop} (hy : plainName M.1.cls = true) (hav : av.length ≤ M.2.2.1) (hc1 : ∀ v ∈ av, v.category = 1)
    (body : ∀ X, Cm X M d mc ms post → X.c.exceptionTable.toList = tableOf hh → ExtT X.base X.s X.s.heap → At X 0 0 0 (ent av M.2.2.1) [] h) : CtH M hh d mc ms av h post := by
  intro l D dA base hl
  refine va_MetW (cc := M.2.1) (maxL := M.2.2.1) (ret := M.2.2.2) (hh := hh) hy rfl ?_
  intro p e s m args below meth c s₁ B hml hv
  obtain ⟨rfl, ⟨hH, hK, hB, hE⟩, hT⟩ := hv
  have hts : ∀ w ∈ mwsH M hh, w.before av.toArray s = true := fun w hw => atoms_spec (ws := mwsH M hh) B.pre w hw
  have key := body ((p, l, e, rmd d mc ms, s, m, av.toArray), (below, meth, c, MQ below (Qcx D dA base post) av.toArray s mc ms (fun q => base ≤ q)), (D, dA, base, M.2.2.1))
    ⟨⟨B.exec, B.bytes, hml, findClass_of_methodNamed B.named, fun w hw => hts w (List.mem_cons_of_mem _ hw), hK, hB, B.notSynchronized, hE⟩, rfl, rfl, B.returns, (name_of_methodNamed B.named B.method).1, rfl, hl⟩ (vx_table (x := M.1) B (hts _ List.mem_cons_self)) hT
  rw [lg_entry_eq]
  exact key s.heap [] _ hH va_S.rf (ent_lh hav hc1)
theorem mwsH_in {M : MD} {hh : List (Nat × Nat × Nat × Nat)} (hw : Cond.codeWith M.1 M.2.1 M.2.2.1 M.2.2.2 hh ∈ gw) : ∀ w ∈ mwsH M hh, w ∈ gw := fun w h => (List.mem_cons.mp h).elim (fun e => by rw [e]; exact hw) id
set_option maxHeartbeats 1000000 in
theorem st_callSH {X : CX} {own : String} {cc : ByteArray} {cells slots pc : Nat} {ls : List (Option Value)} {rest : List Value} {h : Hp} {M : MD} {d d0 mc ms : Nat} {post : Option Value → Hp → Prop} {hh : List (Nat × Nat × Nat × Nat)} (C : Cx X own cc) (hT : ExtT X.base X.s X.s.heap) {idx n : Nat} {As : List Value} {mc0 ms0 : Nat} (hR : X.Rm = rmd d0 mc0 ms0) (hl : X.l.stackTraces = false)
    (hok : Cond.methodLink own idx M.1 ∈ gw ∧ Cond.codeWith M.1 M.2.1 M.2.2.1 M.2.2.2 hh ∈ gw ∧ Cond.initialized M.1.cls ∈ gw ∧ (M.1.cls ≠ "java/lang/invoke/MethodHandle" ∧ M.1.cls ≠ "java/lang/invoke/VarHandle" ∧ (parseMethodDescriptor M.1.desc).map (fun d => d.parameters.length) = some n) ∧ M.2.2.1 ≤ 11) (hw1 : Cond.static M.1 ∈ gw) (hd : decode cc pc = .ok (.invokestatic idx, 3)) (hn : As.length = n) (hdd : d < d0) (hcat : (rest.map fun v => v.category).sum ≤ 8)
    (hct : CtH M hh d mc ms As h post) (hmc : cells + mc ≤ mc0) (hms : slots + ms ≤ ms0)
    (kk : ∀ v h', post v h' → At X (cells + mc) (slots + ms) (pc + 3) ls (v.toList ++ rest) h') : At X cells slots pc ls (As.reverse ++ rest) h := by
  intro H locs sl q bb c
  obtain ⟨k1, k2, k3, k4, k5⟩ := hok
  refine Qcx.go C (vx_runSW (As := As) (rest := rest) (Ts := gw) ⟨C.1, C.2.1, C.2.2.1, C.2.2.2.1, C.2.2.2.2.1⟩ (hct X.l X.D X.dA X.base hl) (vx_cwSW n C.2.2.2.2.1 (gw_good (fun w hw => ?_)) rfl rfl rfl k4 ⟨?_, ?_⟩) ⟨WdT.blind _ _ _ _ _, fun U hU hW => ⟨rfl, WdT.at C hT q bb U hU hW⟩⟩ rfl hn c.1 rfl (lv_room hcat) hd ⟨?_, ?_⟩) bb c kk
  · unfold va_wsS at hw
    rcases List.mem_append.mp hw with h1 | h1
    · simp only [List.mem_cons, List.not_mem_nil, or_false] at h1
      rcases h1 with rfl | rfl | rfl
      · exact k1
      · exact hw1
      · exact k3
    · exact mwsH_in k2 w h1
  · rw [hR]; show d + 1 ≤ d0; omega
  · rw [hR]; show 8 + (M.2.2.1 + 11) + 30 * d ≤ 30 * d0; omega
  · rw [hR]; exact hmc
  · rw [hR]; exact hms
end CTH
section LDF
variable {h : Hp} {x o : Nat} {E : Nat → Nat} {W r c g f k : Nat} {s : St} {nd kn : Nat → Nat}
abbrev hhL : List (Nat × Nat × Nat × Nat) := [(0, 10, 13, 13)]
theorem ctL_describe (hC : CB h x E W r c s nd kn g f) (ho : h.K o = 15) (hn : h.N o = 1) (y w : Int32) : CtH mL_describe hhL 7 1 6 [va_rf (some x), .int y, .int w, va_rf (some o)] h
    (fun v h' => ∃ z, v = some (.int z) ∧ ((z = 0 ∧ ∃ u : Int32, h' = h.sAL o 0 u.toInt64 ∧ (((w < 0 ∨ ¬ w ≤ 5) ∧ u = -1) ∨ ∃ b, ¬ w < 0 ∧ w ≤ 5 ∧ bIx s.1 y = some b ∧ u = desV s.1 r y w b)) ∨ (z = 1 ∧ h' = h ∧ ¬ w < 0 ∧ w ≤ 5 ∧ bIx s.1 y = none))) := by
  have hK : h.K x = 9 := hC.1.1.1
  refine CtH.of (by decide +kernel) (Nat.le_of_ble_eq_true rfl) (fun v hv => ?_) (fun X C ht hT => ?_)
  · simp only [List.mem_cons, List.not_mem_nil, or_false] at hv
    rcases hv with rfl | rfl | rfl | rfl <;> rfl
  refine sgL_describe_0 (pp := fun z h' => ((z = 0 ∧ ∃ u : Int32, h' = h.sAL o 0 u.toInt64 ∧ (((w < 0 ∨ ¬ w ≤ 5) ∧ u = -1) ∨ ∃ b, ¬ w < 0 ∧ w ≤ 5 ∧ bIx s.1 y = some b ∧ u = desV s.1 r y w b)) ∨ (z = 1 ∧ h' = h ∧ ¬ w < 0 ∧ w ≤ 5 ∧ bIx s.1 y = none))) C ?_
  refine st_callVX (pc := 5) (M := mX8_describe) (idx := 7) (n := 2) (As := [.int y, .int w]) (b := x) (ci := 8) (rest := [.int 0, va_rf (some o)]) C.1 hT C.2.2.1 C.2.2.2.2.2.2 ⟨wM_RL_7, wC_X8_describe, wI_RX8, by decide +kernel, by decide⟩ wV_X8_describe wS_X8_describe rfl rfl (by decide) dL_describe_5 rfl (by decide) (Nat.le_of_ble_eq_true rfl) (x := ⟨0, 10, 13, 13⟩) ht (by decide) (by decide) wN_c hK (ct8_describe hC y w) (by decide) (by decide) (fun v h' hp => ?_) (fun q h' hp => ?_)
  · obtain ⟨u, rfl, rfl, hu⟩ := hp
    exact sgL_describe_8 C (by decide) (by decide) ho (by rw [hn]; unfold vp_in; decide) (Or.inl ⟨rfl, u, rfl, hu⟩)
  · obtain ⟨rfl, hu⟩ := hp
    refine sv_astore (pc := 13) (i := 4) C.1 [some (va_rf (some x)), some (.int y), some (.int w), some (va_rf (some o)), some (va_rf (some q))] (some q) dL_describe_13 (Nat.le_of_ble_eq_true rfl) (by rw [C.2.1]; exact Nat.le_of_ble_eq_true rfl) rfl rfl ?_
    refine st_iconst (pc := 15) (v := 1) C.1 dL_describe_15 (by decide) ?_
    exact rt_i C (Or.inl rfl) dL_describe_16 (by decide) (by decide) ⟨_, rfl, Or.inr ⟨rfl, rfl, hu⟩⟩
theorem ctL_fault (hC : CB h x E W r c s nd kn g f) (hk : h.I 402 (E 807) = nI k) (hk6 : k ≤ 600) (ho : h.K o = 15) (hn : h.N o = 1) (y w : Int32) : CtH mL_fault hhL 7 1 6 [va_rf (some x), .int y, .int w, va_rf (some o)] h
    (fun v h' => ∃ z, v = some (.int z) ∧ ((z = 0 ∧ ∃ u : Int32, h' = h.sAL o 0 u.toInt64 ∧ ∃ K, y = nI K ∧ K < k ∧ K < 32 ∧ (w = 0 ∨ w = 1) ∧ u = fltV K k h (E 400) (E 401) w) ∨ (z = 1 ∧ h' = h ∧ (y < 0 ∨ nI k ≤ y ∨ 32 ≤ y ∨ (¬ w = 0 ∧ ¬ w = 1))))) := by
  have hK : h.K x = 9 := hC.1.1.1
  refine CtH.of (by decide +kernel) (Nat.le_of_ble_eq_true rfl) (fun v hv => ?_) (fun X C ht hT => ?_)
  · simp only [List.mem_cons, List.not_mem_nil, or_false] at hv
    rcases hv with rfl | rfl | rfl | rfl <;> rfl
  refine sgL_fault_0 (pp := fun z h' => ((z = 0 ∧ ∃ u : Int32, h' = h.sAL o 0 u.toInt64 ∧ ∃ K, y = nI K ∧ K < k ∧ K < 32 ∧ (w = 0 ∨ w = 1) ∧ u = fltV K k h (E 400) (E 401) w) ∨ (z = 1 ∧ h' = h ∧ (y < 0 ∨ nI k ≤ y ∨ 32 ≤ y ∨ (¬ w = 0 ∧ ¬ w = 1))))) C ?_
  refine st_callVX (pc := 5) (M := mX8_fault) (idx := 15) (n := 2) (As := [.int y, .int w]) (b := x) (ci := 8) (rest := [.int 0, va_rf (some o)]) C.1 hT C.2.2.1 C.2.2.2.2.2.2 ⟨wM_RL_15, wC_X8_fault, wI_RX8, by decide +kernel, by decide⟩ wV_X8_fault wS_X8_fault rfl rfl (by decide) dL_fault_5 rfl (by decide) (Nat.le_of_ble_eq_true rfl) (x := ⟨0, 10, 13, 13⟩) ht (by decide) (by decide) wN_c hK (ct8_fault hC hk hk6 y w) (by decide) (by decide) (fun v h' hp => ?_) (fun q h' hp => ?_)
  · obtain ⟨u, rfl, rfl, hu⟩ := hp
    exact sgL_fault_8 C (by decide) (by decide) ho (by rw [hn]; unfold vp_in; decide) (Or.inl ⟨rfl, u, rfl, hu⟩)
  · obtain ⟨rfl, hu⟩ := hp
    refine sv_astore (pc := 13) (i := 4) C.1 [some (va_rf (some x)), some (.int y), some (.int w), some (va_rf (some o)), some (va_rf (some q))] (some q) dL_fault_13 (Nat.le_of_ble_eq_true rfl) (by rw [C.2.1]; exact Nat.le_of_ble_eq_true rfl) rfl rfl ?_
    refine st_iconst (pc := 15) (v := 1) C.1 dL_fault_15 (by decide) ?_
    exact rt_i C (Or.inl rfl) dL_fault_16 (by decide) (by decide) ⟨_, rfl, Or.inr ⟨rfl, rfl, hu⟩⟩
end LDF
