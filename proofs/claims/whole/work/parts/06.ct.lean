/-! CONTRACTS over the heap -/
def Wd (D : va_G) (dA : Nat → ClassId) (base : Nat) (h : Hp) (U : State) : Prop := Hok D dA base h U U.heap ∧ va_K D gcls (gtys dA) U ∧ base ≤ U.heap.size ∧ Ext base U U.heap
theorem va_Nw.movedM {own C : String} {idx : Nat} {y : MethodName} {s U : State} (hW : s.WarmedH U.vm) (h : va_Nw (.methodLinkNest own idx y C) s) : va_Nw (.methodLinkNest own idx y C) U := va_Nw.warmM hW h
theorem Ext.warm {base : Nat} {s U : State} {H H1 : Heap} (hW : s.WarmedH U.vm) (hq : ∀ q : Nat, q < H.size → q < base → H1[q]? = H[q]?) (h : Ext base s H) : Ext base U H1 := ⟨va_AO.moved hW.alike h.1, va_AO.moved hW.alike h.2.1, va_Nw.warmM hW h.2.2⟩
def Qcx (D : va_G) (dA : Nat → ClassId) (base : Nat) (post : Option Value → Hp → Prop) : Array Value → State → Outcome → State → Prop := fun _ st o t =>
  (∃ v h', o = .returned v ∧ post v h' ∧ Wd D dA base h' t) ∧ va_F (fun q => base ≤ q) st t
abbrev MD : Type := MethodName × ByteArray × Nat × Option FieldType
def mws (M : MD) : List Cond := .code M.1 M.2.1 M.2.2.1 M.2.2.2 :: gw
def rmd (d mc ms : Nat) : Room := { frames := d, cells := mc, slots := ms, locals := 30 * d }
def Ct (M : MD) (d mc ms : Nat) (av : List Value) (h : Hp) (post : Option Value → Hp → Prop) : Prop :=
  ∀ (l : Launch) (D : va_G) (dA : Nat → ClassId) (base : Nat), l.stackTraces = false → Met l M.1 (mws M) (rmd d mc ms) (va_Pc av (Wd D dA base h)) (Qcx D dA base post) mc ms (fun q => base ≤ q)
theorem Wd.blind (D : va_G) (dA : Nat → ClassId) (base : Nat) (h : Hp) (av : List Value) : FrameBlind (va_Pc av (Wd D dA base h)) := fun a U g mk q => by
  obtain ⟨q1, q2, q3, q4, q5⟩ := q
  exact ⟨q1, Hok.moved (u := U) (Vm.Alike.refl U.vm) q2, va_K.moved (u := U) (U := U.calling g mk a) (Vm.Alike.refl U.vm) q3, q4, Ext.warm (s := U) (U := U.calling g mk a) (H := U.heap) (State.WarmedH.refl U) (fun _ _ _ => rfl) q5⟩
theorem Ct.weak {M : MD} {d mc ms : Nat} {av : List Value} {h : Hp} {post post' : Option Value → Hp → Prop} (hc : Ct M d mc ms av h post) (hp : ∀ v h', post v h' → post' v h') : Ct M d mc ms av h post' := by
  intro l D dA base hl
  have h1 := hc l D dA base hl
  intro p e a1 a2 a3 s m args below a4 a5 a6 a7
  obtain ⟨k, o, b1, b2, b3, ⟨⟨⟨v, h', c1, c2, c3⟩, c4⟩, c5⟩⟩ := h1 p e a1 a2 a3 s m args below a4 a5 a6 a7
  exact ⟨k, o, b1, b2, b3, ⟨⟨⟨v, h', c1, hp v h' c2, c3⟩, c4⟩, c5⟩⟩
/-- what a walk knows of its method -/
def Cm (X : CX) (M : MD) (d mc ms : Nat) (post : Option Value → Hp → Prop) : Prop :=
  Cx X M.1.cls M.2.1 ∧ X.nL = M.2.2.1 ∧ X.Rm = rmd d mc ms ∧ X.meth.sig.returnType = M.2.2.2 ∧ X.meth.name = M.1.name ∧ X.Q = MQ X.below (Qcx X.D X.dA X.base post) X.args X.s mc ms (fun q => X.base ≤ q) ∧ X.l.stackTraces = false
theorem lv_args1 : ∀ (av : List Value) (k : Nat), (∀ v ∈ av, v.category = 1) → ∀ (i : Nat) (v : Value), av[i]? = some v → (k + i, v) ∈ lv_args k av
  | [], _, _, i, v, h => by simp at h
  | w :: r, k, hc, i, v, h => by
    have hw : ¬ w.category = 2 := by rw [hc w List.mem_cons_self]; decide
    rw [lv_args, if_neg hw]
    match i, h with
    | 0, h => simp at h; subst h; exact List.mem_cons_self
    | j + 1, h =>
      simp at h
      have := lv_args1 r (k + 1) (fun v hv => hc v (List.mem_cons_of_mem _ hv)) j v h
      rw [show k + 1 + j = k + (j + 1) by omega] at this
      exact List.mem_cons_of_mem _ this
theorem lg_sl1 : ∀ (av : List Value), (∀ v ∈ av, v.category = 1) → (lg_sl av).length = av.length
  | [], _ => rfl
  | w :: r, hc => by
    have hw := hc w List.mem_cons_self
    have := lg_sl1 r (fun v hv => hc v (List.mem_cons_of_mem _ hv))
    cases w <;> simp_all [lg_sl, Value.category]
def ent (av : List Value) (n : Nat) : List (Option Value) := av.map some ++ List.replicate (n - av.length) none
theorem Ct.of {M : MD} {d mc ms : Nat} {av : List Value} {h : Hp} {post : Option Value → Hp → Prop} (hy : plainFor M.1 = true) (hav : av.length ≤ M.2.2.1) (hc1 : ∀ v ∈ av, v.category = 1)
    (body : ∀ X, Cm X M d mc ms post → At X 0 0 0 (ent av M.2.2.1) [] h) : Ct M d mc ms av h post := by
  intro l D dA base hl
  refine va_MetF (cc := M.2.1) (maxL := M.2.2.1) (ret := M.2.2.2) hy rfl ?_
  intro p e s m args below meth c s₁ B hml hv
  obtain ⟨rfl, hH, hK, hB, hE⟩ := hv
  have hts : ∀ w ∈ gw, w.before av.toArray s = true := fun w hw => atoms_spec (ws := mws M) B.pre w (List.mem_cons_of_mem _ hw)
  have key := body ((p, l, e, rmd d mc ms, s, m, av.toArray), (below, meth, c, MQ below (Qcx D dA base post) av.toArray s mc ms (fun q => base ≤ q)), (D, dA, base, M.2.2.1))
    ⟨⟨B.exec, B.bytes, hml, findClass_of_methodNamed B.named, hts, hK, hB, B.notSynchronized, hE⟩, rfl, rfl, B.returns, (name_of_methodNamed B.named B.method).1, rfl, hl⟩
  rw [lg_entry_eq]
  have hlen := lg_sl1 av hc1
  have hl9 := lv_entry av (n := M.2.2.1) (by rw [hlen]; exact hav)
  refine key s.heap [] _ hH va_S.rf ⟨hl9.1, hl9.2.1, fun i v hi => ?_⟩
  have hi2 : av[i]? = some v := by
    unfold ent at hi
    by_cases hlt : i < av.length
    · rw [List.getElem?_append_left (by simpa using hlt), List.getElem?_map] at hi
      cases hx : av[i]? with
      | none => rw [hx] at hi; cases hi
      | some w => rw [hx] at hi; simp at hi; rw [hi]
    · rw [List.getElem?_append_right (by simpa using hlt), List.getElem?_replicate] at hi
      split at hi <;> simp at hi
  have := hl9.2.2 (0 + i, v) (lv_args1 av 0 hc1 i v hi2)
  simpa using this
section RET
variable {X : CX} {M : MD} {d mc ms : Nat} {post : Option Value → Hp → Prop} {cells slots pc : Nat} {ls : List (Option Value)} {h : Hp}
theorem ret_W {H : Heap} {locs : List Loc} (C : Cm X M d mc ms post) (q : Hok X.D X.dA X.base h X.s H) (b : va_S (fun q => X.base ≤ q) X.s.heap H locs) {v : Option Value} (hp : post v h) (t : State) (ht : t.heap = H) (hW : X.s.WarmedH t.vm) : Qcx X.D X.dA X.base post X.args X.s (.returned v) t := by
  subst ht
  have hE := C.1.2.2.2.2.2.2.2.2
  exact ⟨⟨v, h, rfl, hp, q.moved hW.alike, va_K.moved hW.alike C.1.2.2.2.2.2.1, Nat.le_trans C.1.2.2.2.2.2.2.1 b.1, hE.warm hW (fun x h1 h2 => b.2.1 x h1 (Nat.not_le.mpr h2))⟩, b.F rfl⟩
theorem rt_i (C : Cm X M d mc ms post) {v : Int32} (hr : M.2.2.2 = some .int ∨ (M.2.2.2 = some .boolean ∧ (v = 0 ∨ v = 1))) (hd : decode M.2.1 pc = .ok (.ireturn, 1)) (hc : cells ≤ mc) (hs : slots ≤ ms) (hp : post (some (.int v)) h) : At X cells slots pc ls [.int v] h := by
  intro H locs sl q b c
  obtain ⟨C1, -, -, hret, -, hQ, -⟩ := id C
  rw [hQ]
  refine W.widen hc hs ?_
  rcases hr with hr | ⟨hr, hv⟩
  · exact W.iret C1.1 C1.2.1 (hret.trans hr) (ret_W C q b hp) b.2.2 hd C1.2.2.2.2.2.2.2.1
  · exact W.zret C1.1 C1.2.1 (hret.trans hr) (by rcases hv with rfl | rfl <;> decide) (ret_W C q b hp) b.2.2 hd C1.2.2.2.2.2.2.2.1
theorem rt_v (C : Cm X M d mc ms post) (hr : M.2.2.2 = none) (hd : decode M.2.1 pc = .ok (.return_, 1)) (hc : cells ≤ mc) (hs : slots ≤ ms) (hp : post none h) : At X cells slots pc ls [] h := by
  intro H locs sl q b c
  obtain ⟨C1, -, -, hret, -, hQ, -⟩ := id C
  rw [hQ]
  refine W.widen hc hs ?_
  exact W.vret C1.1 C1.2.1 (hret.trans hr) (ret_W C q b hp) b.2.2 hd C1.2.2.2.2.2.2.2.1
theorem rt_a (C : Cm X M d mc ms post) (o : Option Nat) {R : String} (hr : M.2.2.2 = some (.object R)) (hd : decode M.2.1 pc = .ok (.areturn, 1)) (hc : cells ≤ mc) (hs : slots ≤ ms) (hp : post (some (va_rf o)) h) : At X cells slots pc ls [va_rf o] h := by
  intro H locs sl q b c
  obtain ⟨C1, -, -, hret, -, hQ, -⟩ := id C
  rw [hQ]
  refine W.widen hc hs ?_
  exact W.aret C1.1 C1.2.1 (hret.trans hr) (Or.inl ⟨R, rfl⟩) (by cases o <;> simp [va_rf]) (ret_W C q b hp) b.2.2 hd C1.2.2.2.2.2.2.2.1
end RET
section CALL
variable {X : CX} {own : String} {cc : ByteArray} {cells slots pc : Nat} {ls : List (Option Value)} {rest : List Value} {h : Hp} {M : MD} {d d0 mc ms : Nat} {post : Option Value → Hp → Prop}
theorem Qcx.go (C : Cx X own cc) {H : Heap} {locs : List Loc} {sl : Array Slot} {st0 : List Value} {a : Array Value}
    (hr : va_Run X.p X.l X.e X.Rm X.s X.m X.args X.below X.meth X.c H locs cells slots mc ms (F0 X.m pc sl st0) rest (Qcx X.D X.dA X.base post a) (fun q => X.base ≤ q)) (b : va_S (fun q => X.base ≤ q) X.s.heap H locs) (c : lh sl X.nL ls)
    (kk : ∀ v h', post v h' → At X (cells + mc) (slots + ms) (pc + 3) ls (v.toList ++ rest) h') : W X.p X.l X.e X.Rm X.s X.m X.args X.below X.meth X.c H locs cells slots X.Q (F0 X.m pc sl st0) := by
  intro T hT Y
  obtain ⟨v, st₀, t, T', L, h0, Y', hL, e1, e2, ⟨⟨v', h', hv, hp, hw⟩, hz, hk⟩, stp⟩ := hr T hT Y
  cases hv
  rw [h0] at hz hk
  have hWm : X.s.vm.Alike t.vm := by rw [← e2]; exact Y'.warmed.alike
  obtain ⟨t2, a1, b1⟩ := kk v h' hp T'.heap (locs ++ L) sl (by rw [e1]; exact hw.1.moved hWm.symm)
    ⟨Nat.le_trans b.1 (by rw [e1]; exact hz), fun q h1 h2 => by rw [e1, hk q (Nat.lt_of_lt_of_le h1 b.1) h2]; exact b.2.1 q h1 h2, fun q hq => by
      rcases List.mem_append.mp hq with h | h
      · exact b.2.2 q h
      · exact hL q h⟩ c T' rfl Y'
  exact ⟨t2, stp t2 a1, b1⟩
theorem Wd.at (C : Cx X own cc) {H : Heap} {locs : List Loc} (q : Hok X.D X.dA X.base h X.s H) (b : va_S (fun q => X.base ≤ q) X.s.heap H locs) (U : State) (hU : U.heap = H) (hW : X.s.WarmedH U.vm) : Wd X.D X.dA X.base h U := by
  subst hU
  exact ⟨q.moved hW.alike, va_K.moved hW.alike C.2.2.2.2.2.1, Nat.le_trans C.2.2.2.2.2.2.1 b.1, C.2.2.2.2.2.2.2.2.warm hW (fun x h1 h2 => b.2.1 x h1 (Nat.not_le.mpr h2))⟩
theorem mws_in (hw : Cond.code M.1 M.2.1 M.2.2.1 M.2.2.2 ∈ gw) : ∀ w ∈ mws M, w ∈ gw := fun w h => (List.mem_cons.mp h).elim (fun e => by rw [e]; exact hw) id
/-- the callee, its place, its words -/
def cOk (own : String) (idx n : Nat) (M : MD) : Prop := Cond.methodLink own idx M.1 ∈ gw ∧ Cond.code M.1 M.2.1 M.2.2.1 M.2.2.2 ∈ gw ∧ Cond.initialized M.1.cls ∈ gw ∧ (M.1.cls ≠ "java/lang/invoke/MethodHandle" ∧ M.1.cls ≠ "java/lang/invoke/VarHandle" ∧ (parseMethodDescriptor M.1.desc).map (fun d => d.parameters.length) = some n) ∧ M.2.2.1 ≤ 11
theorem st_callV (C : Cx X own cc) {idx n b ci : Nat} {As : List Value} {R : String} {T : u_T} {N : Nat} {mc0 ms0 : Nat} (hR : X.Rm = rmd d0 mc0 ms0) (hl : X.l.stackTraces = false) (hok : cOk own idx n M) (hw1 : Cond.instanceMethod M.1 ∈ gw) (hw2 : Cond.selects R M.1 M.1 ∈ gw) (hc : gcls[ci]? = some (R, T, N)) (hyc : M.1.cls = R) (hci : ci < 10) (hd : decode cc pc = .ok (.invokevirtual idx, 3)) (hn : As.length = n) (hdd : d < d0) (hcat : (rest.map fun v => v.category).sum ≤ 8)
    (hK : h.K b = ci + 1) (hct : Ct M d mc ms (.ref b :: As) h post) (hmc : cells + mc ≤ mc0) (hms : slots + ms ≤ ms0)
    (kk : ∀ v h', post v h' → At X (cells + mc) (slots + ms) (pc + 3) ls (v.toList ++ rest) h') : At X cells slots pc ls (As.reverse ++ .ref b :: rest) h := by
  intro H locs sl q bb c
  obtain ⟨k1, k2, k3, k4, k5⟩ := hok
  refine Qcx.go C (va_runV (As := As) (rest := rest) (Ts := gw) ⟨C.1, C.2.1, C.2.2.1, C.2.2.2.1, C.2.2.2.2.1⟩ (hct X.l X.D X.dA X.base hl) (cwV n C.2.2.2.2.1 (gw_good (fun w hw => ?_)) rfl rfl rfl ⟨hyc, k4⟩ ⟨?_, ?_⟩) ⟨Wd.blind _ _ _ _ _, va_recv C.2.2.2.2.2.1 (va1 (q.1 b _ (cof_ob hK hci)).2) hc (q0 := 0) rfl, fun U hU hW => ⟨rfl, Wd.at C q bb U hU hW⟩⟩ rfl hn c.1 rfl (lv_room hcat) hd ⟨?_, ?_⟩) bb c kk
  · unfold wsV at hw
    rcases List.mem_append.mp hw with h1 | h1
    · simp only [List.mem_cons, List.not_mem_nil, or_false] at h1
      rcases h1 with rfl | rfl | rfl | rfl
      · exact k1
      · exact hw1
      · exact hw2
      · rw [← hyc]; exact k3
    · exact mws_in k2 w h1
  · rw [hR]; show d + 1 ≤ d0; omega
  · rw [hR]; show 8 + (M.2.2.1 + 11) + 30 * d ≤ 30 * d0; omega
  · rw [hR]; exact hmc
  · rw [hR]; exact hms
theorem st_callS (C : Cx X own cc) {idx n : Nat} {As : List Value} {mc0 ms0 : Nat} (hR : X.Rm = rmd d0 mc0 ms0) (hl : X.l.stackTraces = false) (hok : cOk own idx n M) (hw1 : Cond.static M.1 ∈ gw) (hd : decode cc pc = .ok (.invokestatic idx, 3)) (hn : As.length = n) (hdd : d < d0) (hcat : (rest.map fun v => v.category).sum ≤ 8)
    (hct : Ct M d mc ms As h post) (hmc : cells + mc ≤ mc0) (hms : slots + ms ≤ ms0)
    (kk : ∀ v h', post v h' → At X (cells + mc) (slots + ms) (pc + 3) ls (v.toList ++ rest) h') : At X cells slots pc ls (As.reverse ++ rest) h := by
  intro H locs sl q bb c
  obtain ⟨k1, k2, k3, k4, k5⟩ := hok
  refine Qcx.go C (va_runS (As := As) (rest := rest) (Ts := gw) ⟨C.1, C.2.1, C.2.2.1, C.2.2.2.1, C.2.2.2.2.1⟩ (hct X.l X.D X.dA X.base hl) (va_cwS n C.2.2.2.2.1 (gw_good (fun w hw => ?_)) rfl rfl rfl k4 ⟨?_, ?_⟩) ⟨Wd.blind _ _ _ _ _, fun U hU hW => ⟨rfl, Wd.at C q bb U hU hW⟩⟩ rfl hn c.1 rfl (lv_room hcat) hd ⟨?_, ?_⟩) bb c kk
  · unfold va_wsS at hw
    rcases List.mem_append.mp hw with h1 | h1
    · simp only [List.mem_cons, List.not_mem_nil, or_false] at h1
      rcases h1 with rfl | rfl | rfl
      · exact k1
      · exact hw1
      · exact k3
    · exact mws_in k2 w h1
  · rw [hR]; show d + 1 ≤ d0; omega
  · rw [hR]; show 8 + (M.2.2.1 + 11) + 30 * d ≤ 30 * d0; omega
  · rw [hR]; exact hmc
  · rw [hR]; exact hms
theorem st_callI (C : Cx X own cc) {idx n b : Nat} {As : List Value} {y : MethodName} {cb : ByteArray} {mL : Nat} {mc0 ms0 : Nat} (hR : X.Rm = rmd d0 mc0 ms0) (hl : X.l.stackTraces = false) (hM : M = (y, cb, mL, none)) (hok : cOk own idx n M) (hw1 : Cond.instanceMethod M.1 ∈ gw) (hy1 : M.1.name = "<init>") (hd : decode cc pc = .ok (.invokespecial idx, 3)) (hn : As.length = n) (hdd : d < d0) (hcat : (rest.map fun v => v.category).sum ≤ 8)
    (hct : Ct M d mc ms (.ref b :: As) h post) (hmc : cells + mc ≤ mc0) (hms : slots + ms ≤ ms0)
    (kk : ∀ v h', post v h' → At X (cells + mc) (slots + ms) (pc + 3) ls (v.toList ++ rest) h') : At X cells slots pc ls (As.reverse ++ .ref b :: rest) h := by
  intro H locs sl q bb c
  subst hM
  obtain ⟨k1, k2, k3, k4, k5⟩ := hok
  refine Qcx.go C (va_runI (As := As) (rest := rest) (Ts := gw) ⟨C.1, C.2.1, C.2.2.1, C.2.2.2.1, C.2.2.2.2.1⟩ (hct X.l X.D X.dA X.base hl) (cwI n C.2.2.2.2.1 (gw_good (mws_in k2)) rfl rfl rfl (C.2.2.2.2.1 _ k3) (C.2.2.2.2.1 _ k1) (C.2.2.2.2.1 _ hw1) hy1 k4 ⟨?_, ?_⟩) ⟨Wd.blind _ _ _ _ _, fun U hU hW => ⟨rfl, Wd.at C q bb U hU hW⟩⟩ rfl hn c.1 rfl (lv_room hcat) hd ⟨?_, ?_⟩) bb c kk
  · rw [hR]; show d + 1 ≤ d0; omega
  · rw [hR]; show 8 + (mL + 11) + 30 * d ≤ 30 * d0
    have : mL ≤ 11 := k5
    omega
  · rw [hR]; exact hmc
  · rw [hR]; exact hms
/-- the constructor of the queue: a nest mate's -/
theorem st_callIN (C : Cx X own cc) {idx n b : Nat} {As : List Value} {y : MethodName} {cb : ByteArray} {mL : Nat} {mc0 ms0 : Nat} {host : String} (hR : X.Rm = rmd d0 mc0 ms0) (hl : X.l.stackTraces = false) (hM : M = (y, cb, mL, none)) (hnest : va_Nw (.methodLinkNest own idx M.1 host) X.s) (hok : Cond.code M.1 M.2.1 M.2.2.1 M.2.2.2 ∈ gw ∧ Cond.initialized M.1.cls ∈ gw ∧ (M.1.cls ≠ "java/lang/invoke/MethodHandle" ∧ M.1.cls ≠ "java/lang/invoke/VarHandle" ∧ (parseMethodDescriptor M.1.desc).map (fun d => d.parameters.length) = some n) ∧ M.2.2.1 ≤ 11) (hw1 : Cond.instanceMethod M.1 ∈ gw) (hy1 : M.1.name = "<init>") (hd : decode cc pc = .ok (.invokespecial idx, 3)) (hn : As.length = n) (hdd : d < d0) (hcat : (rest.map fun v => v.category).sum ≤ 8)
    (hct : Ct M d mc ms (.ref b :: As) h post) (hmc : cells + mc ≤ mc0) (hms : slots + ms ≤ ms0)
    (kk : ∀ v h', post v h' → At X (cells + mc) (slots + ms) (pc + 3) ls (v.toList ++ rest) h') : At X cells slots pc ls (As.reverse ++ .ref b :: rest) h := by
  intro H locs sl q bb c
  subst hM
  obtain ⟨k2, k3, k4, k5⟩ := hok
  refine Qcx.go C (va_runIN (As := As) (rest := rest) (Ts := gw) ⟨C.1, C.2.1, C.2.2.1, C.2.2.2.1, C.2.2.2.2.1⟩ (hct X.l X.D X.dA X.base hl) ⟨va_cnB n C.2.2.2.2.1 (gw_good (mws_in k2)) rfl rfl rfl hnest (C.2.2.2.2.1 _ k3) k4 ⟨?_, ?_⟩, hy1, C.2.2.2.2.1 _ hw1⟩ ⟨Wd.blind _ _ _ _ _, fun U hU hW => ⟨rfl, Wd.at C q bb U hU hW⟩⟩ rfl hn c.1 rfl (lv_room hcat) hd ⟨?_, ?_⟩) bb c kk
  · rw [hR]; show d + 1 ≤ d0; omega
  · rw [hR]; show 8 + (mL + 11) + 30 * d ≤ 30 * d0
    have : mL ≤ 11 := k5
    omega
  · rw [hR]; exact hmc
  · rw [hR]; exact hms
end CALL
