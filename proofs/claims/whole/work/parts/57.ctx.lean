/-! A NoSuchElementException with a text: its constructor's place of the super call is 13 -/
section NSE
abbrev NSE : String := "java/util/NoSuchElementException"
abbrev RTE : String := "java/lang/RuntimeException"
def rx13 : ByteArray := ⟨#[42, 43, 183, 0, 13, 177]⟩
def nsX : List Cond := [.methodLink RX8 129 (Bundle.initS NSE), .instantiable NSE 6, .castable NSE NSE, .selects NSE Bundle.tFill0 Bundle.tFill0, .selects NSE Bundle.tFill Bundle.tFill,
   .lays NSE Bundle.tN "cause" "Ljava/lang/Throwable;", .lays NSE Bundle.tN "stackTrace" Bundle.steD, .lays NSE Bundle.tN "suppressedExceptions" Bundle.listD, .lays NSE Bundle.tN "detailMessage" "Ljava/lang/String;",
   .isRef (.static Bundle.tN "UNASSIGNED_STACK" Bundle.steD), .isRef (.static Bundle.tN "SUPPRESSED_SENTINEL" Bundle.listD),
   .fieldLink Bundle.tN 198 Bundle.tN "backtrace" "Ljava/lang/Object;", .lays Bundle.tN Bundle.tN "backtrace" "Ljava/lang/Object;", .lays NSE Bundle.tN "backtrace" "Ljava/lang/Object;"]
def nsL : List Cond := Bundle.throwableAtoms ++ (Bundle.throwableSAtoms ++ (Bundle.passSAtoms NSE RTE 13 rx13 ++ (Bundle.chainSAtoms RTE ["java/lang/Exception"] ++ nsX)))
def nsW : List Cond := nsL.filter vx_no
theorem nsL_1 {w : Cond} (h : w ∈ Bundle.throwableAtoms) : w ∈ nsL := List.mem_append_left _ h
theorem nsL_2 {w : Cond} (h : w ∈ Bundle.throwableSAtoms) : w ∈ nsL := List.mem_append_right _ (List.mem_append_left _ h)
theorem nsL_3 {w : Cond} (h : w ∈ Bundle.passSAtoms NSE RTE 13 rx13) : w ∈ nsL := List.mem_append_right _ (List.mem_append_right _ (List.mem_append_left _ h))
theorem nsL_4 {w : Cond} (h : w ∈ Bundle.chainSAtoms RTE ["java/lang/Exception"]) : w ∈ nsL := List.mem_append_right _ (List.mem_append_right _ (List.mem_append_right _ (List.mem_append_left _ h)))
theorem nsL_5 {w : Cond} (h : w ∈ nsX) : w ∈ nsL := List.mem_append_right _ (List.mem_append_right _ (List.mem_append_right _ (List.mem_append_right _ h)))
/-- three constructors, one behind the other -/
theorem nse_pass {args : Array Value} {s : State} {pl : Platform} (hpl : pl.magicAccessors = ({} : Platform).magicAccessors) {top : MethodId} (htop : s.methodNamed? (Bundle.initS Bundle.tN) = some top) (h : ∀ w ∈ nsL, w.before args s = true) :
    ∃ (P1 : PassC) (Ps : List PassC), Ps.length = 2 ∧ P1.LinksS pl s ∧ (∀ P, P ∈ Ps → P.LinksS pl s) ∧ s.methodNamed? (Bundle.initS NSE) = some P1.m ∧ P1.sup = firstOf top (Ps.map (·.toPassT)) ∧ PassesOn top (Ps.map (·.toPassT)) := by
  obtain ⟨P, L, hm, hs⟩ := PassC.ofS_atoms (args := args) (s := s) hpl (X := NSE) (Y := RTE) (index := 13) (bytes := rx13) (by decide +kernel) (by decide) (by decide +kernel) (by decide +kernel) (by decide +kernel) (by decide +kernel) (fun w hw => h w (nsL_3 hw))
  obtain ⟨Q, Qs, e1, e2, e3, e4, e5, e6⟩ := Bundle.chainS (args := args) hpl htop ["java/lang/Exception"] RTE (by decide +kernel) (fun n hn => by rw [List.mem_singleton.mp hn]; decide +kernel) (fun w hw => h w (nsL_4 hw))
  refine ⟨P, Q :: Qs, by rw [List.length_cons, e1]; rfl, L, fun Z hZ => ?_, hm, Option.some.inj (hs.symm.trans e4), e5, e6⟩
  rcases List.mem_cons.mp hZ with rfl | hZ
  · exact e2
  · exact e3 Z hZ
end NSE
section NSC
variable {p : Program} {l : Launch} {e : Env} {R : Room} {s : State} {m₀ : MethodId} {args : Array Value} {below : List Frame} {meth : Method} {c : Code} {Y0 : State} {locs : List Loc} {cells slots : Nat}
set_option maxHeartbeats 1000000 in
theorem nse_ctor (X : Stand p l e R s m₀ args below meth c Y0 locs cells slots) (hexec : p.tables.exec = Jvm.exec) (htr : e.platform.stackTraces = false) (hown : s.vm.findClass RX8 = some m₀.cls) (h : ∀ w ∈ nsL, w.before args s = true)
    (hlocs : ∀ x ∈ locs, ∀ cell, s.heap[x.base]? = some cell → cell.vm.isStatics = false)
    {a : Addr} {cX : ClassId} {kX : Class} (hfX : s.vm.findClass NSE = some cX) (hkX : s.vm.classes[cX]? = some kX) (hcell : Y0.heap[a]? = some (freshCell cX kX)) (hnew : s.heap.size ≤ a) {msg : Value} (hmsg : msg.isRef = true)
    {g : JFrame} (hg : g.method = m₀) (hsize : g.locals.size = c.maxLocals) (hlocked : g.locked = none) (hentered : g.entered = []) {rest : List Value} (hstack : g.stack = msg :: .ref a :: .ref a :: rest)
    (hd6 : decode c.code g.pc = .ok (.invokespecial 129, 3)) (hd9 : decode c.code (g.pc + 3) = .ok (.athrow, 1)) (hout : ∀ x ∈ c.exceptionTable.toList, covers x (g.pc + 3) = false)
    (hRf : 5 < R.frames) (hRl : 2 * g.monitorRoom + ((Value.ref a :: rest).map fun v => v.category).sum + 81 ≤ R.locals) (hlocks : meth.locks = false) :
    ∃ U : State, Steps p.tables e below (Y0.setTop g) U ∧ U.status = .running ∧ Ended U below (.threw a) ∧ s.WarmedH U.vm ∧ s.sameButNew ({ U with vm := s.vm } : State) locs cells slots ∧
      ∃ ce, U.heap[a]? = some ce ∧ ce.vm = .none ∧ s.vm.findClass NSE = some ce.cls := by
  have hpl : e.platform.magicAccessors = ({} : Platform).magicAccessors := by rw [X.admits.platform]
  have hx : ∀ w ∈ nsX, w.before args s = true := fun w hw => h w (nsL_5 hw)
  obtain ⟨T, Z0, L, -, Y⟩ := ThrowableC.of_atoms (args := args) (s := s) (pl := e.platform) (by rw [X.admits.platform]) (by rw [X.admits.platform]) hpl (fun w hw => h w (nsL_1 hw))
  obtain ⟨Z, M, LZ, LM, hnZ⟩ := Init0T.ofS_atoms (args := args) hpl L Y (fun w hw => h w (nsL_2 hw))
  obtain ⟨P1, Ps, hlen, L1, hL, hP1, hlink1, hlink⟩ := nse_pass (args := args) hpl hnZ h
  have hfound : s.vm.findClass NSE = some P1.m.cls := findClass_of_methodNamed hP1
  cases Option.some.inj (hfX.symm.trans hfound)
  obtain ⟨c1, kX', hc1, hk, hord, -, -, hn6⟩ := Cond.instantiable_spec (hx (.instantiable NSE 6) (by simp [nsX]))
  cases Option.some.inj (hc1.symm.trans hfound)
  cases Option.some.inj (hkX.symm.trans hk)
  have sel : ∀ {y : MethodName} {mk : MethodId}, (Cond.selects NSE y y) ∈ nsX → s.methodNamed? y = some mk → (y.cls ≠ "java/lang/invoke/MethodHandle" ∧ y.cls ≠ "java/lang/invoke/VarHandle") → selectMethod e.platform s.vm P1.m.cls mk = .method mk := by
    intro y mk hy hn hne
    obtain ⟨c2, r2, m2, q1, q2, q3, q4, -⟩ := Cond.selects_spec (hx _ hy)
    cases Option.some.inj (q1.symm.trans hfound)
    cases Option.some.inj (q2.symm.trans (State.methodFound?_of_named hn hne))
    cases Option.some.inj (q3.symm.trans hn)
    rw [Launch.admits_selectMethod X.admits]
    exact q4
  have hsel0 := sel (y := Bundle.tFill0) (by simp [nsX]) Y.fill0 (by decide)
  have hselF := sel (y := Bundle.tFill) (by simp [nsX]) Y.fill (by decide)
  obtain ⟨cellS0, hcS0, hiss⟩ := Y.statics
  obtain ⟨u0, hu0⟩ := Cond.staticRefV Y.unassigned L.unassignedStatic L.statics hcS0 hiss (hx (.isRef (.static Bundle.tN "UNASSIGNED_STACK" Bundle.steD)) (by simp [nsX]))
  obtain ⟨sen, hsen⟩ := Cond.staticRefV Y.sentinel L.sentinelStatic L.statics hcS0 hiss (hx (.isRef (.static Bundle.tN "SUPPRESSED_SENTINEL" Bundle.listD)) (by simp [nsX]))
  obtain ⟨ci198, i198, fB, hk198, hg198, ha198, hsB, -, hnB, htB, hffB⟩ := Cond.ownField (t := .object "java/lang/Object") Y.found L.cls (by decide +kernel) (hx (.fieldLink Bundle.tN 198 Bundle.tN "backtrace" "Ljava/lang/Object;") (by simp [nsX])) (hx (.lays Bundle.tN Bundle.tN "backtrace" "Ljava/lang/Object;") (by simp [nsX])) e.platform hpl
  obtain ⟨cellS, hcS', heS, -, hkeep⟩ := X.same.2.2.2.2.2 T.aS cellS0 hcS0
  have hcellS : Y0.heap[T.aS]? = some cellS := hcS'
  have hout' : ∀ i, (⟨T.aS, i⟩ : Loc) ∉ locs := fun i hmem => by
    have := hlocs _ hmem cellS0 hcS0
    rw [hiss] at this
    cases this
  have hknownS : cellS.vm ≠ .unknown := by
    rw [heS]
    intro hu
    rw [show cellS0.vm = .unknown from hu] at hiss
    cases hiss
  have hneS : T.aS ≠ a := Nat.ne_of_lt (Nat.lt_of_lt_of_le (Array.getElem?_eq_some_iff.mp hcS0).1 hnew)
  obtain ⟨iM, hffM⟩ := Y.msg
  obtain ⟨tyC, dC, hdC, hdnC⟩ := Cond.laysAt hfound hk Y.cause (hx (.lays NSE Bundle.tN "cause" "Ljava/lang/Throwable;") (by simp [nsX]))
  obtain ⟨tyS, dS, hdS, hdnS⟩ := Cond.laysAt hfound hk Y.stack (hx (.lays NSE Bundle.tN "stackTrace" Bundle.steD) (by simp [nsX]))
  obtain ⟨tyP, dP, hdP, hdnP⟩ := Cond.laysAt hfound hk Y.supp (hx (.lays NSE Bundle.tN "suppressedExceptions" Bundle.listD) (by simp [nsX]))
  obtain ⟨tyM, dM, hdM, hdnM⟩ := Cond.laysAt hfound hk hffM (hx (.lays NSE Bundle.tN "detailMessage" "Ljava/lang/String;") (by simp [nsX]))
  obtain ⟨tyB, dB, hdB, hdnB⟩ := Cond.laysAt hfound hk hffB (hx (.lays NSE Bundle.tN "backtrace" "Ljava/lang/Object;") (by simp [nsX]))
  have bC := Cond.laysApart hdB hdC hdnB hdnC (by rw [hnB, Y.causeName]; decide)
  have bS := Cond.laysApart hdB hdS hdnB hdnS (by rw [hnB, Y.stackName]; decide)
  have bP := Cond.laysApart hdB hdP hdnB hdnP (by rw [hnB, Y.suppName]; decide)
  have hskip : SkipFacts T e.platform s (fun u => u) u0 ((preparedCellV T.toThrowableT (freshCell P1.m.cls kX) a u0 sen).withEntry Y0.cur) :=
    ⟨{ ci198 := ci198, i198 := i198, fBack := fB }, ⟨hk198, hg198, ha198, hsB⟩, by
      have := fresh_default (c := P1.m.cls) tyB
      rw [htB] at this
      simpa [preparedCellV, Cell.setSlot, Cell.withEntry, Array.getElem?_setIfInBounds, bC, bS, bP, bC.symm, bS.symm, bP.symm, defaultValue] using this, fun _ _ => rfl⟩
  obtain ⟨tm, methC, cdC, kC, vm₁, hnC, -, -, -, -, -, -, -, hW₁, st1⟩ := Steps.initColdS (tb := p.tables) (e := e) (below := below) (s := s) (U := Y0) X.here hexec X.warmed hpl hown (t := Bundle.initS NSE) rfl rfl (by decide)
    (hx (.methodLink RX8 129 (Bundle.initS NSE)) (by simp [nsX])) (h (.instanceMethod (Bundle.initS NSE)) (nsL_3 (by simp [Bundle.passSAtoms]))) (bytes := rx13) (maxL := 2) (h (.code (Bundle.initS NSE) rx13 2 none) (nsL_3 (by simp [Bundle.passSAtoms])))
    (f := g) hg (a := a) (msg := msg) (rest := .ref a :: rest) hstack hd6
  cases Option.some.inj (hnC.symm.trans hP1)
  have X₁ := X.noted hW₁
  obtain ⟨vm₂, X₂, st2⟩ := X₁.ctorMessageOffV hexec (g := { g with stack := .ref a :: rest }) hg hsize T L Z LZ M LM (P1 :: Ps)
    (fun P hP => by
      rcases List.mem_cons.mp hP with rfl | hP
      · exact L1
      · exact hL P hP) ⟨hlink1, hlink⟩ (u0 := u0) (sen := sen) (self := a) hmsg (cell := freshCell P1.m.cls kX) (cellS := cellS)
    hcell (fun _ => by simp) (by simp) rfl rfl hsel0 hselF hcellS hneS hknownS (by rw [hkeep _ (hout' _)]; exact hu0) (by rw [hkeep _ (hout' _)]; exact hsen)
    (Takes.of_laid hk hord tyC (by rw [Y.causeType]; rfl)) (Takes.of_laid hk hord tyS (by rw [Y.stackType]; exact fits_refV_array _ u0)) (Takes.of_laid hk hord tyP (by rw [Y.suppType]; exact fits_refV_object _ sen))
    (Takes.of_laid hk hord tyM (by rw [Y.msgType]; exact fits_refV_object _ ⟨msg, hmsg⟩)) Y.objLocals hskip htr [] hd6
    (by simp only [List.length_cons, hlen]; omega) (by simp only [List.length_cons, hlen]; exact hRl)
  obtain ⟨hwalk, hrun, hended, hWU, hsame⟩ := X₂.athrowLeaves hexec (g := { g with stack := .ref a :: rest, pc := g.pc + 3 }) hg hlocked hentered hout (a := a) (rest := rest) rfl hd9
  have hlt : a < ((Y0.setVm vm₁).setVm vm₂).heap.size := (Array.getElem?_eq_some_iff.mp hcell).1
  have hU := heapAt_setCell_self (s := (Y0.setVm vm₁).setVm vm₂) (plainBareV T.toThrowableT (freshCell P1.m.cls kX) a u0 sen msg) hlt
  refine ⟨_, st1 _ (fun acts => ?_), hrun, hended, hWU, hsame.weaken (fun y hy hlt' => ?_) (Nat.le_refl _) (Nat.le_refl _), _, hU, rfl, hfound⟩
  · rw [doInvoke_state]
    exact st2 _ hwalk
  · rcases List.mem_append.mp hy with h1 | h1
    · exact h1
    · exfalso
      have hb : y.base = a := by
        simp only [List.mem_cons, List.not_mem_nil, or_false] at h1
        rcases h1 with rfl | rfl | rfl | rfl | rfl <;> rfl
      rw [hb] at hlt'
      exact Nat.not_lt.mpr hnew hlt'
end NSC
section NST
variable {p : Program} {l : Launch} {e : Env} {R : Room} {s : State} {m : MethodId} {args : Array Value} {below : List Frame} {meth : Method} {c : Code} {H : Heap} {locs : List Loc} {cells slots : Nat} {Q : State → Prop}
variable {mc ms : Nat} {free : Addr → Prop} {ls : Array Slot} {rest : List Value}
variable {Qc : Array Value → State → Outcome → State → Prop} {XC : String → State → State → Prop}
set_option maxHeartbeats 1000000 in
theorem nse_throw {cc : ByteArray} {pc : Nat} (hexec : p.tables.exec = Jvm.exec) (hb : c.code = cc) (hl : l.stackTraces = false) {text : String} {is mc ms sa : Nat} {A : Nat → Prop}
    (hown : s.vm.findClass RX8 = some m.cls)
    (hk : (Cond.classLink RX8 125 NSE).before args s = true) (hini : (Cond.initialized NSE).before args s = true) (hstr : vk_R RX8 is text sa s) (hat : ∀ w ∈ nsW, w.before args s = true)
    (hgood : ∀ w ∈ Cond.classLink RX8 125 NSE :: Cond.initialized NSE :: nsW, vx_ot w = true)
    (hU : vx_Zq Bundle.tN "UNASSIGNED_STACK" Bundle.steD A s s.heap) (hN : vx_Zq Bundle.tN "SUPPRESSED_SENTINEL" Bundle.listD A s s.heap) (hS : va_S A s.heap H locs) (hsize : ls.size = c.maxLocals)
    (d0 : decode cc pc = .ok (.new 125, 3)) (d3 : decode cc (pc + 3) = .ok (.dup, 1)) (d4 : decode cc (pc + 4) = .ok (.ldc is, 2)) (d6 : decode cc (pc + 6) = .ok (.invokespecial 129, 3)) (d9 : decode cc (pc + 9) = .ok (.athrow, 1))
    (hout : ∀ x ∈ c.exceptionTable.toList, covers x (pc + 9) = false)
    (hRframes : 5 < R.frames) (hRlocals : (rest.map fun v => v.category).sum + 82 ≤ R.locals) (hRcells : cells + 1 ≤ R.cells) (hRslots : slots + 6 ≤ R.slots) (hlocks : meth.locks = false)
    (hx : ∀ t : State, s.vm.Alike t.vm → H.size ≤ t.heap.size → (∀ q : Nat, q < H.size → t.heap[q]? = H[q]?) → XC NSE s t)
    (hf : ∀ z ∈ locs, free z.base) (hc : cells + 1 ≤ mc) (hs : slots + 6 ≤ ms) :
    W p l e R s m args below meth c H locs cells slots (vx_MQ below Qc XC args s mc ms free) (F0 m pc ls rest) := by
  intro T hT X
  have htr : e.platform.stackTraces = false := (show e.platform.stackTraces = l.stackTraces by rw [X.admits.platform]).trans hl
  have Y := vx_rebase X (R' := { frames := R.frames, locals := R.locals, cells := 1, slots := 6 }) (Nat.le_refl _) (Nat.le_refl _) hRcells hRslots
  obtain ⟨s', hA⟩ : ∃ z, z = (T.setVm s.vm).setFrames (.invoking m args :: below) := ⟨_, rfl⟩
  rw [← hA] at Y
  have hvm : s'.vm = s.vm := by rw [hA]; rfl
  have hhp : s'.heap = H := by rw [hA]; exact hT
  have hW0 : s.WarmedH s'.vm := by rw [hvm]; exact State.WarmedH.refl s
  have hat' : ∀ w ∈ nsW, w.before args s' = true := fun w hw => vx_ot_at hW0 hvm.symm (hgood w (List.mem_cons_of_mem _ (List.mem_cons_of_mem _ hw))) (hat w hw)
  have hk' : (Cond.classLink RX8 125 NSE).before args s' = true := vx_ot_at hW0 hvm.symm (hgood _ List.mem_cons_self) hk
  have hini' : (Cond.initialized NSE).before args s' = true := vx_ot_at hW0 hvm.symm (hgood _ (List.mem_cons_of_mem _ List.mem_cons_self)) hini
  have hU' : vx_Zq Bundle.tN "UNASSIGNED_STACK" Bundle.steD A s' s'.heap := by rw [hhp]; exact vx_Zq.moved hW0.alike (hU.kept hS.2.1)
  have hN' : vx_Zq Bundle.tN "SUPPRESSED_SENTINEL" Bundle.listD A s' s'.heap := by rw [hhp]; exact vx_Zq.moved hW0.alike (hN.kept hS.2.1)
  have h : ∀ w ∈ nsL, w.before args s' = true := vx_own hat' (vx_isRefq hU'.1) (vx_isRefq hN'.1) hU'.2.word hN'.2.word
  have hown' : s'.vm.findClass RX8 = some m.cls := by rw [hvm]; exact hown
  have hins : (Cond.instantiable NSE 6).before args s' = true := h _ (nsL_5 (by simp [nsX]))
  obtain ⟨vm₁, cX, kX, hfX, hkX, -, -, X₁, st1⟩ := Y.newCold hexec (own := RX8) (C := NSE) (index := 125) (n := 6) hown' hk' hins hini'
    (g := F0 m pc ls rest) rfl (by rw [hb]; exact d0) (Nat.le_refl _) (Nat.le_refl _)
  generalize hT1 : (T.setVm vm₁).pushCell { cls := cX, slots := kX.instanceTypes.map defaultValue, vm := .none } = T1 at X₁ st1
  have hcat : (Value.ref T.heap.size).category = 1 := rfl
  have hcellA : T1.heap[T.heap.size]? = some (freshCell cX kX) := by rw [← hT1]; exact State.heap_pushCell_size _ _
  have d3' : decode c.code (pc + 3) = .ok (.dup, 1) := by rw [hb]; exact d3
  have d4' : decode c.code (pc + 4) = .ok (.ldc is, 2) := by rw [hb]; exact d4
  have hstr' : vk_R RX8 is text sa s' := vk_R.warm hW0 hstr
  obtain ⟨U, hsteps, hrun, hend, hW, hsame, ce, hce, hcv, hcl9⟩ := nse_ctor X₁ hexec htr hown' h (fun x hx => nomatch hx) hfX hkX hcellA (by rw [hhp, hT]; exact Nat.le_refl _) (msg := .ref sa) rfl
    (g := { method := m, pc := pc + 6, locals := ls, stack := .ref sa :: .ref T.heap.size :: .ref T.heap.size :: rest, locked := none }) rfl hsize rfl rfl (rest := rest) rfl
    (by rw [hb]; exact d6) (by rw [hb]; exact d9) hout hRframes (by
      show 2 * 0 + _ + 81 ≤ R.locals
      simp only [List.map_cons, List.sum_cons, hcat]
      omega) hlocks
  obtain ⟨f1, f2⟩ := vx_frame hsame
  rw [hhp] at f1 f2
  have hWs : s.WarmedH U.vm := State.WarmedH.trans hW0 hW
  have hcl : s.vm.findClass NSE = some ce.cls := by rw [← hvm]; exact hcl9
  have hall : s.sameButNew ({ U with vm := s.vm } : State) locs mc ms := by
    subst hA
    obtain ⟨e1, e2⟩ := hsame
    rw [State.setFrames_setFrames] at e1
    have h2 : (T.setVm s.vm).sameButNew ({ U with vm := s.vm } : State) [] (0 + 1) (0 + 6) := ⟨e1, e2⟩
    have h3 := X.same.trans h2
    rw [List.append_nil] at h3
    exact h3.mono hc hs
  refine ⟨U, ?_, .threw T.heap.size, hrun, hend, Or.inr ⟨T.heap.size, rfl, NSE, ce, locs, hx U hWs.alike f1 (fun q hq => f2 q hq (fun z hz => nomatch hz)), hce, hcv, hcl, hWs, hall, hf⟩⟩
  refine st1 _ ?_
  show Steps p.tables e below (T1.setTop { method := m, pc := pc + 3, locals := ls, stack := .ref T.heap.size :: rest, locked := none }) _
  jvm_step X₁.here [X₁.here.top, hexec, d3', Value.category]
  exact X₁.ldcString hexec (own := RX8) (text := text) (index := is) (a := sa) hown' hstr'.1 hstr'.2
    (g := { method := m, pc := pc + 4, locals := ls, stack := .ref T.heap.size :: .ref T.heap.size :: rest, locked := none }) rfl d4' _ hsteps
end NST
/-! CONTRACTS that throw -/
section CTX
theorem nsW_in : ∀ w ∈ nsW, goodWord w = true → w ∈ gw := fun w hw hg => gw_of (by
  have h : (nsW.filter goodWord).all (fun w => decide (w ∈ lw_tbl)) = true := by decide +kernel
  exact of_decide_eq_true (List.all_eq_true.mp h w (List.mem_filter.mpr ⟨hw, hg⟩))) hg
theorem nsW_ot : ∀ w ∈ Cond.classLink RX8 125 NSE :: Cond.initialized NSE :: nsW, vx_ot w = true := by
  have h : (Cond.classLink RX8 125 NSE :: Cond.initialized NSE :: nsW).all vx_ot = true := by decide +kernel
  exact fun w hw => List.all_eq_true.mp h w hw
theorem nsW_bad : ∀ w ∈ nsW, goodWord w = false → w ∈ ([.declares (Bundle.initS RTE), .declares (Bundle.initS "java/lang/Exception"), .declares (Bundle.initS Bundle.tN), .castable NSE NSE] : List Cond) := by
  have h : nsW.all (fun w => goodWord w || decide (w ∈ ([.declares (Bundle.initS RTE), .declares (Bundle.initS "java/lang/Exception"), .declares (Bundle.initS Bundle.tN), .castable NSE NSE] : List Cond))) = true := by decide +kernel
  intro w hw hg
  have h2 := List.all_eq_true.mp h w hw
  rw [hg] at h2
  exact of_decide_eq_true h2
theorem wN_k : Cond.classLink RX8 125 NSE ∈ gw := gw_of (List.mem_of_getElem? (i := 596) (by decide +kernel)) rfl
theorem wN_i : Cond.initialized NSE ∈ gw := gw_of (List.mem_of_getElem? (i := 48) (by decide +kernel)) rfl
theorem wN_c : Cond.classLink RL 13 NSE ∈ gw := gw_of (List.mem_of_getElem? (i := 590) (by decide +kernel)) rfl
/-- what a throw needs beside the words -/
def ExtT (base : Nat) (U : State) (H : Heap) : Prop := vx_Zq Bundle.tN "UNASSIGNED_STACK" Bundle.steD (fun q => base ≤ q) U H ∧ vx_Zq Bundle.tN "SUPPRESSED_SENTINEL" Bundle.listD (fun q => base ≤ q) U H ∧ (∃ sa, vk_R RX8 127 "no block's chunk holds this address" sa U) ∧ (∃ sb, vk_R RX8 209 "no such fault is kept" sb U) ∧ va_Nw (.declares (Bundle.initS RTE)) U ∧ va_Nw (.declares (Bundle.initS "java/lang/Exception")) U ∧ va_Nw (.declares (Bundle.initS Bundle.tN)) U ∧ va_Nw (.castable NSE NSE) U
theorem ExtT.warm {base : Nat} {s U : State} {H H1 : Heap} (hW : s.WarmedH U.vm) (hq : ∀ q : Nat, q < H.size → q < base → H1[q]? = H[q]?) (h : ExtT base s H) : ExtT base U H1 := by
  obtain ⟨h1, h2, ⟨sa, h3⟩, ⟨sb, h4⟩, h5, h6, h7, h8⟩ := h
  exact ⟨(h1.kept (fun a h1 h2 => hq a h1 (by omega))).moved hW.alike, (h2.kept (fun a h1 h2 => hq a h1 (by omega))).moved hW.alike, ⟨sa, vk_R.warm hW h3⟩, ⟨sb, vk_R.warm hW h4⟩, va_Nw.warmD hW h5, va_Nw.warmD hW h6, va_Nw.warmD hW h7, va_Nw.warmC hW h8⟩
theorem ExtT.all {base : Nat} {s : State} {H : Heap} {args : Array Value} (h : ExtT base s H) (hg : ∀ w ∈ gw, w.before args s = true) : ∀ w ∈ nsW, w.before args s = true := by
  obtain ⟨-, -, -, -, h5, h6, h7, h8⟩ := h
  intro w hw
  cases g : goodWord w with
  | true => exact hg w (nsW_in w hw g)
  | false =>
    have hm := nsW_bad w hw g
    simp only [List.mem_cons, List.not_mem_nil, or_false] at hm
    rcases hm with rfl | rfl | rfl | rfl
    · exact va_Nw.use rfl h5
    · exact va_Nw.use rfl h6
    · exact va_Nw.use rfl h7
    · exact va_Nw.use rfl h8
theorem Hok.grow {D : va_G} {dA : Nat → ClassId} {base : Nat} {h : Hp} {U : State} {H H1 : Heap} (hk : Hok D dA base h U H) (hz : H.size ≤ H1.size) (hq : ∀ q : Nat, q < H.size → H1[q]? = H[q]?) : Hok D dA base h U H1 :=
  ⟨fun b x hx => ⟨(hk.1 b x hx).1, (hk.1 b x hx).2.kept (hq b (hk.1 b x hx).2.lt)⟩, fun b hb => ⟨(hk.2.1 b hb).1, (hk.2.1 b hb).2.kept (hq b (hk.2.2 b (by omega)))⟩, fun b hb => Nat.lt_of_lt_of_le (hk.2.2 b hb) hz⟩
def XCx (D : va_G) (dA : Nat → ClassId) (base : Nat) (px : Hp → Prop) : String → State → State → Prop := fun E st t => E = NSE ∧ (∃ h', px h' ∧ Hok D dA base h' t t.heap) ∧ va_F (fun q => base ≤ q) st t
def CtX (M : MD) (d mc ms : Nat) (av : List Value) (h : Hp) (post : Option Value → Hp → Prop) (px : Hp → Prop) : Prop :=
  ∀ (l : Launch) (D : va_G) (dA : Nat → ClassId) (base : Nat), l.stackTraces = false → vx_Met l M.1 (mws M) (rmd d mc ms) (va_Pc av (fun U => Wd D dA base h U ∧ ExtT base U U.heap)) (Qcx D dA base post) (XCx D dA base px) mc ms (fun q => base ≤ q)
def CmX (X : CX) (M : MD) (d mc ms : Nat) (post : Option Value → Hp → Prop) (px : Hp → Prop) : Prop :=
  Cx X M.1.cls M.2.1 ∧ X.nL = M.2.2.1 ∧ X.Rm = rmd d mc ms ∧ X.meth.sig.returnType = M.2.2.2 ∧ X.meth.name = M.1.name ∧ (X.Q = vx_MQ X.below (Qcx X.D X.dA X.base post) (XCx X.D X.dA X.base px) X.args X.s mc ms (fun q => X.base ≤ q) ∧ ExtT X.base X.s X.s.heap ∧ ∀ x ∈ X.c.exceptionTable.toList, False) ∧ X.l.stackTraces = false
theorem WdT.blind (D : va_G) (dA : Nat → ClassId) (base : Nat) (h : Hp) (av : List Value) : FrameBlind (va_Pc av (fun U => Wd D dA base h U ∧ ExtT base U U.heap)) := fun a U g mk q => by
  obtain ⟨q1, q2, q3⟩ := q
  exact ⟨q1, (Wd.blind D dA base h av a U g mk ⟨q1, q2⟩).2, ExtT.warm (s := U) (U := U.calling g mk a) (H := U.heap) (State.WarmedH.refl U) (fun _ _ _ => rfl) q3⟩
theorem ent_lh {av : List Value} {n : Nat} (hav : av.length ≤ n) (hc1 : ∀ v ∈ av, v.category = 1) : lh ((lg_sl av ++ List.replicate (n - (lg_sl av).length) Slot.unset).toArray) n (ent av n) := by
  have hlen := lg_sl1 av hc1
  have hl9 := lv_entry av (n := n) (by rw [hlen]; exact hav)
  refine ⟨hl9.1, hl9.2.1, fun i v hi => ?_⟩
  have hi2 : av[i]? = some v := by
    unfold ent at hi
    by_cases hlt : i < av.length
    · rw [List.getElem?_append_left (by simpa using hlt), List.getElem?_map] at hi
      cases hx : av[i]? with
      | none => rw [hx] at hi; cases hi
      | some w => rw [hx] at hi; simp at hi; rw [hi]
    · rw [List.getElem?_append_right (by simpa using hlt), List.getElem?_replicate] at hi
      split at hi <;> simp at hi
  have := hl9.2.2 (0 + i, v) (lv_args1 av 0 hc1 i v hi2)
  simpa using this
theorem CtX.of {M : MD} {d mc ms : Nat} {av : List Value} {h : Hp} {post : Option Value → Hp → Prop} {px : Hp → Prop} (hy : plainName M.1.cls = true) (hav : av.length ≤ M.2.2.1) (hc1 : ∀ v ∈ av, v.category = 1)
    (body : ∀ X, CmX X M d mc ms post px → At X 0 0 0 (ent av M.2.2.1) [] h) : CtX M d mc ms av h post px := by
  intro l D dA base hl
  refine vx_ofW (cc := M.2.1) (maxL := M.2.2.1) (ret := M.2.2.2) hy rfl ?_
  intro p e s m args below meth c s₁ B hml htb hv
  obtain ⟨rfl, ⟨hH, hK, hB, hE⟩, hT⟩ := hv
  have hts : ∀ w ∈ gw, w.before av.toArray s = true := fun w hw => atoms_spec (ws := mws M) B.pre w (List.mem_cons_of_mem _ hw)
  have key := body ((p, l, e, rmd d mc ms, s, m, av.toArray), (below, meth, c, vx_MQ below (Qcx D dA base post) (XCx D dA base px) av.toArray s mc ms (fun q => base ≤ q)), (D, dA, base, M.2.2.1))
    ⟨⟨B.exec, B.bytes, hml, findClass_of_methodNamed B.named, hts, hK, hB, B.notSynchronized, hE⟩, rfl, rfl, B.returns, (name_of_methodNamed B.named B.method).1, ⟨rfl, hT, htb⟩, hl⟩
  rw [lg_entry_eq]
  exact key s.heap [] _ hH va_S.rf (ent_lh hav hc1)
section RETX
variable {X : CX} {M : MD} {d mc ms : Nat} {post : Option Value → Hp → Prop} {px : Hp → Prop} {cells slots pc : Nat} {ls : List (Option Value)} {h : Hp}
theorem ret_Wx {H : Heap} {locs : List Loc} (C : CmX X M d mc ms post px) (q : Hok X.D X.dA X.base h X.s H) (b : va_S (fun q => X.base ≤ q) X.s.heap H locs) {v : Option Value} (hp : post v h) (t : State) (ht : t.heap = H) (hW : X.s.WarmedH t.vm) : Qcx X.D X.dA X.base post X.args X.s (.returned v) t := by
  subst ht
  have hE := C.1.2.2.2.2.2.2.2.2
  exact ⟨⟨v, h, rfl, hp, q.moved hW.alike, va_K.moved hW.alike C.1.2.2.2.2.2.1, Nat.le_trans C.1.2.2.2.2.2.2.1 b.1, hE.warm hW (fun x h1 h2 => b.2.1 x h1 (Nat.not_le.mpr h2))⟩, b.F rfl⟩
theorem rtx_i (C : CmX X M d mc ms post px) {v : Int32} (hr : M.2.2.2 = some .int) (hd : decode M.2.1 pc = .ok (.ireturn, 1)) (hc : cells ≤ mc) (hs : slots ≤ ms) (hp : post (some (.int v)) h) : At X cells slots pc ls [.int v] h := by
  intro H locs sl q b c
  obtain ⟨C1, -, -, hret, -, ⟨hQ, -, -⟩, -⟩ := id C
  rw [hQ]
  refine vx_ret (W.widen hc hs ?_)
  exact W.iret C1.1 C1.2.1 (hret.trans hr) (ret_Wx C q b hp) b.2.2 hd C1.2.2.2.2.2.2.2.1
/-- 'throw new NoSuchElementException(text)' -/
theorem st_throw (C : CmX X M d mc ms post px) (hM : M.1.cls = RX8) (hd6 : 6 ≤ d) {is sa : Nat} {text : String} (hstr : vk_R RX8 is text sa X.s)
    (d0 : decode M.2.1 pc = .ok (.new 125, 3)) (d3 : decode M.2.1 (pc + 3) = .ok (.dup, 1)) (d4 : decode M.2.1 (pc + 4) = .ok (.ldc is, 2)) (d6 : decode M.2.1 (pc + 6) = .ok (.invokespecial 129, 3)) (d9 : decode M.2.1 (pc + 9) = .ok (.athrow, 1))
    (hc : cells + 1 ≤ mc) (hs : slots + 6 ≤ ms) (hp : px h) : At X cells slots pc ls [] h := by
  intro H locs sl q b c
  obtain ⟨C1, hnL, hR, hret, -, ⟨hQ, hT, htb⟩, hl⟩ := id C
  rw [hQ]
  rw [hM] at C1
  refine nse_throw C1.1 C1.2.1 hl (A := fun q => X.base ≤ q) C1.2.2.2.1 (C1.2.2.2.2.1 _ wN_k) (C1.2.2.2.2.1 _ wN_i) hstr (hT.all C1.2.2.2.2.1) nsW_ot hT.1 hT.2.1 b (c.1.trans C1.2.2.1.symm) d0 d3 d4 d6 d9 (fun x hx => (htb x hx).elim) ?_ ?_ ?_ ?_ C1.2.2.2.2.2.2.2.1 ?_ b.2.2 hc hs
  · rw [hR]; show 5 < d; omega
  · rw [hR]; show 0 + 82 ≤ 30 * d; omega
  · rw [hR]; exact hc
  · rw [hR]; exact hs
  · intro t hvm hz hq
    refine ⟨rfl, ⟨h, hp, (q.grow hz hq).moved hvm⟩, Nat.le_trans b.1 hz, fun x h1 h2 => ?_⟩
    rw [hq x (Nat.lt_of_lt_of_le h1 b.1)]
    exact b.2.1 x h1 h2
end RETX
end CTX
