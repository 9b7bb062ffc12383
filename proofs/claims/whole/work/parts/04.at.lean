/-! THE WALK over the heap: At, and a row an instruction -/
abbrev CX : Type := (Program × Launch × Env × Room × State × MethodId × Array Value) × (List Frame × Method × Code × (State → Prop)) × (va_G × (Nat → ClassId) × Nat × Nat)
def CX.p (X : CX) : Program := X.1.1
def CX.l (X : CX) : Launch := X.1.2.1
def CX.e (X : CX) : Env := X.1.2.2.1
def CX.Rm (X : CX) : Room := X.1.2.2.2.1
def CX.s (X : CX) : State := X.1.2.2.2.2.1
def CX.m (X : CX) : MethodId := X.1.2.2.2.2.2.1
def CX.args (X : CX) : Array Value := X.1.2.2.2.2.2.2
def CX.below (X : CX) : List Frame := X.2.1.1
def CX.meth (X : CX) : Method := X.2.1.2.1
def CX.c (X : CX) : Code := X.2.1.2.2.1
def CX.Q (X : CX) : State → Prop := X.2.1.2.2.2
def CX.D (X : CX) : va_G := X.2.2.1
def CX.dA (X : CX) : Nat → ClassId := X.2.2.2.1
def CX.base (X : CX) : Nat := X.2.2.2.2.1
def CX.nL (X : CX) : Nat := X.2.2.2.2.2
/-- locals: what is known of each place -/
def lh (sl : Array Slot) (nL : Nat) (ls : List (Option Value)) : Prop := sl.size = nL ∧ lv_wf sl ∧ ∀ (i : Nat) (v : Value), ls[i]? = some (some v) → sl[i]? = some (.val v)
def lprs : Nat → List (Option Value) → List (Nat × Value)
  | _, [] => []
  | k, none :: r => lprs (k + 1) r
  | k, some v :: r => (k, v) :: lprs (k + 1) r
theorem lprs_mem : ∀ (ls : List (Option Value)) (k i : Nat) (v : Value), (i, v) ∈ lprs k ls ↔ k ≤ i ∧ ls[i - k]? = some (some v)
  | [], k, i, v => by simp [lprs]
  | none :: r, k, i, v => by
    rw [lprs, lprs_mem r (k + 1) i v]
    constructor
    · rintro ⟨h1, h2⟩
      refine ⟨by omega, ?_⟩
      rw [show i - k = (i - (k + 1)) + 1 by omega]
      exact h2
    · rintro ⟨h1, h2⟩
      by_cases h : i = k
      · subst h
        simp at h2
      · refine ⟨by omega, ?_⟩
        rw [show i - k = (i - (k + 1)) + 1 by omega] at h2
        exact h2
  | some w :: r, k, i, v => by
    rw [lprs, List.mem_cons, lprs_mem r (k + 1) i v]
    constructor
    · rintro (h | ⟨h1, h2⟩)
      · cases h
        simp
      · refine ⟨by omega, ?_⟩
        rw [show i - k = (i - (k + 1)) + 1 by omega]
        exact h2
    · rintro ⟨h1, h2⟩
      by_cases h : i = k
      · subst h
        simp at h2
        exact Or.inl (by rw [h2])
      · refine Or.inr ⟨by omega, ?_⟩
        rw [show i - k = (i - (k + 1)) + 1 by omega] at h2
        exact h2
theorem lh.has {sl : Array Slot} {nL : Nat} {ls : List (Option Value)} (h : lh sl nL ls) : lv_has sl nL (lprs 0 ls) := ⟨h.1, h.2.1, fun q hq => by
  obtain ⟨i, v⟩ := q
  have := (lprs_mem ls 0 i v).mp hq
  exact h.2.2 i v this.2⟩
/-- the place ahead holds no long -/
def l1 (ls : List (Option Value)) (i : Nat) : Bool := match i with
  | 0 => true
  | j + 1 => match ls[j]? with
    | some (some v) => v.category == 1
    | _ => true
theorem lh.set1 {sl : Array Slot} {nL i : Nat} {ls : List (Option Value)} {v : Value} (hi : i < ls.length) (hp : l1 ls i = true) (h : lv_has sl nL ((i, v) :: (lprs 0 ls).filter (fun q => !(q.1 == i) && !(q.1 + 1 == i && q.2.category == 2)))) : lh sl nL (ls.set i (some v)) := by
  refine ⟨h.1, h.2.1, fun j w hj => ?_⟩
  by_cases hij : i = j
  · subst hij
    rw [List.getElem?_set_self hi] at hj
    cases hj
    exact h.2.2 (i, v) List.mem_cons_self
  · rw [List.getElem?_set_ne hij] at hj
    refine h.2.2 (j, w) (List.mem_cons_of_mem _ (List.mem_filter.mpr ⟨(lprs_mem ls 0 j w).mpr ⟨Nat.zero_le _, hj⟩, ?_⟩))
    have e1 : (j == i) = false := by simpa using fun e => hij e.symm
    simp only [e1, Bool.not_false, Bool.true_and, Bool.not_eq_true', Bool.and_eq_false_iff]
    by_cases hji : j + 1 = i
    · right
      subst hji
      simp only [l1, hj] at hp
      have : w.category = 1 := by simpa using hp
      rw [this]; rfl
    · left
      simpa using hji
theorem lh.set2 {sl : Array Slot} {nL i : Nat} {ls : List (Option Value)} {v : Value} (hi : i + 1 < ls.length) (hp : l1 ls i = true) (h : lv_has sl nL ((i, v) :: (lprs 0 ls).filter (fun q => !(q.1 == i) && (!(q.1 == i + 1) && !(q.1 + 1 == i && q.2.category == 2))))) : lh sl nL ((ls.set i (some v)).set (i + 1) none) := by
  refine ⟨h.1, h.2.1, fun j w hj => ?_⟩
  by_cases hij1 : i + 1 = j
  · subst hij1
    rw [List.getElem?_set_self (by rw [List.length_set]; exact hi)] at hj
    cases hj
  · rw [List.getElem?_set_ne hij1] at hj
    by_cases hij : i = j
    · subst hij
      rw [List.getElem?_set_self (by omega)] at hj
      cases hj
      exact h.2.2 (i, v) List.mem_cons_self
    · rw [List.getElem?_set_ne hij] at hj
      refine h.2.2 (j, w) (List.mem_cons_of_mem _ (List.mem_filter.mpr ⟨(lprs_mem ls 0 j w).mpr ⟨Nat.zero_le _, hj⟩, ?_⟩))
      have e1 : (j == i) = false := by simpa using fun e => hij e.symm
      have e2 : (j == i + 1) = false := by simpa using fun e => hij1 e.symm
      simp only [e1, e2, Bool.not_false, Bool.true_and, Bool.not_eq_true', Bool.and_eq_false_iff]
      by_cases hji : j + 1 = i
      · right
        subst hji
        simp only [l1, hj] at hp
        have : w.category = 1 := by simpa using hp
        rw [this]; rfl
      · left
        simpa using hji
def At (X : CX) (cells slots pc : Nat) (ls : List (Option Value)) (st : List Value) (h : Hp) : Prop :=
  ∀ (H : Heap) (locs : List Loc) (sl : Array Slot), Hok X.D X.dA X.base h X.s H → va_S (fun q => X.base ≤ q) X.s.heap H locs → lh sl X.nL ls → W X.p X.l X.e X.Rm X.s X.m X.args X.below X.meth X.c H locs cells slots X.Q (F0 X.m pc sl st)
/-- the words that keep -/
def gw : List Cond := lw_tbl.filter goodWord
theorem gw_of {w : Cond} (h : w ∈ lw_tbl) (hg : goodWord w = true) : w ∈ gw := List.mem_filter.mpr ⟨h, hg⟩
theorem gw_good {ws : List Cond} (h : ∀ w ∈ ws, w ∈ gw) : GoodIn gw ws := fun w hw => ⟨h w hw, good_of_word (List.mem_filter.mp (h w hw)).2⟩
/-- the words that keep otherwise -/
def Ext (base : Nat) (U : State) (H : Heap) : Prop := va_AO RX0 U ∧ va_AO RX2 U ∧ va_Nw (.methodLinkNest RX8 45 yX7_init RX8) U
def Cx (X : CX) (own : String) (cc : ByteArray) : Prop :=
  X.p.tables.exec = Jvm.exec ∧ X.c.code = cc ∧ X.c.maxLocals = X.nL ∧ X.s.vm.findClass own = some X.m.cls ∧ (∀ w ∈ gw, w.before X.args X.s = true) ∧ va_K X.D gcls (gtys X.dA) X.s ∧ X.base ≤ X.s.heap.size ∧ X.meth.locks = false ∧ Ext X.base X.s X.s.heap
section ATR
variable {X : CX} {own : String} {cc : ByteArray} {cells slots pc : Nat} {ls : List (Option Value)} {st : List Value} {h : Hp}
theorem At.widen {k n : Nat} (h1 : cells ≤ k) (h2 : slots ≤ n) (kk : At X k n pc ls st h) : At X cells slots pc ls st h := fun H locs sl a b c => W.widen h1 h2 (kk H locs sl a b c)
theorem At.eqc {k n : Nat} (h1 : k = cells) (h2 : n = slots) (kk : At X k n pc ls st h) : At X cells slots pc ls st h := by subst h1; subst h2; exact kk
/-- fewer locals -/
theorem At.les {ls' : List (Option Value)} (hl : ∀ (i : Nat) (v : Value), ls'[i]? = some (some v) → ls[i]? = some (some v)) (kk : At X cells slots pc ls' st h) : At X cells slots pc ls st h := fun H locs sl a b c => kk H locs sl a b ⟨c.1, c.2.1, fun i v hi => c.2.2 i v (hl i v hi)⟩
theorem st_iconst (C : Cx X own cc) {n : Int} {v : Int32} (hd : decode cc pc = .ok (.iconst n, 1)) (hv : Int32.ofInt n = v) (k : At X cells slots (pc + 1) ls (.int v :: st) h) : At X cells slots pc ls (st) h := fun H locs sl a b c => lv_iconst C.1 C.2.1 hd hv (k H locs sl a b c)
theorem st_bipush (C : Cx X own cc) {n : Int} {v : Int32} (hd : decode cc pc = .ok (.bipush n, 2)) (hv : (Int8.ofInt n).toInt32 = v) (k : At X cells slots (pc + 2) ls (.int v :: st) h) : At X cells slots pc ls (st) h := fun H locs sl a b c => lv_bipush C.1 C.2.1 hd hv (k H locs sl a b c)
theorem st_sipush (C : Cx X own cc) {n : Int} {v : Int32} (hd : decode cc pc = .ok (.sipush n, 3)) (hv : (Int16.ofInt n).toInt32 = v) (k : At X cells slots (pc + 3) ls (.int v :: st) h) : At X cells slots pc ls (st) h := fun H locs sl a b c => lv_sipush C.1 C.2.1 hd hv (k H locs sl a b c)
theorem st_ldc2 (C : Cx X own cc) {idx : Nat} {v : Int64} (hd : decode cc pc = .ok (.ldc2_w idx, 3)) (hw : Cond.constantLong own idx v ∈ gw) (k : At X cells slots (pc + 3) ls (.long v :: st) h) : At X cells slots pc ls (st) h := fun H locs sl a b c => lv_ldc2 C.1 C.2.1 C.2.2.2.1 (C.2.2.2.2.1 _ hw) hd (k H locs sl a b c)
theorem st_iload_n (C : Cx X own cc) {n : Fin 4} {i : Nat} {v : Int32} (hd : decode cc pc = .ok (.iload_n n, 1)) (hi : (n : Nat) = i) (hl : ls[i]? = some (some (.int v))) (k : At X cells slots (pc + 1) ls (.int v :: st) h) : At X cells slots pc ls (st) h := fun H locs sl a b c => lv_iload_n C.1 C.2.1 hd hi (c.2.2 i _ hl) (k H locs sl a b c)
theorem st_iload (C : Cx X own cc) {i : Nat} {v : Int32} (hd : decode cc pc = .ok (.iload i, 2)) (hl : ls[i]? = some (some (.int v))) (k : At X cells slots (pc + 2) ls (.int v :: st) h) : At X cells slots pc ls (st) h := fun H locs sl a b c => lv_iload C.1 C.2.1 hd (c.2.2 i _ hl) (k H locs sl a b c)
theorem st_lload_n (C : Cx X own cc) {n : Fin 4} {i : Nat} {v : Int64} (hd : decode cc pc = .ok (.lload_n n, 1)) (hi : (n : Nat) = i) (hl : ls[i]? = some (some (.long v))) (k : At X cells slots (pc + 1) ls (.long v :: st) h) : At X cells slots pc ls (st) h := fun H locs sl a b c => lv_lload_n C.1 C.2.1 hd hi (c.2.2 i _ hl) (k H locs sl a b c)
theorem st_lload (C : Cx X own cc) {i : Nat} {v : Int64} (hd : decode cc pc = .ok (.lload i, 2)) (hl : ls[i]? = some (some (.long v))) (k : At X cells slots (pc + 2) ls (.long v :: st) h) : At X cells slots pc ls (st) h := fun H locs sl a b c => lv_lload C.1 C.2.1 hd (c.2.2 i _ hl) (k H locs sl a b c)
theorem st_aload_n (C : Cx X own cc) {n : Fin 4} {i : Nat} (o : Option Nat) (hd : decode cc pc = .ok (.aload_n n, 1)) (hi : (n : Nat) = i) (hl : ls[i]? = some (some (va_rf o))) (k : At X cells slots (pc + 1) ls (va_rf o :: st) h) : At X cells slots pc ls st h := by
  intro H locs sl a b c
  cases o with
  | none => exact lv_aload_nN C.1 C.2.1 hd hi (c.2.2 i _ hl) (k H locs sl a b c)
  | some x => exact lv_aload_n C.1 C.2.1 hd hi (c.2.2 i _ hl) (k H locs sl a b c)
theorem st_aload (C : Cx X own cc) {i : Nat} (o : Option Nat) (hd : decode cc pc = .ok (.aload i, 2)) (hl : ls[i]? = some (some (va_rf o))) (k : At X cells slots (pc + 2) ls (va_rf o :: st) h) : At X cells slots pc ls st h := by
  intro H locs sl a b c
  cases o with
  | none => exact lv_aloadN C.1 C.2.1 hd (c.2.2 i _ hl) (k H locs sl a b c)
  | some x => exact lv_aload C.1 C.2.1 hd (c.2.2 i _ hl) (k H locs sl a b c)
theorem st_istore_n (C : Cx X own cc) {n : Fin 4} {i : Nat} {v : Int32} (hd : decode cc pc = .ok (.istore_n n, 1)) (hi : (n : Nat) = i) (hi2 : i < ls.length) (hi3 : i < X.nL) (hp : l1 ls i = true) (k : At X cells slots (pc + 1) (ls.set i (some (.int v))) st h) : At X cells slots pc ls (.int v :: st) h := fun H locs sl a b c => lv_istore_n C.1 C.2.1 hd hi c.has hi3 rfl (fun sl2 h2 => k H locs sl2 a b (lh.set1 hi2 hp h2))
theorem st_istore (C : Cx X own cc) {i : Nat} {v : Int32} (hd : decode cc pc = .ok (.istore i, 2)) (hi2 : i < ls.length) (hi3 : i < X.nL) (hp : l1 ls i = true) (k : At X cells slots (pc + 2) (ls.set i (some (.int v))) st h) : At X cells slots pc ls (.int v :: st) h := fun H locs sl a b c => lv_istore C.1 C.2.1 hd c.has hi3 rfl (fun sl2 h2 => k H locs sl2 a b (lh.set1 hi2 hp h2))
theorem st_lstore_n (C : Cx X own cc) {n : Fin 4} {i : Nat} {v : Int64} (hd : decode cc pc = .ok (.lstore_n n, 1)) (hi : (n : Nat) = i) (hi2 : i + 1 < ls.length) (hi3 : i + 1 < X.nL) (hp : l1 ls i = true) (k : At X cells slots (pc + 1) ((ls.set i (some (.long v))).set (i + 1) none) st h) : At X cells slots pc ls (.long v :: st) h := fun H locs sl a b c => lv_lstore_n C.1 C.2.1 hd hi c.has hi3 rfl (fun sl2 h2 => k H locs sl2 a b (lh.set2 hi2 hp h2))
theorem st_lstore (C : Cx X own cc) {i : Nat} {v : Int64} (hd : decode cc pc = .ok (.lstore i, 2)) (hi2 : i + 1 < ls.length) (hi3 : i + 1 < X.nL) (hp : l1 ls i = true) (k : At X cells slots (pc + 2) ((ls.set i (some (.long v))).set (i + 1) none) st h) : At X cells slots pc ls (.long v :: st) h := fun H locs sl a b c => lv_lstore C.1 C.2.1 hd c.has hi3 rfl (fun sl2 h2 => k H locs sl2 a b (lh.set2 hi2 hp h2))
theorem st_astore_n (C : Cx X own cc) {n : Fin 4} {i : Nat} (o : Option Nat) (hd : decode cc pc = .ok (.astore_n n, 1)) (hi : (n : Nat) = i) (hi2 : i < ls.length) (hi3 : i < X.nL) (hp : l1 ls i = true) (k : At X cells slots (pc + 1) (ls.set i (some (va_rf o))) st h) : At X cells slots pc ls (va_rf o :: st) h := by
  intro H locs sl a b c
  cases o with
  | none => exact lv_astore_nN C.1 C.2.1 hd hi c.has hi3 rfl (fun sl2 h2 => k H locs sl2 a b (lh.set1 hi2 hp h2))
  | some x => exact lv_astore_n C.1 C.2.1 hd hi c.has hi3 rfl (fun sl2 h2 => k H locs sl2 a b (lh.set1 hi2 hp h2))
theorem st_astore (C : Cx X own cc) {i : Nat} (o : Option Nat) (hd : decode cc pc = .ok (.astore i, 2)) (hi2 : i < ls.length) (hi3 : i < X.nL) (hp : l1 ls i = true) (k : At X cells slots (pc + 2) (ls.set i (some (va_rf o))) st h) : At X cells slots pc ls (va_rf o :: st) h := by
  intro H locs sl a b c
  cases o with
  | none => exact lv_astoreN C.1 C.2.1 hd c.has hi3 rfl (fun sl2 h2 => k H locs sl2 a b (lh.set1 hi2 hp h2))
  | some x => exact lv_astore C.1 C.2.1 hd c.has hi3 rfl (fun sl2 h2 => k H locs sl2 a b (lh.set1 hi2 hp h2))
theorem st_iinc (C : Cx X own cc) {i : Nat} {n : Int} {x v : Int32} (hd : decode cc pc = .ok (.iinc i n, 3)) (hl : ls[i]? = some (some (.int x))) (hv : x + Int32.ofInt n = v) (hi3 : i < X.nL) (hp : l1 ls i = true) (k : At X cells slots (pc + 3) (ls.set i (some (.int v))) st h) : At X cells slots pc ls st h := by
  intro H locs sl a b c
  have hm : (i, Value.int x) ∈ lprs 0 ls := (lprs_mem ls 0 i _).mpr ⟨Nat.zero_le _, hl⟩
  obtain ⟨j, hj⟩ := List.getElem?_of_mem hm
  exact lv_iinc C.1 C.2.1 hd c.has hj hv hi3 rfl (fun sl2 h2 => k H locs sl2 a b (lh.set1 (List.getElem?_eq_some_iff.mp hl).1 hp h2))
theorem st_iadd (C : Cx X own cc) {x y : Int32} (hd : decode cc pc = .ok (.iadd, 1)) (k : At X cells slots (pc + 1) ls (.int (x + y) :: st) h) : At X cells slots pc ls (.int y :: .int x :: st) h := fun H locs sl a b c => lv_iadd C.1 C.2.1 hd (k H locs sl a b c)
theorem st_isub (C : Cx X own cc) {x y : Int32} (hd : decode cc pc = .ok (.isub, 1)) (k : At X cells slots (pc + 1) ls (.int (x - y) :: st) h) : At X cells slots pc ls (.int y :: .int x :: st) h := fun H locs sl a b c => lv_isub C.1 C.2.1 hd (k H locs sl a b c)
theorem st_imul (C : Cx X own cc) {x y : Int32} (hd : decode cc pc = .ok (.imul, 1)) (k : At X cells slots (pc + 1) ls (.int (x * y) :: st) h) : At X cells slots pc ls (.int y :: .int x :: st) h := fun H locs sl a b c => lv_imul C.1 C.2.1 hd (k H locs sl a b c)
theorem st_iand (C : Cx X own cc) {x y : Int32} (hd : decode cc pc = .ok (.iand, 1)) (k : At X cells slots (pc + 1) ls (.int (x &&& y) :: st) h) : At X cells slots pc ls (.int y :: .int x :: st) h := fun H locs sl a b c => lv_iand C.1 C.2.1 hd (k H locs sl a b c)
theorem st_ixor (C : Cx X own cc) {x y : Int32} (hd : decode cc pc = .ok (.ixor, 1)) (k : At X cells slots (pc + 1) ls (.int (x ^^^ y) :: st) h) : At X cells slots pc ls (.int y :: .int x :: st) h := fun H locs sl a b c => lv_ixor C.1 C.2.1 hd (k H locs sl a b c)
theorem st_idiv (C : Cx X own cc) {x y : Int32} (hd : decode cc pc = .ok (.idiv, 1)) (hne : ¬ y = 0) (k : At X cells slots (pc + 1) ls (.int (x / y) :: st) h) : At X cells slots pc ls (.int y :: .int x :: st) h := fun H locs sl a b c => lv_idiv C.1 C.2.1 hd hne (k H locs sl a b c)
theorem st_irem (C : Cx X own cc) {x y : Int32} (hd : decode cc pc = .ok (.irem, 1)) (hne : ¬ y = 0) (k : At X cells slots (pc + 1) ls (.int (x - x / y * y) :: st) h) : At X cells slots pc ls (.int y :: .int x :: st) h := fun H locs sl a b c => lv_irem C.1 C.2.1 hd hne (k H locs sl a b c)
theorem st_ineg (C : Cx X own cc) {x : Int32} (hd : decode cc pc = .ok (.ineg, 1)) (k : At X cells slots (pc + 1) ls (.int (-x) :: st) h) : At X cells slots pc ls (.int x :: st) h := fun H locs sl a b c => lv_ineg C.1 C.2.1 hd (k H locs sl a b c)
theorem st_ladd (C : Cx X own cc) {x y : Int64} (hd : decode cc pc = .ok (.ladd, 1)) (k : At X cells slots (pc + 1) ls (.long (x + y) :: st) h) : At X cells slots pc ls (.long y :: .long x :: st) h := fun H locs sl a b c => lv_ladd C.1 C.2.1 hd (k H locs sl a b c)
theorem st_lmul (C : Cx X own cc) {x y : Int64} (hd : decode cc pc = .ok (.lmul, 1)) (k : At X cells slots (pc + 1) ls (.long (x * y) :: st) h) : At X cells slots pc ls (.long y :: .long x :: st) h := fun H locs sl a b c => lv_lmul C.1 C.2.1 hd (k H locs sl a b c)
theorem st_ldiv (C : Cx X own cc) {x y : Int64} (hd : decode cc pc = .ok (.ldiv, 1)) (hne : ¬ y = 0) (k : At X cells slots (pc + 1) ls (.long (x / y) :: st) h) : At X cells slots pc ls (.long y :: .long x :: st) h := fun H locs sl a b c => lv_ldiv C.1 C.2.1 hd hne (k H locs sl a b c)
theorem st_lcmp (C : Cx X own cc) {x y : Int64} (hd : decode cc pc = .ok (.lcmp, 1)) (k : At X cells slots (pc + 1) ls (.int (lg_cmp x y) :: st) h) : At X cells slots pc ls (.long y :: .long x :: st) h := fun H locs sl a b c => W.lcmp C.1 C.2.1 hd (k H locs sl a b c)
theorem st_i2l (C : Cx X own cc) {x : Int32} (hd : decode cc pc = .ok (.i2l, 1)) (k : At X cells slots (pc + 1) ls (.long x.toInt64 :: st) h) : At X cells slots pc ls (.int x :: st) h := fun H locs sl a b c => lv_i2l C.1 C.2.1 hd rfl (k H locs sl a b c)
theorem st_l2i (C : Cx X own cc) {x : Int64} (hd : decode cc pc = .ok (.l2i, 1)) (k : At X cells slots (pc + 1) ls (.int x.toInt32 :: st) h) : At X cells slots pc ls (.long x :: st) h := fun H locs sl a b c => lv_l2i C.1 C.2.1 hd rfl (k H locs sl a b c)
theorem st_dup (C : Cx X own cc) {v : Value} (hd : decode cc pc = .ok (.dup, 1)) (hv : v.category = 1) (k : At X cells slots (pc + 1) ls (v :: v :: st) h) : At X cells slots pc ls (v :: st) h := fun H locs sl a b c => lv_dup C.1 C.2.1 hd hv (k H locs sl a b c)
theorem st_pop (C : Cx X own cc) {v : Value} (hd : decode cc pc = .ok (.pop, 1)) (hv : v.category = 1) (k : At X cells slots (pc + 1) ls (st) h) : At X cells slots pc ls (v :: st) h := fun H locs sl a b c => lv_pop C.1 C.2.1 hd hv (k H locs sl a b c)
theorem st_dup_x1 (C : Cx X own cc) {v w : Value} (hd : decode cc pc = .ok (.dup_x1, 1)) (hv : v.category = 1) (hw : w.category = 1) (k : At X cells slots (pc + 1) ls (v :: w :: v :: st) h) : At X cells slots pc ls (v :: w :: st) h := fun H locs sl a b c => lv_dup_x1 C.1 C.2.1 hd hv hw (k H locs sl a b c)
theorem st_dup_x2 (C : Cx X own cc) {v w u : Value} (hd : decode cc pc = .ok (.dup_x2, 1)) (hv : v.category = 1) (hw : w.category = 1) (hu : u.category = 1) (k : At X cells slots (pc + 1) ls (v :: w :: u :: v :: st) h) : At X cells slots pc ls (v :: w :: u :: st) h := fun H locs sl a b c => lv_dup_x2 C.1 C.2.1 hd hv hw hu (k H locs sl a b c)
theorem st_null (C : Cx X own cc)  (hd : decode cc pc = .ok (.aconst_null, 1)) (k : At X cells slots (pc + 1) ls (.null :: st) h) : At X cells slots pc ls (st) h := fun H locs sl a b c => lv_null C.1 C.2.1 hd (k H locs sl a b c)
theorem st_if_eq (C : Cx X own cc) {x : Int32} {off : Int} {tgt : Nat} (hd : decode cc pc = .ok (.ifCond .eq off, 3)) (ht : (pc : Int) + off = (tgt : Int)) (kt : x = 0 → At X cells slots tgt ls st h) (kf : ¬ x = 0 → At X cells slots (pc + 3) ls st h) : At X cells slots pc ls (.int x :: st) h := fun H locs sl a b c => lv_if_eq C.1 C.2.1 hd ht (fun q => kt q H locs sl a b c) (fun q => kf q H locs sl a b c)
theorem st_icmp_eq (C : Cx X own cc) {x y : Int32} {off : Int} {tgt : Nat} (hd : decode cc pc = .ok (.if_icmp .eq off, 3)) (ht : (pc : Int) + off = (tgt : Int)) (kt : x = y → At X cells slots tgt ls st h) (kf : ¬ x = y → At X cells slots (pc + 3) ls st h) : At X cells slots pc ls (.int y :: .int x :: st) h := fun H locs sl a b c => lv_icmp_eq C.1 C.2.1 hd ht (fun q => kt q H locs sl a b c) (fun q => kf q H locs sl a b c)
theorem st_if_ne (C : Cx X own cc) {x : Int32} {off : Int} {tgt : Nat} (hd : decode cc pc = .ok (.ifCond .ne off, 3)) (ht : (pc : Int) + off = (tgt : Int)) (kt : ¬ x = 0 → At X cells slots tgt ls st h) (kf : x = 0 → At X cells slots (pc + 3) ls st h) : At X cells slots pc ls (.int x :: st) h := fun H locs sl a b c => lv_if_ne C.1 C.2.1 hd ht (fun q => kt q H locs sl a b c) (fun q => kf q H locs sl a b c)
theorem st_icmp_ne (C : Cx X own cc) {x y : Int32} {off : Int} {tgt : Nat} (hd : decode cc pc = .ok (.if_icmp .ne off, 3)) (ht : (pc : Int) + off = (tgt : Int)) (kt : ¬ x = y → At X cells slots tgt ls st h) (kf : x = y → At X cells slots (pc + 3) ls st h) : At X cells slots pc ls (.int y :: .int x :: st) h := fun H locs sl a b c => lv_icmp_ne C.1 C.2.1 hd ht (fun q => kt q H locs sl a b c) (fun q => kf q H locs sl a b c)
theorem st_if_lt (C : Cx X own cc) {x : Int32} {off : Int} {tgt : Nat} (hd : decode cc pc = .ok (.ifCond .lt off, 3)) (ht : (pc : Int) + off = (tgt : Int)) (kt : x < 0 → At X cells slots tgt ls st h) (kf : ¬ x < 0 → At X cells slots (pc + 3) ls st h) : At X cells slots pc ls (.int x :: st) h := fun H locs sl a b c => lv_if_lt C.1 C.2.1 hd ht (fun q => kt q H locs sl a b c) (fun q => kf q H locs sl a b c)
theorem st_icmp_lt (C : Cx X own cc) {x y : Int32} {off : Int} {tgt : Nat} (hd : decode cc pc = .ok (.if_icmp .lt off, 3)) (ht : (pc : Int) + off = (tgt : Int)) (kt : x < y → At X cells slots tgt ls st h) (kf : ¬ x < y → At X cells slots (pc + 3) ls st h) : At X cells slots pc ls (.int y :: .int x :: st) h := fun H locs sl a b c => lv_icmp_lt C.1 C.2.1 hd ht (fun q => kt q H locs sl a b c) (fun q => kf q H locs sl a b c)
theorem st_if_ge (C : Cx X own cc) {x : Int32} {off : Int} {tgt : Nat} (hd : decode cc pc = .ok (.ifCond .ge off, 3)) (ht : (pc : Int) + off = (tgt : Int)) (kt : 0 ≤ x → At X cells slots tgt ls st h) (kf : ¬ 0 ≤ x → At X cells slots (pc + 3) ls st h) : At X cells slots pc ls (.int x :: st) h := fun H locs sl a b c => lv_if_ge C.1 C.2.1 hd ht (fun q => kt q H locs sl a b c) (fun q => kf q H locs sl a b c)
theorem st_icmp_ge (C : Cx X own cc) {x y : Int32} {off : Int} {tgt : Nat} (hd : decode cc pc = .ok (.if_icmp .ge off, 3)) (ht : (pc : Int) + off = (tgt : Int)) (kt : y ≤ x → At X cells slots tgt ls st h) (kf : ¬ y ≤ x → At X cells slots (pc + 3) ls st h) : At X cells slots pc ls (.int y :: .int x :: st) h := fun H locs sl a b c => lv_icmp_ge C.1 C.2.1 hd ht (fun q => kt q H locs sl a b c) (fun q => kf q H locs sl a b c)
theorem st_if_gt (C : Cx X own cc) {x : Int32} {off : Int} {tgt : Nat} (hd : decode cc pc = .ok (.ifCond .gt off, 3)) (ht : (pc : Int) + off = (tgt : Int)) (kt : 0 < x → At X cells slots tgt ls st h) (kf : ¬ 0 < x → At X cells slots (pc + 3) ls st h) : At X cells slots pc ls (.int x :: st) h := fun H locs sl a b c => lv_if_gt C.1 C.2.1 hd ht (fun q => kt q H locs sl a b c) (fun q => kf q H locs sl a b c)
theorem st_icmp_gt (C : Cx X own cc) {x y : Int32} {off : Int} {tgt : Nat} (hd : decode cc pc = .ok (.if_icmp .gt off, 3)) (ht : (pc : Int) + off = (tgt : Int)) (kt : y < x → At X cells slots tgt ls st h) (kf : ¬ y < x → At X cells slots (pc + 3) ls st h) : At X cells slots pc ls (.int y :: .int x :: st) h := fun H locs sl a b c => lv_icmp_gt C.1 C.2.1 hd ht (fun q => kt q H locs sl a b c) (fun q => kf q H locs sl a b c)
theorem st_if_le (C : Cx X own cc) {x : Int32} {off : Int} {tgt : Nat} (hd : decode cc pc = .ok (.ifCond .le off, 3)) (ht : (pc : Int) + off = (tgt : Int)) (kt : x ≤ 0 → At X cells slots tgt ls st h) (kf : ¬ x ≤ 0 → At X cells slots (pc + 3) ls st h) : At X cells slots pc ls (.int x :: st) h := fun H locs sl a b c => lv_if_le C.1 C.2.1 hd ht (fun q => kt q H locs sl a b c) (fun q => kf q H locs sl a b c)
theorem st_icmp_le (C : Cx X own cc) {x y : Int32} {off : Int} {tgt : Nat} (hd : decode cc pc = .ok (.if_icmp .le off, 3)) (ht : (pc : Int) + off = (tgt : Int)) (kt : x ≤ y → At X cells slots tgt ls st h) (kf : ¬ x ≤ y → At X cells slots (pc + 3) ls st h) : At X cells slots pc ls (.int y :: .int x :: st) h := fun H locs sl a b c => lv_icmp_le C.1 C.2.1 hd ht (fun q => kt q H locs sl a b c) (fun q => kf q H locs sl a b c)
theorem st_goto (C : Cx X own cc) {off : Int} {tgt : Nat} (hd : decode cc pc = .ok (.goto off, 3)) (ht : (pc : Int) + off = (tgt : Int)) (k : At X cells slots tgt ls st h) : At X cells slots pc ls st h := fun H locs sl a b c => lv_goto C.1 C.2.1 hd ht (k H locs sl a b c)
theorem st_ifnull (C : Cx X own cc) {o : Option Nat} {off : Int} {tgt : Nat} (hd : decode cc pc = .ok (.ifnull off, 3)) (ht : (pc : Int) + off = (tgt : Int)) (kt : o = none → At X cells slots tgt ls st h) (kf : ∀ x, o = some x → At X cells slots (pc + 3) ls st h) : At X cells slots pc ls (va_rf o :: st) h := by
  intro H locs sl a b c
  cases o with
  | none => exact lv_ifnullN C.1 C.2.1 hd ht (kt rfl H locs sl a b c)
  | some x => exact lv_ifnull C.1 C.2.1 hd (kf x rfl H locs sl a b c)
theorem st_ifnonnull (C : Cx X own cc) {o : Option Nat} {off : Int} {tgt : Nat} (hd : decode cc pc = .ok (.ifnonnull off, 3)) (ht : (pc : Int) + off = (tgt : Int)) (kt : ∀ x, o = some x → At X cells slots tgt ls st h) (kf : o = none → At X cells slots (pc + 3) ls st h) : At X cells slots pc ls (va_rf o :: st) h := by
  intro H locs sl a b c
  cases o with
  | none => exact lv_ifnonnullN C.1 C.2.1 hd (kf rfl H locs sl a b c)
  | some x => exact lv_ifnonnull C.1 C.2.1 hd ht (kt x rfl H locs sl a b c)
theorem st_acmp_eq (C : Cx X own cc) {rx ry : Option Nat} {off : Int} {tgt : Nat} (hd : decode cc pc = .ok (.if_acmp .eq off, 3)) (ht : (pc : Int) + off = (tgt : Int)) (kt : rx = ry → At X cells slots tgt ls st h) (kf : ¬ rx = ry → At X cells slots (pc + 3) ls st h) : At X cells slots pc ls (va_rf ry :: va_rf rx :: st) h := fun H locs sl a b c => lv_acmp_eq C.1 C.2.1 hd ht (fun q => kt q H locs sl a b c) (fun q => kf q H locs sl a b c)
theorem st_acmp_ne (C : Cx X own cc) {rx ry : Option Nat} {off : Int} {tgt : Nat} (hd : decode cc pc = .ok (.if_acmp .ne off, 3)) (ht : (pc : Int) + off = (tgt : Int)) (kt : ¬ rx = ry → At X cells slots tgt ls st h) (kf : rx = ry → At X cells slots (pc + 3) ls st h) : At X cells slots pc ls (va_rf ry :: va_rf rx :: st) h := fun H locs sl a b c => lv_acmp_ne C.1 C.2.1 hd ht (fun q => kt q H locs sl a b c) (fun q => kf q H locs sl a b c)
theorem st_tableOut (C : Cx X own cc) {x : Int32} {dflt lo hi : Int} {offs : Array Int} {len tgt : Nat} (hd : decode cc pc = .ok (.tableswitch dflt lo hi offs, len)) (hx : x.toInt < lo ∨ hi < x.toInt) (ht : (pc : Int) + dflt = (tgt : Int)) (k : At X cells slots tgt ls st h) : At X cells slots pc ls (.int x :: st) h := fun H locs sl a b c => lv_tableOut C.1 C.2.1 hd hx ht (k H locs sl a b c)
theorem st_tableIn (C : Cx X own cc) {x : Int32} {dflt lo hi off : Int} {offs : Array Int} {len tgt : Nat} (hd : decode cc pc = .ok (.tableswitch dflt lo hi offs, len)) (h1 : ¬ x.toInt < lo) (h2 : ¬ hi < x.toInt) (ho : offs[(x.toInt - lo).toNat]? = some off) (ht : (pc : Int) + off = (tgt : Int)) (k : At X cells slots tgt ls st h) : At X cells slots pc ls (.int x :: st) h := fun H locs sl a b c => lv_tableIn C.1 C.2.1 hd h1 h2 ho ht (k H locs sl a b c)
theorem st_getI (C : Cx X own cc) {a idx ci k : Nat} {R : String} {T : u_T} {N : Nat} (hc : gcls[ci]? = some (R, T, N)) (hin : ∀ w ∈ u_ws R T N, w ∈ gw) (hk : k < N) (hf : (fl ci)[k]? = some (100 * ci + k, false)) (hw : Cond.fieldLink own idx (T k).1 (T k).2.1 (T k).2.2.1 ∈ gw) (hd : decode cc pc = .ok (.getfield idx, 3)) (hci : ci < 10) (hK : h.K a = ci + 1)
    (kk : At X cells slots (pc + 3) ls (.int (h.I (100 * ci + k) a) :: st) h) : At X cells slots pc ls (.ref a :: st) h := by
  intro H locs sl q b c
  have hP : va_P X.D gcls [(a, .inr (ci, (fl ci).map (fv h a)))] H := fun j x hx => by
    match j, hx with
    | 0, hx => cases hx; exact (q.1 a _ (cof_ob hK hci)).2
    | j + 1, hx => cases hx
  refine va_get C.1 C.2.1 C.2.2.2.2.1 hin C.2.2.2.1 C.2.2.2.2.2.1 hP 0 rfl hc k hk (C.2.2.2.2.1 _ hw) (fun x h => h) (v := .int (h.I (100 * ci + k) a)) ?_ hd (kk H locs sl q b c)
  rw [List.getElem?_map, hf]
  rfl
theorem st_getR (C : Cx X own cc) {a idx ci k : Nat} {R : String} {T : u_T} {N : Nat} (hc : gcls[ci]? = some (R, T, N)) (hin : ∀ w ∈ u_ws R T N, w ∈ gw) (hk : k < N) (hf : (fl ci)[k]? = some (100 * ci + k, true)) (hw : Cond.fieldLink own idx (T k).1 (T k).2.1 (T k).2.2.1 ∈ gw) (hd : decode cc pc = .ok (.getfield idx, 3)) (hci : ci < 10) (hK : h.K a = ci + 1)
    (kk : At X cells slots (pc + 3) ls (va_rf (h.R (100 * ci + k) a) :: st) h) : At X cells slots pc ls (.ref a :: st) h := by
  intro H locs sl q b c
  have hP : va_P X.D gcls [(a, .inr (ci, (fl ci).map (fv h a)))] H := fun j x hx => by
    match j, hx with
    | 0, hx => cases hx; exact (q.1 a _ (cof_ob hK hci)).2
    | j + 1, hx => cases hx
  refine va_get C.1 C.2.1 C.2.2.2.2.1 hin C.2.2.2.1 C.2.2.2.2.2.1 hP 0 rfl hc k hk (C.2.2.2.2.1 _ hw) (fun x h => h) (v := va_rf (h.R (100 * ci + k) a)) ?_ hd (kk H locs sl q b c)
  rw [List.getElem?_map, hf]
  rfl
/-- a store into a field: the machine's part -/
theorem st_putV (C : Cx X own cc) {a idx ci k : Nat} {R : String} {T : u_T} {N : Nat} {tyf : Nat → FieldType} {v : Value} {g : Hp} (hc : gcls[ci]? = some (R, T, N)) (hin : ∀ w ∈ u_ws R T N, w ∈ gw) (hty : ∀ k, k < N → parseFieldDescriptor (T k).2.2.1 = some (tyf k)) (hnm : ∀ a, a < N → ∀ b, b < N → a ≠ b → (T a).2.1 ≠ (T b).2.1) (hk : k < N) (hl : k < (fl ci).length)
    (hw : Cond.fieldLink own idx (T k).1 (T k).2.1 (T k).2.2.1 ∈ gw) (hd : decode cc pc = .ok (.putfield idx, 3)) (hci : ci < 10) (hK : h.K a = ci + 1) (hfin : (T k).2.2.2 = false ∨ ((T k).2.2.2 = true ∧ X.meth.name = "<init>" ∧ (T k).1 = own)) (hn : narrow (tyf k) v = v) (hfit : fits (tyf k) v = true)
    (e : ∀ b, b ≠ a → cof X.dA g b = cof X.dA h b) (eK : g.K = h.K) (eN : g.N = h.N) (eA : g.AI = h.AI) (ec : (fl ci).map (fv g a) = ((fl ci).map (fv h a)).set k v)
    (kk : At X cells slots (pc + 3) ls st g) : At X cells slots pc ls (v :: .ref a :: st) h := by
  intro H locs sl q b c
  have hcof : cof X.dA h a = some (.inr (ci, (fl ci).map (fv h a))) := cof_ob hK hci
  have hcofg : cof X.dA g a = some (.inr (ci, ((fl ci).map (fv h a)).set k v)) := by rw [← ec]; exact cof_ob (by rw [eK]; exact hK) hci
  obtain ⟨hbase, r, h1, cell, q1, q2, q3, q4⟩ := q.1 a _ hcof
  have hr : r = (R, T, N) := Option.some.inj (h1.symm.trans hc)
  subst hr
  have hap := va_apart (own := own) C.2.2.2.2.1 hin tyf hty hnm C.2.2.2.2.2.1 hc
  obtain ⟨hS, hfc, kC, hkC, hkind⟩ := C.2.2.2.2.2.1.1 ci _ hc
  obtain ⟨cf, kf, fi, f, hi, hsl⟩ := hS k hk
  have hlay := C.2.2.2.2.1 _ (hin _ (u_in_lay hk))
  have hst := (u_facts hfc hkC (u_lays C.2.2.2.2.1 hin hk) hi).1
  have fin : ∀ H', H'[a]? = some (cell.setSlot f.slot v) → H'.size = H.size → (∀ q, q ≠ a → H'[q]? = H[q]?) → W X.p X.l X.e X.Rm X.s X.m X.args X.below X.meth X.c H' (locs ++ [⟨a, f.slot⟩]) cells slots X.Q (F0 X.m (pc + 3) sl st) := by
    intro H' e1 e2 e3
    rw [hsl] at e1
    refine kk H' _ sl (q.put e eK eN (fun b hb => by rw [eA]) hcof (fun e1' he => ?_) e2 e3) (b.put e2 e3 hbase) c
    rw [hcofg] at he
    cases he
    exact ⟨_, hc, t_OB.to (V := updV (vp_V ((fl ci).map (fv h a))) k v) ⟨_, e1, q2, q3, t_set q4 hap hk v⟩ (fun j _ => vp_updV_set (by rw [List.length_map]; exact hl) v j)⟩
  rcases hfin with hfin | ⟨hfin, hin2, hdecl⟩
  · unfold u_lay at hlay
    rw [if_neg (by rw [hfin]; decide)] at hlay
    have h6 := u_store hfc hkC hkind hlay hi (hty k hk) hn hfit
    refine W.putK C.1 C.2.1 (f := f) ⟨C.2.2.2.1, C.2.2.2.2.1 _ hw, ⟨_, _, _, hi⟩, hst⟩ (by rw [q2]; exact h6) q1 q3 (by rw [hsl]; exact k2_hasslot (q4 k hk)) rfl rfl hd fin
  · unfold u_lay at hlay
    rw [if_pos hfin] at hlay
    have hcf : X.m.cls = cf := by
      obtain ⟨_, _, c', _, _, _, -, -, hf', -, -, -, hown2, -⟩ := Cond.laysFinal_spec hlay
      have e1 : c' = cf := by have := hi.symm.trans hf'; simp at this; exact this.1.symm
      rw [hdecl] at hown2
      rw [← e1]; exact Option.some.inj (C.2.2.2.1.symm.trans hown2)
    have h6 := u_fits hfc hkC hkind (Or.inr hlay) hi (hty k hk) hn hfit
    refine W.putFinK C.1 C.2.1 C.2.2.2.1 (C.2.2.2.2.1 _ hw) hi hst hcf hin2 (by rw [q2]; exact h6) q1 q3 (by rw [hsl]; exact k2_hasslot (q4 k hk)) rfl rfl hd fin
theorem st_putI (C : Cx X own cc) {a idx ci k : Nat} {R : String} {T : u_T} {N : Nat} {tyf : Nat → FieldType} {v : Int32} (hc : gcls[ci]? = some (R, T, N)) (hin : ∀ w ∈ u_ws R T N, w ∈ gw) (hty : ∀ k, k < N → parseFieldDescriptor (T k).2.2.1 = some (tyf k)) (hnm : ∀ a, a < N → ∀ b, b < N → a ≠ b → (T a).2.1 ≠ (T b).2.1) (hk : k < N) (hf : (fl ci)[k]? = some (100 * ci + k, false))
    (hw : Cond.fieldLink own idx (T k).1 (T k).2.1 (T k).2.2.1 ∈ gw) (hd : decode cc pc = .ok (.putfield idx, 3)) (hci : ci < 10) (hK : h.K a = ci + 1) (hfin : (T k).2.2.2 = false ∨ ((T k).2.2.2 = true ∧ X.meth.name = "<init>" ∧ (T k).1 = own)) (hn : narrow (tyf k) (.int v) = .int v) (hfit : fits (tyf k) (.int v) = true)
    (kk : At X cells slots (pc + 3) ls st (h.sI (100 * ci + k) a v)) : At X cells slots pc ls (.int v :: .ref a :: st) h :=
  st_putV C (g := h.sI (100 * ci + k) a v) hc hin hty hnm hk (List.getElem?_eq_some_iff.mp hf).1 hw hd hci hK hfin hn hfit (fun b hb => cof_cg rfl rfl (fun f => by rw [I_sI, up2_a _ _ hb]) (fun _ => rfl) rfl rfl rfl) rfl rfl rfl (map_setI hf) kk
theorem st_putR (C : Cx X own cc) {a idx ci k : Nat} {R : String} {T : u_T} {N : Nat} {tyf : Nat → FieldType} (o : Option Nat) (hc : gcls[ci]? = some (R, T, N)) (hin : ∀ w ∈ u_ws R T N, w ∈ gw) (hty : ∀ k, k < N → parseFieldDescriptor (T k).2.2.1 = some (tyf k)) (hnm : ∀ a, a < N → ∀ b, b < N → a ≠ b → (T a).2.1 ≠ (T b).2.1) (hk : k < N) (hf : (fl ci)[k]? = some (100 * ci + k, true))
    (hw : Cond.fieldLink own idx (T k).1 (T k).2.1 (T k).2.2.1 ∈ gw) (hd : decode cc pc = .ok (.putfield idx, 3)) (hci : ci < 10) (hK : h.K a = ci + 1) (hfin : (T k).2.2.2 = false ∨ ((T k).2.2.2 = true ∧ X.meth.name = "<init>" ∧ (T k).1 = own)) (hn : narrow (tyf k) (va_rf o) = va_rf o) (hfit : fits (tyf k) (va_rf o) = true)
    (kk : At X cells slots (pc + 3) ls st (h.sR (100 * ci + k) a o)) : At X cells slots pc ls (va_rf o :: .ref a :: st) h :=
  st_putV C (g := h.sR (100 * ci + k) a o) hc hin hty hnm hk (List.getElem?_eq_some_iff.mp hf).1 hw hd hci hK hfin hn hfit (fun b hb => cof_cg rfl rfl (fun _ => rfl) (fun f => by rw [R_sR, up2_a _ _ hb]) rfl rfl rfl) rfl rfl rfl (map_setR hf) kk
end ATR
