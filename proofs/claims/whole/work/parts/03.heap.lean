/-! THE HEAP, field by field: kinds, lengths, int fields, reference fields, int rows, reference rows, long rows. A field's number is 100 * (its class's place) + (its place). -/
def Hp : Type := (Nat → Nat) × (Nat → Nat) × (Nat → Nat → Int32) × (Nat → Nat → Option Nat) × (Nat → Nat → Int32) × (Nat → Nat → Option Nat) × (Nat → Nat → Int64)
def Hp.K (h : Hp) : Nat → Nat := h.1
def Hp.N (h : Hp) : Nat → Nat := h.2.1
def Hp.I (h : Hp) : Nat → Nat → Int32 := h.2.2.1
def Hp.R (h : Hp) : Nat → Nat → Option Nat := h.2.2.2.1
def Hp.AI (h : Hp) : Nat → Nat → Int32 := h.2.2.2.2.1
def Hp.AR (h : Hp) : Nat → Nat → Option Nat := h.2.2.2.2.2.1
def Hp.AL (h : Hp) : Nat → Nat → Int64 := h.2.2.2.2.2.2
def up2 {α : Type} (F : Nat → Nat → α) (f a : Nat) (v : α) : Nat → Nat → α := fun g b => if g = f then (if b = a then v else F g b) else F g b
def Hp.sI (h : Hp) (f a : Nat) (v : Int32) : Hp := (h.1, h.2.1, up2 h.2.2.1 f a v, h.2.2.2)
def Hp.sR (h : Hp) (f a : Nat) (v : Option Nat) : Hp := (h.1, h.2.1, h.2.2.1, up2 h.2.2.2.1 f a v, h.2.2.2.2)
def Hp.sAI (h : Hp) (a i : Nat) (v : Int32) : Hp := (h.1, h.2.1, h.2.2.1, h.2.2.2.1, up2 h.2.2.2.2.1 a i v, h.2.2.2.2.2)
def Hp.sAR (h : Hp) (a i : Nat) (v : Option Nat) : Hp := (h.1, h.2.1, h.2.2.1, h.2.2.2.1, h.2.2.2.2.1, up2 h.2.2.2.2.2.1 a i v, h.2.2.2.2.2.2)
def Hp.sAL (h : Hp) (a i : Nat) (v : Int64) : Hp := (h.1, h.2.1, h.2.2.1, h.2.2.2.1, h.2.2.2.2.1, h.2.2.2.2.2.1, up2 h.2.2.2.2.2.2 a i v)
def Hp.cp (h : Hp) (a sp dp n : Nat) : Hp := (h.1, h.2.1, h.2.2.1, h.2.2.2.1, (fun b i => if b = a then va_cpy (h.2.2.2.2.1 a) (h.2.2.2.2.1 a) sp dp n i else h.2.2.2.2.1 b i), h.2.2.2.2.2)
def Hp.nw (h : Hp) (q k n : Nat) : Hp := ((fun b => if b = q then k else h.1 b), (fun b => if b = q then n else h.2.1 b), (fun g b => if b = q then 0 else h.2.2.1 g b), (fun g b => if b = q then none else h.2.2.2.1 g b), (fun b i => if b = q then 0 else h.2.2.2.2.1 b i), (fun b i => if b = q then none else h.2.2.2.2.2.1 b i), (fun b i => if b = q then 0 else h.2.2.2.2.2.2 b i))
theorem up2_s {α : Type} (F : Nat → Nat → α) (f a : Nat) (v : α) : up2 F f a v f a = v := by simp [up2]
theorem up2_f {α : Type} (F : Nat → Nat → α) {f a g b : Nat} (v : α) (h : g ≠ f) : up2 F f a v g b = F g b := by simp [up2, h]
theorem up2_a {α : Type} (F : Nat → Nat → α) {f a g b : Nat} (v : α) (h : b ≠ a) : up2 F f a v g b = F g b := by simp [up2, h]
theorem K_sI (h : Hp) (f a : Nat) (v : Int32) : (h.sI f a v).K = h.K := rfl
theorem K_sR (h : Hp) (f a : Nat) (v : Option Nat) : (h.sR f a v).K = h.K := rfl
theorem K_sAI (h : Hp) (f a : Nat) (v : Int32) : (h.sAI f a v).K = h.K := rfl
theorem K_sAR (h : Hp) (f a : Nat) (v : Option Nat) : (h.sAR f a v).K = h.K := rfl
theorem K_sAL (h : Hp) (f a : Nat) (v : Int64) : (h.sAL f a v).K = h.K := rfl
theorem K_cp (h : Hp) (a sp dp n : Nat) : (h.cp a sp dp n).K = h.K := rfl
theorem N_sI (h : Hp) (f a : Nat) (v : Int32) : (h.sI f a v).N = h.N := rfl
theorem N_sR (h : Hp) (f a : Nat) (v : Option Nat) : (h.sR f a v).N = h.N := rfl
theorem N_sAI (h : Hp) (f a : Nat) (v : Int32) : (h.sAI f a v).N = h.N := rfl
theorem N_sAR (h : Hp) (f a : Nat) (v : Option Nat) : (h.sAR f a v).N = h.N := rfl
theorem N_sAL (h : Hp) (f a : Nat) (v : Int64) : (h.sAL f a v).N = h.N := rfl
theorem N_cp (h : Hp) (a sp dp n : Nat) : (h.cp a sp dp n).N = h.N := rfl
theorem I_sR (h : Hp) (f a : Nat) (v : Option Nat) : (h.sR f a v).I = h.I := rfl
theorem I_sAI (h : Hp) (f a : Nat) (v : Int32) : (h.sAI f a v).I = h.I := rfl
theorem I_sAR (h : Hp) (f a : Nat) (v : Option Nat) : (h.sAR f a v).I = h.I := rfl
theorem I_sAL (h : Hp) (f a : Nat) (v : Int64) : (h.sAL f a v).I = h.I := rfl
theorem I_cp (h : Hp) (a sp dp n : Nat) : (h.cp a sp dp n).I = h.I := rfl
theorem R_sI (h : Hp) (f a : Nat) (v : Int32) : (h.sI f a v).R = h.R := rfl
theorem R_sAI (h : Hp) (f a : Nat) (v : Int32) : (h.sAI f a v).R = h.R := rfl
theorem R_sAR (h : Hp) (f a : Nat) (v : Option Nat) : (h.sAR f a v).R = h.R := rfl
theorem R_sAL (h : Hp) (f a : Nat) (v : Int64) : (h.sAL f a v).R = h.R := rfl
theorem R_cp (h : Hp) (a sp dp n : Nat) : (h.cp a sp dp n).R = h.R := rfl
theorem AI_sI (h : Hp) (f a : Nat) (v : Int32) : (h.sI f a v).AI = h.AI := rfl
theorem AI_sR (h : Hp) (f a : Nat) (v : Option Nat) : (h.sR f a v).AI = h.AI := rfl
theorem AI_sAR (h : Hp) (f a : Nat) (v : Option Nat) : (h.sAR f a v).AI = h.AI := rfl
theorem AI_sAL (h : Hp) (f a : Nat) (v : Int64) : (h.sAL f a v).AI = h.AI := rfl
theorem AR_sI (h : Hp) (f a : Nat) (v : Int32) : (h.sI f a v).AR = h.AR := rfl
theorem AR_sR (h : Hp) (f a : Nat) (v : Option Nat) : (h.sR f a v).AR = h.AR := rfl
theorem AR_sAI (h : Hp) (f a : Nat) (v : Int32) : (h.sAI f a v).AR = h.AR := rfl
theorem AR_sAL (h : Hp) (f a : Nat) (v : Int64) : (h.sAL f a v).AR = h.AR := rfl
theorem AR_cp (h : Hp) (a sp dp n : Nat) : (h.cp a sp dp n).AR = h.AR := rfl
theorem AL_sI (h : Hp) (f a : Nat) (v : Int32) : (h.sI f a v).AL = h.AL := rfl
theorem AL_sR (h : Hp) (f a : Nat) (v : Option Nat) : (h.sR f a v).AL = h.AL := rfl
theorem AL_sAI (h : Hp) (f a : Nat) (v : Int32) : (h.sAI f a v).AL = h.AL := rfl
theorem AL_sAR (h : Hp) (f a : Nat) (v : Option Nat) : (h.sAR f a v).AL = h.AL := rfl
theorem AL_cp (h : Hp) (a sp dp n : Nat) : (h.cp a sp dp n).AL = h.AL := rfl
theorem I_sI (h : Hp) (f a : Nat) (v : Int32) : (h.sI f a v).I = up2 h.I f a v := rfl
theorem R_sR (h : Hp) (f a : Nat) (v : Option Nat) : (h.sR f a v).R = up2 h.R f a v := rfl
theorem AI_sAI (h : Hp) (a i : Nat) (v : Int32) : (h.sAI a i v).AI = up2 h.AI a i v := rfl
theorem AR_sAR (h : Hp) (a i : Nat) (v : Option Nat) : (h.sAR a i v).AR = up2 h.AR a i v := rfl
theorem AL_sAL (h : Hp) (a i : Nat) (v : Int64) : (h.sAL a i v).AL = up2 h.AL a i v := rfl
theorem AI_cp (h : Hp) (a sp dp n : Nat) : (h.cp a sp dp n).AI = fun b i => if b = a then va_cpy (h.AI a) (h.AI a) sp dp n i else h.AI b i := rfl
theorem K_nw (h : Hp) (q k n : Nat) : (h.nw q k n).K = fun b => if b = q then k else h.K b := rfl
theorem N_nw (h : Hp) (q k n : Nat) : (h.nw q k n).N = fun b => if b = q then n else h.N b := rfl
theorem I_nw (h : Hp) (q k n : Nat) : (h.nw q k n).I = fun g b => if b = q then 0 else h.I g b := rfl
theorem R_nw (h : Hp) (q k n : Nat) : (h.nw q k n).R = fun g b => if b = q then none else h.R g b := rfl
theorem AI_nw (h : Hp) (q k n : Nat) : (h.nw q k n).AI = fun b i => if b = q then 0 else h.AI b i := rfl
theorem AR_nw (h : Hp) (q k n : Nat) : (h.nw q k n).AR = fun b i => if b = q then none else h.AR b i := rfl
theorem AL_nw (h : Hp) (q k n : Nat) : (h.nw q k n).AL = fun b i => if b = q then 0 else h.AL b i := rfl
theorem rf_s (a : Nat) : va_rf (some a) = .ref a := rfl
theorem rf_n : va_rf none = .null := rfl
def fl (ci : Nat) : List (Nat × Bool) := match ci with
  | 0 => [(0, false), (1, false), (2, false), (3, false), (4, false), (5, false), (6, false), (7, false), (8, true)]
  | 1 => [(100, true)]
  | 2 => [(200, false), (201, false), (202, true)]
  | 3 => [(300, false), (301, true), (302, true), (303, false), (304, false), (305, false), (306, false), (307, false), (308, false)]
  | 4 => [(400, true), (401, true), (402, false)]
  | 5 => [(500, true), (501, true), (502, true), (503, true), (504, true), (505, false), (506, false)]
  | 6 => [(600, true)]
  | 7 => [(700, true), (701, true), (702, false), (703, false)]
  | 8 => [(800, true), (801, false), (802, false), (803, true), (804, true), (805, true), (806, true), (807, true), (808, true), (809, false), (810, false), (811, false), (812, false)]
  | 9 => [(900, false), (901, false), (902, false), (903, false), (904, true), (905, false), (906, false), (907, true), (908, true), (909, true), (910, true), (911, true), (912, false), (913, true), (914, true), (915, false), (916, false), (917, false), (918, false), (919, false), (920, false), (921, false), (922, true), (923, true), (924, true), (925, true), (926, true), (927, true), (928, true), (929, true), (930, true), (931, true), (932, false)]
  | _ => []
theorem fl_id : ∀ (ci j : Nat) (q : Nat × Bool), (fl ci)[j]? = some q → q.1 = 100 * ci + j := by
  intro ci j q hq
  by_cases hc : ci < 10
  · by_cases hj : j < 40
    · have h : ∀ c < 10, ∀ i < 40, ((fl c)[i]?).all (fun q => decide (q.1 = 100 * c + i)) = true := by decide +kernel
      have h1 := h ci hc j hj
      rw [hq] at h1
      simpa using h1
    · have h : ∀ c < 10, (fl c).length ≤ 40 := by decide +kernel
      have h1 := h ci hc
      have h2 := (List.getElem?_eq_some_iff.mp hq).1
      omega
  · have : fl ci = [] := by
      unfold fl
      split <;> first | omega | rfl
    rw [this] at hq
    cases hq
def fv (h : Hp) (a : Nat) (q : Nat × Bool) : Value := if q.2 then va_rf (h.R q.1 a) else .int (h.I q.1 a)
/-- what the heap says of a cell: kinds 1 to 10 objects, 11 int rows, 12 boolean rows, 13, 14 rows of blocks, of chunks, 15 long rows -/
def cof (dA : Nat → ClassId) (h : Hp) (a : Nat) : Option va_E :=
  if 1 ≤ h.K a ∧ h.K a ≤ 10 then some (.inr (h.K a - 1, (fl (h.K a - 1)).map (fv h a)))
  else if h.K a = 11 then some (.inl (dA 0, h.N a, .inl (h.AI a)))
  else if h.K a = 12 then some (.inl (dA 1, h.N a, .inl (h.AI a)))
  else if h.K a = 13 then some (.inl (dA 2, h.N a, .inr (.inr (.inr (.inr (h.AR a))))))
  else if h.K a = 14 then some (.inl (dA 3, h.N a, .inr (.inr (.inr (.inr (h.AR a))))))
  else if h.K a = 15 then some (.inl (dA 4, h.N a, .inr (.inl (h.AL a))))
  else none
def gtys (dA : Nat → ClassId) : List (ClassId × FieldType) := [(dA 0, .int), (dA 1, .boolean), (dA 2, .object RX0), (dA 3, .object RX2), (dA 4, .long)]
def Hok (D : va_G) (dA : Nat → ClassId) (base : Nat) (h : Hp) (U : State) (H : Heap) : Prop :=
  (∀ a e, cof dA h a = some e → base ≤ a ∧ va_at D gcls (a, e) H) ∧ (∀ a, h.K a = 20 → a < base ∧ va_X a (h.N a) (h.AI a) U H) ∧ (∀ a, h.K a ≠ 0 → a < H.size)
theorem cof_ob {dA : Nat → ClassId} {h : Hp} {a ci : Nat} (hk : h.K a = ci + 1) (hc : ci < 10) : cof dA h a = some (.inr (ci, (fl ci).map (fv h a))) := by
  unfold cof
  rw [if_pos (by omega), hk]
  rfl
theorem cof_11 {dA : Nat → ClassId} {h : Hp} {a : Nat} (hk : h.K a = 11) : cof dA h a = some (.inl (dA 0, h.N a, .inl (h.AI a))) := by simp [cof, hk]
theorem cof_12 {dA : Nat → ClassId} {h : Hp} {a : Nat} (hk : h.K a = 12) : cof dA h a = some (.inl (dA 1, h.N a, .inl (h.AI a))) := by simp [cof, hk]
theorem cof_13 {dA : Nat → ClassId} {h : Hp} {a : Nat} (hk : h.K a = 13) : cof dA h a = some (.inl (dA 2, h.N a, .inr (.inr (.inr (.inr (h.AR a)))))) := by simp [cof, hk]
theorem cof_14 {dA : Nat → ClassId} {h : Hp} {a : Nat} (hk : h.K a = 14) : cof dA h a = some (.inl (dA 3, h.N a, .inr (.inr (.inr (.inr (h.AR a)))))) := by simp [cof, hk]
theorem cof_15 {dA : Nat → ClassId} {h : Hp} {a : Nat} (hk : h.K a = 15) : cof dA h a = some (.inl (dA 4, h.N a, .inr (.inl (h.AL a)))) := by simp [cof, hk]
/-- two heaps that say the same of an address -/
theorem cof_cg {dA : Nat → ClassId} {h g : Hp} {a : Nat} (e1 : g.K a = h.K a) (e2 : g.N a = h.N a) (e3 : ∀ f, g.I f a = h.I f a) (e4 : ∀ f, g.R f a = h.R f a) (e5 : g.AI a = h.AI a) (e6 : g.AR a = h.AR a) (e7 : g.AL a = h.AL a) : cof dA g a = cof dA h a := by
  have hv : fv g a = fv h a := by
    funext q
    simp only [fv, e3, e4]
  simp only [cof, e1, e2, e5, e6, e7, hv]
theorem map_setI {h : Hp} {a ci k : Nat} {v : Int32} (hk : (fl ci)[k]? = some (100 * ci + k, false)) : (fl ci).map (fv (h.sI (100 * ci + k) a v) a) = ((fl ci).map (fv h a)).set k (.int v) := by
  apply List.ext_getElem?
  intro j
  rw [List.getElem?_map, List.getElem?_set]
  by_cases hj : k = j
  · subst hj
    have hl := (List.getElem?_eq_some_iff.mp hk).1
    rw [hk]
    simp [hl, fv, I_sI, up2]
  · rw [if_neg hj, List.getElem?_map]
    cases hq : (fl ci)[j]? with
    | none => rfl
    | some q =>
      have hid := fl_id ci j q hq
      simp only [Option.map_some, fv, I_sI, R_sI]
      rw [up2_f _ _ (by omega)]
theorem map_setR {h : Hp} {a ci k : Nat} {v : Option Nat} (hk : (fl ci)[k]? = some (100 * ci + k, true)) : (fl ci).map (fv (h.sR (100 * ci + k) a v) a) = ((fl ci).map (fv h a)).set k (va_rf v) := by
  apply List.ext_getElem?
  intro j
  rw [List.getElem?_map, List.getElem?_set]
  by_cases hj : k = j
  · subst hj
    have hl := (List.getElem?_eq_some_iff.mp hk).1
    rw [hk]
    simp [hl, fv, R_sR, up2]
  · rw [if_neg hj, List.getElem?_map]
    cases hq : (fl ci)[j]? with
    | none => rfl
    | some q =>
      have hid := fl_id ci j q hq
      simp only [Option.map_some, fv, R_sR, I_sR]
      rw [up2_f _ _ (by omega)]
/-- one cell changes -/
theorem Hok.put {D : va_G} {dA : Nat → ClassId} {base : Nat} {h g : Hp} {U : State} {H H1 : Heap} {a : Nat} {e0 : va_E} (hk : Hok D dA base h U H) (e : ∀ b, b ≠ a → cof dA g b = cof dA h b) (eK : g.K = h.K) (eN : g.N = h.N) (eA : ∀ b, b ≠ a → g.AI b = h.AI b) (h0 : cof dA h a = some e0)
    (hc : ∀ e1, cof dA g a = some e1 → va_at D gcls (a, e1) H1) (hz : H1.size = H.size) (hq : ∀ q : Nat, q ≠ a → H1[q]? = H[q]?) : Hok D dA base g U H1 := by
  have hne : ∀ b, h.K b = 20 → b ≠ a := by
    intro b hb hba
    subst hba
    simp [cof, hb] at h0
  refine ⟨fun b x hb => ?_, fun b hb => ?_, fun b hb => ?_⟩
  · by_cases hba : b = a
    · subst hba
      exact ⟨(hk.1 b _ h0).1, hc _ hb⟩
    · rw [e b hba] at hb
      exact ⟨(hk.1 b x hb).1, (hk.1 b x hb).2.kept (hq b hba)⟩
  · rw [eK] at hb
    have hba := hne b hb
    rw [eN, eA b hba]
    exact ⟨(hk.2.1 b hb).1, (hk.2.1 b hb).2.kept (hq b hba)⟩
  · rw [eK] at hb
    rw [hz]
    exact hk.2.2 b hb
/-- a new cell -/
theorem Hok.new {D : va_G} {dA : Nat → ClassId} {base k n : Nat} {h : Hp} {U : State} {H H1 : Heap} (hk : Hok D dA base h U H) (hb : base ≤ H.size) (hk20 : k ≠ 20)
    (hc : ∀ e1, cof dA (h.nw H.size k n) H.size = some e1 → va_at D gcls (H.size, e1) H1) (hz : H1.size = H.size + 1) (hq : ∀ q : Nat, q < H.size → H1[q]? = H[q]?) : h.K H.size = 0 ∧ Hok D dA base (h.nw H.size k n) U H1 := by
  have hfresh : h.K H.size = 0 := by
    by_cases h0 : h.K H.size = 0
    · exact h0
    · exact absurd (hk.2.2 _ h0) (Nat.lt_irrefl _)
  have hlt : ∀ b, h.K b ≠ 0 → b ≠ H.size := fun b hb e => by subst e; exact hb hfresh
  refine ⟨hfresh, fun b x hx => ?_, fun b hx => ?_, fun b hx => ?_⟩
  · by_cases hbq : b = H.size
    · subst hbq
      exact ⟨hb, hc x hx⟩
    · have e : cof dA (h.nw H.size k n) b = cof dA h b := cof_cg (by simp [K_nw, hbq]) (by simp [N_nw, hbq]) (fun f => by simp [I_nw, hbq]) (fun f => by simp [R_nw, hbq]) (by simp [AI_nw, hbq]) (by simp [AR_nw, hbq]) (by simp [AL_nw, hbq])
      rw [e] at hx
      have h1 := hk.1 b x hx
      exact ⟨h1.1, h1.2.kept (hq b h1.2.lt)⟩
  · by_cases hbq : b = H.size
    · subst hbq
      simp [K_nw] at hx
      exact absurd hx hk20
    · simp only [K_nw, if_neg hbq] at hx
      have h1 := hk.2.1 b hx
      have hl : b < H.size := hk.2.2 b (by omega)
      simp only [N_nw, AI_nw, if_neg hbq]
      exact ⟨h1.1, h1.2.kept (hq b hl)⟩
  · by_cases hbq : b = H.size
    · subst hbq; omega
    · simp only [K_nw, if_neg hbq] at hx
      have := hk.2.2 b hx
      omega
theorem Hok.moved {D : va_G} {dA : Nat → ClassId} {base : Nat} {h : Hp} {u U : State} {H : Heap} (hvm : u.vm.Alike U.vm) (hk : Hok D dA base h u H) : Hok D dA base h U H := ⟨hk.1, fun a ha => ⟨(hk.2.1 a ha).1, (hk.2.1 a ha).2.moved hvm⟩, hk.2.2⟩
