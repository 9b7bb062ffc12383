section ATA
variable {X : CX} {own : String} {cc : ByteArray} {cells slots pc : Nat} {ls : List (Option Value)} {st : List Value} {h : Hp}
theorem va1 {D : va_G} {a : Nat} {e : va_E} {H : Heap} (he : va_at D gcls (a, e) H) : va_P D gcls [(a, e)] H := fun j x hx => by
  match j, hx with
  | 0, hx => cases hx; exact he
  | j + 1, hx => cases hx
theorem st_iaload (C : Cx X own cc) {a : Nat} {i : Int32} (hd : decode cc pc = .ok (.iaload, 1)) (hK : h.K a = 11) (hi : vp_in i (h.N a)) (kk : At X cells slots (pc + 1) ls (.int (h.AI a i.toNatClampNeg) :: st) h) : At X cells slots pc ls (.int i :: .ref a :: st) h :=
  fun H locs sl q b c => va_iald C.1 C.2.1 C.2.2.2.2.2.1 (va1 (q.1 a _ (cof_11 hK)).2) 0 0 rfl rfl hi hd (kk H locs sl q b c)
theorem st_saload (C : Cx X own cc) {a : Nat} {i : Int32} (hd : decode cc pc = .ok (.iaload, 1)) (hK : h.K a = 20) (hi : vp_in i (h.N a)) (kk : At X cells slots (pc + 1) ls (.int (h.AI a i.toNatClampNeg) :: st) h) : At X cells slots pc ls (.int i :: .ref a :: st) h := by
  intro H locs sl q b c
  obtain ⟨-, scr, h1, h2, h3, h4, h5⟩ := q.2.1 a hK
  have hlt : i.toNatClampNeg < h.N a := Nat.not_le.mp fun q => hi (Or.inr q)
  exact W.iald (v := .int (h.AI a i.toNatClampNeg)) C.1 C.2.1 h1 h2 h3 (by rw [h4]; exact hi) (h5 _ hlt) rfl rfl hd (kk H locs sl q b c)
theorem st_slen (C : Cx X own cc) {a : Nat} (hd : decode cc pc = .ok (.arraylength, 1)) (hK : h.K a = 20) (kk : At X cells slots (pc + 1) ls (.int (nI (h.N a)) :: st) h) : At X cells slots pc ls (.ref a :: st) h := by
  intro H locs sl q b c
  obtain ⟨-, scr, h1, h2, h3, h4, h5⟩ := q.2.1 a hK
  exact W.alen (n := Int32.ofNat (h.N a)) C.1 C.2.1 h1 h2 (by rw [h4] <;> rfl) rfl rfl hd (kk H locs sl q b c)
theorem st_baload (C : Cx X own cc) {a : Nat} {i : Int32} (hd : decode cc pc = .ok (.baload, 1)) (hK : h.K a = 12) (hi : vp_in i (h.N a)) (kk : At X cells slots (pc + 1) ls (.int (h.AI a i.toNatClampNeg) :: st) h) : At X cells slots pc ls (.int i :: .ref a :: st) h :=
  fun H locs sl q b c => va_zald C.1 C.2.1 C.2.2.2.2.2.1 (va1 (q.1 a _ (cof_12 hK)).2) 0 1 rfl rfl hi hd (kk H locs sl q b c)
theorem st_aaload (C : Cx X own cc) {a : Nat} {i : Int32} (hd : decode cc pc = .ok (.aaload, 1)) (hK : h.K a = 13 ∨ h.K a = 14) (hi : vp_in i (h.N a)) (kk : At X cells slots (pc + 1) ls (va_rf (h.AR a i.toNatClampNeg) :: st) h) : At X cells slots pc ls (.int i :: .ref a :: st) h := by
  intro H locs sl q b c
  rcases hK with hK | hK
  · exact va_aldq C.1 C.2.1 C.2.2.2.2.2.1 (va1 (q.1 a _ (cof_13 hK)).2) 0 2 rfl rfl hi hd (kk H locs sl q b c)
  · exact va_aldq C.1 C.2.1 C.2.2.2.2.2.1 (va1 (q.1 a _ (cof_14 hK)).2) 0 3 rfl rfl hi hd (kk H locs sl q b c)
theorem st_laload (C : Cx X own cc) {a : Nat} {i : Int32} (hd : decode cc pc = .ok (.laload, 1)) (hK : h.K a = 15) (hi : vp_in i (h.N a)) (kk : At X cells slots (pc + 1) ls (.long (h.AL a i.toNatClampNeg) :: st) h) : At X cells slots pc ls (.int i :: .ref a :: st) h :=
  fun H locs sl q b c => va_lald C.1 C.2.1 C.2.2.2.2.2.1 (va1 (q.1 a _ (cof_15 hK)).2) 0 4 rfl rfl hi hd (kk H locs sl q b c)
theorem st_alen (C : Cx X own cc) {a : Nat} (hd : decode cc pc = .ok (.arraylength, 1)) (hK : h.K a = 11 ∨ h.K a = 12 ∨ h.K a = 13 ∨ h.K a = 14 ∨ h.K a = 15) (kk : At X cells slots (pc + 1) ls (.int (nI (h.N a)) :: st) h) : At X cells slots pc ls (.ref a :: st) h := by
  intro H locs sl q b c
  rcases hK with hK | hK | hK | hK | hK
  · exact va_alen C.1 C.2.1 C.2.2.2.2.2.1 (va1 (q.1 a _ (cof_11 hK)).2) 0 0 rfl rfl rfl hd (kk H locs sl q b c)
  · exact va_alen C.1 C.2.1 C.2.2.2.2.2.1 (va1 (q.1 a _ (cof_12 hK)).2) 0 1 rfl rfl rfl hd (kk H locs sl q b c)
  · exact va_alen C.1 C.2.1 C.2.2.2.2.2.1 (va1 (q.1 a _ (cof_13 hK)).2) 0 2 rfl rfl rfl hd (kk H locs sl q b c)
  · exact va_alen C.1 C.2.1 C.2.2.2.2.2.1 (va1 (q.1 a _ (cof_14 hK)).2) 0 3 rfl rfl rfl hd (kk H locs sl q b c)
  · exact va_alen C.1 C.2.1 C.2.2.2.2.2.1 (va1 (q.1 a _ (cof_15 hK)).2) 0 4 rfl rfl rfl hd (kk H locs sl q b c)
theorem updV_i (f : Nat → Int32) (k : Nat) (v : Int32) : updV (fun j => Value.int (f j)) k (.int v) = fun j => Value.int (if j = k then v else f j) := by
  funext j
  by_cases hj : j = k <;> simp [updV, hj]
theorem updV_l (f : Nat → Int64) (k : Nat) (v : Int64) : updV (fun j => Value.long (f j)) k (.long v) = fun j => Value.long (if j = k then v else f j) := by
  funext j
  by_cases hj : j = k <;> simp [updV, hj]
theorem updV_r (f : Nat → Option Nat) (k : Nat) (v : Option Nat) : updV (fun j => va_rf (f j)) k (va_rf v) = fun j => va_rf (if j = k then v else f j) := by
  funext j
  by_cases hj : j = k <;> simp [updV, hj]
theorem sAI_row (h : Hp) (a k : Nat) (v : Int32) : (h.sAI a k v).AI a = fun j => if j = k then v else h.AI a j := by funext j; simp [AI_sAI, up2]
theorem sAR_row (h : Hp) (a k : Nat) (v : Option Nat) : (h.sAR a k v).AR a = fun j => if j = k then v else h.AR a j := by funext j; simp [AR_sAR, up2]
theorem sAL_row (h : Hp) (a k : Nat) (v : Int64) : (h.sAL a k v).AL a = fun j => if j = k then v else h.AL a j := by funext j; simp [AL_sAL, up2]
theorem sAI_off (h : Hp) {a b k : Nat} (v : Int32) (hb : b ≠ a) : (h.sAI a k v).AI b = h.AI b := by funext j; simp [AI_sAI, up2, hb]
theorem sAR_off (h : Hp) {a b k : Nat} (v : Option Nat) (hb : b ≠ a) : (h.sAR a k v).AR b = h.AR b := by funext j; simp [AR_sAR, up2, hb]
theorem sAL_off (h : Hp) {a b k : Nat} (v : Int64) (hb : b ≠ a) : (h.sAL a k v).AL b = h.AL b := by funext j; simp [AL_sAL, up2, hb]
theorem st_iastore (C : Cx X own cc) {a : Nat} {i v : Int32} (hd : decode cc pc = .ok (.iastore, 1)) (hK : h.K a = 11) (hi : vp_in i (h.N a)) (kk : At X cells slots (pc + 1) ls st (h.sAI a i.toNatClampNeg v)) : At X cells slots pc ls (.int v :: .int i :: .ref a :: st) h := by
  intro H locs sl q b c
  have hcof : cof X.dA h a = _ := cof_11 hK
  obtain ⟨hbase, hat⟩ := q.1 a _ hcof
  refine W.iast C.1 C.2.1 hat ((C.2.2.2.2.2.1.2 0 _ rfl).1 (h.N a) (fun j => .int (h.AI a j))) (fun q => by cases q) (by show ¬ (i < 0 ∨ (arrV _ _ _).slots.size ≤ _); rw [arrV_size]; exact hi) rfl rfl hd fun H1 e z oq => ?_
  refine kk H1 _ sl (q.put (g := h.sAI a i.toNatClampNeg v) (fun x hx => cof_cg rfl rfl (fun _ => rfl) (fun _ => rfl) (sAI_off h v hx) rfl rfl) rfl rfl (fun x hx => sAI_off h v hx) hcof (fun e1 he => ?_) z oq) (b.put z oq hbase) c
  rw [cof_11 (h := h.sAI a i.toNatClampNeg v) hK] at he
  cases he
  show H1[a]? = some (vp_cell _ _)
  rw [e, vp_cell_i, vp_cell_i, arrV_store, updV_i]
  show some (arrV _ _ _) = some (arrV _ _ (fun j => Value.int ((h.sAI a i.toNatClampNeg v).AI a j)))
  rw [sAI_row]
  rfl
theorem st_bastore (C : Cx X own cc) {a : Nat} {i v : Int32} (hd : decode cc pc = .ok (.bastore, 1)) (hK : h.K a = 12) (hi : vp_in i (h.N a)) (hv : v = 0 ∨ v = 1) (kk : At X cells slots (pc + 1) ls st (h.sAI a i.toNatClampNeg v)) : At X cells slots pc ls (.int v :: .int i :: .ref a :: st) h := by
  intro H locs sl q b c
  have hcof : cof X.dA h a = _ := cof_12 hK
  obtain ⟨hbase, hat⟩ := q.1 a _ hcof
  have hnar : narrow .boolean (.int v) = .int v := by rcases hv with rfl | rfl <;> decide
  refine W.zast C.1 C.2.1 hat ((C.2.2.2.2.2.1.2 1 _ rfl).1 (h.N a) (fun j => .int (h.AI a j))) (fun q => by cases q) (by show ¬ (i < 0 ∨ (arrV _ _ _).slots.size ≤ _); rw [arrV_size]; exact hi) rfl rfl hd fun H1 e z oq => ?_
  rw [hnar] at e
  refine kk H1 _ sl (q.put (g := h.sAI a i.toNatClampNeg v) (fun x hx => cof_cg rfl rfl (fun _ => rfl) (fun _ => rfl) (sAI_off h v hx) rfl rfl) rfl rfl (fun x hx => sAI_off h v hx) hcof (fun e1 he => ?_) z oq) (b.put z oq hbase) c
  rw [cof_12 (h := h.sAI a i.toNatClampNeg v) hK] at he
  cases he
  show H1[a]? = some (vp_cell _ _)
  rw [e, vp_cell_i, vp_cell_i, arrV_store, updV_i]
  show some (arrV _ _ _) = some (arrV _ _ (fun j => Value.int ((h.sAI a i.toNatClampNeg v).AI a j)))
  rw [sAI_row]
  rfl
theorem st_lastore (C : Cx X own cc) {a : Nat} {i : Int32} {v : Int64} (hd : decode cc pc = .ok (.lastore, 1)) (hK : h.K a = 15) (hi : vp_in i (h.N a)) (kk : At X cells slots (pc + 1) ls st (h.sAL a i.toNatClampNeg v)) : At X cells slots pc ls (.long v :: .int i :: .ref a :: st) h := by
  intro H locs sl q b c
  have hcof : cof X.dA h a = _ := cof_15 hK
  obtain ⟨hbase, hat⟩ := q.1 a _ hcof
  refine W.last C.1 C.2.1 hat ((C.2.2.2.2.2.1.2 4 _ rfl).1 (h.N a) (fun j => .long (h.AL a j))) (fun q => by cases q) (by show ¬ (i < 0 ∨ (arrV _ _ _).slots.size ≤ _); rw [arrV_size]; exact hi) rfl rfl hd fun H1 e z oq => ?_
  refine kk H1 _ sl (q.put (g := h.sAL a i.toNatClampNeg v) (fun x hx => cof_cg rfl rfl (fun _ => rfl) (fun _ => rfl) rfl rfl (sAL_off h v hx)) rfl rfl (fun x hx => rfl) hcof (fun e1 he => ?_) z oq) (b.put z oq hbase) c
  rw [cof_15 (h := h.sAL a i.toNatClampNeg v) hK] at he
  cases he
  show H1[a]? = some (vp_cell _ _)
  rw [e, vp_cell_l, vp_cell_l, arrV_store, updV_l]
  show some (arrV _ _ _) = some (arrV _ _ (fun j => Value.long ((h.sAL a i.toNatClampNeg v).AL a j)))
  rw [sAL_row]
  rfl
/-- rows of references: of blocks (13, class 0) and of chunks (14, class 2) -/
theorem st_aastore (C : Cx X own cc) {a : Nat} {i : Int32} (o : Option Nat) (hd : decode cc pc = .ok (.aastore, 1)) (hK : (h.K a = 13 ∧ ∀ v, o = some v → h.K v = 1) ∨ (h.K a = 14 ∧ ∀ v, o = some v → h.K v = 3)) (hi : vp_in i (h.N a)) (kk : At X cells slots (pc + 1) ls st (h.sAR a i.toNatClampNeg o)) : At X cells slots pc ls (va_rf o :: .int i :: .ref a :: st) h := by
  intro H locs sl q b c
  have hlt : i.toNatClampNeg < h.N a := Nat.not_le.mp fun q => hi (Or.inr q)
  have h0 : ¬ i < 0 := fun q => hi (Or.inl q)
  have key : ∀ (t0 ci : Nat) (R : vw_C) (dk : ClassId), gcls[ci]? = some R → (gtys X.dA)[t0]? = some (dk, .object R.1) → ci < 10 → (∀ v, o = some v → h.K v = ci + 1) → cof X.dA h a = some (.inl (dk, h.N a, .inr (.inr (.inr (.inr (h.AR a)))))) → (∀ g : Hp, g.K = h.K → g.N = h.N → cof X.dA g a = some (.inl (dk, g.N a, .inr (.inr (.inr (.inr (g.AR a))))))) →
      W X.p X.l X.e X.Rm X.s X.m X.args X.below X.meth X.c H locs cells slots X.Q (F0 X.m pc sl (va_rf o :: .int i :: .ref a :: st)) := by
    intro t0 ci R dk hR ht hci hv hcof hcofg
    obtain ⟨hbase, hat⟩ := q.1 a _ hcof
    have fin : ∀ H1, H1[a]? = some ((vp_cell dk (h.N a, .inr (.inr (.inr (.inr (h.AR a)))))).setSlot i.toNatClampNeg (va_rf o)) → H1.size = H.size → (∀ q, q ≠ a → H1[q]? = H[q]?) → W X.p X.l X.e X.Rm X.s X.m X.args X.below X.meth X.c H1 (locs ++ [⟨a, i.toNatClampNeg⟩]) cells slots X.Q (F0 X.m (pc + 1) sl st) := by
      intro H1 e z oq
      refine kk H1 _ sl (q.put (g := h.sAR a i.toNatClampNeg o) (fun x hx => cof_cg rfl rfl (fun _ => rfl) (fun _ => rfl) rfl (sAR_off h o hx) rfl) rfl rfl (fun x hx => rfl) hcof (fun e1 he => ?_) z oq) (b.put z oq hbase) c
      rw [hcofg (h.sAR a i.toNatClampNeg o) rfl rfl] at he
      cases he
      show H1[a]? = some (vp_cell _ _)
      rw [e, vp_cell_q, vp_cell_q, arrV_store, updV_r]
      show some (arrV _ _ _) = some (arrV _ _ (fun j => va_rf ((h.sAR a i.toNatClampNeg o).AR a j)))
      rw [sAR_row]
      rfl
    cases o with
    | none => exact va_WaastN (C := R.1) C.1 C.2.1 hat ((C.2.2.2.2.2.1.2 t0 _ ht).1 (h.N a) (fun j => va_rf (h.AR a j))) (fun h => by cases h) (by show ¬ (i < 0 ∨ (arrV _ _ _).slots.size ≤ _); rw [arrV_size]; exact hi) rfl rfl hd fin
    | some v =>
      obtain ⟨r', hr', cellV, g1, g2, g3, -⟩ := (q.1 v _ (cof_ob (hv v rfl) hci)).2
      have hcls := (C.2.2.2.2.2.1.1 ci R hR).2
      obtain ⟨kA, comp, k1, k2, k3, -⟩ := (C.2.2.2.2.2.1.2 t0 _ ht).2
      have hcomp : comp = X.D.1 ci := Option.some.inj (k3.symm.trans hcls.1)
      subst hcomp
      obtain ⟨kC, hkC, -⟩ := hcls.2
      exact W.aast C.1 C.2.1 hat (fun q h => by cases h) (fun h => by cases h) k1 k2 rfl hkC ⟨h0, by show _ < (arrV _ _ _).slots.size; rw [arrV_size]; exact hlt⟩ g1 (fun q h => by rw [g3] at h; cases h) (by rw [g2]; exact hkC) (by rw [g2]; exact va_assign hcls) rfl rfl hd fin
  rcases hK with ⟨hK, hv⟩ | ⟨hK, hv⟩
  · exact key 2 0 (RX0, TX0, 9) _ rfl rfl (by decide) hv (cof_13 hK) (fun g e1 e2 => cof_13 (by rw [e1]; exact hK))
  · exact key 3 2 (RX2, TX2, 3) _ rfl rfl (by decide) hv (cof_14 hK) (fun g e1 e2 => cof_14 (by rw [e1]; exact hK))
theorem st_new (C : Cx X own cc) {idx ci : Nat} {R : String} {T : u_T} {N : Nat} {tyf : Nat → FieldType} (hc : gcls[ci]? = some (R, T, N)) (hin : ∀ w ∈ u_ws R T N, w ∈ gw) (hty : ∀ k, k < N → parseFieldDescriptor (T k).2.2.1 = some (tyf k)) (hw1 : Cond.classLink own idx R ∈ gw) (hw2 : Cond.instantiable R N ∈ gw) (hw3 : Cond.initialized R ∈ gw) (hd : decode cc pc = .ok (.new idx, 3)) (hci : ci < 10)
    (hdef : ∀ j, j < N → defaultValue (tyf j) = vp_V ((fl ci).map (fun q => if q.2 then Value.null else .int 0)) j) (hrc : cells + 1 ≤ X.Rm.cells) (hrs : slots + N ≤ X.Rm.slots)
    (kk : ∀ q, h.K q = 0 → At X (cells + 1) (slots + N) (pc + 3) ls (.ref q :: st) (h.nw q (ci + 1) 0)) : At X cells slots pc ls st h := by
  intro H locs sl q b c
  have hKn := C.2.2.2.2.2.1.1 ci _ hc
  refine W.newcK C.1 C.2.1 C.2.2.2.1 (C.2.2.2.2.1 _ hw1) (C.2.2.2.2.1 _ hw2) (C.2.2.2.2.1 _ hw3) rfl hd hrc hrs hKn.2.1 rfl fun H1 kC hkC e1 z1 o1 => ?_
  have hmap : (fl ci).map (fv (h.nw H.size (ci + 1) 0) H.size) = (fl ci).map (fun q => if q.2 then Value.null else .int 0) := by
    apply List.map_congr_left
    intro x _
    simp [fv, R_nw, I_nw, va_rf]
  obtain ⟨f0, hok⟩ := q.new (k := ci + 1) (n := 0) (H1 := H1) (Nat.le_trans C.2.2.2.2.2.2.1 b.1) (by omega) (fun e2 he => by
    rw [cof_ob (ci := ci) (by simp [K_nw]) hci, hmap] at he
    cases he
    exact ⟨_, hc, (u_born tyf C.2.2.2.2.1 hin hKn hkC e1 hty).to hdef⟩) z1 o1
  exact kk H.size f0 H1 locs sl hok ⟨Nat.le_trans b.1 (by omega), fun x h1 h2 => (o1 x (Nat.lt_of_lt_of_le h1 b.1)).trans (b.2.1 x h1 h2), b.2.2⟩ c
theorem arr_same {dA : Nat → ClassId} {D : va_G} {s : State} (hK : va_K D gcls (gtys dA) s) {t0 : Nat} {dk cA : ClassId} {ty : FieldType} (ht : (gtys dA)[t0]? = some (dk, ty)) (hn : ∀ C, ty ≠ .object C) (h : s.vm.findClass ("[" ++ ty.toString) = some cA) : cA = dk := by
  have h1 := (hK.2 t0 _ ht).2
  cases ty with
  | object C => exact absurd rfl (hn C)
  | _ => exact Option.some.inj (h.symm.trans h1)
theorem arrV_i (cA : ClassId) (n : Nat) (ty : FieldType) (hd : defaultValue ty = .int 0) : arrV cA n (fun _ => defaultValue ty) = vp_cell cA (n, .inl (fun _ => 0)) := by rw [hd, vp_cell_i]
theorem st_newarray (C : Cx X own cc) {t : ArrayType} (k t0 : Nat) (hkt : (k = 11 ∧ t0 = 0 ∧ t = .int) ∨ (k = 12 ∧ t0 = 1 ∧ t = .boolean) ∨ (k = 15 ∧ t0 = 4 ∧ t = .long)) (hw : Cond.arrayClass (newarray.typeOf t) ∈ gw) (hd : decode cc pc = .ok (.newarray t, 2)) {n : Int32} (hn : ¬ n < 0) (hb : n.toNatClampNeg ≤ 60000000) (hrc : cells + 1 ≤ X.Rm.cells) (hrs : slots + n.toNatClampNeg ≤ X.Rm.slots)
    (kk : ∀ q, h.K q = 0 → At X (cells + 1) (slots + n.toNatClampNeg) (pc + 2) ls (.ref q :: st) (h.nw q k n.toNatClampNeg)) : At X cells slots pc ls (.int n :: st) h := by
  intro H locs sl q b c
  have hbytes : n.toNatClampNeg * componentBytes (newarray.typeOf t) ≤ 536870912 := by
    rcases hkt with ⟨-, -, rfl⟩ | ⟨-, -, rfl⟩ | ⟨-, -, rfl⟩ <;> simp [newarray.typeOf, componentBytes] <;> omega
  refine va_newaK C.1 C.2.1 (C.2.2.2.2.1 _ hw) rfl hd rfl hn rfl hbytes hrc hrs rfl fun H1 cA e1 z1 o1 hAr hNm => ?_
  have hcell : ∀ e2, cof X.dA (h.nw H.size k n.toNatClampNeg) H.size = some e2 → va_at X.D gcls (H.size, e2) H1 := by
    intro e2 he
    rcases hkt with ⟨rfl, rfl, rfl⟩ | ⟨rfl, rfl, rfl⟩ | ⟨rfl, rfl, rfl⟩
    · rw [cof_11 (by simp [K_nw])] at he
      cases he
      have hcA : cA = X.dA 0 := arr_same C.2.2.2.2.2.1 (t0 := 0) rfl (by simp) hNm
      subst hcA
      show H1[H.size]? = some (vp_cell _ _)
      rw [e1]
      simp [newarray.typeOf, defaultValue, vp_cell_i, N_nw, AI_nw]
    · rw [cof_12 (by simp [K_nw])] at he
      cases he
      have hcA : cA = X.dA 1 := arr_same C.2.2.2.2.2.1 (t0 := 1) rfl (by simp) hNm
      subst hcA
      show H1[H.size]? = some (vp_cell _ _)
      rw [e1]
      simp [newarray.typeOf, defaultValue, vp_cell_i, N_nw, AI_nw]
    · rw [cof_15 (by simp [K_nw])] at he
      cases he
      have hcA : cA = X.dA 4 := arr_same C.2.2.2.2.2.1 (t0 := 4) rfl (by simp) hNm
      subst hcA
      show H1[H.size]? = some (vp_cell _ _)
      rw [e1]
      simp [newarray.typeOf, defaultValue, vp_cell_l, N_nw, AL_nw]
  obtain ⟨f0, hok⟩ := q.new (k := k) (n := n.toNatClampNeg) (H1 := H1) (Nat.le_trans C.2.2.2.2.2.2.1 b.1) (by omega) hcell z1 o1
  exact kk H.size f0 H1 locs sl hok ⟨Nat.le_trans b.1 (by omega), fun x h1 h2 => (o1 x (Nat.lt_of_lt_of_le h1 b.1)).trans (b.2.1 x h1 h2), b.2.2⟩ c
theorem st_anewarray (C : Cx X own cc) {idx : Nat} {R : String} (k t0 : Nat) (hkt : (k = 13 ∧ t0 = 2 ∧ R = RX0) ∨ (k = 14 ∧ t0 = 3 ∧ R = RX2)) (hw : Cond.classLink own idx R ∈ gw) (hd : decode cc pc = .ok (.anewarray idx, 3)) {n : Int32} (hn : ¬ n < 0) (hb : n.toNatClampNeg ≤ 60000000) (hrc : cells + 1 ≤ X.Rm.cells) (hrs : slots + n.toNatClampNeg ≤ X.Rm.slots)
    (kk : ∀ q, h.K q = 0 → At X (cells + 1) (slots + n.toNatClampNeg) (pc + 3) ls (.ref q :: st) (h.nw q k n.toNatClampNeg)) : At X cells slots pc ls (.int n :: st) h := by
  intro H locs sl q b c
  have hover : va_AO R X.s := by
    rcases hkt with ⟨-, -, rfl⟩ | ⟨-, -, rfl⟩
    · exact C.2.2.2.2.2.2.2.2.1
    · exact C.2.2.2.2.2.2.2.2.2.1
  refine W.anew C.1 C.2.1 C.2.2.2.1 (C.2.2.2.2.1 _ hw) (va_AO.use hover) rfl hd rfl hn (by omega) hrc hrs fun cA kA comp f1 f2 f3 f4 => ?_
  generalize hH1 : H.push ({ cls := cA, slots := Array.replicate n.toNatClampNeg .null, vm := .none } : Cell) = H1
  have z1 : H1.size = H.size + 1 := by rw [← hH1, Array.size_push]
  have e1 : H1[H.size]? = some (arrV cA n.toNatClampNeg (fun _ => .null)) := by rw [← hH1, Array.getElem?_push_size, ← arrV_new]
  have o1 : ∀ q : Nat, q < H.size → H1[q]? = H[q]? := fun q hq => by rw [← hH1, Array.getElem?_push, if_neg (Nat.ne_of_lt hq)]
  have hcell : ∀ e2, cof X.dA (h.nw H.size k n.toNatClampNeg) H.size = some e2 → va_at X.D gcls (H.size, e2) H1 := by
    intro e2 he
    rcases hkt with ⟨rfl, rfl, rfl⟩ | ⟨rfl, rfl, rfl⟩
    · rw [cof_13 (by simp [K_nw])] at he
      cases he
      obtain ⟨_, _, _, _, _, hz⟩ := (C.2.2.2.2.2.1.2 2 _ rfl).2
      have hcA : cA = X.dA 2 := Option.some.inj (f1.symm.trans hz)
      subst hcA
      show H1[H.size]? = some (vp_cell _ _)
      rw [e1]
      simp [vp_cell_q, N_nw, AR_nw, va_rf]
    · rw [cof_14 (by simp [K_nw])] at he
      cases he
      obtain ⟨_, _, _, _, _, hz⟩ := (C.2.2.2.2.2.1.2 3 _ rfl).2
      have hcA : cA = X.dA 3 := Option.some.inj (f1.symm.trans hz)
      subst hcA
      show H1[H.size]? = some (vp_cell _ _)
      rw [e1]
      simp [vp_cell_q, N_nw, AR_nw, va_rf]
  obtain ⟨f0, hok⟩ := q.new (k := k) (n := n.toNatClampNeg) (H1 := H1) (Nat.le_trans C.2.2.2.2.2.2.1 b.1) (by omega) hcell z1 o1
  exact kk H.size f0 H1 locs sl hok ⟨Nat.le_trans b.1 (by omega), fun x h1 h2 => (o1 x (Nat.lt_of_lt_of_le h1 b.1)).trans (b.2.1 x h1 h2), b.2.2⟩ c
theorem st_objInit (C : Cx X own cc) {idx a : Nat} (hw : Cond.methodLink own idx Lib.objectInit ∈ gw) (hw2 : Cond.instanceMethod Lib.objectInit ∈ gw) (hw3 : Cond.code Lib.objectInit ⟨#[0xb1]⟩ 1 none ∈ gw) (hd : decode cc pc = .ok (.invokespecial idx, 3)) (hr1 : 1 ≤ X.Rm.frames) (hr2 : (st.map fun v => v.category).sum + 12 ≤ X.Rm.locals) (kk : At X cells slots (pc + 3) ls st h) : At X cells slots pc ls (.ref a :: st) h := by
  intro H locs sl q b c
  exact W.objInit C.1 C.2.1 C.2.2.2.1 (C.2.2.2.2.1 _ hw) (C.2.2.2.2.1 _ hw2) (C.2.2.2.2.1 _ hw3) rfl (c.1.trans C.2.2.1.symm) rfl hd hr1 (by show 2 * 0 + _ + 12 ≤ _; omega) (kk H locs sl q b c)
end ATA
