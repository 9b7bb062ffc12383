/-! THE ENTRY's world out of the tables -/
section LWE
variable {s : State} {args : Array Value}
theorem ar_int (h : (Cond.arrayClass .int).before args s = true) : ∃ cA, ArrOfT s cA .int ∧ va_RA s cA .int := by
  obtain ⟨cA, kA, comp, h1, h2, h3⟩ := Cond.arrayClass_spec (type := .int) h
  exact ⟨cA, fun n z => ⟨fun k h => (by cases h), kA, h2, comp, h3⟩, h1⟩
theorem ar_bool (h : (Cond.arrayClass .boolean).before args s = true) : ∃ cA, ArrOfT s cA .boolean ∧ va_RA s cA .boolean := by
  obtain ⟨cA, kA, comp, h1, h2, h3⟩ := Cond.arrayClass_spec (type := .boolean) h
  exact ⟨cA, fun n z => ⟨fun k h => (by cases h), kA, h2, comp, h3⟩, h1⟩
theorem ar_long (h : (Cond.arrayClass .long).before args s = true) : ∃ cA, ArrOfT s cA .long ∧ va_RA s cA .long := by
  obtain ⟨cA, kA, comp, h1, h2, h3⟩ := Cond.arrayClass_spec (type := .long) h
  exact ⟨cA, fun n z => ⟨fun k h => (by cases h), kA, h2, comp, h3⟩, h1⟩
theorem ar_obj {C : String} (h : (Cond.arrayOver (.object C)).before args s = true) : ∃ cA, ArrOfT s cA (.object C) ∧ va_RA s cA (.object C) := by
  obtain ⟨comp, cA, kA, h1, -, h2, h3, h4⟩ := Cond.arrayOver_spec h
  exact ⟨cA, fun n z => ⟨fun k h => (by cases h), kA, h2, comp, h3⟩, kA, comp, h2, h3, h1, h4⟩
set_option maxHeartbeats 1000000 in
theorem ge_K (hts : ∀ w ∈ lw_tbl, w.before args s = true) (c : Nat) : ∃ r : ClassId × (Nat → Nat), ∀ q, gcls[c]? = some q → u_Kn s q.1 q.2.1 q.2.2 r.1 r.2 := by
  have hg : ∀ w ∈ gw, w.before args s = true := fun w hw => hts w (List.mem_filter.mp hw).1
  have go : ∀ {C : String} {T : u_T} {N n i : Nat}, gcls[c]? = some (C, T, N) → (∀ w ∈ u_ws C T N, w ∈ gw) → lw_tbl[i]? = some (.instantiable C n) → ∃ r : ClassId × (Nat → Nat), ∀ q, gcls[c]? = some q → u_Kn s q.1 q.2.1 q.2.2 r.1 r.2 := by
    intro C T N n i e hin hi
    obtain ⟨cC, iS, hk⟩ := u_known (C := C) (T := T) (N := N) (n := n) hg hin (hts _ (List.mem_of_getElem? hi))
    refine ⟨(cC, iS), fun q hq => ?_⟩
    rw [e] at hq
    cases hq
    exact hk
  match c with
  | 0 => exact go (n := 9) (i := 330) rfl gX0 (by decide +kernel)
  | 1 => exact go (n := 1) (i := 138) rfl gX1 (by decide +kernel)
  | 2 => exact go (n := 3) (i := 86) rfl gX2 (by decide +kernel)
  | 3 => exact go (n := 9) (i := 79) rfl gX3 (by decide +kernel)
  | 4 => exact go (n := 3) (i := 172) rfl gX4 (by decide +kernel)
  | 5 => exact go (n := 7) (i := 189) rfl gX5 (by decide +kernel)
  | 6 => exact go (n := 1) (i := 67) rfl gX6 (by decide +kernel)
  | 7 => exact go (n := 4) (i := 151) rfl gX7 (by decide +kernel)
  | 8 => exact go (n := 13) (i := 50) rfl gX8 (by decide +kernel)
  | 9 => exact go (n := 33) (i := 687) rfl gX9 (by decide +kernel)
  | c + 10 => exact ⟨(0, fun _ => 0), fun q hq => by cases hq⟩
theorem ge_all (hts : ∀ w ∈ lw_tbl, w.before args s = true) : ∃ (D : va_G) (dA : Nat → ClassId), va_K D gcls (gtys dA) s := by
  have H := ge_K hts
  obtain ⟨a0, b0, c0⟩ := ar_int (hts _ (List.mem_of_getElem? (i := 77) (by decide +kernel)))
  obtain ⟨a1, b1, c1⟩ := ar_bool (hts _ (List.mem_of_getElem? (i := 795) (by decide +kernel)))
  obtain ⟨a2, b2, c2⟩ := ar_obj (C := RX0) (hts _ (List.mem_of_getElem? (i := 144) (by decide +kernel)))
  obtain ⟨a3, b3, c3⟩ := ar_obj (C := RX2) (hts _ (List.mem_of_getElem? (i := 85) (by decide +kernel)))
  obtain ⟨a4, b4, c4⟩ := ar_long (hts _ (List.mem_of_getElem? (i := 976) (by decide +kernel)))
  refine ⟨(fun c => (Classical.choose (H c)).1, fun c => (Classical.choose (H c)).2), fun k => if k = 0 then a0 else if k = 1 then a1 else if k = 2 then a2 else if k = 3 then a3 else a4, fun c q hq => Classical.choose_spec (H c) q hq, fun k q hk => ?_⟩
  match k, hk with
  | 0, hk => cases hk; exact ⟨b0, c0⟩
  | 1, hk => cases hk; exact ⟨b1, c1⟩
  | 2, hk => cases hk; exact ⟨b2, c2⟩
  | 3, hk => cases hk; exact ⟨b3, c3⟩
  | 4, hk => cases hk; exact ⟨b4, c4⟩
  | k + 5, hk => cases hk
theorem ge_ext (hts : ∀ w ∈ lw_tbl, w.before args s = true) (base : Nat) (H : Heap) : Ext base s H :=
  ⟨va_AO.of (hts _ (List.mem_of_getElem? (i := 144) (by decide +kernel))), va_AO.of (hts _ (List.mem_of_getElem? (i := 85) (by decide +kernel))), va_Nw.of rfl (hts _ (List.mem_of_getElem? (i := 152) (by decide +kernel)))⟩
theorem ge_str (hts : ∀ w ∈ lw_tbl, w.before args s = true) {k i : Nat} {tx : String} (hi : lw_tbl[i]? = some (.stringRef RX8 k tx)) : ∃ sa, vk_R RX8 k tx sa s := by
  obtain ⟨cC, -, hf, -⟩ := Cond.instantiable_spec (hts _ (List.mem_of_getElem? (i := 50) (show lw_tbl[50]? = some (.instantiable RX8 13) by decide +kernel)))
  have h1 := hts _ (List.mem_of_getElem? hi)
  obtain ⟨-, -, -, a, -, -, -, -, -, h6⟩ := Cond.stringRef_spec hf h1
  exact ⟨a, vk_R.of h1 h6⟩
theorem ge_extT (hts : ∀ w ∈ lw_tbl, w.before args s = true) (hgv : (Jvm.Cond.and given_1 narrow_1).before args s = true) : ExtT s.heap.size s s.heap := by
  have hs := flat_of_before _ hgv
  have hA : ∀ a : Nat, a < s.heap.size → ¬ s.heap.size ≤ a := fun a h => by omega
  exact ⟨vx_Zqof (hts _ (List.mem_of_getElem? (i := 623) (by decide +kernel))) (hts _ (List.mem_of_getElem? (i := 45) (by decide +kernel))) (hs _ (by decide +kernel)) hA,
    vx_Zqof (hts _ (List.mem_of_getElem? (i := 625) (by decide +kernel))) (hts _ (List.mem_of_getElem? (i := 45) (by decide +kernel))) (hs _ (by decide +kernel)) hA,
    ge_str hts (i := 635) (by decide +kernel), ge_str hts (i := 673) (by decide +kernel),
    va_Nw.of rfl (hts _ (List.mem_of_getElem? (i := 600) (by decide +kernel))), va_Nw.of rfl (hts _ (List.mem_of_getElem? (i := 602) (by decide +kernel))), va_Nw.of rfl (hts _ (List.mem_of_getElem? (i := 604) (by decide +kernel))), va_Nw.of rfl (hts _ (List.mem_of_getElem? (i := 598) (by decide +kernel)))⟩
/-- the heap at the start: the script alone -/
def hp0 (b L : Nat) (xs : Nat → Int32) : Hp := (fun a => if a = b then 20 else 0, fun a => if a = b then L else 0, fun _ _ => 0, fun _ _ => none, fun a i => if a = b then xs i else 0, fun _ _ => none, fun _ _ => 0)
set_option maxHeartbeats 1000000 in
theorem hp0_ok {D : va_G} {dA : Nat → ClassId} {b L : Nat} {xs : Nat → Int32} (hX : va_X b L xs s s.heap) (hb : b < s.heap.size) : Hok D dA s.heap.size (hp0 b L xs) s s.heap := by
  have kK : ∀ a, (hp0 b L xs).K a = if a = b then 20 else 0 := fun _ => rfl
  refine ⟨fun a e he => ?_, fun a ha => ?_, fun a ha => ?_⟩
  · have hk : (hp0 b L xs).K a = 20 ∨ (hp0 b L xs).K a = 0 := by
      rw [kK]
      by_cases q : a = b
      · rw [if_pos q]; exact Or.inl rfl
      · rw [if_neg q]; exact Or.inr rfl
    rcases hk with hk | hk <;> simp [cof, hk] at he
  · have q : a = b := by
      by_cases q : a = b
      · exact q
      · rw [kK, if_neg q] at ha; cases ha
    subst q
    refine ⟨hb, ?_⟩
    have e1 : (hp0 a L xs).N a = L := by show (if a = a then L else 0) = L; rw [if_pos rfl]
    have e2 : (hp0 a L xs).AI a = xs := by funext i; show (if a = a then xs i else 0) = xs i; rw [if_pos rfl]
    rw [e1, e2]
    exact hX
  · by_cases q : a = b
    · subst q; exact hb
    · rw [kK, if_neg q] at ha; exact absurd rfl ha
end LWE
