/-! blocks, free chunks, TOP and the counts that go with them -/
abbrev St : Type := List Blk × Fl × Nat × Nat × Int32 × Int32 × Int32
def SRel (m : Mo) (s : St) : Prop := BRel m s.1 ∧ FRel m s.2.1 ∧ m.1 905 = nI s.2.2.1 ∧ m.1 906 = nI s.2.2.2.1 ∧ m.1 919 = s.2.2.2.2.1 ∧ m.1 920 = s.2.2.2.2.2.1 ∧ m.1 918 = s.2.2.2.2.2.2
def SInv (W : Nat) (s : St) : Prop := Geo (chB s.1 ++ s.2.1) s.2.2.1 ∧ s.2.2.1 ≤ s.2.2.2.1 ∧ s.2.2.2.1 ≤ W ∧ W ≤ 3000
def sFind (W : Nat) (s : St) (c : Nat) : Option Nat × St := match sFits s.2.1 c with
  | none => if c ≤ W - s.2.2.1 then (some s.2.2.1, (s.1, s.2.1, s.2.2.1 + c, (if s.2.2.1 + c ≤ s.2.2.2.1 then s.2.2.2.1 else s.2.2.1 + c), s.2.2.2.2)) else (none, s)
  | some f => if (gat s.2.1 f).2 ≤ c then (some (gat s.2.1 f).1, (s.1, s.2.1.eraseIdx f, s.2.2))
      else (some (gat s.2.1 f).1, (s.1, (sRel (s.2.1.eraseIdx f) s.2.2.1 s.2.2.2.2.2.1 ((gat s.2.1 f).1 + c) ((gat s.2.1 f).2 - c)).1, (sRel (s.2.1.eraseIdx f) s.2.2.1 s.2.2.2.2.2.1 ((gat s.2.1 f).1 + c) ((gat s.2.1 f).2 - c)).2.1, s.2.2.2.1, s.2.2.2.2.1 + 1, (sRel (s.2.1.eraseIdx f) s.2.2.1 s.2.2.2.2.2.1 ((gat s.2.1 f).1 + c) ((gat s.2.1 f).2 - c)).2.2, s.2.2.2.2.2.2))
theorem bestS_ge (F : Fl) (c : Nat) : ∀ {k b : Nat}, bestS F c k = some b → c ≤ (gat F b).2 ∧ (gat F b).2 ≤ 64
  | 0, b, h => by cases h
  | k + 1, b, h => by
    rw [bestS] at h
    have ih := fun x (hx : bestS F c k = some x) => bestS_ge F c hx
    split at h
    · exact ih b h
    · split at h
      · cases hb : bestS F c k with
        | none => rw [hb] at h; simp at h; subst h; omega
        | some x =>
          rw [hb] at h
          simp only at h
          have := ih x hb
          split at h <;> (cases h; omega)
      · exact ih b h
theorem bestG_ge (F : Fl) (c : Nat) : ∀ {k b : Nat}, bestG F c k = some b → c ≤ (gat F b).2 ∧ 64 < (gat F b).2
  | 0, b, h => by cases h
  | k + 1, b, h => by
    rw [bestG] at h
    have ih := fun x (hx : bestG F c k = some x) => bestG_ge F c hx
    split at h
    · exact ih b h
    · split at h
      · cases hb : bestG F c k with
        | none => rw [hb] at h; simp at h; subst h; omega
        | some x =>
          rw [hb] at h
          simp only at h
          have := ih x hb
          repeat (first | (split at h) | (cases h; omega))
      · exact ih b h
theorem sFits_ge {F : Fl} {c b : Nat} (h : sFits F c = some b) : b < F.length ∧ c ≤ (gat F b).2 := by
  unfold sFits at h
  cases hb : bestS F c F.length with
  | some x => rw [hb] at h; cases h; exact ⟨bestS_lt F c hb, (bestS_ge F c hb).1⟩
  | none => rw [hb] at h; exact ⟨bestG_lt F c h, (bestG_ge F c h).1⟩
theorem gat_get {F : Fl} {i : Nat} (h : i < F.length) : F[i]? = some (gat F i) := by
  have hp : F[i]? = some F[i] := List.getElem?_eq_getElem h
  rw [getD_of hp, hp]
theorem SInv.len {W : Nat} {s : St} (h : SInv W s) : s.1.length + s.2.1.length ≤ 749 ∧ s.2.2.1 ≤ 3000 := by
  have := h.1.length
  simp only [List.length_append, chB, List.length_map] at this
  have h2 := h.2
  omega
theorem SInv.fb {W : Nat} {s : St} (h : SInv W s) : ∀ p ∈ s.2.1, p.1 + p.2 ≤ 3000 := fun p hp => by
  have := h.1.1 p (List.mem_append_right _ hp)
  have h2 := h.2
  omega
set_option maxHeartbeats 1000000 in
/-- what FIND leaves: the chunk that was found beside all others -/
theorem geo_find {W : Nat} {s : St} {c a : Nat} {s' : St} (h : SInv W s) (h4 : c % 4 = 0) (hc : 4 ≤ c) (hf : sFind W s c = (some a, s')) : Geo ((a, c) :: (chB s'.1 ++ s'.2.1)) s'.2.2.1 ∧ s'.1 = s.1 ∧ s'.2.2.1 ≤ s'.2.2.2.1 ∧ s'.2.2.2.1 ≤ W ∧ s'.2.2.2.2.2.2 = s.2.2.2.2.2.2 := by
  obtain ⟨B, F, top, hi, sp, j, gone⟩ := s
  obtain ⟨hg, h1, h2, h3⟩ := h
  simp only at hg h1 h2 h3
  unfold sFind at hf
  simp only at hf
  cases hq : sFits F c with
  | none =>
    rw [hq] at hf
    simp only at hf
    split at hf
    · cases hf
      refine ⟨hg.grow hc h4, rfl, ?_, ?_, rfl⟩
      · simp only; split <;> omega
      · simp only; split <;> omega
    · cases hf
  | some f =>
    rw [hq] at hf
    simp only at hf
    obtain ⟨g1, g2⟩ := sFits_ge hq
    have hp := gat_get g1
    have hperm : (chB B ++ F).Perm (((gat F f).1, (gat F f).2) :: (chB B ++ F.eraseIdx f)) := ((perm_erase hp).append_left _).trans List.perm_middle
    have hg2 := hg.perm hperm
    split at hf
    · rename_i hle
      cases hf
      have : c = (gat F f).2 := by omega
      rw [this]
      exact ⟨hg2, rfl, h1, h2, rfl⟩
    · rename_i hle
      cases hf
      have hg3 := hg2.split hc (by omega) h4
      have hg4 : Geo (((gat F f).1 + c, (gat F f).2 - c) :: (((gat F f).1, c) :: chB B ++ F.eraseIdx f)) top := hg3.perm (List.Perm.swap _ _ _)
      have hg5 := geo_rel (j := j) hg4
      have ht := geo_relT (j := j) hg4
      refine ⟨by simpa using hg5, rfl, ?_, h2, rfl⟩
      simp only
      omega
theorem geo_find0 {W : Nat} {s : St} {c : Nat} {s' : St} (hf : sFind W s c = (none, s')) : s' = s := by
  unfold sFind at hf
  split at hf
  · split at hf
    · cases hf
    · cases hf; rfl
  · split at hf <;> cases hf
def bat (B : List Blk) (i : Nat) : Blk := B.getD i (0, 0, 0, 0, 0)
theorem bat_of {B : List Blk} {i : Nat} {b : Blk} (h : B[i]? = some b) : bat B i = b := by simp [bat, List.getD_eq_getElem?_getD, h]
theorem bat_get {B : List Blk} {i : Nat} (h : i < B.length) : B[i]? = some (bat B i) := by
  have hp : B[i]? = some B[i] := List.getElem?_eq_getElem h
  rw [bat_of hp, hp]
def sLong (B : List Blk) : Nat → Option Nat
  | 0 => none
  | k + 1 => if (bat B k).2.2.2.2 = 0 then sLong B k else (match sLong B k with
      | none => some k
      | some b => if (bat B b).2.2.2.2 ≤ (bat B k).2.2.2.2 then some b else some k)
theorem sLong_lt (B : List Blk) : ∀ {k b : Nat}, sLong B k = some b → b < k
  | 0, b, h => by cases h
  | k + 1, b, h => by
    rw [sLong] at h
    have ih := fun x (hx : sLong B k = some x) => sLong_lt B hx
    split at h
    · have := ih b h; omega
    · cases hb : sLong B k with
      | none => rw [hb] at h; simp at h; omega
      | some x =>
        rw [hb] at h
        simp only at h
        have := ih x hb
        split at h <;> (cases h; omega)
def sDrop (B : List Blk) (b : Nat) : List Blk := (B.set b (bat B (B.length - 1))).take (B.length - 1)
theorem sDrop_get {B : List Blk} {b i : Nat} {x : Blk} (hb : b < B.length) (h : (sDrop B b)[i]? = some x) : i < B.length - 1 ∧ x = if i = b then bat B (B.length - 1) else bat B i := by
  unfold sDrop at h
  rw [List.getElem?_take] at h
  split at h
  · rename_i hi
    refine ⟨hi, ?_⟩
    by_cases hib : i = b
    · subst hib
      rw [List.getElem?_set_self hb] at h
      cases h
      rw [if_pos rfl]
    · rw [List.getElem?_set_ne (fun e => hib e.symm), bat_get (by omega)] at h
      cases h
      rw [if_neg hib]
  · cases h
theorem sDrop_len {B : List Blk} {b : Nat} (hb : b < B.length) : (sDrop B b).length = B.length - 1 := by
  simp only [sDrop, List.length_take, List.length_set]; omega
set_option maxHeartbeats 1000000 in
theorem sDrop_perm {B : List Blk} {b : Nat} (hb : b < B.length) : B.Perm (bat B b :: sDrop B b) := by
  have hl : B.length - 1 < B.length := by omega
  have hne : B ≠ [] := by intro e; rw [e] at hb; simp at hb
  have hlast : bat B (B.length - 1) = B.getLast hne := by
    rw [bat_of (List.getElem?_eq_getElem hl)]
    exact (List.getLast_eq_getElem hne).symm
  have hsplit : B = B.dropLast ++ [bat B (B.length - 1)] := by rw [hlast]; exact (List.dropLast_concat_getLast hne).symm
  unfold sDrop
  by_cases hbl : b = B.length - 1
  · have e1 : (B.set b (bat B (B.length - 1))).take (B.length - 1) = B.dropLast := by
      rw [List.dropLast_eq_take, List.take_set, hbl]
      rw [List.set_eq_of_length_le]
      rw [List.length_take]; omega
    rw [e1, hbl]
    exact (List.Perm.of_eq hsplit).trans (List.perm_append_singleton _ _)
  · have hb2 : b < B.dropLast.length := by rw [List.length_dropLast]; omega
    have e1 : (B.set b (bat B (B.length - 1))).take (B.length - 1) = B.dropLast.set b (bat B (B.length - 1)) := by
      rw [List.take_set, List.dropLast_eq_take]
    rw [e1]
    have e2 : bat B b = B.dropLast[b] := by
      rw [List.getElem_dropLast]
      exact bat_of (List.getElem?_eq_getElem hb)
    have e3 : (B.dropLast.set b (bat B (B.length - 1))).Perm (bat B (B.length - 1) :: B.dropLast.eraseIdx b) := by
      have h9 : (B.dropLast.set b (bat B (B.length - 1)))[b]? = some (bat B (B.length - 1)) := List.getElem?_set_self hb2
      have h8 := perm_erase h9
      have h7 : (B.dropLast.set b (bat B (B.length - 1))).eraseIdx b = B.dropLast.eraseIdx b := by
        rw [List.eraseIdx_eq_take_drop_succ, List.eraseIdx_eq_take_drop_succ]
        simp [List.take_set, List.drop_set]
        rw [List.set_eq_of_length_le]
        rw [List.length_take]; omega
      rw [h7] at h8
      exact h8
    refine (List.Perm.of_eq hsplit).trans ((List.perm_append_singleton _ _).trans ?_)
    have e4 : B.dropLast.Perm (bat B b :: B.dropLast.eraseIdx b) := perm_erase (by rw [e2]; exact List.getElem?_eq_getElem hb2)
    exact ((List.Perm.cons _ e4).trans (List.Perm.swap _ _ _)).trans (List.Perm.cons _ e3.symm)
def sGo (s : St) : Option St := match sLong s.1 s.1.length with
  | none => none
  | some b => some (sDrop s.1 b, (sRel s.2.1 s.2.2.1 s.2.2.2.2.2.1 (bat s.1 b).1 (bat s.1 b).2.1).1, (sRel s.2.1 s.2.2.1 s.2.2.2.2.2.1 (bat s.1 b).1 (bat s.1 b).2.1).2.1, s.2.2.2.1, s.2.2.2.2.1, (sRel s.2.1 s.2.2.1 s.2.2.2.2.2.1 (bat s.1 b).1 (bat s.1 b).2.1).2.2, s.2.2.2.2.2.2 + 1)
set_option maxHeartbeats 1000000 in
theorem geo_go {W : Nat} {s s' : St} (h : SInv W s) (hg : sGo s = some s') : SInv W s' ∧ s'.1.length + 1 = s.1.length := by
  obtain ⟨B, F, top, hi, sp, j, gone⟩ := s
  obtain ⟨hg0, h1, h2, h3⟩ := h
  simp only at hg0 h1 h2 h3
  unfold sGo at hg
  simp only at hg
  cases hb : sLong B B.length with
  | none => rw [hb] at hg; cases hg
  | some b =>
    rw [hb] at hg
    simp only at hg
    cases hg
    have hbl := sLong_lt B hb
    have hp : (chB B ++ F).Perm (((bat B b).1, (bat B b).2.1) :: (chB (sDrop B b) ++ F)) := by
      have := ((sDrop_perm hbl).map (fun b : Blk => (b.1, b.2.1))).append_right F
      exact this
    have hg2 := hg0.perm hp
    have hg3 := geo_rel (j := j) hg2
    have ht := geo_relT (j := j) hg2
    refine ⟨⟨hg3, ?_, h2, h3⟩, ?_⟩
    · simp only; omega
    · simp only [sDrop_len hbl]; omega
