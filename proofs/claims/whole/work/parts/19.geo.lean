/-! CHUNKS side by side -/
theorem perm_erase {α : Type} : ∀ {l : List α} {i : Nat} {p : α}, l[i]? = some p → l.Perm (p :: l.eraseIdx i)
  | [], i, p, h => by simp at h
  | a :: l, 0, p, h => by simp at h; subst h; simp
  | a :: l, i + 1, p, h => by
    simp at h
    have := perm_erase h
    rw [List.eraseIdx_cons_succ]
    exact (List.Perm.cons a this).trans (List.Perm.swap p a _)
def dj (p q : Nat × Nat) : Prop := p.1 + p.2 ≤ q.1 ∨ q.1 + q.2 ≤ p.1
theorem dj_sym {p q : Nat × Nat} (h : dj p q) : dj q p := Or.symm h
def szs (C : List (Nat × Nat)) : Nat := (C.map (fun p => p.2)).sum
def Geo (C : List (Nat × Nat)) (top : Nat) : Prop := (∀ p ∈ C, 1 ≤ p.1 ∧ p.1 % 4 = 1 ∧ p.2 % 4 = 0 ∧ 4 ≤ p.2 ∧ p.1 + p.2 ≤ top) ∧ C.Pairwise dj ∧ szs C + 1 = top
theorem Geo.perm {C C' : List (Nat × Nat)} {top : Nat} (h : Geo C top) (hp : C.Perm C') : Geo C' top := by
  obtain ⟨h1, h2, h3⟩ := h
  refine ⟨fun p hm => h1 p (hp.mem_iff.mpr hm), ?_, ?_⟩
  · exact (hp.pairwise_iff (fun {a b} h => dj_sym h)).mp h2
  · unfold szs at h3 ⊢
    rw [← (hp.map (fun p => p.2)).sum_nat]
    exact h3
theorem Geo.len : ∀ {C : List (Nat × Nat)}, (∀ p ∈ C, 4 ≤ p.2) → 4 * C.length ≤ szs C
  | [], _ => by simp [szs]
  | p :: C, h => by
    have := Geo.len (C := C) (fun q hq => h q (List.mem_cons_of_mem _ hq))
    have := h p List.mem_cons_self
    simp only [szs, List.map_cons, List.sum_cons, List.length_cons] at *
    omega
theorem Geo.mod4 : ∀ {C : List (Nat × Nat)}, (∀ p ∈ C, p.2 % 4 = 0) → szs C % 4 = 0
  | [], _ => by simp [szs]
  | p :: C, h => by
    have := Geo.mod4 (C := C) (fun q hq => h q (List.mem_cons_of_mem _ hq))
    have := h p List.mem_cons_self
    simp only [szs, List.map_cons, List.sum_cons] at *
    omega
theorem Geo.length {C : List (Nat × Nat)} {top : Nat} (h : Geo C top) : 4 * C.length + 1 ≤ top := by
  have := Geo.len (fun p hp => (h.1 p hp).2.2.2.1)
  have := h.2.2
  omega
theorem Geo.top4 {C : List (Nat × Nat)} {top : Nat} (h : Geo C top) : top % 4 = 1 ∧ 1 ≤ top := by
  have := Geo.mod4 (fun p hp => (h.1 p hp).2.2.1)
  have := h.2.2
  omega
theorem Geo.nil : Geo [] 1 := ⟨(fun p h => by simp at h), List.Pairwise.nil, rfl⟩
set_option maxHeartbeats 1000000 in
theorem Geo.split {C : List (Nat × Nat)} {top a n c : Nat} (h : Geo ((a, n) :: C) top) (h0 : 4 ≤ c) (h1 : c < n) (h2 : c % 4 = 0) : Geo ((a, c) :: (a + c, n - c) :: C) top := by
  obtain ⟨g1, g2, g3⟩ := h
  obtain ⟨k1, k2, k3, k4, k5⟩ := g1 (a, n) List.mem_cons_self
  simp only at k1 k2 k3 k4 k5
  rw [List.pairwise_cons] at g2
  refine ⟨fun p hp => ?_, ?_, ?_⟩
  · simp only [List.mem_cons] at hp
    rcases hp with rfl | rfl | hp
    · simp only; omega
    · simp only; omega
    · exact g1 p (List.mem_cons_of_mem _ hp)
  · rw [List.pairwise_cons, List.pairwise_cons]
    refine ⟨fun p hp => ?_, fun p hp => ?_, g2.2⟩
    · rcases List.mem_cons.mp hp with rfl | hp
      · left; simp
      · have := g2.1 p hp
        simp only [dj] at this ⊢
        omega
    · have := g2.1 p hp
      simp only [dj] at this ⊢
      omega
  · simp only [szs, List.map_cons, List.sum_cons] at g3 ⊢
    omega
set_option maxHeartbeats 1000000 in
theorem Geo.join {C : List (Nat × Nat)} {top a n k : Nat} (h : Geo ((a, n) :: (a + n, k) :: C) top) : Geo ((a, n + k) :: C) top := by
  obtain ⟨g1, g2, g3⟩ := h
  obtain ⟨k1, k2, k3, k4, k5⟩ := g1 (a, n) List.mem_cons_self
  obtain ⟨l1, l2, l3, l4, l5⟩ := g1 (a + n, k) (by simp)
  simp only at k1 k2 k3 k4 k5 l1 l2 l3 l4 l5
  rw [List.pairwise_cons, List.pairwise_cons] at g2
  refine ⟨fun p hp => ?_, ?_, ?_⟩
  · rcases List.mem_cons.mp hp with rfl | hp
    · simp only; omega
    · exact g1 p (by simp [hp])
  · rw [List.pairwise_cons]
    refine ⟨fun p hp => ?_, g2.2.2⟩
    have a1 := g2.1 p (by simp [hp])
    have a2 := g2.2.1 p hp
    obtain ⟨m1, m2, m3, m4, m5⟩ := g1 p (by simp [hp])
    simp only [dj] at a1 a2 ⊢
    omega
  · simp only [szs, List.map_cons, List.sum_cons] at g3 ⊢
    omega
theorem Geo.cut {C : List (Nat × Nat)} {top a n : Nat} (h : Geo ((a, n) :: C) top) (ht : a + n = top) : Geo C a := by
  obtain ⟨g1, g2, g3⟩ := h
  rw [List.pairwise_cons] at g2
  obtain ⟨k1, k2, k3, k4, k5⟩ := g1 (a, n) List.mem_cons_self
  simp only at k1 k2 k3 k4 k5
  refine ⟨fun p hp => ?_, g2.2, ?_⟩
  · obtain ⟨m1, m2, m3, m4, m5⟩ := g1 p (List.mem_cons_of_mem _ hp)
    have a1 := g2.1 p hp
    simp only [dj] at a1
    omega
  · simp only [szs, List.map_cons, List.sum_cons] at g3 ⊢
    omega
theorem Geo.grow {C : List (Nat × Nat)} {top c : Nat} (h : Geo C top) (hc : 4 ≤ c) (h4 : c % 4 = 0) : Geo ((top, c) :: C) (top + c) := by
  have ht := h.top4
  obtain ⟨g1, g2, g3⟩ := h
  refine ⟨fun p hp => ?_, ?_, ?_⟩
  · rcases List.mem_cons.mp hp with rfl | hp
    · simp only; omega
    · have := g1 p hp; omega
  · rw [List.pairwise_cons]
    refine ⟨fun p hp => ?_, g2⟩
    have := g1 p hp
    simp only [dj]
    omega
  · simp only [szs, List.map_cons, List.sum_cons] at g3 ⊢
    omega
/-- two chunks of one list are apart, or are one -/
theorem Geo.two {C : List (Nat × Nat)} {top : Nat} (h : Geo C top) {i j : Nat} {p q : Nat × Nat} (hp : C[i]? = some p) (hq : C[j]? = some q) (hij : i ≠ j) : dj p q := by
  have h2 := h.2.1
  rw [List.pairwise_iff_getElem] at h2
  obtain ⟨hi, rfl⟩ := List.getElem?_eq_some_iff.mp hp
  obtain ⟨hj, rfl⟩ := List.getElem?_eq_some_iff.mp hq
  rcases Nat.lt_or_gt_of_ne hij with h3 | h3
  · exact h2 i j hi hj h3
  · exact dj_sym (h2 j i hj hi h3)
abbrev Fl : Type := List (Nat × Nat)
def gat (F : Fl) (i : Nat) : Nat × Nat := F.getD i (0, 0)
def chB (B : List Blk) : List (Nat × Nat) := B.map (fun b => (b.1, b.2.1))
/-- RELEASE: what becomes of the free chunks, of TOP, of the joins -/
def sRelL (F : Fl) (j : Int32) (a n : Nat) : Fl × Nat × Nat × Int32 := match fnd (gbs F a true) F.length 0 with
  | some i => (F.eraseIdx i, (gat F i).1, n + (gat F i).2, j + 1)
  | none => (F, a, n, j)
def sRelR (q : Fl × Nat × Nat × Int32) : Fl × Nat × Nat × Int32 := match fnd (gbs q.1 (q.2.1 + q.2.2.1) false) q.1.length 0 with
  | some i => (q.1.eraseIdx i, q.2.1, q.2.2.1 + (gat q.1 i).2, q.2.2.2 + 1)
  | none => q
def sRel (F : Fl) (top : Nat) (j : Int32) (a n : Nat) : Fl × Nat × Int32 :=
  if n ≤ 64 then (F ++ [(a, n)], top, j)
  else
    let q := sRelR (sRelL F j a n)
    if q.2.1 + q.2.2.1 = top then (q.1, q.2.1, q.2.2.2) else (q.1 ++ [(q.2.1, q.2.2.1)], top, q.2.2.2)
theorem gbs_some {F : Fl} {a i : Nat} {e : Bool} (h : gbs F a e i = true) : ∃ p, F[i]? = some p ∧ 64 < p.2 ∧ p.1 + (if e then p.2 else 0) = a := by
  unfold gbs at h
  split at h
  · rename_i p hp
    simp only [Bool.and_eq_true, decide_eq_true_eq] at h
    exact ⟨p, hp, h⟩
  · cases h
theorem gbs_is {F : Fl} {a i : Nat} {e : Bool} {p : Nat × Nat} (h : F[i]? = some p) : gbs F a e i = (decide (64 < p.2) && decide (p.1 + (if e then p.2 else 0) = a)) := by simp [gbs, h]
theorem getD_of {F : Fl} {i : Nat} {p : Nat × Nat} (h : F[i]? = some p) : gat F i = p := by simp [gat, List.getD_eq_getElem?_getD, h]
set_option maxHeartbeats 1000000 in
theorem geo_relL {D F : Fl} {top a n : Nat} {j : Int32} (h : Geo ((a, n) :: (D ++ F)) top) : Geo (((sRelL F j a n).2.1, (sRelL F j a n).2.2.1) :: (D ++ (sRelL F j a n).1)) top ∧ (sRelL F j a n).2.1 + (sRelL F j a n).2.2.1 = a + n ∧ (sRelL F j a n).1.length ≤ F.length ∧ n ≤ (sRelL F j a n).2.2.1 := by
  unfold sRelL
  cases hf : fnd (gbs F a true) F.length 0 with
  | none => exact ⟨h, rfl, Nat.le_refl _, Nat.le_refl _⟩
  | some i =>
    obtain ⟨-, -, h3, -⟩ := fnd_some hf
    obtain ⟨p, hp, h64, hpa⟩ := gbs_some h3
    simp only [if_true] at hpa
    simp only [getD_of hp]
    refine ⟨?_, by omega, List.length_eraseIdx_le _ _, by omega⟩
    have hperm : ((a, n) :: (D ++ F)).Perm ((p.1, p.2) :: (a, n) :: (D ++ F.eraseIdx i)) := by
      refine (List.Perm.cons _ (((perm_erase hp).append_left D).trans ?_)).trans (List.Perm.swap _ _ _)
      exact List.perm_middle
    have := (h.perm hperm)
    rw [← hpa] at this
    have := this.join
    rw [Nat.add_comm n p.2]
    exact this
theorem geo_relR {D F : Fl} {top : Nat} {q : Fl × Nat × Nat × Int32} (h : Geo ((q.2.1, q.2.2.1) :: (D ++ q.1)) top) : Geo (((sRelR q).2.1, (sRelR q).2.2.1) :: (D ++ (sRelR q).1)) top ∧ (sRelR q).2.1 = q.2.1 ∧ (sRelR q).1.length ≤ q.1.length ∧ q.2.2.1 ≤ (sRelR q).2.2.1 := by
  unfold sRelR
  cases hf : fnd (gbs q.1 (q.2.1 + q.2.2.1) false) q.1.length 0 with
  | none => exact ⟨h, rfl, Nat.le_refl _, Nat.le_refl _⟩
  | some i =>
    obtain ⟨-, -, h3, -⟩ := fnd_some hf
    obtain ⟨p, hp, h64, hpa⟩ := gbs_some h3
    simp only [Bool.false_eq_true, if_false, Nat.add_zero] at hpa
    simp only [getD_of hp]
    refine ⟨?_, trivial, List.length_eraseIdx_le _ _, by omega⟩
    have hperm : ((q.2.1, q.2.2.1) :: (D ++ q.1)).Perm ((q.2.1, q.2.2.1) :: (p.1, p.2) :: (D ++ q.1.eraseIdx i)) :=
      List.Perm.cons _ (((perm_erase hp).append_left D).trans List.perm_middle)
    have := (h.perm hperm)
    rw [hpa] at this
    exact this.join
theorem geo_rel {D F : Fl} {top a n : Nat} {j : Int32} (h : Geo ((a, n) :: (D ++ F)) top) : Geo (D ++ (sRel F top j a n).1) (sRel F top j a n).2.1 := by
  unfold sRel
  split
  · refine h.perm ?_
    rw [← List.append_assoc]
    exact (List.perm_append_singleton (a, n) (D ++ F)).symm
  · have h1 := (geo_relL (j := j) h).1
    have h2 := (geo_relR (F := F) h1).1
    dsimp only
    split
    · exact h2.cut (by assumption)
    · refine h2.perm ?_
      rw [← List.append_assoc]
      exact (List.perm_append_singleton _ _).symm
theorem geo_relT {D F : Fl} {top a n : Nat} {j : Int32} (h : Geo ((a, n) :: (D ++ F)) top) : (sRel F top j a n).2.1 ≤ top := by
  unfold sRel
  split
  · exact Nat.le_refl _
  · dsimp only
    split
    · rename_i h9
      show _ ≤ top
      dsimp only
      omega
    · exact Nat.le_refl _
