/-! free chunks: the reference's list, the class's piles and chain -/
def pile (F : Fl) (i : Nat) : Fl := (F.filter (fun p => decide (p.2 = 4 * i))).reverse
def Grt (F G : Fl) : Prop := Asc 0 G ∧ ∀ p, p ∈ G ↔ p ∈ F ∧ 64 < p.2
def CkF (h : Hp) (ch pi W : Nat) (kn : Nat → Nat) (F : Fl) (top hi : Nat) (sp jn : Int32) : Prop := ChS h ch pi W kn ∧ (∀ i, i < 17 → Cn h kn (h.AR pi i) (pile F i)) ∧ (∃ G, Grt F G ∧ Cn h kn (h.R 202 (kn 0)) G) ∧ h.I 303 ch = nI top ∧ h.I 304 ch = nI hi ∧ h.I 305 ch = nI F.length ∧ h.I 306 ch = nI (szs F) ∧ h.I 307 ch = sp ∧ h.I 308 ch = jn
def FG (F : Fl) : Prop := (∀ p, p ∈ F → 1 ≤ p.1 ∧ 4 ≤ p.2 ∧ p.2 % 4 = 0 ∧ p.1 + p.2 ≤ 3000) ∧ F.Pairwise dj
theorem FG.of {D F : Fl} {top : Nat} (h : Geo (D ++ F) top) (ht : top ≤ 3000) : FG F := by
  refine ⟨fun p hp => ?_, (List.pairwise_append.mp h.2.1).2.1⟩
  have := h.1 p (List.mem_append_right _ hp)
  omega
theorem FG.one {F : Fl} (hF : FG F) {p q : Nat × Nat} (hp : p ∈ F) (hq : q ∈ F) : p = q ∨ dj p q := by
  obtain ⟨i, hi⟩ := List.getElem?_of_mem hp
  obtain ⟨j, hj⟩ := List.getElem?_of_mem hq
  by_cases hij : i = j
  · subst hij; rw [hi] at hj; cases hj; exact Or.inl rfl
  · right
    have h2 := hF.2
    rw [List.pairwise_iff_getElem] at h2
    obtain ⟨x1, rfl⟩ := List.getElem?_eq_some_iff.mp hi
    obtain ⟨y1, rfl⟩ := List.getElem?_eq_some_iff.mp hj
    rcases Nat.lt_or_gt_of_ne hij with h3 | h3
    · exact h2 i j x1 y1 h3
    · exact dj_sym (h2 j i y1 x1 h3)
theorem FG.addr {F : Fl} (hF : FG F) {p q : Nat × Nat} (hp : p ∈ F) (hq : q ∈ F) (e : p.1 = q.1) : p = q := by
  rcases hF.one hp hq with h | h
  · exact h
  · have h1 := hF.1 p hp
    have h2 := hF.1 q hq
    simp only [dj] at h
    omega
theorem FG.nodup {F : Fl} (hF : FG F) : F.Nodup := by
  obtain ⟨h1, h2⟩ := hF
  refine List.Pairwise.imp_of_mem ?_ h2
  intro a b ha hb hd e
  subst e
  have := h1 a ha
  simp only [dj] at hd
  omega
theorem FG.erase {F : Fl} (hF : FG F) (i : Nat) : FG (F.eraseIdx i) := ⟨fun p hp => hF.1 p (List.mem_of_mem_eraseIdx hp), hF.2.sublist (List.eraseIdx_sublist _ _)⟩
theorem FG.mem_erase {F : Fl} (hF : FG F) {i : Nat} (hi : i < F.length) (x : Nat × Nat) : x ∈ F.eraseIdx i ↔ x ∈ F ∧ ¬ x = gat F i := by
  have hp := perm_erase (gat_get hi)
  have hn := hp.nodup_iff.mp hF.nodup
  rw [List.nodup_cons] at hn
  rw [hp.mem_iff, List.mem_cons]
  constructor
  · intro h
    exact ⟨Or.inr h, fun e => hn.1 (by rw [← e]; exact h)⟩
  · rintro ⟨h | h, h2⟩
    · exact absurd h h2
    · exact h
theorem szs_erase {F : Fl} {i : Nat} (hi : i < F.length) : szs (F.eraseIdx i) + (gat F i).2 = szs F := by
  have hp := (perm_erase (gat_get hi)).map (fun p : Nat × Nat => p.2)
  have := hp.sum_nat
  simp only [szs, List.map_cons, List.sum_cons] at this ⊢
  omega
theorem szs_app (F : Fl) (p : Nat × Nat) : szs (F ++ [p]) = szs F + p.2 := by simp [szs]
theorem filter_erase {F : Fl} {P : Nat × Nat → Bool} : ∀ {i : Nat}, (∀ p, F[i]? = some p → P p = false) → (F.eraseIdx i).filter P = F.filter P := by
  induction F with
  | nil => intro i _; simp
  | cons a l ih =>
    intro i hi
    cases i with
    | zero =>
      have := hi a (by simp)
      simp [this]
    | succ i =>
      rw [List.eraseIdx_cons_succ]
      have := ih (i := i) (fun p hp => hi p (by simpa using hp))
      simp only [List.filter_cons, this]
theorem pile_erase {F : Fl} {i k : Nat} (hi : i < F.length) (hk : ¬ (gat F i).2 = 4 * k) : pile (F.eraseIdx i) k = pile F k := by
  unfold pile
  rw [filter_erase (fun p hp => ?_)]
  rw [gat_get hi] at hp; cases hp
  simpa using hk
theorem pile_app (F : Fl) (p : Nat × Nat) (k : Nat) : pile (F ++ [p]) k = if p.2 = 4 * k then p :: pile F k else pile F k := by
  unfold pile
  rw [List.filter_append, List.reverse_append]
  by_cases h : p.2 = 4 * k <;> simp [h]
theorem mem_pile {F : Fl} {k : Nat} {p : Nat × Nat} : p ∈ pile F k ↔ p ∈ F ∧ p.2 = 4 * k := by simp [pile]
set_option maxHeartbeats 1000000 in
theorem filter_last {F : Fl} {P : Nat × Nat → Bool} : ∀ {i : Nat}, i < F.length → P (gat F i) = true → (∀ j, i < j → j < F.length → P (gat F j) = false) → F.filter P = (F.eraseIdx i).filter P ++ [gat F i] := by
  induction F with
  | nil => intro i hi; simp at hi
  | cons a l ih =>
    intro i hi hP hl
    cases i with
    | zero =>
      have h0 : gat (a :: l) 0 = a := rfl
      rw [h0] at hP ⊢
      have hnil : l.filter P = [] := by
        rw [List.filter_eq_nil_iff]
        intro p hp
        obtain ⟨j, hj⟩ := List.getElem?_of_mem hp
        have hjl := (List.getElem?_eq_some_iff.mp hj).1
        have := hl (j + 1) (by omega) (by simp; omega)
        rw [show gat (a :: l) (j + 1) = gat l j from rfl, getD_of hj] at this
        simp [this]
      simp [hP, hnil]
    | succ i =>
      rw [List.eraseIdx_cons_succ]
      have := ih (i := i) (by simpa using hi) hP (fun j h1 h2 => hl (j + 1) (by omega) (by simp; omega))
      simp only [List.filter_cons]
      rw [this]
      by_cases ha : P a = true
      · simp [ha]; rfl
      · simp [ha]; rfl
theorem pile_last {F : Fl} {i k : Nat} (hi : i < F.length) (hk : (gat F i).2 = 4 * k) (hl : ∀ j, i < j → j < F.length → ¬ (gat F j).2 = 4 * k) : pile F k = gat F i :: pile (F.eraseIdx i) k := by
  unfold pile
  rw [filter_last (P := fun p => decide (p.2 = 4 * k)) hi (by simpa using hk) (fun j h1 h2 => by simpa using hl j h1 h2), List.reverse_append]
  rfl
set_option maxHeartbeats 1000000 in
theorem bestS_sp (F : Fl) (c : Nat) : ∀ k, (∀ b, bestS F c k = some b → b < k ∧ c ≤ (gat F b).2 ∧ (gat F b).2 ≤ 64 ∧ ∀ j, j < k → c ≤ (gat F j).2 → (gat F j).2 ≤ 64 → (gat F b).2 < (gat F j).2 ∨ ((gat F b).2 = (gat F j).2 ∧ j ≤ b)) ∧ (bestS F c k = none → ∀ j, j < k → ¬ (c ≤ (gat F j).2 ∧ (gat F j).2 ≤ 64))
  | 0 => ⟨fun b h => (by cases h), fun _ j hj => by omega⟩
  | k + 1 => by
    obtain ⟨ih1, ih2⟩ := bestS_sp F c k
    rw [bestS]
    by_cases c1 : (gat F k).2 < c
    · rw [if_pos c1]
      refine ⟨fun b hb => ?_, fun hb j hj => ?_⟩
      · obtain ⟨a1, a2, a3, a4⟩ := ih1 b hb
        refine ⟨by omega, a2, a3, fun j hj h1 h2 => ?_⟩
        by_cases hjk : j = k
        · subst hjk; omega
        · exact a4 j (by omega) h1 h2
      · by_cases hjk : j = k
        · subst hjk; omega
        · exact ih2 hb j (by omega)
    · rw [if_neg c1]
      by_cases c2 : (gat F k).2 ≤ 64
      · rw [if_pos c2]
        cases hb0 : bestS F c k with
        | none =>
          refine ⟨fun b hb => ?_, fun hb => by cases hb⟩
          cases hb
          refine ⟨by omega, by omega, c2, fun j hj h1 h2 => ?_⟩
          by_cases hjk : j = k
          · subst hjk; omega
          · exact absurd ⟨h1, h2⟩ (ih2 hb0 j (by omega))
        | some b0 =>
          obtain ⟨a1, a2, a3, a4⟩ := ih1 b0 hb0
          simp only
          by_cases c3 : (gat F b0).2 < (gat F k).2
          · rw [if_pos c3]
            refine ⟨fun b hb => ?_, fun hb => by cases hb⟩
            cases hb
            refine ⟨by omega, a2, a3, fun j hj h1 h2 => ?_⟩
            by_cases hjk : j = k
            · subst hjk; omega
            · exact a4 j (by omega) h1 h2
          · rw [if_neg c3]
            refine ⟨fun b hb => ?_, fun hb => by cases hb⟩
            cases hb
            refine ⟨by omega, by omega, c2, fun j hj h1 h2 => ?_⟩
            by_cases hjk : j = k
            · subst hjk; omega
            · have := a4 j (by omega) h1 h2
              omega
      · rw [if_neg c2]
        refine ⟨fun b hb => ?_, fun hb j hj => ?_⟩
        · obtain ⟨a1, a2, a3, a4⟩ := ih1 b hb
          refine ⟨by omega, a2, a3, fun j hj h1 h2 => ?_⟩
          by_cases hjk : j = k
          · subst hjk; omega
          · exact a4 j (by omega) h1 h2
        · by_cases hjk : j = k
          · subst hjk; omega
          · exact ih2 hb j (by omega)
set_option maxHeartbeats 1000000 in
theorem bestG_sp (F : Fl) (c : Nat) : ∀ k, (∀ b, bestG F c k = some b → b < k ∧ c ≤ (gat F b).2 ∧ 64 < (gat F b).2 ∧ ∀ j, j < k → c ≤ (gat F j).2 → 64 < (gat F j).2 → (gat F b).2 < (gat F j).2 ∨ ((gat F b).2 = (gat F j).2 ∧ (gat F b).1 ≤ (gat F j).1)) ∧ (bestG F c k = none → ∀ j, j < k → ¬ (c ≤ (gat F j).2 ∧ 64 < (gat F j).2))
  | 0 => ⟨fun b h => (by cases h), fun _ j hj => by omega⟩
  | k + 1 => by
    obtain ⟨ih1, ih2⟩ := bestG_sp F c k
    have skip : ¬ (c ≤ (gat F k).2 ∧ 64 < (gat F k).2) → ((∀ b, bestG F c k = some b → b < k + 1 ∧ c ≤ (gat F b).2 ∧ 64 < (gat F b).2 ∧ ∀ j, j < k + 1 → c ≤ (gat F j).2 → 64 < (gat F j).2 → (gat F b).2 < (gat F j).2 ∨ ((gat F b).2 = (gat F j).2 ∧ (gat F b).1 ≤ (gat F j).1)) ∧ (bestG F c k = none → ∀ j, j < k + 1 → ¬ (c ≤ (gat F j).2 ∧ 64 < (gat F j).2))) := by
      intro hno
      refine ⟨fun b hb => ?_, fun hb j hj => ?_⟩
      · obtain ⟨a1, a2, a3, a4⟩ := ih1 b hb
        refine ⟨by omega, a2, a3, fun j hj h1 h2 => ?_⟩
        by_cases hjk : j = k
        · subst hjk; exact absurd ⟨h1, h2⟩ hno
        · exact a4 j (by omega) h1 h2
      · by_cases hjk : j = k
        · subst hjk; exact hno
        · exact ih2 hb j (by omega)
    rw [bestG]
    by_cases c1 : (gat F k).2 < c
    · rw [if_pos c1]; exact skip (fun z => by omega)
    · rw [if_neg c1]
      by_cases c2 : 64 < (gat F k).2
      · rw [if_pos c2]
        cases hb0 : bestG F c k with
        | none =>
          refine ⟨fun b hb => ?_, fun hb => by cases hb⟩
          cases hb
          refine ⟨by omega, by omega, c2, fun j hj h1 h2 => ?_⟩
          by_cases hjk : j = k
          · subst hjk; omega
          · exact absurd ⟨h1, h2⟩ (ih2 hb0 j (by omega))
        | some b0 =>
          obtain ⟨a1, a2, a3, a4⟩ := ih1 b0 hb0
          simp only
          have keep : (gat F b0).2 < (gat F k).2 ∨ ((gat F b0).2 = (gat F k).2 ∧ (gat F b0).1 ≤ (gat F k).1) → ((∀ b, some b0 = some b → b < k + 1 ∧ c ≤ (gat F b).2 ∧ 64 < (gat F b).2 ∧ ∀ j, j < k + 1 → c ≤ (gat F j).2 → 64 < (gat F j).2 → (gat F b).2 < (gat F j).2 ∨ ((gat F b).2 = (gat F j).2 ∧ (gat F b).1 ≤ (gat F j).1)) ∧ (some b0 = none → ∀ j, j < k + 1 → ¬ (c ≤ (gat F j).2 ∧ 64 < (gat F j).2))) := by
            intro hk
            refine ⟨fun b hb => ?_, fun hb => by cases hb⟩
            cases hb
            refine ⟨by omega, a2, a3, fun j hj h1 h2 => ?_⟩
            by_cases hjk : j = k
            · subst hjk; exact hk
            · exact a4 j (by omega) h1 h2
          have new : (gat F k).2 < (gat F b0).2 ∨ ((gat F k).2 = (gat F b0).2 ∧ (gat F k).1 ≤ (gat F b0).1) → ((∀ b, some k = some b → b < k + 1 ∧ c ≤ (gat F b).2 ∧ 64 < (gat F b).2 ∧ ∀ j, j < k + 1 → c ≤ (gat F j).2 → 64 < (gat F j).2 → (gat F b).2 < (gat F j).2 ∨ ((gat F b).2 = (gat F j).2 ∧ (gat F b).1 ≤ (gat F j).1)) ∧ (some k = none → ∀ j, j < k + 1 → ¬ (c ≤ (gat F j).2 ∧ 64 < (gat F j).2))) := by
            intro hk
            refine ⟨fun b hb => ?_, fun hb => by cases hb⟩
            cases hb
            refine ⟨by omega, by omega, c2, fun j hj h1 h2 => ?_⟩
            by_cases hjk : j = k
            · subst hjk; right; omega
            · have := a4 j (by omega) h1 h2
              omega
          by_cases c3 : (gat F k).2 < (gat F b0).2
          · rw [if_pos c3]; exact new (Or.inl c3)
          · rw [if_neg c3]
            by_cases c4 : (gat F k).2 = (gat F b0).2
            · rw [if_pos c4]
              by_cases c5 : (gat F b0).1 ≤ (gat F k).1
              · rw [if_pos c5]; exact keep (Or.inr ⟨c4.symm, c5⟩)
              · rw [if_neg c5]; exact new (Or.inr ⟨c4, by omega⟩)
            · rw [if_neg c4]; exact keep (Or.inl (by omega))
      · rw [if_neg c2]; exact skip (fun z => c2 z.2)
set_option maxHeartbeats 1000000 in
theorem Grt.erase {F G1 G2 : Fl} {p : Nat × Nat} (hF : FG F) (hG : Grt F (G1 ++ p :: G2)) {i : Nat} (hi : i < F.length) (hp : gat F i = p) : Grt (F.eraseIdx i) (G1 ++ G2) := by
  obtain ⟨h1, h2⟩ := hG
  refine ⟨h1.cut, fun q => ?_⟩
  rw [hF.mem_erase hi, hp]
  have h3 := h2 q
  obtain ⟨l1, l2, -⟩ := Asc.lt h1
  have hne : q ∈ G1 ++ G2 → ¬ q = p := fun hq e => by
    subst e
    rcases List.mem_append.mp hq with hq | hq
    · have := l1 q hq; omega
    · have := (Asc.mem l2 q hq).1; omega
  constructor
  · intro hq
    have : q ∈ G1 ++ p :: G2 := by
      rcases List.mem_append.mp hq with h | h
      · exact List.mem_append_left _ h
      · exact List.mem_append_right _ (List.mem_cons_of_mem _ h)
    exact ⟨⟨(h3.mp this).1, hne hq⟩, (h3.mp this).2⟩
  · rintro ⟨⟨q1, q2⟩, q3⟩
    have := h3.mpr ⟨q1, q3⟩
    rcases List.mem_append.mp this with h | h
    · exact List.mem_append_left _ h
    · rcases List.mem_cons.mp h with h | h
      · exact absurd h q2
      · exact List.mem_append_right _ h
theorem Grt.small {F G : Fl} (hF : FG F) (hG : Grt F G) {i : Nat} (hi : i < F.length) (hs : (gat F i).2 ≤ 64) : Grt (F.eraseIdx i) G := by
  refine ⟨hG.1, fun q => ?_⟩
  rw [hF.mem_erase hi, hG.2 q]
  constructor
  · rintro ⟨a, b⟩
    exact ⟨⟨a, fun e => by rw [e] at b; omega⟩, b⟩
  · rintro ⟨⟨a, _⟩, b⟩; exact ⟨a, b⟩
theorem FG.gat_mem {F : Fl} {i : Nat} (hi : i < F.length) : gat F i ∈ F := List.mem_of_getElem? (gat_get hi)
theorem mem_gat {F : Fl} {p : Nat × Nat} (hp : p ∈ F) : ∃ i, i < F.length ∧ gat F i = p := by
  obtain ⟨i, hi⟩ := List.getElem?_of_mem hp
  exact ⟨i, (List.getElem?_eq_some_iff.mp hi).1, getD_of hi⟩
theorem Grt.big {F G : Fl} (hG : Grt F G) {a n : Nat} (hn : n ≤ 64) : Grt (F ++ [(a, n)]) G := by
  refine ⟨hG.1, fun q => ?_⟩
  rw [hG.2 q, List.mem_append]
  constructor
  · rintro ⟨x, y⟩; exact ⟨Or.inl x, y⟩
  · rintro ⟨x | x, y⟩
    · exact ⟨x, y⟩
    · simp at x; subst x; simp only at y; omega
