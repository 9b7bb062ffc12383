/-! SEARCHES and the reference's lists -/
def fnd (p : Nat → Bool) : Nat → Nat → Option Nat
  | 0, _ => none
  | n + 1, i => if p i then some i else fnd p n (i + 1)
theorem fnd_some {p : Nat → Bool} : ∀ {n i j : Nat}, fnd p n i = some j → i ≤ j ∧ j < i + n ∧ p j = true ∧ ∀ k, i ≤ k → k < j → p k = false
  | 0, i, j, h => by cases h
  | n + 1, i, j, h => by
    rw [fnd] at h
    by_cases hp : p i = true
    · rw [if_pos hp] at h
      cases h
      exact ⟨Nat.le_refl _, by omega, hp, fun k h1 h2 => by omega⟩
    · rw [if_neg hp] at h
      obtain ⟨h1, h2, h3, h4⟩ := fnd_some h
      refine ⟨by omega, by omega, h3, fun k h5 h6 => ?_⟩
      by_cases hk : k = i
      · subst hk; simpa using hp
      · exact h4 k (by omega) h6
theorem fnd_none {p : Nat → Bool} : ∀ {n i : Nat}, fnd p n i = none → ∀ k, i ≤ k → k < i + n → p k = false
  | 0, i, h, k, h1, h2 => by omega
  | n + 1, i, h, k, h1, h2 => by
    rw [fnd] at h
    by_cases hp : p i = true
    · rw [if_pos hp] at h; cases h
    · rw [if_neg hp] at h
      by_cases hk : k = i
      · subst hk; simpa using hp
      · exact fnd_none h k (by omega) (by omega)
theorem fnd_uniq {p : Nat → Bool} {n i j : Nat} (hj : i ≤ j ∧ j < i + n) (hp : p j = true) (hu : ∀ k, i ≤ k → k < i + n → p k = true → k = j) : fnd p n i = some j := by
  cases h : fnd p n i with
  | none => have := fnd_none h j hj.1 hj.2; rw [hp] at this; cases this
  | some k =>
    obtain ⟨h1, h2, h3, -⟩ := fnd_some h
    rw [hu k h1 h2 h3]
theorem fnd_congr {p q : Nat → Bool} : ∀ {n i : Nat}, (∀ k, i ≤ k → k < i + n → p k = q k) → fnd p n i = fnd q n i
  | 0, i, _ => rfl
  | n + 1, i, h => by
    rw [fnd, fnd, h i (Nat.le_refl _) (by omega), fnd_congr (fun k h1 h2 => h k (by omega) (by omega))]
def oI : Option Nat → Int32
  | none => -1
  | some i => nI i
theorem nI_m1 {i : Nat} (h : i < 2147483648) : ¬ nI i = -1 := by
  intro e
  have h1 := congrArg Int32.toInt e
  rw [nI_toInt h] at h1
  have h2 : (-1 : Int32).toInt = -1 := by decide
  rw [h2] at h1
  omega
def Msame (Is Rs : List Nat) (m m' : Mo) : Prop := (∀ g, g ∉ Is → m'.1 g = m.1 g) ∧ (∀ g, g ∉ Rs → m'.2 g = m.2 g)
theorem Msame.rf (Is Rs : List Nat) (m : Mo) : Msame Is Rs m m := ⟨fun _ _ => rfl, fun _ _ => rfl⟩
theorem Msame.tr {Is Rs : List Nat} {m m' m'' : Mo} (a : Msame Is Rs m m') (b : Msame Is Rs m' m'') : Msame Is Rs m m'' := ⟨fun g h => (b.1 g h).trans (a.1 g h), fun g h => (b.2 g h).trans (a.2 g h)⟩
theorem Msame.up {Is Rs Is' Rs' : List Nat} {m m' : Mo} (a : Msame Is Rs m m') (h1 : ∀ g ∈ Is, g ∈ Is') (h2 : ∀ g ∈ Rs, g ∈ Rs') : Msame Is' Rs' m m' := ⟨fun g h => a.1 g (fun x => h (h1 g x)), fun g h => a.2 g (fun x => h (h2 g x))⟩
/-- the free chunks in the reference's rows -/
def FRel (m : Mo) (F : List (Nat × Nat)) : Prop := m.1 915 = nI F.length ∧ F.length < 800 ∧ ∀ i p, F[i]? = some p → m.2 913 i = nI p.1 ∧ m.2 914 i = nI p.2 ∧ p.1 ≤ 3000 ∧ p.2 ≤ 3000
abbrev Blk : Type := Nat × Nat × Nat × Nat × Nat
def BRel (m : Mo) (B : List Blk) : Prop := m.1 912 = nI B.length ∧ B.length < 800 ∧ ∀ i b, B[i]? = some b → m.2 907 i = nI b.1 ∧ m.2 908 i = nI b.2.1 ∧ m.2 909 i = nI b.2.2.1 ∧ m.2 910 i = nI b.2.2.2.1 ∧ m.2 911 i = nI b.2.2.2.2 ∧ b.1 + b.2.1 ≤ 3000 ∧ b.2.2.1 ≤ 3000 ∧ b.2.2.2.1 ≤ 3000 ∧ b.2.2.2.2 ≤ 3000
theorem FRel.same {m m' : Mo} {F : List (Nat × Nat)} {Is Rs : List Nat} (hF : FRel m F) (h : Msame Is Rs m m') (h1 : 915 ∉ Is) (h2 : 913 ∉ Rs) (h3 : 914 ∉ Rs) : FRel m' F := by
  refine ⟨(h.1 915 h1).trans hF.1, hF.2.1, fun i p hp => ?_⟩
  rw [h.2 913 h2, h.2 914 h3]
  exact hF.2.2 i p hp
theorem BRel.same {m m' : Mo} {B : List Blk} {Is Rs : List Nat} (hB : BRel m B) (h : Msame Is Rs m m') (h1 : 912 ∉ Is) (h2 : ∀ g ∈ [907, 908, 909, 910, 911], g ∉ Rs) : BRel m' B := by
  refine ⟨(h.1 912 h1).trans hB.1, hB.2.1, fun i p hp => ?_⟩
  rw [h.2 907 (h2 _ (by decide)), h.2 908 (h2 _ (by decide)), h.2 909 (h2 _ (by decide)), h.2 910 (h2 _ (by decide)), h.2 911 (h2 _ (by decide))]
  exact hB.2.2 i p hp
theorem li {x : Int32} {n i : Nat} (hx : x = nI n) (hn : n < 2147483648 := by omega) (hi : i < 2147483648 := by omega) : x ≤ nI i ↔ n ≤ i := by rw [hx]; exact nI_leI hn hi
section M2
variable {h : Hp} {t : Nat} {ρ A : Nat → Nat} {m : Mo}
def inB (m : Mo) (a : Int32) (i : Nat) : Bool := decide (¬ a < m.2 907 i) && decide (¬ m.2 908 i ≤ a - m.2 907 i)
set_option maxHeartbeats 1000000 in
theorem ct9_blockOf (hS : MS h t ρ A) (m : Mo) {n : Nat} (hn : m.1 912 = nI n) (hl : n < 800) (a : Int32) : CtI mX9_blockOf 1 0 0 [va_rf (some t), .int a] (mput h t ρ m) (fun r h' => h' = mput h t ρ m ∧ r = oI (fnd (inB m a) n 0)) := by
  refine enX9_blockOf (fun X C => sm_blockOf_0 C hS ?_)
  have key : ∀ k i, i + k = n → fnd (inB m a) n 0 = fnd (inB m a) k i → At X 0 0 2 [some (va_rf (some t)), some (.int a), some (.int (nI i))] [] (mput h t ρ m) := by
    intro k
    induction k with
    | zero =>
      intro i hi hf
      refine sm_blockOf_2 C hS (Nat.le_refl _) (Nat.le_refl _) ?_ ?_ (fun c => ⟨rfl, by rw [hf]; rfl⟩) ?_ ?_ ?_ <;> (intro c; exact absurd ((li hn).mpr (by omega)) c)
    | succ k ih =>
      intro i hi hf
      have hlt : i < 800 := by omega
      have hcl : (nI i).toNatClampNeg = i := nI_clamp (by omega)
      rw [fnd] at hf
      refine sm_blockOf_2 C hS (Nat.le_refl _) (Nat.le_refl _) (fun _ => vin hlt) (fun _ _ => vin hlt) (fun c => absurd ((li hn).mp c) (by omega)) (fun _ c => ?_) (fun _ c c' => ?_) (fun _ c c' => ⟨rfl, ?_⟩)
      · rw [hcl] at c
        rw [nI_1]
        exact ih (i + 1) (by omega) (by rw [hf, if_neg (by simp [inB, c])])
      · rw [hcl] at c c'
        rw [nI_1]
        exact ih (i + 1) (by omega) (by rw [hf, if_neg (by simp [inB, c'])])
      · rw [hcl] at c c'
        rw [hf, if_pos (by simp [inB, c, c'])]
        rfl
  exact key n 0 (by omega) rfl
set_option maxHeartbeats 1000000 in
theorem ct9_startsAt (hS : MS h t ρ A) (m : Mo) {n : Nat} (hn : m.1 912 = nI n) (hl : n < 800) (a : Int32) : CtI mX9_startsAt 2 0 0 [va_rf (some t), .int a] (mput h t ρ m) (fun r h' => h' = mput h t ρ m ∧ r = oI (fnd (fun i => decide (m.2 907 i + m.1 901 = a)) n 0)) := by
  refine enX9_startsAt (fun X C => sm_startsAt_0 C hS ?_)
  generalize hq : (fun i => decide (m.2 907 i + m.1 901 = a)) = q
  have key : ∀ k i, i + k = n → fnd q n 0 = fnd q k i → At X 0 0 2 [some (va_rf (some t)), some (.int a), some (.int (nI i))] [] (mput h t ρ m) := by
    intro k
    induction k with
    | zero =>
      intro i hi hf
      refine sm_startsAt_2 C hS (Nat.le_refl _) (Nat.le_refl _) (fun c => ⟨rfl, by rw [hq, hf]; rfl⟩) ?_
      intro c; exact absurd ((li hn).mpr (by omega)) c
    | succ k ih =>
      intro i hi hf
      have hlt : i < 800 := by omega
      rw [fnd] at hf
      refine sm_startsAt_2 C hS (Nat.le_refl _) (Nat.le_refl _) (fun c => absurd ((li hn).mp c) (by omega)) (fun _ => ?_)
      refine clX9_startsAt_12 C (ct9_start hS m hlt) (hS.k m) (by decide) (Nat.le_refl _) (Nat.le_refl _) (by decide) (fun r h' ⟨e1, e2⟩ => ?_)
      subst e1
      refine sm_startsAt_15 C hS (Nat.le_refl _) (Nat.le_refl _) (fun c => ?_) (fun c => ⟨rfl, ?_⟩)
      · rw [nI_1]
        exact ih (i + 1) (by omega) (by rw [hf, if_neg (by subst hq; rw [e2] at c; simpa using c)])
      · rw [hq, hf, if_pos (by subst hq; rw [e2] at c; simpa using c)]
        rfl
  exact key n 0 (by omega) rfl
def sortM (m : Mo) (n : Nat) (a : Int32) : Int32 := match fnd (inB m a) n 0 with
  | none => 3
  | some b => if a < m.2 907 b + m.1 901 then 2 else if a < m.2 907 b + m.1 901 + m.2 909 b then (if m.2 911 b = 0 then 0 else 1) else 2
set_option maxHeartbeats 1000000 in
theorem ct9_sortOf (hS : MS h t ρ A) (m : Mo) {n : Nat} (hn : m.1 912 = nI n) (hl : n < 800) (a : Int32) : CtI mX9_sortOf 2 0 0 [va_rf (some t), .int a] (mput h t ρ m) (fun r h' => h' = mput h t ρ m ∧ r = sortM m n a) := by
  refine enX9_sortOf (fun X C => sm_sortOf_0 C hS ?_)
  refine clX9_sortOf_2 C (ct9_blockOf hS m hn hl a) (hS.k m) (by decide) (Nat.le_refl _) (Nat.le_refl _) (by decide) (fun r h' ⟨e1, e2⟩ => ?_)
  subst e1
  cases hf : fnd (inB m a) n 0 with
  | none =>
    rw [hf] at e2
    exact sm_sortOf_5 C hS (Nat.le_refl _) (Nat.le_refl _) (fun c => absurd e2 c) (fun _ => ⟨rfl, by simp [sortM, hf]⟩)
  | some b =>
    rw [hf] at e2
    have e2 : r = nI b := e2
    subst e2
    obtain ⟨-, hb, -, -⟩ := fnd_some hf
    have hlt : b < 800 := by omega
    have hcl : (nI b).toNatClampNeg = b := nI_clamp (by omega)
    refine sm_sortOf_5 C hS (Nat.le_refl _) (Nat.le_refl _) (fun _ => ?_) (fun c => absurd c (nI_m1 (by omega)))
    refine clX9_sortOf_16 C (ct9_start hS m hlt) (hS.k m) (by decide) (Nat.le_refl _) (Nat.le_refl _) (Nat.le_of_ble_eq_true rfl) (fun r h' ⟨e1, e2⟩ => ?_)
    subst e1; subst e2
    refine sm_sortOf_19 C hS (Nat.le_refl _) (Nat.le_refl _) (fun c => ⟨rfl, by simp [sortM, hf, c]⟩) (fun c => ?_)
    refine clX9_sortOf_25 C (ct9_start hS m hlt) (hS.k m) (by decide) (Nat.le_refl _) (Nat.le_refl _) (Nat.le_of_ble_eq_true rfl) (fun r h' ⟨e1, e2⟩ => ?_)
    subst e1; subst e2
    refine sm_sortOf_28 C hS (Nat.le_refl _) (Nat.le_refl _) (vin hlt) (fun c' => ?_) (fun c' => ⟨rfl, ?_⟩)
    · rw [hcl] at c'
      refine clX9_sortOf_42 C (ct9_isLive hS m hlt) (hS.k m) (by decide) (Nat.le_refl _) (Nat.le_refl _) (by decide) (fun r h' ⟨e1, e2⟩ => ?_)
      subst e1; subst e2
      refine sm_sortOf_45 C hS (Nat.le_refl _) (Nat.le_refl _) (fun c2 => ⟨rfl, ?_⟩) (fun c2 => ⟨rfl, ?_⟩)
      · by_cases hz : m.2 911 b = 0
        · simp [hz] at c2
        · simp [sortM, hf, c, c', hz]
      · by_cases hz : m.2 911 b = 0
        · simp [sortM, hf, c, c', hz]
        · simp [hz] at c2
    · rw [hcl] at c'
      simp [sortM, hf, c, c']
theorem ct9_faulty (hS : MS h t ρ A) (m : Mo) {k : Nat} (hk : m.1 921 = nI k) (hl : k < 2147483647) (x a : Int32) : CtV mX9_faulty 1 0 0 [va_rf (some t), .int x, .int a] (mput h t ρ m) (fun h' => h' = mput h t ρ (up1 m.1 921 (nI (k + 1)), up2 (up2 m.2 923 (k % 32) x) 924 (k % 32) a)) := by
  refine enX9_faulty (fun X C => ?_)
  have e : m.1 921 - m.1 921 / 32 * 32 = nI (k % 32) := by
    rw [hk]
    exact pk_rem (a := k) (d := 32) (by omega) (by decide) (by decide)
  have hlt : k % 32 < 32 := Nat.mod_lt _ (by decide)
  refine sm_faulty_0 C hS (Nat.le_refl _) (Nat.le_refl _) (by rw [e]; exact vin hlt) ?_
  rw [e, nI_clamp (by omega), hk, nI_1]
theorem getE {α : Type} {l : List α} {i j : Nat} {p : α} (h : (l.eraseIdx i)[j]? = some p) : (j < i ∧ l[j]? = some p) ∨ (i ≤ j ∧ l[j + 1]? = some p) := by
  rw [List.getElem?_eraseIdx] at h
  split at h
  · exact Or.inl ⟨by assumption, h⟩
  · exact Or.inr ⟨by omega, h⟩
set_option maxHeartbeats 1000000 in
theorem ct9_takeFree (hS : MS h t ρ A) (m : Mo) {F : List (Nat × Nat)} (hF : FRel m F) {f : Nat} (hf : f < F.length) : CtV mX9_takeFree 1 0 0 [va_rf (some t), .int (nI f)] (mput h t ρ m) (fun h' => ∃ m', h' = mput h t ρ m' ∧ FRel m' (F.eraseIdx f) ∧ Msame [915] [913, 914] m m') := by
  refine enX9_takeFree (fun X C => sm_takeFree_0 C hS ?_)
  obtain ⟨h1, h2, h3⟩ := hF
  have e1 : m.1 915 - 1 = nI (F.length - 1) := by rw [h1]; exact pk_sub (a := F.length) (b := 1) (by omega)
  rw [e1]
  have key : ∀ k i (m' : Mo), i + k + 1 = F.length → f ≤ i → m'.1 = up1 m.1 915 (nI (F.length - 1)) → (∀ g, g ∉ [913, 914] → m'.2 g = m.2 g) → (∀ g ∈ [913, 914], ∀ j, m'.2 g j = if f ≤ j ∧ j < i then m.2 g (j + 1) else m.2 g j) →
      At X 0 0 12 [some (va_rf (some t)), some (.int (nI f)), some (.int (nI i))] [] (mput h t ρ m') := by
    intro k
    induction k with
    | zero =>
      intro i m' hi hfi g1 g2 g3
      have hn : m'.1 915 = nI (F.length - 1) := by rw [g1, up1_s]
      refine sm_takeFree_12 C hS (Nat.le_refl _) (Nat.le_refl _) (fun c => absurd ((li hn).mpr (by omega)) c) (fun c => absurd ((li hn).mpr (by omega)) c) (fun _ => ⟨m', rfl, ⟨?_, ?_, ?_⟩, ?_, g2⟩) (fun c => absurd ((li hn).mpr (by omega)) c)
      · rw [hn, List.length_eraseIdx_of_lt hf]
      · rw [List.length_eraseIdx_of_lt hf]; omega
      · intro j p hp
        rw [g3 913 (by decide), g3 914 (by decide)]
        rcases getE hp with ⟨a1, a2⟩ | ⟨a1, a2⟩
        · rw [if_neg (by omega), if_neg (by omega)]
          exact h3 j p a2
        · have := (List.getElem?_eq_some_iff.mp a2).1
          rw [if_pos (by omega), if_pos (by omega)]
          exact h3 (j + 1) p a2
      · intro g hg
        rw [g1, up1_n _ _ (by simpa using hg)]
    | succ k ih =>
      intro i m' hi hfi g1 g2 g3
      have hn : m'.1 915 = nI (F.length - 1) := by rw [g1, up1_s]
      have hc1 : (nI i).toNatClampNeg = i := nI_clamp (by omega)
      have hc2 : (nI i + 1).toNatClampNeg = i + 1 := by rw [nI_1]; exact nI_clamp (by omega)
      refine sm_takeFree_12 C hS (Nat.le_refl _) (Nat.le_refl _) (fun _ => by rw [nI_1]; exact vin (by omega)) (fun _ => vin (by omega)) (fun c => absurd ((li hn).mp c) (by omega)) (fun _ => ?_)
      rw [hc1, hc2, nI_1]
      refine ih (i + 1) _ (by omega) (by omega) g1 (fun g hg => ?_) (fun g hg j => ?_)
      · simp only [List.mem_cons, List.not_mem_nil, or_false, not_or] at hg
        funext j
        simp only [up2, if_neg hg.1, if_neg hg.2]
        exact congrFun (g2 g (by simp [hg.1, hg.2])) j
      · have e3 := g3 g hg
        simp only [List.mem_cons, List.not_mem_nil, or_false] at hg
        rcases hg with rfl | rfl
        · simp only [up2]
          by_cases hj : j = i
          · subst hj
            simp only [if_true, Nat.reduceEqDiff, if_false]
            rw [e3, if_neg (by omega), if_pos (by omega)]
          · simp only [if_neg hj, if_true, Nat.reduceEqDiff, if_false]
            rw [e3]
            by_cases hq : f ≤ j ∧ j < i
            · rw [if_pos hq, if_pos (by omega)]
            · rw [if_neg hq, if_neg (by omega)]
        · simp only [up2]
          by_cases hj : j = i
          · subst hj
            simp only [if_true]
            rw [e3, if_neg (by omega), if_pos (by omega)]
          · simp only [if_neg hj, if_true, Nat.reduceEqDiff, if_false]
            rw [e3]
            by_cases hq : f ≤ j ∧ j < i
            · rw [if_pos hq, if_pos (by omega)]
            · rw [if_neg hq, if_neg (by omega)]
  exact key (F.length - 1 - f) f _ (by omega) (Nat.le_refl _) rfl (fun _ _ => rfl) (fun g _ j => by rw [if_neg (by omega)])
set_option maxHeartbeats 1000000 in
theorem ct9_addFree (hS : MS h t ρ A) (m : Mo) {F : List (Nat × Nat)} (hF : FRel m F) (hl : F.length < 799) {a n : Nat} (ha : a ≤ 3000) (hn : n ≤ 3000) : CtV mX9_addFree 1 0 0 [va_rf (some t), .int (nI a), .int (nI n)] (mput h t ρ m) (fun h' => ∃ m', h' = mput h t ρ m' ∧ FRel m' (F ++ [(a, n)]) ∧ Msame [915] [913, 914] m m') := by
  refine enX9_addFree (fun X C => ?_)
  obtain ⟨h1, h2, h3⟩ := hF
  have hcl : (m.1 915).toNatClampNeg = F.length := by rw [h1]; exact nI_clamp (by omega)
  refine sm_addFree_0 C hS (Nat.le_refl _) (Nat.le_refl _) (by rw [h1]; exact vin h2) ⟨_, rfl, ⟨?_, by simp; omega, fun i p hp => ?_⟩, fun g hg => ?_, fun g hg => ?_⟩
  · simp [up1, h1, nI_1]
  · rw [hcl]
    by_cases hi : i < F.length
    · rw [List.getElem?_append_left hi] at hp
      have := h3 i p hp
      simp [up2, Nat.ne_of_lt hi, this]
    · rw [List.getElem?_append_right (by omega)] at hp
      have hz := (List.getElem?_eq_some_iff.mp hp).1
      have hi2 : i = F.length := by simp at hz; omega
      subst hi2
      simp at hp
      subst hp
      simp [up2, ha, hn]
  · exact up1_n _ _ (by simpa using hg)
  · simp only [List.mem_cons, List.not_mem_nil, or_false, not_or] at hg
    funext j
    simp [up2, hg.1, hg.2]
def gbs (F : List (Nat × Nat)) (a : Nat) (e : Bool) (i : Nat) : Bool := match F[i]? with
  | some p => decide (64 < p.2) && decide (p.1 + (if e then p.2 else 0) = a)
  | none => false
set_option maxHeartbeats 1000000 in
theorem ct9_greatBeside (hS : MS h t ρ A) (m : Mo) {F : List (Nat × Nat)} (hF : FRel m F) {a : Nat} (ha : a ≤ 6000) (e : Bool) : CtI mX9_greatBeside 1 0 0 [va_rf (some t), .int (nI a), .int (if e then 1 else 0)] (mput h t ρ m) (fun r h' => h' = mput h t ρ m ∧ r = oI (fnd (gbs F a e) F.length 0)) := by
  refine enX9_greatBeside (fun X C => sm_greatBeside_0 C hS ?_)
  obtain ⟨h1, h2, h3⟩ := hF
  have key : ∀ k i, i + k = F.length → fnd (gbs F a e) F.length 0 = fnd (gbs F a e) k i → At X 0 0 2 [some (va_rf (some t)), some (.int (nI a)), some (.int (if e then 1 else 0)), some (.int (nI i))] [] (mput h t ρ m) := by
    intro k
    induction k with
    | zero =>
      intro i hi hf
      refine sm_greatBeside_2 C hS (Nat.le_refl _) (Nat.le_refl _) ?_ ?_ ?_ (fun c => ⟨rfl, by rw [hf]; rfl⟩) ?_ ?_ ?_ ?_ ?_ <;> (intro c; exact absurd ((li h1).mpr (by omega)) c)
    | succ k ih =>
      intro i hi hf
      have hlt : i < 800 := by omega
      have hcl : (nI i).toNatClampNeg = i := nI_clamp (by omega)
      rw [fnd] at hf
      obtain ⟨p, hp⟩ : ∃ p, F[i]? = some p := ⟨F[i]'(by omega), List.getElem?_eq_getElem (by omega)⟩
      obtain ⟨q1, q2, q3, q4⟩ := h3 i p hp
      have hg : gbs F a e i = (decide (64 < p.2) && decide (p.1 + (if e then p.2 else 0) = a)) := by simp [gbs, hp]
      have h64 : nI p.2 ≤ 64 ↔ p.2 ≤ 64 := nI_leI (b := 64) (by omega) (by omega)
      have next : gbs F a e i = false → At X 0 0 2 [some (va_rf (some t)), some (.int (nI a)), some (.int (if e then 1 else 0)), some (.int (nI i + 1))] [] (mput h t ρ m) := fun hb => by
        rw [nI_1]
        exact ih (i + 1) (by omega) (by rw [hf, if_neg (by simp [hb])])
      have done : gbs F a e i = true → nI i = oI (fnd (gbs F a e) F.length 0) := fun hb => by rw [hf, if_pos hb]; rfl
      refine sm_greatBeside_2 C hS (Nat.le_refl _) (Nat.le_refl _) (fun _ => vin hlt) (fun _ _ => vin hlt) (fun _ _ _ => vin hlt) (fun c => absurd ((li h1).mp c) (by omega)) (fun _ c => next ?_) (fun _ c c0 c' => next ?_) (fun _ c c0 c' => ⟨rfl, done ?_⟩) (fun _ c c0 c' => next ?_) (fun _ c c0 c' => ⟨rfl, done ?_⟩)
      all_goals (rw [hcl, q2, h64] at c; rw [hg])
      · simp [show ¬ 64 < p.2 by omega]
      · have he : e = false := by cases e <;> simp_all
        subst he
        rw [hcl, q1, Int32.add_zero, nI_eq (by omega) (by omega)] at c'
        simp [c']
      · have he : e = false := by cases e <;> simp_all
        subst he
        rw [hcl, q1, Int32.add_zero, nI_eq (by omega) (by omega)] at c'
        simp [c', show 64 < p.2 by omega]
      · have he : e = true := by cases e <;> simp_all
        subst he
        rw [hcl, q1, q2, nI_add, nI_eq (by omega) (by omega)] at c'
        simp [c']
      · have he : e = true := by cases e <;> simp_all
        subst he
        rw [hcl, q1, q2, nI_add, nI_eq (by omega) (by omega)] at c'
        simp [c', show 64 < p.2 by omega]
  exact key F.length 0 (by omega) rfl
end M2
