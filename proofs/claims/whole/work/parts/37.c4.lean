section C4
variable {h : Hp} {ch pi W : Nat} {kn : Nat → Nat}
theorem Cn.hd {h : Hp} {kn : Nat → Nat} {l : Fl} {o : Option Nat} (hc : Cn h kn o l) {v : Nat} (hv : o = some v) : h.K v = 3 := by
  cases l with
  | nil => rw [show o = none from hc] at hv; cases hv
  | cons p l =>
    obtain ⟨h1, h2, _⟩ := hc
    rw [h1] at hv; cases hv
    exact h2.1
def popH (h : Hp) (ch pi i b : Nat) : Hp := ((h.sAR pi i (h.R 202 b)).sI 305 ch (h.I 305 ch - 1)).sI 306 ch (h.I 306 ch - h.I 201 b)
set_option maxHeartbeats 1000000 in
theorem ct3_takeFromPiles (hS : ChS h ch pi W kn) {P : Nat → Fl} (hP : ∀ i, i < 17 → Cn h kn (h.AR pi i) (P i)) {c : Nat} (hc : c ≤ 4000) :
    CtR mX3_takeFromPiles 2 0 0 [va_rf (some ch), .int (nI c)] h (fun o h' => (o = none ∧ h' = h ∧ ∀ i, c / 4 ≤ i → i < 17 → P i = []) ∨ ∃ i p l, c / 4 ≤ i ∧ i < 17 ∧ (∀ j, c / 4 ≤ j → j < i → P j = []) ∧ P i = p :: l ∧ o = some (kn p.1) ∧ h' = popH h ch pi i (kn p.1)) := by
  obtain ⟨s1, s2, s3, s4, s5, s6, s7, s8⟩ := id hS
  refine enX3_takeFromPiles (fun X C => sgX3_takeFromPiles_0 C ?_)
  refine clX3_takeFromPiles_2 C (ctJ_max (nI c) 0) (by decide) (Nat.le_refl _) (Nat.le_refl _) (Nat.le_of_ble_eq_true rfl) (fun y h' ⟨e1, e2⟩ => ?_)
  subst e1
  rw [if_neg (nI_pos (by omega))] at e2
  subst e2
  refine sgX3_takeFromPiles_5 C ?_
  rw [show (4 : Int32) = nI 4 from rfl, pk_div (by omega) (by decide) (by decide)]
  have key : ∀ n i, (i + n = 17 ∨ n = 0) → c / 4 ≤ i → i ≤ 4000 → (n = 0 → 17 ≤ i) → (∀ j, c / 4 ≤ j → j < i → j < 17 → P j = []) → At X 0 0 8 [some (va_rf (some ch)), some (.int (nI c)), some (.int (nI i)), none] [] h' := by
    intro n
    induction n with
    | zero =>
      intro i _ hi hi2 hz hj
      have h17 := hz rfl
      have hle : nI (h'.N pi) ≤ nI i := by rw [s4, nI_leI (by omega) (by omega)]; exact h17
      exact sgX3_takeFromPiles_8 C (Nat.le_refl _) (Nat.le_refl _) s1 s2 s3 (fun c => absurd hle c) (fun c => absurd hle c) (fun c => absurd hle c) (fun c => absurd hle c) (fun _ => Or.inl ⟨rfl, rfl, fun j h1 h2 => hj j h1 (by omega) h2⟩) (fun c => absurd hle c) (fun c => absurd hle c)
    | succ n ih =>
      intro i hin hi hi2 hz hj
      have h17 : i < 17 := by omega
      have hcl : (nI i).toNatClampNeg = i := nI_clamp (by omega)
      have hcn := hP i h17
      have hv : vp_in (nI i) (h'.N pi) := by rw [s4]; exact vin h17
      cases hq : P i with
      | nil =>
        rw [hq] at hcn
        have hcn : h'.AR pi i = none := hcn
        refine sgX3_takeFromPiles_8 C (Nat.le_refl _) (Nat.le_refl _) s1 s2 s3 (fun _ => hv) (fun _ z hz => ?_) (fun _ z hz => ?_) (fun _ z hz => ?_) (fun c => ?_) (fun _ _ => ?_) (fun _ z hz => ?_)
        · rw [hcl, hcn] at hz; cases hz
        · rw [hcl, hcn] at hz; cases hz
        · rw [hcl, hcn] at hz; cases hz
        · rw [s4, nI_leI (by omega) (by omega)] at c; omega
        · rw [nI_1]
          refine At.fg [_, _, _] (ih (i + 1) (by omega) (by omega) (by omega) (by omega) (fun j h1 h2 h3 => ?_))
          by_cases hji : j = i
          · subst hji; exact hq
          · exact hj j h1 (by omega) h3
        · rw [hcl, hcn] at hz; cases hz
      | cons p l =>
        rw [hq] at hcn
        obtain ⟨c1, c2, c3⟩ := hcn
        refine sgX3_takeFromPiles_8 C (Nat.le_refl _) (Nat.le_refl _) s1 s2 s3 (fun _ => hv) (fun _ z hz => ?_) (fun _ z hz => hv) (fun _ z hz vv hvv => ?_) (fun c => ?_) (fun _ c => ?_) (fun _ z hz => ?_)
        · rw [hcl, c1] at hz; cases hz; exact c2.1
        · rw [hcl, c1] at hz; cases hz; exact c3.hd hvv
        · rw [s4, nI_leI (by omega) (by omega)] at c; omega
        · rw [hcl, c1] at c; cases c
        · rw [hcl, c1] at hz; cases hz
          rw [hcl]
          exact Or.inr ⟨i, p, l, hi, h17, fun j h1 h2 => hj j h1 h2 (by omega), hq, rfl, rfl⟩
  by_cases h17 : c / 4 < 17
  · exact key (17 - c / 4) (c / 4) (by omega) (Nat.le_refl _) (by omega) (by omega) (fun j h1 h2 => by omega)
  · exact key 0 (c / 4) (Or.inr rfl) (Nat.le_refl _) (by omega) (by omega) (fun j h1 h2 => by omega)
/-- the first of the smallest that are large enough -/
def bst (c : Nat) (T : Fl) (p : Nat × Nat) : Prop := ∃ T1 T2, T = T1 ++ p :: T2 ∧ c ≤ p.2 ∧ (∀ q, q ∈ T1 → q.2 < c ∨ p.2 < q.2) ∧ ∀ q, q ∈ T2 → q.2 < c ∨ p.2 ≤ q.2
theorem bst.skip {c : Nat} {T : Fl} {p q : Nat × Nat} (hb : bst c T p) (hq : q.2 < c ∨ p.2 ≤ q.2) : bst c (T ++ [q]) p := by
  obtain ⟨T1, T2, rfl, h1, h2, h3⟩ := hb
  refine ⟨T1, T2 ++ [q], by simp, h1, h2, fun z hz => ?_⟩
  rcases List.mem_append.mp hz with hz | hz
  · exact h3 z hz
  · simp at hz; subst hz; exact hq
theorem bst.take {c : Nat} {T : Fl} {p q : Nat × Nat} (hb : bst c T p) (hc : c ≤ q.2) (hq : q.2 < p.2) : bst c (T ++ [q]) q := by
  obtain ⟨T1, T2, rfl, h1, h2, h3⟩ := hb
  refine ⟨T1 ++ p :: T2, [], rfl, hc, fun z hz => ?_, fun z hz => by cases hz⟩
  rcases List.mem_append.mp hz with hz | hz
  · rcases h2 z hz with h | h
    · exact Or.inl h
    · exact Or.inr (by omega)
  · rcases List.mem_cons.mp hz with rfl | hz
    · exact Or.inr hq
    · rcases h3 z hz with h | h
      · exact Or.inl h
      · exact Or.inr (by omega)
set_option maxHeartbeats 1000000 in
theorem ct3_takeGreat (hS : ChS h ch pi W kn) {G : Fl} (hA : Asc 0 G) (hC : Cn h kn (h.R 202 (kn 0)) G) (hz : ∀ q, q ∈ G → q.2 < 2147483648) {c : Nat} (hc : c ≤ 4000) :
    CtR mX3_takeGreat 2 0 0 [va_rf (some ch), .int (nI c)] h (fun o h' => (o = none ∧ h' = h ∧ ∀ q, q ∈ G → q.2 < c) ∨ ∃ G1 p G2 y, G = G1 ++ p :: G2 ∧ bst c G p ∧ o = some (kn p.1) ∧ (y = 0 ∨ ∃ q, q ∈ G1 ∧ q.1 = y) ∧ h.I 200 (kn y) = nI y ∧ h' = unl h ch (kn y) (kn p.1) ∧ Cn h' kn (h'.R 202 (kn 0)) (G1 ++ G2)) := by
  obtain ⟨s1, s2, s3, s4, s5, s6, s7, s8⟩ := id hS
  refine enX3_takeGreat (fun X C => sgX3_takeGreat_0 C s1 s5 s6 ?_)
  have fin : ∀ p, bst c G p → At X 0 0 53 [some (va_rf (some ch)), some (.int (nI c)), some (va_rf (some (kn p.1))), some (va_rf none)] [va_rf (some (kn p.1)), va_rf (some ch)] h := by
    intro p hb
    obtain ⟨T1, T2, e, h1, h2, h3⟩ := id hb
    have hA2 := hA; have hC2 := hC
    rw [e] at hA2 hC2
    refine clX3_takeGreat_53 C (ct3_unlinkGreat hS hA2 hC2) s1 (by decide) (Nat.le_refl _) (Nat.le_refl _) (Nat.le_of_ble_eq_true rfl) (fun h' ⟨y, g1, g2, g3, g4⟩ => ?_)
    exact sgX3_takeGreat_56 C (Nat.le_refl _) (Nat.le_refl _) (Or.inr ⟨T1, p, T2, y, e, hb, rfl, g1, g2, g3, g4⟩)
  have key : ∀ (S T : Fl) (o : Option Nat) (o2 : Option Nat), G = T ++ S → Cn h kn o S → ((o2 = none ∧ ∀ q, q ∈ T → q.2 < c) ∨ ∃ p, bst c T p ∧ o2 = some (kn p.1)) → At X 0 0 10 [some (va_rf (some ch)), some (.int (nI c)), some (va_rf o2), some (va_rf o)] [] h := by
    intro S
    induction S with
    | nil =>
      intro T o o2 hG hCn hb
      have hCn : o = none := hCn
      subst hCn
      rw [List.append_nil] at hG
      subst hG
      refine sgX3_takeGreat_10 C (Nat.le_refl _) (Nat.le_refl _) (fun z hz => by cases hz) (fun z hz => by cases hz) (fun z hz => by cases hz) (fun z hz => by cases hz) (fun z hz => by cases hz) (fun z hz => by cases hz) (fun z hz => by cases hz) (fun _ e2 => ?_) (fun _ z e2 => ?_) (fun z hz => by cases hz) (fun z hz => by cases hz) (fun z hz => by cases hz) (fun z hz => by cases hz)
      · rcases hb with ⟨_, hb⟩ | ⟨p, hb, e3⟩
        · exact Or.inl ⟨rfl, rfl, hb⟩
        · rw [e2] at e3; cases e3
      · rcases hb with ⟨e3, hb⟩ | ⟨p, hb, e3⟩
        · rw [e2] at e3; cases e3
        · rw [e2] at e3; cases e3
          exact fin p hb
    | cons g S ih =>
      intro T o o2 hG hCn hb
      obtain ⟨c1, c2, c3⟩ := hCn
      subst c1
      have hgG : g ∈ G := by rw [hG]; simp
      have hgz := hz g hgG
      have hG2 : G = (T ++ [g]) ++ S := by rw [hG]; simp
      have hlt : h.I 201 (kn g.1) < nI c ↔ g.2 < c := by rw [c2.2.2]; exact nI_ltI hgz (by omega)
      have hk2 : ∀ z3, o2 = some z3 → ∃ p, bst c T p ∧ z3 = kn p.1 ∧ Ck h kn p ∧ p.2 < 2147483648 := by
        intro z3 e3
        rcases hb with ⟨e4, _⟩ | ⟨p, hb, e4⟩
        · rw [e3] at e4; cases e4
        · rw [e3] at e4; cases e4
          obtain ⟨T1, T2, e, _⟩ := id hb
          have hpG : p ∈ G := by rw [hG, e]; simp
          exact ⟨p, hb, rfl, hC.ck p hpG, hz p hpG⟩
      refine sgX3_takeGreat_10 C (Nat.le_refl _) (Nat.le_refl _) (fun z hz => by cases hz; exact c2.1) (fun z hz _ => by cases hz; exact c2.1) (fun z hz _ _ => by cases hz; exact c2.1) (fun z hz _ _ _ => by cases hz; exact c2.1) (fun z hz _ z3 e3 => ?_) (fun z hz _ _ _ _ => by cases hz; exact c2.1) (fun z hz _ _ _ _ => by cases hz; exact c2.1) (fun e => by cases e) (fun e => by cases e) (fun z hz c4 => ?_) (fun z hz c4 e3 => ?_) (fun z hz c4 z3 e3 c5 => ?_) (fun z hz c4 z3 e3 c5 => ?_)
      · obtain ⟨p, _, rfl, hk, _⟩ := hk2 z3 e3; exact hk.1
      all_goals (cases hz; rw [hlt] at c4)
      · refine ih (T ++ [g]) _ o2 hG2 c3 ?_
        rcases hb with ⟨e4, hb⟩ | ⟨p, hb, e4⟩
        · refine Or.inl ⟨e4, fun q hq => ?_⟩
          rcases List.mem_append.mp hq with hq | hq
          · exact hb q hq
          · simp at hq; subst hq; exact c4
        · exact Or.inr ⟨p, hb.skip (Or.inl c4), e4⟩
      · refine ih (T ++ [g]) _ (some (kn g.1)) hG2 c3 (Or.inr ⟨g, ?_, rfl⟩)
        rcases hb with ⟨e4, hb⟩ | ⟨p, hb, e4⟩
        · exact ⟨T, [], rfl, by omega, fun q hq => Or.inl (hb q hq), fun q hq => by cases hq⟩
        · rw [e3] at e4; cases e4
      · obtain ⟨p, hb2, rfl, hk, hp2⟩ := hk2 z3 e3
        rw [hk.2.2, c2.2.2, nI_leI hp2 hgz] at c5
        exact ih (T ++ [g]) _ _ hG2 c3 (Or.inr ⟨p, hb2.skip (Or.inr c5), rfl⟩)
      · obtain ⟨p, hb2, rfl, hk, hp2⟩ := hk2 z3 e3
        rw [hk.2.2, c2.2.2, nI_leI hp2 hgz] at c5
        exact ih (T ++ [g]) _ _ hG2 c3 (Or.inr ⟨g, hb2.take (by omega) (by omega), rfl⟩)
  exact key G [] _ none rfl hC (Or.inl ⟨rfl, fun q hq => by cases hq⟩)
set_option maxHeartbeats 1000000 in
theorem ct3_takeFromTop (hS : ChS h ch pi W kn) {top hi c : Nat} (ht : h.I 303 ch = nI top) (hhi : h.I 304 ch = nI hi) (hc : c ≤ 4000) (hW : W ≤ 3000) (htW : top ≤ W) (hh : hi ≤ W) :
    CtI mX3_takeFromTop 2 0 0 [va_rf (some ch), .int (nI c)] h (fun y h' => (c ≤ W - top ∧ y = nI top ∧ h' = (h.sI 303 ch (nI (top + c))).sI 304 ch (nI (if top + c ≤ hi then hi else top + c))) ∨ (¬ c ≤ W - top ∧ y = -1 ∧ h' = h)) := by
  obtain ⟨s1, s2, s3, s4, s5, s6, s7, s8⟩ := id hS
  have e0 : nI c ≤ h.I 300 ch - h.I 303 ch ↔ c ≤ W - top := by
    rw [s8, ht, pk_sub (by omega), nI_leI (by omega) (by omega)]
  refine enX3_takeFromTop (fun X C => sgX3_takeFromTop_0 C (Nat.le_refl _) (Nat.le_refl _) s1 (fun c1 => ?_) (fun c1 => Or.inr ⟨fun z => c1 (e0.mpr z), rfl, rfl⟩))
  rw [e0] at c1
  have e1 : (h.sI 303 ch (h.I 303 ch + nI c)).I 303 ch = nI (top + c) := by
    simp only [I_sI, up2, if_true]; rw [ht, nI_add]
  rw [e1, hhi, ht, nI_add]
  refine clX3_takeFromTop_39 C (ctJ_max (nI hi) (nI (top + c))) (by decide) (Nat.le_refl _) (Nat.le_refl _) (Nat.le_of_ble_eq_true rfl) (fun y h' ⟨e2, e3⟩ => ?_)
  subst e2
  refine sgX3_takeFromTop_42 C (Nat.le_refl _) (Nat.le_refl _) s1 (Or.inl ⟨c1, rfl, ?_⟩)
  have : y = nI (if top + c ≤ hi then hi else top + c) := by
    rw [e3]
    by_cases c2 : top + c ≤ hi
    · rw [if_pos c2, if_neg (by rw [nI_ltI (by omega) (by omega)]; omega)]
    · rw [if_neg c2, if_pos (by rw [nI_ltI (by omega) (by omega)]; omega)]
  rw [this]
def putH (h : Hp) (ch pi i b : Nat) : Hp := (((h.sR 202 b (h.AR pi i)).sAR pi i (some b)).sI 305 ch (h.I 305 ch + 1)).sI 306 ch (h.I 306 ch + h.I 201 b)
theorem ct3_putOnPile (hS : ChS h ch pi W kn) {b n : Nat} (hb : h.K b = 3) (hn : h.I 201 b = nI (4 * n)) (h1 : 1 ≤ n) (h16 : n ≤ 16) : CtV mX3_putOnPile 1 0 0 [va_rf (some ch), va_rf (some b)] h (fun h' => h' = putH h ch pi n b) := by
  obtain ⟨s1, s2, s3, s4, s5, s6, s7, s8⟩ := id hS
  have e : h.I 201 b / 4 = nI n := by
    rw [hn, show (4 : Int32) = nI 4 from rfl, pk_div (by omega) (by decide) (by decide)]
    congr 1; omega
  refine enX3_putOnPile (fun X C => sgX3_putOnPile_0 C (Nat.le_refl _) (Nat.le_refl _) hb s1 s2 s3 (fun _ _ => ?_) (fun _ _ v hv => by cases hv; exact hb) (fun c => ?_) (fun _ _ => ?_) (fun _ c => ?_))
  · rw [e, s4]; exact vin (by omega)
  · exfalso
    rw [e, show (1 : Int32) = nI 1 from rfl, nI_ltI (by omega) (by omega)] at c; omega
  · rw [e, nI_clamp (by omega)]; rfl
  · exfalso
    rw [e, s4, nI_ltI (by omega) (by omega)] at c; omega
set_option maxHeartbeats 1000000 in
/-- what a chain of that size holds -/
theorem ct3_chainOf (hS : ChS h ch pi W kn) {P : Nat → Fl} (hP : ∀ i, i < 17 → Cn h kn (h.AR pi i) (P i)) {G : Fl} (hC : Cn h kn (h.R 202 (kn 0)) G) (x : Int32) : CtR mX3_chainOf 1 0 0 [va_rf (some ch), .int x] h (fun o h' => h' = h ∧ ((¬ x ≤ 64 ∧ Cn h kn o G) ∨ (¬ 4 ≤ x ∧ Cn h kn o []) ∨ ∃ j, x = nI j ∧ 4 ≤ j ∧ j ≤ 64 ∧ Cn h kn o (P (j / 4)))) := by
  obtain ⟨s1, s2, s3, s4, s5, s6, s7, s8⟩ := id hS
  have dv : x ≤ 64 → 4 ≤ x → ∃ j, x = nI j ∧ 4 ≤ j ∧ j ≤ 64 ∧ x / 4 = nI (j / 4) := by
    intro c1 c2
    obtain ⟨j, hj, rfl⟩ := nI_of (x := x) (fun hx => by
      have := Int32.lt_iff_toInt_lt.mp hx
      have h2 := Int32.le_iff_toInt_le.mp c2
      have h3 : (4 : Int32).toInt = 4 := by decide
      have h4 : (0 : Int32).toInt = 0 := by decide
      omega)
    rw [show (64 : Int32) = nI 64 from rfl, nI_leI hj (by decide)] at c1
    rw [show (4 : Int32) = nI 4 from rfl, nI_leI (by decide) hj] at c2
    exact ⟨j, rfl, c2, c1, pk_div hj (by decide) (by decide)⟩
  refine enX3_chainOf (fun X C => sgX3_chainOf_0 C (Nat.le_refl _) (Nat.le_refl _) s1 s2 s3 (fun c1 c2 => ?_) s5 s6 (fun c1 c2 => ⟨rfl, ?_⟩) (fun c1 c2 => ⟨rfl, Or.inr (Or.inl ⟨c2, rfl⟩)⟩) (fun c1 => ⟨rfl, Or.inl ⟨c1, hC⟩⟩))
  · obtain ⟨j, -, h1, h2, h3⟩ := dv c1 c2
    rw [h3, s4]; exact vin (by omega)
  · obtain ⟨j, h0, h1, h2, h3⟩ := dv c1 c2
    refine Or.inr (Or.inr ⟨j, h0, h1, h2, ?_⟩)
    rw [h3, nI_clamp (by omega)]
    exact hP _ (by omega)
def cnS (x : Int32) : Fl → Nat
  | [] => 0
  | p :: l => if nI p.2 = x then cnS x l + 1 else cnS x l
def kth (x : Int32) : Fl → Nat → Option Nat
  | [], _ => none
  | p :: l, K => if nI p.2 = x then (if K = 0 then some p.1 else kth x l (K - 1)) else kth x l K
/-- the chain's list: G, none, or a pile -/
def chL (P : Nat → Fl) (G l : Fl) (x : Int32) : Prop := (¬ x ≤ 64 ∧ l = G) ∨ (¬ 4 ≤ x ∧ l = []) ∨ ∃ j, x = nI j ∧ 4 ≤ j ∧ j ≤ 64 ∧ l = P (j / 4)
set_option maxHeartbeats 1000000 in
theorem ct3_manyOfSize (hS : ChS h ch pi W kn) {P : Nat → Fl} (hP : ∀ i, i < 17 → Cn h kn (h.AR pi i) (P i)) {G : Fl} (hC : Cn h kn (h.R 202 (kn 0)) G) (x : Int32) : CtI mX3_manyOfSize 2 0 0 [va_rf (some ch), .int x] h (fun y h' => h' = h ∧ ∃ l, chL P G l x ∧ y = nI (cnS x l)) := by
  refine enX3_manyOfSize (fun X C => sgX3_manyOfSize_0 C ?_)
  refine clX3_manyOfSize_4 C (ct3_chainOf hS hP hC x) hS.1 (by decide) (Nat.le_refl _) (Nat.le_refl _) (Nat.le_of_ble_eq_true rfl) (fun o h' ⟨e1, e2⟩ => ?_)
  subst e1
  refine sgX3_manyOfSize_7 C ?_
  have key : ∀ (L : Fl), chL P G L x → ∀ (l : Fl) (o : Option Nat) (m : Nat), Cn h' kn o l → m + cnS x l = cnS x L → At X 0 0 8 [some (va_rf (some ch)), some (.int x), some (.int (nI m)), some (va_rf o)] [] h' := by
    intro L hL l
    induction l with
    | nil =>
      intro o m hc hm
      have hc : o = none := hc
      subst hc
      refine sgX3_manyOfSize_8 C (Nat.le_refl _) (Nat.le_refl _) (fun z hz => by cases hz) (fun z hz => by cases hz) (fun z hz => by cases hz) (fun _ => ⟨rfl, L, hL, ?_⟩) (fun z hz => by cases hz) (fun z hz => by cases hz)
      rw [← hm]; simp [cnS]
    | cons p l ih =>
      intro o m hc hm
      obtain ⟨c1, c2, c3⟩ := hc
      subst c1
      rw [cnS] at hm
      refine sgX3_manyOfSize_8 C (Nat.le_refl _) (Nat.le_refl _) (fun z hz => by cases hz; exact c2.1) (fun z hz _ => by cases hz; exact c2.1) (fun z hz _ => by cases hz; exact c2.1) (fun e => by cases e) (fun z hz c => ?_) (fun z hz c => ?_)
      · cases hz
        rw [c2.2.2] at c
        rw [if_neg c] at hm
        exact ih _ m c3 hm
      · cases hz
        rw [c2.2.2] at c
        rw [if_pos c] at hm
        rw [nI_1]
        exact ih _ (m + 1) c3 (by omega)
  rcases e2 with ⟨e2, e3⟩ | ⟨e2, e3⟩ | ⟨j, e2, e4, e5, e3⟩
  · exact key G (Or.inl ⟨e2, rfl⟩) G o 0 e3 (by omega)
  · exact key [] (Or.inr (Or.inl ⟨e2, rfl⟩)) [] o 0 e3 (by omega)
  · exact key _ (Or.inr (Or.inr ⟨j, e2, e4, e5, rfl⟩)) _ o 0 e3 (by omega)
def kthP (x w : Int32) (L : Fl) (y : Int32) : Prop := (w < 0 ∧ y = -1) ∨ ∃ K, w = nI K ∧ K < 2147483648 ∧ y = oI (kth x L K)
set_option maxHeartbeats 1000000 in
theorem ct3_addressOfSize (hS : ChS h ch pi W kn) {P : Nat → Fl} (hP : ∀ i, i < 17 → Cn h kn (h.AR pi i) (P i)) {G : Fl} (hC : Cn h kn (h.R 202 (kn 0)) G) (hlen : ∀ l x, chL P G l x → l.length < 2147483648) (x w : Int32) : CtI mX3_addressOfSize 2 0 0 [va_rf (some ch), .int x, .int w] h (fun y h' => h' = h ∧ ∃ l, chL P G l x ∧ kthP x w l y) := by
  refine enX3_addressOfSize (fun X C => sgX3_addressOfSize_0 C ?_)
  refine clX3_addressOfSize_4 C (ct3_chainOf hS hP hC x) hS.1 (by decide) (Nat.le_refl _) (Nat.le_refl _) (Nat.le_of_ble_eq_true rfl) (fun o h' ⟨e1, e2⟩ => ?_)
  subst e1
  refine sgX3_addressOfSize_7 C ?_
  have key : ∀ (L : Fl), chL P G L x → ∀ (l : Fl) (o : Option Nat) (m : Nat), Cn h' kn o l → m + l.length ≤ L.length → (w < 0 ∨ ∃ K, w = nI K ∧ K < 2147483648 ∧ m ≤ K ∧ kth x L K = kth x l (K - m)) → At X 0 0 9 [some (va_rf (some ch)), some (.int x), some (.int w), some (.int (nI m)), some (va_rf o)] [] h' := by
    intro L hL l
    have hLl := hlen L x hL
    induction l with
    | nil =>
      intro o m hc hm hw
      have hc : o = none := hc
      subst hc
      refine sgX3_addressOfSize_9 C (Nat.le_refl _) (Nat.le_refl _) (fun z hz => by cases hz) (fun z hz => by cases hz) (fun z hz => by cases hz) (fun z hz => by cases hz) (fun _ => ⟨rfl, L, hL, ?_⟩) (fun z hz => by cases hz) (fun z hz => by cases hz) (fun z hz => by cases hz)
      rcases hw with hw | ⟨K, e1, e2, e3, e4⟩
      · exact Or.inl ⟨hw, rfl⟩
      · exact Or.inr ⟨K, e1, e2, by rw [e4]; rfl⟩
    | cons p l ih =>
      intro o m hc hm hw
      obtain ⟨c1, c2, c3⟩ := hc
      subst c1
      simp only [List.length_cons] at hm
      refine sgX3_addressOfSize_9 C (Nat.le_refl _) (Nat.le_refl _) (fun z hz => by cases hz; exact c2.1) (fun z hz _ => by cases hz; exact c2.1) (fun z hz _ _ => by cases hz; exact c2.1) (fun z hz _ _ => by cases hz; exact c2.1) (fun e => by cases e) (fun z hz c => ?_) (fun z hz c c' => ?_) (fun z hz c c' => ⟨rfl, L, hL, ?_⟩)
      all_goals (cases hz; rw [c2.2.2] at c)
      · refine ih _ m c3 (by omega) ?_
        rcases hw with hw | ⟨K, e1, e2, e3, e4⟩
        · exact Or.inl hw
        · exact Or.inr ⟨K, e1, e2, e3, by rw [e4, kth, if_neg c]⟩
      · rw [nI_1]
        refine ih _ (m + 1) c3 (by omega) ?_
        rcases hw with hw | ⟨K, e1, e2, e3, e4⟩
        · exact Or.inl hw
        · have hne : ¬ m = K := fun e => c' (by rw [e1, e])
          exact Or.inr ⟨K, e1, e2, by omega, by rw [e4, kth, if_pos c, if_neg (by omega)]; congr 1⟩
      · rcases hw with hw | ⟨K, e1, e2, e3, e4⟩
        · exfalso
          rw [← c'] at hw
          exact nI_pos (by omega) hw
        · rw [e1, nI_eq (by omega) e2] at c'
          subst c'
          refine Or.inr ⟨m, e1, e2, ?_⟩
          rw [e4, kth, if_pos c, if_pos (by omega), c2.2.1]
          rfl
  have start : w < 0 ∨ ∃ K, w = nI K ∧ K < 2147483648 ∧ 0 ≤ K ∧ ∀ L, kth x L K = kth x L (K - 0) := by
    by_cases hw : w < 0
    · exact Or.inl hw
    · obtain ⟨K, hK, e⟩ := nI_of hw
      exact Or.inr ⟨K, e, hK, Nat.zero_le _, fun L => rfl⟩
  have st2 : ∀ L, w < 0 ∨ ∃ K, w = nI K ∧ K < 2147483648 ∧ 0 ≤ K ∧ kth x L K = kth x L (K - 0) := fun L => start.imp id (fun ⟨K, a, b, c, d⟩ => ⟨K, a, b, c, d L⟩)
  rcases e2 with ⟨e2, e3⟩ | ⟨e2, e3⟩ | ⟨j, e2, e4, e5, e3⟩
  · exact key G (Or.inl ⟨e2, rfl⟩) G o 0 e3 (by omega) (st2 _)
  · exact key [] (Or.inr (Or.inl ⟨e2, rfl⟩)) [] o 0 e3 (by simp) (st2 _)
  · exact key _ (Or.inr (Or.inr ⟨j, e2, e4, e5, rfl⟩)) _ o 0 e3 (by omega) (st2 _)
end C4
