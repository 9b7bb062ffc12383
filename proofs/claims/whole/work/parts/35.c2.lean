/-! THE CLASS's blocks -/
def GB (W : Nat) (B : List Blk) : Prop := (∀ i, i < B.length → 1 ≤ (bat B i).1 ∧ (bat B i).1 % 4 = 1 ∧ (bat B i).2.1 % 4 = 0 ∧ 4 ≤ (bat B i).2.1 ∧ (bat B i).1 + (bat B i).2.1 ≤ W) ∧ (∀ i j, i < B.length → j < B.length → ¬ i = j → dj ((bat B i).1, (bat B i).2.1) ((bat B j).1, (bat B j).2.1)) ∧ W ≤ 3000
theorem chB_get {B : List Blk} {i : Nat} (h : i < B.length) : (chB B)[i]? = some ((bat B i).1, (bat B i).2.1) := by
  simp [chB, bat_get h]
theorem SInv.gb {W : Nat} {s : St} (h : SInv W s) : GB W s.1 := by
  obtain ⟨g, h1, h2, h3⟩ := h
  have hget : ∀ i, i < s.1.length → (chB s.1 ++ s.2.1)[i]? = some ((bat s.1 i).1, (bat s.1 i).2.1) := fun i hi => by
    rw [List.getElem?_append_left (by simp [chB, hi])]
    exact chB_get hi
  refine ⟨fun i hi => ?_, fun i j hi hj hij => ?_, h3⟩
  · have := g.1 _ (List.mem_of_getElem? (hget i hi))
    simp only at this
    omega
  · exact g.two (hget i hi) (hget j hj) hij
def cov (B : List Blk) (i j : Nat) : Prop := (bat B i).1 ≤ j ∧ j < (bat B i).1 + (bat B i).2.1
theorem inBk_n {B : List Blk} {W : Nat} (hG : GB W B) {i j : Nat} (hi : i < B.length) (hj : j < 2147483648) : inBk B (nI j) i = true ↔ cov B i j := by
  have h1 := hG.1 i hi
  have h2 := hG.2.2
  simp only [inBk, Bool.and_eq_true, decide_eq_true_eq, cov]
  rw [nI_leI (by omega) hj, nI_ltI hj (by omega)]
theorem cov_uniq {B : List Blk} {W : Nat} (hG : GB W B) {i k j : Nat} (hi : i < B.length) (hk : k < B.length) (h1 : cov B i j) (h2 : cov B k j) : i = k := by
  by_cases e : i = k
  · exact e
  · have := hG.2.1 i k hi hk e
    simp only [dj, cov] at this h1 h2
    omega
/-- the block of an address: just one -/
theorem bIx_some {B : List Blk} {W : Nat} (hG : GB W B) {j i : Nat} (hj : j < 2147483648) : bIx B (nI j) = some i ↔ i < B.length ∧ cov B i j := by
  constructor
  · intro h
    obtain ⟨-, h2, h3, -⟩ := fnd_some h
    have hi : i < B.length := by omega
    exact ⟨hi, (inBk_n hG hi hj).mp h3⟩
  · rintro ⟨hi, hc⟩
    refine fnd_uniq ⟨Nat.zero_le _, by omega⟩ ((inBk_n hG hi hj).mpr hc) (fun k _ hk hp => ?_)
    exact cov_uniq hG (by omega) hi ((inBk_n hG (by omega) hj).mp hp) hc
theorem bIx_neg {B : List Blk} {W : Nat} (hG : GB W B) {x : Int32} (hx : ¬ 1 ≤ x) : bIx B x = none := by
  cases h : bIx B x with
  | none => rfl
  | some i =>
    exfalso
    obtain ⟨-, h2, h3, -⟩ := fnd_some h
    have h1 := hG.1 i (by omega)
    have h5 := hG.2.2
    simp only [inBk, Bool.and_eq_true, decide_eq_true_eq] at h3
    apply hx
    refine Int32.le_trans ?_ h3.1
    exact (nI_leI (a := 1) (by omega) (by omega)).mpr (by omega)
theorem opt_ext {α : Type} {x y : Option α} (h : ∀ a, x = some a ↔ y = some a) : x = y := by
  cases x with
  | none =>
    cases y with
    | none => rfl
    | some b => exact absurd ((h b).mpr rfl) (by simp)
  | some a => exact ((h a).mp rfl).symm
theorem bIx_unit {B : List Blk} {W : Nat} (hG : GB W B) {j : Nat} (h1 : 1 ≤ j) (hj : j < 2147483648) : bIx B (nI j) = bIx B (nI (4 * ((j - 1) / 4) + 1)) := by
  apply opt_ext
  intro i
  rw [bIx_some hG hj, bIx_some hG (by omega)]
  constructor
  · rintro ⟨hi, hc⟩
    have := hG.1 i hi
    exact ⟨hi, by simp only [cov] at hc ⊢; omega⟩
  · rintro ⟨hi, hc⟩
    have := hG.1 i hi
    exact ⟨hi, by simp only [cov] at hc ⊢; omega⟩
theorem bIx_far {B : List Blk} {W : Nat} (hG : GB W B) {j : Nat} (hj : j < 2147483648) (h : (W - 1) / 4 ≤ (j - 1) / 4) (h1 : 1 ≤ j) (hW : 1 ≤ W) : bIx B (nI j) = none := by
  cases hq : bIx B (nI j) with
  | none => rfl
  | some i =>
    exfalso
    obtain ⟨hi, hc⟩ := (bIx_some hG hj).mp hq
    have := hG.1 i hi
    simp only [cov] at hc
    omega
/-- a node is a block's -/
def NdR (h : Hp) (q : Nat) (b : Blk) (r : Nat) : Prop := h.K q = 1 ∧ h.I 0 q = nI b.1 ∧ h.I 1 q = nI b.2.1 ∧ h.I 2 q = nI (b.1 + r) ∧ h.I 3 q = nI b.2.2.1 ∧ h.I 4 q = nI b.2.2.2.1 ∧ h.I 5 q = if b.2.2.2.2 = 0 then 1 else 0
def BlS (h : Hp) (bl bu U : Nat) : Prop := h.K bl = 2 ∧ h.R 100 bl = some bu ∧ h.K bu = 13 ∧ h.N bu = U
def ndB (nd : Nat → Nat) (B : List Blk) (i : Nat) : Nat := nd (bat B i).1
def BkR (h : Hp) (bu U : Nat) (B : List Blk) (r : Nat) (nd : Nat → Nat) : Prop := (∀ i, i < B.length → NdR h (ndB nd B i) (bat B i) r) ∧ ∀ u, u < U → h.AR bu u = (bIx B (nI (4 * u + 1))).map (ndB nd B)
set_option maxHeartbeats 1000000 in
theorem stIx_bIx {B : List Blk} {W r : Nat} (hG : GB W B) (hBW : BW r B) (p : Int32) {i : Nat} : stIx B r p = some i ↔ bIx B p = some i ∧ nI ((bat B i).1 + r) = p := by
  have key : ∀ k, k < B.length → nI ((bat B k).1 + r) = p → bIx B p = some k := fun k hk hp => by
    have h1 := hG.1 k hk
    have h2 := bw_at hBW hk
    have h3 := hG.2.2
    rw [← hp]
    exact (bIx_some hG (by omega)).mpr ⟨hk, by simp only [cov]; omega⟩
  constructor
  · intro h
    obtain ⟨h1, h2⟩ := stIx_lt h
    exact ⟨key i h1 h2, h2⟩
  · rintro ⟨h1, h2⟩
    have hi := bIx_lt h1
    refine fnd_uniq ⟨Nat.zero_le _, by omega⟩ (by simpa using h2) (fun k _ hk hp => ?_)
    have := key k (by omega) (by simpa using hp)
    rw [h1] at this
    cases this
    rfl
section C2
variable {h : Hp} {bl bu U W r : Nat} {B : List Blk} {nd : Nat → Nat}
theorem ct1_at (hS : BlS h bl bu U) (hR : BkR h bu U B r nd) (hG : GB W B) (hU : U = (W - 1) / 4) (hW : 1 ≤ W) (x : Int32) : CtR mX1_at 1 0 0 [va_rf (some bl), .int x] h (fun o h' => h' = h ∧ o = (bIx B x).map (ndB nd B)) := by
  obtain ⟨s1, s2, s3, s4⟩ := hS
  have h3 := hG.2.2
  refine enX1_at (fun X C => sgX1_at_0 C (Nat.le_refl _) (Nat.le_refl _) s1 s2 s3 (fun c c' => ?_) (fun c c' => ⟨rfl, ?_⟩) (fun c c' => ⟨rfl, ?_⟩) (fun c => ⟨rfl, ?_⟩))
  all_goals try (obtain ⟨j, rfl, h1, h2⟩ := posN c; have e : (nI j - 1) / 4 = nI ((j - 1) / 4) := (by rw [show nI j - 1 = nI (j - 1) from pk_sub (a := j) (b := 1) h1]; exact pk_div (a := j - 1) (d := 4) (by omega) (by decide) (by decide)))
  · rw [e, s4, nI_leI (by omega) (by omega)] at c'
    rw [e, s4]
    exact vin (by omega)
  · rw [e, s4, nI_leI (by omega) (by omega)] at c'
    rw [bIx_far hG h2 (by omega) h1 hW]
    rfl
  · rw [e, s4, nI_leI (by omega) (by omega)] at c'
    rw [e, nI_clamp (by omega), hR.2 _ (by omega), bIx_unit hG h1 h2]
  · rw [bIx_neg hG c]; rfl
set_option maxHeartbeats 1000000 in
theorem ct1_startingAt (hS : BlS h bl bu U) (hR : BkR h bu U B r nd) (hG : GB W B) (hU : U = (W - 1) / 4) (hW : 1 ≤ W) (hBW : BW r B) (x : Int32) : CtR mX1_startingAt 2 0 0 [va_rf (some bl), .int x] h (fun o h' => h' = h ∧ o = (stIx B r x).map (ndB nd B)) := by
  refine enX1_startingAt (fun X C => sgX1_startingAt_0 C ?_)
  refine clX1_startingAt_2 C (ct1_at hS hR hG hU hW x) hS.1 (by decide) (Nat.le_refl _) (Nat.le_refl _) (Nat.le_of_ble_eq_true rfl) (fun o h' ⟨e1, e2⟩ => ?_)
  subst e1
  cases hq : bIx B x with
  | none =>
    rw [hq] at e2
    subst e2
    have : stIx B r x = none := by
      cases hs : stIx B r x with
      | none => rfl
      | some i => rw [((stIx_bIx hG hBW x).mp hs).1] at hq; cases hq
    exact sgX1_startingAt_5 C (Nat.le_refl _) (Nat.le_refl _) (fun z hz => by cases hz) (fun _ => ⟨rfl, by rw [this]; rfl⟩) (fun z hz => by cases hz) (fun z hz => by cases hz)
  | some i =>
    rw [hq] at e2
    subst e2
    have hn := hR.1 i (bIx_lt hq)
    refine sgX1_startingAt_5 C (Nat.le_refl _) (Nat.le_refl _) (fun z hz => by cases hz; exact hn.1) (fun c => by cases c) (fun z hz c => ⟨rfl, ?_⟩) (fun z hz c => ⟨rfl, ?_⟩)
    · cases hz
      rw [hn.2.2.2.1] at c
      cases hs : stIx B r x with
      | none => rfl
      | some k =>
        obtain ⟨z1, z2⟩ := (stIx_bIx hG hBW x).mp hs
        rw [hq] at z1; cases z1
        exact absurd z2 c
    · cases hz
      rw [hn.2.2.2.1] at c
      rw [(stIx_bIx hG hBW x).mpr ⟨hq, c⟩]
      rfl
theorem ndR_live {q : Nat} {b : Blk} (hn : NdR h q b r) : h.I 5 q = 0 ↔ ¬ b.2.2.2.2 = 0 := by
  rw [hn.2.2.2.2.2.2]
  by_cases h0 : b.2.2.2.2 = 0 <;> simp [h0]
set_option maxHeartbeats 1000000 in
theorem ct1_liveStartingAt (hS : BlS h bl bu U) (hR : BkR h bu U B r nd) (hG : GB W B) (hU : U = (W - 1) / 4) (hW : 1 ≤ W) (hBW : BW r B) (x : Int32) : CtR mX1_liveStartingAt 3 0 0 [va_rf (some bl), .int x] h (fun o h' => h' = h ∧ o = (lvIx B r x).map (ndB nd B)) := by
  refine enX1_liveStartingAt (fun X C => sgX1_liveStartingAt_0 C ?_)
  refine clX1_liveStartingAt_2 C (ct1_startingAt hS hR hG hU hW hBW x) hS.1 (by decide) (Nat.le_refl _) (Nat.le_refl _) (Nat.le_of_ble_eq_true rfl) (fun o h' ⟨e1, e2⟩ => ?_)
  subst e1
  cases hq : stIx B r x with
  | none =>
    rw [hq] at e2
    subst e2
    exact sgX1_liveStartingAt_5 C (Nat.le_refl _) (Nat.le_refl _) (fun z hz => by cases hz) (fun _ => ⟨rfl, by simp [lvIx, hq]⟩) (fun z hz => by cases hz) (fun z hz => by cases hz)
  | some i =>
    rw [hq] at e2
    subst e2
    have hn := hR.1 i (stIx_lt hq).1
    refine sgX1_liveStartingAt_5 C (Nat.le_refl _) (Nat.le_refl _) (fun z hz => by cases hz; exact hn.1) (fun c => by cases c) (fun z hz c => ⟨rfl, ?_⟩) (fun z hz c => ⟨rfl, ?_⟩)
    · cases hz
      rw [ndR_live hn] at c
      simp [lvIx, hq, c]
    · cases hz
      rw [ndR_live hn] at c
      simp only [Decidable.not_not] at c
      simp [lvIx, hq, c]
theorem hasW {q : Nat} {b : Blk} (hn : NdR h q b r) (x : Int32) : (if x < h.I 2 q then (0 : Int32) else if h.I 2 q + h.I 3 q ≤ x then 0 else 1) = if x < nI (b.1 + r) then 0 else if x < nI (b.1 + r + b.2.2.1) then 1 else 0 := by
  rw [hn.2.2.2.1, hn.2.2.2.2.1, nI_add]
  by_cases c1 : x < nI (b.1 + r)
  · rw [if_pos c1, if_pos c1]
  · rw [if_neg c1, if_neg c1]
    by_cases c2 : nI (b.1 + r + b.2.2.1) ≤ x
    · rw [if_pos c2, if_neg (Int32.not_lt.mpr c2)]
    · rw [if_neg c2, if_pos (Int32.not_le.mp c2)]
set_option maxHeartbeats 1000000 in
theorem ct1_sortOf (hS : BlS h bl bu U) (hR : BkR h bu U B r nd) (hG : GB W B) (hU : U = (W - 1) / 4) (hW : 1 ≤ W) (x : Int32) : CtI mX1_sortOf 2 0 0 [va_rf (some bl), .int x] h (fun y h' => h' = h ∧ y = sortB B r x) := by
  refine enX1_sortOf (fun X C => sgX1_sortOf_0 C ?_)
  refine clX1_sortOf_2 C (ct1_at hS hR hG hU hW x) hS.1 (by decide) (Nat.le_refl _) (Nat.le_refl _) (Nat.le_of_ble_eq_true rfl) (fun o h' ⟨e1, e2⟩ => ?_)
  subst e1
  cases hq : bIx B x with
  | none =>
    rw [hq] at e2
    subst e2
    exact sgX1_sortOf_5 C (Nat.le_refl _) (Nat.le_refl _) (fun z hz => by cases hz) (fun _ => ⟨rfl, by simp [sortB, hq]⟩)
  | some i =>
    rw [hq] at e2
    subst e2
    have hn := hR.1 i (bIx_lt hq)
    refine sgX1_sortOf_5 C (Nat.le_refl _) (Nat.le_refl _) (fun z hz => ?_) (fun c => by cases c)
    cases hz
    refine clX1_sortOf_14 C (ct0_hasWord hn.1 x) hn.1 (by decide) (Nat.le_refl _) (Nat.le_refl _) (Nat.le_of_ble_eq_true rfl) (fun y h' ⟨e1, e2⟩ => ?_)
    subst e1
    rw [hasW hn x] at e2
    refine sgX1_sortOf_17 C (Nat.le_refl _) (Nat.le_refl _) hn.1 (fun c c' => ⟨rfl, ?_⟩) (fun c c' => ⟨rfl, ?_⟩) (fun c => ⟨rfl, ?_⟩)
    all_goals (simp only [sortB, hq]; rw [e2] at c)
    · rw [ndR_live hn] at c'
      by_cases c1 : x < nI ((bat B i).1 + r)
      · simp [c1] at c
      · by_cases c2 : x < nI ((bat B i).1 + r + (bat B i).2.2.1)
        · simp [c1, c2, c']
        · simp [c1, c2] at c
    · rw [ndR_live hn, Decidable.not_not] at c'
      by_cases c1 : x < nI ((bat B i).1 + r)
      · simp [c1] at c
      · by_cases c2 : x < nI ((bat B i).1 + r + (bat B i).2.2.1)
        · simp [c1, c2, c']
        · simp [c1, c2] at c
    · by_cases c1 : x < nI ((bat B i).1 + r)
      · simp [c1]
      · by_cases c2 : x < nI ((bat B i).1 + r + (bat B i).2.2.1)
        · simp [c1, c2] at c
        · simp [c1, c2]
set_option maxHeartbeats 1000000 in
theorem ct1_ledToBy (hS : BlS h bl bu U) (hR : BkR h bu U B r nd) (hG : GB W B) (hU : U = (W - 1) / 4) (hW : 1 ≤ W) (x : Int32) : CtR mX1_ledToBy 2 0 0 [va_rf (some bl), .int x] h (fun o h' => h' = h ∧ o = (ldB B r x).map (ndB nd B)) := by
  refine enX1_ledToBy (fun X C => sgX1_ledToBy_0 C ?_)
  refine clX1_ledToBy_2 C (ct1_at hS hR hG hU hW x) hS.1 (by decide) (Nat.le_refl _) (Nat.le_refl _) (Nat.le_of_ble_eq_true rfl) (fun o h' ⟨e1, e2⟩ => ?_)
  subst e1
  cases hq : bIx B x with
  | none =>
    rw [hq] at e2
    subst e2
    exact sgX1_ledToBy_5 C (Nat.le_refl _) (Nat.le_refl _) (fun z hz => by cases hz) (fun _ => ⟨rfl, by simp [ldB, hq]⟩) (fun z hz => by cases hz) (fun z hz => by cases hz)
  | some i =>
    rw [hq] at e2
    subst e2
    have hn := hR.1 i (bIx_lt hq)
    refine sgX1_ledToBy_5 C (Nat.le_refl _) (Nat.le_refl _) (fun z hz => by cases hz; exact hn.1) (fun c => by cases c) (fun z hz c => ⟨rfl, ?_⟩) (fun z hz c => ?_)
    · rw [ndR_live (by cases hz; exact hn)] at c
      have : ¬ sortB B r x = 0 := by
        simp only [sortB, hq]
        by_cases c1 : x < nI ((bat B i).1 + r)
        · simp [c1]
        · by_cases c2 : x < nI ((bat B i).1 + r + (bat B i).2.2.1) <;> simp [c1, c2, c]
      simp [ldB, this]
    · cases hz
      rw [ndR_live hn, Decidable.not_not] at c
      refine clX1_ledToBy_19 C (ct0_hasWord hn.1 x) hn.1 (by decide) (Nat.le_refl _) (Nat.le_refl _) (Nat.le_of_ble_eq_true rfl) (fun y h' ⟨e1, e2⟩ => ?_)
      subst e1
      rw [hasW hn x] at e2
      refine sgX1_ledToBy_22 C (Nat.le_refl _) (Nat.le_refl _) (fun c => ⟨rfl, ?_⟩) (fun c => ⟨rfl, ?_⟩)
      · rw [e2] at c
        have : ¬ sortB B r x = 0 := by
          simp only [sortB, hq]
          by_cases c1 : x < nI ((bat B i).1 + r)
          · simp [c1]
          · by_cases c2 : x < nI ((bat B i).1 + r + (bat B i).2.2.1)
            · simp [c1, c2] at c
            · simp [c1, c2]
        simp [ldB, this]
      · rw [e2] at c
        have : sortB B r x = 0 := by
          simp only [sortB, hq]
          by_cases c1 : x < nI ((bat B i).1 + r)
          · simp [c1] at c
          · by_cases c2 : x < nI ((bat B i).1 + r + (bat B i).2.2.1)
            · simp [c1, c2]; assumption
            · simp [c1, c2] at c
        simp [ldB, this, hq]
/-- the live block that begins with this unit -/
def ulv (B : List Blk) (u : Nat) : Option Nat := match bIx B (nI (4 * u + 1)) with
  | none => none
  | some i => if (bat B i).1 = 4 * u + 1 ∧ (bat B i).2.2.2.2 = 0 then some i else none
set_option maxHeartbeats 1000000 in
theorem ct1_liveFromUnit (hS : BlS h bl bu U) (hR : BkR h bu U B r nd) (hG : GB W B) (hU : U ≤ 3000) {u : Nat} (hu : u < U) : CtR mX1_liveFromUnit 1 0 0 [va_rf (some bl), .int (nI u)] h (fun o h' => h' = h ∧ o = (ulv B u).map (ndB nd B)) := by
  obtain ⟨s1, s2, s3, s4⟩ := hS
  have h3 := hG.2.2
  have hcl : (nI u).toNatClampNeg = u := nI_clamp (by omega)
  have hlt : nI u < nI (h.N bu) := by rw [s4, nI_ltI (by omega) (by omega)]; exact hu
  have har := hR.2 u hu
  have e4 : 1 + nI u * 4 = nI (4 * u + 1) := by
    rw [show (4 : Int32) = nI 4 from rfl, pk_mul, show (1 : Int32) = nI 1 from rfl, nI_add]
    congr 1; omega
  have hnode : ∀ z, h.AR bu u = some z → ∃ i, bIx B (nI (4 * u + 1)) = some i ∧ z = ndB nd B i ∧ NdR h z (bat B i) r := by
    intro z hz
    rw [har] at hz
    cases hq : bIx B (nI (4 * u + 1)) with
    | none => rw [hq] at hz; cases hz
    | some i => rw [hq] at hz; cases hz; exact ⟨i, rfl, rfl, hR.1 i (bIx_lt hq)⟩
  have hce : ∀ i, i < B.length → (nI (bat B i).1 = nI (4 * u + 1) ↔ (bat B i).1 = 4 * u + 1) := fun i hi => by
    have := hG.1 i hi
    exact nI_eq (by omega) (by omega)
  refine enX1_liveFromUnit (fun X C => sgX1_liveFromUnit_0 C (Nat.le_refl _) (Nat.le_refl _) s1 s2 s3 (fun _ _ => by rw [s4]; exact vin hu) (fun _ _ z hz => ?_) (fun _ _ z hz _ => ?_) (fun c => absurd c (nI_pos (by omega))) (fun _ _ hz => ⟨rfl, ?_⟩) (fun _ _ z hz c => ⟨rfl, ?_⟩) (fun _ _ z hz c c' => ⟨rfl, ?_⟩) (fun _ _ z hz c c' => ⟨rfl, ?_⟩) (fun _ c => absurd hlt c))
  all_goals rw [hcl] at hz
  · obtain ⟨i, _, _, hn⟩ := hnode z hz; exact hn.1
  · obtain ⟨i, _, _, hn⟩ := hnode z hz; exact hn.1
  · rw [har] at hz
    cases hq : bIx B (nI (4 * u + 1)) with
    | none => simp [ulv, hq]
    | some i => rw [hq] at hz; cases hz
  · obtain ⟨i, hq, rfl, hn⟩ := hnode z hz
    rw [e4, hn.2.1, hce i (bIx_lt hq)] at c
    simp [ulv, hq, c]
  · obtain ⟨i, hq, rfl, hn⟩ := hnode z hz
    rw [ndR_live hn] at c'
    simp [ulv, hq, c']
  · obtain ⟨i, hq, rfl, hn⟩ := hnode z hz
    rw [e4, hn.2.1, hce i (bIx_lt hq)] at c
    rw [ndR_live hn, Decidable.not_not] at c'
    simp [ulv, hq, c, c']
def ownN (B : List Blk) (r : Nat) (x : Int32) (N : Nat) : Option Nat := fnd (fun i => decide (¬ sortB B r (x + nI i) = 0)) N 0
set_option maxHeartbeats 1000000 in
theorem ct1_ownWordsFrom (hS : BlS h bl bu U) (hR : BkR h bu U B r nd) (hG : GB W B) (hU : U = (W - 1) / 4) (hW : 1 ≤ W) (x : Int32) {N : Nat} (hN : N < 2147483648) : CtI mX1_ownWordsFrom 3 0 0 [va_rf (some bl), .int x, .int (nI N)] h (fun y h' => h' = h ∧ y = match ownN B r x N with | none => nI N | some i => nI i) := by
  refine enX1_ownWordsFrom (fun X C => sgX1_ownWordsFrom_0 C ?_)
  generalize hp : (fun i => decide (¬ sortB B r (x + nI i) = 0)) = p
  have hw : ownN B r x N = fnd p N 0 := by subst hp; rfl
  have key : ∀ n i, i + n = N → fnd p N 0 = fnd p n i → At X 0 0 2 [some (va_rf (some bl)), some (.int x), some (.int (nI N)), some (.int (nI i))] [] h := by
    intro n
    induction n with
    | zero =>
      intro i hi hf
      refine sgX1_ownWordsFrom_2 C (Nat.le_refl _) (Nat.le_refl _) (fun _ => ⟨rfl, by rw [hw, hf]; rfl⟩) (fun c => ?_)
      rw [nI_leI hN (by omega)] at c; omega
    | succ n ih =>
      intro i hi hf
      rw [fnd] at hf
      refine sgX1_ownWordsFrom_2 C (Nat.le_refl _) (Nat.le_refl _) (fun c => ?_) (fun _ => ?_)
      · rw [nI_leI hN (by omega)] at c; omega
      · refine clX1_ownWordsFrom_11 C (ct1_sortOf hS hR hG hU hW (x + nI i)) hS.1 (by decide) (Nat.le_refl _) (Nat.le_refl _) (Nat.le_of_ble_eq_true rfl) (fun y h' ⟨e1, e2⟩ => ?_)
        subst e1; subst e2
        refine sgX1_ownWordsFrom_14 C (Nat.le_refl _) (Nat.le_refl _) (fun c => ?_) (fun c => ⟨rfl, ?_⟩)
        · rw [nI_1]
          exact ih (i + 1) (by omega) (by rw [hf, if_neg (by subst hp; simp [c])])
        · rw [hw, hf, if_pos (by subst hp; simp [c])]
  exact key N 0 (by omega) rfl
set_option maxHeartbeats 1000000 in
theorem ct1_fillUnits (hS : BlS h bl bu U) (hU : U ≤ 3000) {q : Nat} (hq : h.K q = 1) {a n : Nat} (ha : h.I 0 q = nI (4 * a + 1)) (hn : h.I 1 q = nI (4 * n)) (hl : a + n ≤ U) (o : Option Nat) (ho : ∀ z, o = some z → h.K z = 1) : CtV mX1_fillUnits 2 0 0 [va_rf (some bl), va_rf (some q), va_rf o] h (fun h' => h' = h.wAR bu (fun u => if a ≤ u ∧ u < a + n then o else h.AR bu u)) := by
  obtain ⟨s1, s2, s3, s4⟩ := hS
  refine enX1_fillUnits (fun X C => sgX1_fillUnits_0 C hq ?_)
  rw [ha, show nI (4 * a + 1) - 1 = nI (4 * a) from nI_pred _]
  refine clX1_fillUnits_7 C (ctJ_max (nI (4 * a)) 0) (by decide) (Nat.le_refl _) (Nat.le_refl _) (Nat.le_of_ble_eq_true rfl) (fun y h' ⟨e1, e2⟩ => ?_)
  subst e1
  rw [if_neg (nI_pos (by omega))] at e2
  subst e2
  refine sgX1_fillUnits_10 C hq ?_
  have d1 : nI (4 * a) / 4 = nI a := by
    rw [show (4 : Int32) = nI 4 from rfl, pk_div (by omega) (by decide) (by decide)]; congr 1; omega
  have d2 : nI (4 * n) / 4 = nI n := by
    rw [show (4 : Int32) = nI 4 from rfl, pk_div (by omega) (by decide) (by decide)]; congr 1; omega
  rw [hn, d1, d2, nI_add]
  have key : ∀ k i, i + k = n → At X 0 0 26 [some (va_rf (some bl)), some (va_rf (some q)), some (va_rf o), some (.int (nI a)), some (.int (nI (a + n))), some (.int (nI (a + i)))] [] (h'.wAR bu (fun u => if a ≤ u ∧ u < a + i then o else h'.AR bu u)) := by
    intro k
    induction k with
    | zero =>
      intro i hi
      have hi : i = n := by omega
      subst hi
      exact sgX1_fillUnits_26 C (Nat.le_refl _) (Nat.le_refl _) s1 s2 s3 (fun c => absurd (Int32.le_refl _) c) (fun c => absurd (Int32.le_refl _) c) (fun _ => rfl) (fun c => absurd (Int32.le_refl _) c) (fun c => absurd (Int32.le_refl _) c)
    | succ k ih =>
      intro i hi
      refine sgX1_fillUnits_26 C (Nat.le_refl _) (Nat.le_refl _) s1 s2 s3 (fun _ _ => ?_) (fun _ _ z hz => ho z hz) (fun c => ?_) (fun _ c => ?_) (fun _ _ => ?_)
      · show vp_in _ (h'.N bu)
        rw [s4]; exact vin (by omega)
      · rw [nI_leI (by omega) (by omega)] at c; omega
      · exfalso
        have c : nI (h'.N bu) ≤ nI (a + i) := c
        rw [s4, nI_leI (by omega) (by omega)] at c; omega
      · rw [nI_clamp (by omega), wAR_s, nI_1]
        have e : up1 (fun u => if a ≤ u ∧ u < a + i then o else h'.AR bu u) (a + i) o = (fun u => if a ≤ u ∧ u < a + (i + 1) then o else h'.AR bu u) := by
          funext j
          by_cases hj : j = a + i
          · subst hj; simp [up1]
          · rw [up1_n _ _ hj]
            by_cases hq : a ≤ j ∧ j < a + i
            · rw [if_pos hq, if_pos (by omega)]
            · rw [if_neg hq, if_neg (by omega)]
        rw [e, show a + i + 1 = a + (i + 1) by omega]
        exact ih (i + 1) (by omega)
  have := key n 0 (by omega)
  have e : (fun u => if a ≤ u ∧ u < a + 0 then o else h'.AR bu u) = h'.AR bu := by
    funext j; rw [if_neg (by omega)]
  rw [e, wAR_0] at this
  exact this
theorem ct1_enter (hS : BlS h bl bu U) (hU : U ≤ 3000) {q : Nat} (hq : h.K q = 1) {a n : Nat} (ha : h.I 0 q = nI (4 * a + 1)) (hn : h.I 1 q = nI (4 * n)) (hl : a + n ≤ U) : CtV mX1_enter 3 0 0 [va_rf (some bl), va_rf (some q)] h (fun h' => h' = h.wAR bu (fun u => if a ≤ u ∧ u < a + n then some q else h.AR bu u)) := by
  refine enX1_enter (fun X C => sgX1_enter_0 C ?_)
  refine clX1_enter_3 C (ct1_fillUnits hS hU hq ha hn hl (some q) (fun z hz => by cases hz; exact hq)) hS.1 (by decide) (Nat.le_refl _) (Nat.le_refl _) (Nat.le_of_ble_eq_true rfl) (fun h' e1 => ?_)
  exact sgX1_enter_6 C (Nat.le_refl _) (Nat.le_refl _) e1
theorem ct1_remove (hS : BlS h bl bu U) (hU : U ≤ 3000) {q : Nat} (hq : h.K q = 1) {a n : Nat} (ha : h.I 0 q = nI (4 * a + 1)) (hn : h.I 1 q = nI (4 * n)) (hl : a + n ≤ U) : CtV mX1_remove 3 0 0 [va_rf (some bl), va_rf (some q)] h (fun h' => h' = h.wAR bu (fun u => if a ≤ u ∧ u < a + n then none else h.AR bu u)) := by
  refine enX1_remove (fun X C => sgX1_remove_0 C ?_)
  refine clX1_remove_3 C (ct1_fillUnits hS hU hq ha hn hl none (fun z hz => by cases hz)) hS.1 (by decide) (Nat.le_refl _) (Nat.le_refl _) (Nat.le_of_ble_eq_true rfl) (fun h' e1 => ?_)
  exact sgX1_remove_6 C (Nat.le_refl _) (Nat.le_refl _) e1
end C2
