/-! THE REFERENCE's public methods -/
def MR (m : Mo) (W r c : Nat) (s : St) (g f k : Nat) : Prop := SRel m s ∧ m.1 900 = nI W ∧ m.1 901 = nI r ∧ m.1 902 = nI c ∧ m.1 916 = nI g ∧ m.1 917 = nI f ∧ m.1 921 = nI k
def Bd (W r c : Nat) (s : St) (g f k : Nat) : Prop := SInv W s ∧ (1 ≤ r ∧ r ≤ 8) ∧ c ≤ 3000 ∧ g ≤ 600 ∧ f ≤ 600 ∧ k ≤ 600
def th0 (m : Mo) : Mo := (up1 m.1 903 0, m.2)
theorem th0_same (m : Mo) : Msame [903] [] m (th0 m) := ⟨fun g hg => up1_n _ _ (by simpa using hg), fun _ _ => rfl⟩
theorem MR.same {m m' : Mo} {W r c : Nat} {s : St} {g f k : Nat} {Is Rs : List Nat} (h : MR m W r c s g f k) (hM : Msame Is Rs m m') (h1 : ∀ g ∈ [900, 901, 902, 905, 906, 912, 915, 916, 917, 918, 919, 920, 921], g ∉ Is) (h2 : ∀ g ∈ [907, 908, 909, 910, 911, 913, 914], g ∉ Rs) : MR m' W r c s g f k := by
  obtain ⟨a1, a2, a3, a4, a5, a6, a7⟩ := h
  refine ⟨a1.same hM (fun g hg => h1 g (by simp at hg ⊢; omega)) h2, ?_, ?_, ?_, ?_, ?_, ?_⟩
  · rw [hM.1 _ (h1 900 (by decide))]; exact a2
  · rw [hM.1 _ (h1 901 (by decide))]; exact a3
  · rw [hM.1 _ (h1 902 (by decide))]; exact a4
  · rw [hM.1 _ (h1 916 (by decide))]; exact a5
  · rw [hM.1 _ (h1 917 (by decide))]; exact a6
  · rw [hM.1 _ (h1 921 (by decide))]; exact a7
theorem MR.th {m : Mo} {W r c : Nat} {s : St} {g f k : Nat} (h : MR m W r c s g f k) : MR (th0 m) W r c s g f k := h.same (th0_same m) (by decide) (by decide)
theorem posN {x : Int32} (h : 1 ≤ x) : ∃ N : Nat, x = nI N ∧ 1 ≤ N ∧ N < 2147483648 := by
  have h1 := Int32.le_iff_toInt_le.mp h
  have h2 : (1 : Int32).toInt = 1 := by decide
  rw [h2] at h1
  obtain ⟨j, hj, rfl⟩ := nI_of (x := x) (by
    intro hx
    have := Int32.lt_iff_toInt_lt.mp hx
    have h3 : (0 : Int32).toInt = 0 := by decide
    omega)
  rw [nI_toInt hj] at h1
  exact ⟨j, rfl, by omega, hj⟩
section M9
variable {h : Hp} {t : Nat} {ρ A : Nat → Nat} {m : Mo} {W r c : Nat} {s : St} {g f k : Nat}
theorem ct9_alloc (hS : MS h t ρ A) (m : Mo) (hR : MR m W r c s g f k) (hB : Bd W r c s g f k) (x : Int32) : CtI mX9_alloc 5 0 0 [va_rf (some t), .int x] (mput h t ρ m) (fun y h' => (¬ 1 ≤ x ∧ y = 0 ∧ h' = mput h t ρ (th0 m)) ∨ (∃ N, x = nI N ∧ 1 ≤ N ∧ N < 2147483648 ∧ gvPost W r g N s (th0 m) h t ρ y h')) := by
  refine enX9_alloc (fun X C => sm_alloc_0 C hS (Nat.le_refl _) (Nat.le_refl _) (fun c1 => ?_) (fun c1 => Or.inl ⟨c1, rfl, rfl⟩))
  obtain ⟨N, rfl, h1, h2⟩ := posN c1
  obtain ⟨a1, a2, a3, a4, a5, a6, a7⟩ := hR.th
  refine clX9_alloc_16 C (ct9_give hS (th0 m) a1 hB.1 a2 a3 hB.2.1 a5 (by have := hB.2.2.2.1; omega) ⟨h1, h2⟩) (hS.k _) (by decide) (Nat.le_refl _) (Nat.le_refl _) (Nat.le_of_ble_eq_true rfl) (fun y h' hp => ?_)
  rcases hp with ⟨s', m', e0, e1, rfl, e3⟩ | ⟨a, s', m', e0, e1, rfl, e3⟩
  · exact sm_alloc_19 C hS (Nat.le_refl _) (Nat.le_refl _) (Or.inr ⟨N, rfl, h1, h2, Or.inl ⟨s', m', e0, e1, rfl, e3⟩⟩)
  · exact sm_alloc_19 C hS (Nat.le_refl _) (Nat.le_refl _) (Or.inr ⟨N, rfl, h1, h2, Or.inr ⟨a, s', m', e0, e1, rfl, e3⟩⟩)
set_option maxHeartbeats 1000000 in
theorem ct9_free (hS : MS h t ρ A) (m : Mo) (hR : MR m W r c s g f k) (hB : Bd W r c s g f k) (x : Int32) : CtI mX9_free 5 0 0 [va_rf (some t), .int x] (mput h t ρ m) (fun y h' => (lvIx s.1 r x = none ∧ y = knd s.1 r x ∧ h' = mput h t ρ (flt (th0 m) k (knd s.1 r x) x)) ∨ (∃ b m', lvIx s.1 r x = some b ∧ y = 0 ∧ h' = mput h t ρ m' ∧ SRel m' (sTrim c (s.1.length + 1) (setT s.1 b (f + 1), s.2)) ∧ m'.1 917 = nI (f + 1) ∧ Msame (917 :: gI1) gR1 (th0 m) m')) := by
  obtain ⟨a1, a2, a3, a4, a5, a6, a7⟩ := hR.th
  obtain ⟨b1, b2, b3, b4, b5, b6⟩ := hB
  refine enX9_free (fun X C => sm_free_0 C hS ?_)
  refine clX9_free_7 C (ct9_liveAt hS (th0 m) a1.1 a3 x) (hS.k _) (by decide) (Nat.le_refl _) (Nat.le_refl _) (Nat.le_of_ble_eq_true rfl) (fun y h' ⟨e1, e2⟩ => ?_)
  subst e1
  have h800 := a1.1.2.1
  cases hq : lvIx s.1 r x with
  | none =>
    rw [hq] at e2
    refine sm_free_10 C hS (fun c1 => absurd e2 c1) (fun _ => ?_)
    refine clX9_free_18 C (ct9_no hS (th0 m) a1.1 a3 a7 (by omega) x) (hS.k _) (by decide) (Nat.le_refl _) (Nat.le_refl _) (Nat.le_of_ble_eq_true rfl) (fun y h' ⟨e1, e2⟩ => ?_)
    subst e2
    exact sm_free_21 C hS (Nat.le_refl _) (Nat.le_refl _) (Or.inl ⟨hq, e1, rfl⟩)
  | some b =>
    rw [hq] at e2
    have e2 : y = nI b := e2
    subst e2
    have hbl : b < s.1.length := by
      unfold lvIx at hq
      cases hq2 : stIx s.1 r x with
      | none => rw [hq2] at hq; cases hq
      | some b2 =>
        rw [hq2] at hq
        simp only at hq
        split at hq
        · cases hq; exact (stIx_lt hq2).1
        · cases hq
    refine sm_free_10 C hS (fun _ => ?_) (fun c1 => absurd c1 (nI_m1 (by omega)))
    refine clX9_free_24 C (ct9_setFree hS (th0 m) a1 b1 a4 b3 a6 (by omega) hbl) (hS.k _) (by decide) (Nat.le_refl _) (Nat.le_refl _) (Nat.le_of_ble_eq_true rfl) (fun h' ⟨m', e1, e3⟩ => ?_)
    subst e1
    exact sm_free_27 C hS (Nat.le_refl _) (Nat.le_refl _) (Or.inr ⟨b, m', hq, rfl, rfl, e3⟩)
set_option maxHeartbeats 1000000 in
/-- an address that is OWN lies in the heap -/
theorem own_in {B : List Blk} {x : Int32} (h : sortB B r x = 0) (hb : ∀ b ∈ B, b.1 + b.2.1 ≤ 3000) : ∃ j : Nat, x = nI j ∧ j < 3000 := by
  unfold sortB at h
  cases hq : bIx B x with
  | none => rw [hq] at h; exact absurd (show (3 : Int32) = 0 from h) (by decide)
  | some i =>
    obtain ⟨-, h2, h3, -⟩ := fnd_some hq
    have hm : bat B i ∈ B := List.mem_of_getElem? (bat_get (B := B) (i := i) (by omega))
    have h4 := hb _ hm
    simp only [inBk, Bool.and_eq_true, decide_eq_true_eq] at h3
    have t3 : (nI ((bat B i).1 + (bat B i).2.1)).toInt = ((bat B i).1 + (bat B i).2.1 : Nat) := nI_toInt (by omega)
    have t1 : (nI (bat B i).1).toInt = (bat B i).1 := nI_toInt (by omega)
    have l1 := Int32.le_iff_toInt_le.mp h3.1
    have l2 := Int32.lt_iff_toInt_lt.mp h3.2
    rw [t1] at l1
    rw [t3] at l2
    obtain ⟨j, hj, rfl⟩ := nI_of (x := x) (by
      intro hx
      have := Int32.lt_iff_toInt_lt.mp hx
      have h0 : (0 : Int32).toInt = 0 := by decide
      omega)
    rw [nI_toInt hj] at l2
    exact ⟨j, rfl, by omega⟩
theorem BRel.bd {B : List Blk} (hB : BRel m B) : ∀ b ∈ B, b.1 + b.2.1 ≤ 3000 := fun b hb => by
  obtain ⟨i, hi⟩ := List.getElem?_of_mem hb
  exact (hB.2.2 i b hi).2.2.2.2.2.1
theorem ct9_load (hS : MS h t ρ A) (m : Mo) (hR : MR m W r c s g f k) (hB : Bd W r c s g f k) (x : Int32) : CtI mX9_load 3 0 0 [va_rf (some t), .int x] (mput h t ρ m) (fun y h' => (sortB s.1 r x = 0 ∧ y = m.2 904 x.toNatClampNeg ∧ h' = mput h t ρ (th0 m)) ∨ (¬ sortB s.1 r x = 0 ∧ y = 0 ∧ h' = mput h t ρ (flt (th0 m) k (sortB s.1 r x) x))) := by
  obtain ⟨a1, a2, a3, a4, a5, a6, a7⟩ := hR.th
  obtain ⟨b1, b2, b3, b4, b5, b6⟩ := hB
  refine enX9_load (fun X C => sm_load_0 C hS ?_)
  refine clX9_load_7 C (ct9_sort hS (th0 m) a1.1 a3 x) (hS.k _) (by decide) (Nat.le_refl _) (Nat.le_refl _) (Nat.le_of_ble_eq_true rfl) (fun y h' ⟨e1, e2⟩ => ?_)
  subst e1; subst e2
  refine sm_load_10 C hS (Nat.le_refl _) (Nat.le_refl _) (fun c1 => ?_) (fun c1 => ?_) (fun c1 => Or.inl ⟨c1, rfl, rfl⟩)
  · obtain ⟨j, rfl, hj⟩ := own_in c1 a1.1.bd
    exact vin (by omega)
  · refine clX9_load_25 C (ct9_faulty hS (th0 m) a7 (by omega) _ x) (hS.k _) (by decide) (Nat.le_refl _) (Nat.le_refl _) (Nat.le_of_ble_eq_true rfl) (fun h' e1 => ?_)
    subst e1
    exact sm_load_28 C hS (Nat.le_refl _) (Nat.le_refl _) (Or.inr ⟨c1, rfl, rfl⟩)
theorem ct9_store (hS : MS h t ρ A) (m : Mo) (hR : MR m W r c s g f k) (hB : Bd W r c s g f k) (x w : Int32) : CtI mX9_store 3 0 0 [va_rf (some t), .int x, .int w] (mput h t ρ m) (fun y h' => y = sortB s.1 r x ∧ ((sortB s.1 r x = 0 ∧ h' = mput h t ρ ((th0 m).1, up2 m.2 904 x.toNatClampNeg w)) ∨ (¬ sortB s.1 r x = 0 ∧ h' = mput h t ρ (flt (th0 m) k (sortB s.1 r x) x)))) := by
  obtain ⟨a1, a2, a3, a4, a5, a6, a7⟩ := hR.th
  obtain ⟨b1, b2, b3, b4, b5, b6⟩ := hB
  refine enX9_store (fun X C => sm_store_0 C hS ?_)
  refine clX9_store_7 C (ct9_sort hS (th0 m) a1.1 a3 x) (hS.k _) (by decide) (Nat.le_refl _) (Nat.le_refl _) (Nat.le_of_ble_eq_true rfl) (fun y h' ⟨e1, e2⟩ => ?_)
  subst e1; subst e2
  refine sm_store_10 C hS (Nat.le_refl _) (Nat.le_refl _) (fun c1 => ?_) (fun c1 => ?_) (fun c1 => ⟨rfl, Or.inl ⟨c1, rfl⟩⟩)
  · obtain ⟨j, rfl, hj⟩ := own_in c1 a1.1.bd
    exact vin (by omega)
  · refine clX9_store_28 C (ct9_faulty hS (th0 m) a7 (by omega) _ x) (hS.k _) (by decide) (Nat.le_refl _) (Nat.le_refl _) (Nat.le_of_ble_eq_true rfl) (fun h' e1 => ?_)
    subst e1
    exact sm_store_31 C hS (Nat.le_refl _) (Nat.le_refl _) ⟨rfl, Or.inr ⟨c1, rfl⟩⟩
theorem ct9_check (hS : MS h t ρ A) (m : Mo) (hR : MR m W r c s g f k) (x : Int32) : CtI mX9_check 3 0 0 [va_rf (some t), .int x] (mput h t ρ m) (fun y h' => y = sortB s.1 r x ∧ h' = mput h t ρ (th0 m)) := by
  obtain ⟨a1, a2, a3, a4, a5, a6, a7⟩ := hR.th
  refine enX9_check (fun X C => sm_check_0 C hS ?_)
  refine clX9_check_7 C (ct9_sort hS (th0 m) a1.1 a3 x) (hS.k _) (by decide) (Nat.le_refl _) (Nat.le_refl _) (Nat.le_of_ble_eq_true rfl) (fun y h' ⟨e1, e2⟩ => ?_)
  subst e1
  exact sm_check_10 C hS (Nat.le_refl _) (Nat.le_refl _) ⟨e2, rfl⟩
theorem lvIx_lt {B : List Blk} {x : Int32} {b : Nat} (hq : lvIx B r x = some b) : b < B.length ∧ nI ((bat B b).1 + r) = x ∧ (bat B b).2.2.2.2 = 0 := by
  unfold lvIx at hq
  cases hq2 : stIx B r x with
  | none => rw [hq2] at hq; cases hq
  | some b2 =>
    rw [hq2] at hq
    simp only at hq
    split at hq
    · rename_i h0
      cases hq
      exact ⟨(stIx_lt hq2).1, (stIx_lt hq2).2, h0⟩
    · cases hq
set_option maxHeartbeats 1000000 in
theorem ct9_sizeOf (hS : MS h t ρ A) (m : Mo) (hR : MR m W r c s g f k) (x : Int32) : CtI mX9_sizeOf 4 0 0 [va_rf (some t), .int x] (mput h t ρ m) (fun y h' => h' = mput h t ρ (th0 m) ∧ y = match lvIx s.1 r x with | none => -1 | some b => nI (bat s.1 b).2.2.1) := by
  obtain ⟨a1, a2, a3, a4, a5, a6, a7⟩ := hR.th
  refine enX9_sizeOf (fun X C => sm_sizeOf_0 C hS ?_)
  refine clX9_sizeOf_7 C (ct9_liveAt hS (th0 m) a1.1 a3 x) (hS.k _) (by decide) (Nat.le_refl _) (Nat.le_refl _) (Nat.le_of_ble_eq_true rfl) (fun y h' ⟨e1, e2⟩ => ?_)
  subst e1
  have h800 := a1.1.2.1
  cases hq : lvIx s.1 r x with
  | none =>
    rw [hq] at e2
    exact sm_sizeOf_10 C hS (Nat.le_refl _) (Nat.le_refl _) (fun c1 => absurd e2 c1) (fun c1 => absurd e2 c1) (fun _ => ⟨rfl, by rw [hq]⟩)
  | some b =>
    rw [hq] at e2
    have e2 : y = nI b := e2
    subst e2
    have hbl := (lvIx_lt hq).1
    refine sm_sizeOf_10 C hS (Nat.le_refl _) (Nat.le_refl _) (fun _ => vin (by omega)) (fun _ => ⟨rfl, ?_⟩) (fun c1 => absurd c1 (nI_m1 (by omega)))
    rw [hq, nI_clamp (by omega)]
    exact (a1.1.at hbl).2.2.1
theorem ct9_setRoot (hS : MS h t ρ A) (m : Mo) (x w : Int32) : CtI mX9_setRoot 1 0 0 [va_rf (some t), .int x, .int w] (mput h t ρ m) (fun y h' => (∃ j, x = nI j ∧ j < 16 ∧ y = 1 ∧ h' = mput h t ρ ((th0 m).1, up2 m.2 922 j w)) ∨ ((x < 0 ∨ ¬ x < 16) ∧ y = 0 ∧ h' = mput h t ρ (th0 m))) := by
  refine enX9_setRoot (fun X C => sm_setRoot_0 C hS (Nat.le_refl _) (Nat.le_refl _) (fun c1 c2 => ?_) (fun c1 => Or.inr ⟨Or.inl c1, rfl, rfl⟩) (fun c1 c2 => ?_) (fun c1 c2 => Or.inr ⟨Or.inr c2, rfl, rfl⟩))
  · obtain ⟨j, hj, rfl⟩ := nI_of c1
    rw [show (16 : Int32) = nI 16 from rfl, nI_ltI hj (by decide)] at c2
    exact vin c2
  · obtain ⟨j, hj, rfl⟩ := nI_of c1
    rw [show (16 : Int32) = nI 16 from rfl, nI_ltI hj (by decide)] at c2
    rw [nI_clamp hj]
    exact Or.inl ⟨j, rfl, c2, rfl, rfl⟩
end M9
