theorem i32_c (a b c : Int32) : a + (b + c) - c = a + b := by
  apply Int32.toBitVec_inj.mp
  simp only [Int32.toBitVec_sub, Int32.toBitVec_add]
  rw [← BitVec.add_assoc]
  exact BitVec.add_sub_cancel _ _
section M11
variable {h : Hp} {t : Nat} {ρ A : Nat → Nat} {m : Mo} {W r c : Nat} {s : St} {g f k : Nat}
def cpA (x w : Int32) (N i : Nat) : Int32 := if N ≤ i then w + nI i - nI N else x + nI i
def cpB (B : List Blk) (r : Nat) (x w : Int32) (N : Nat) : Option Nat := fnd (fun i => decide (¬ sortB B r (cpA x w N i) = 0)) (2 * N) 0
set_option maxHeartbeats 1000000 in
theorem ct9_copy (hS : MS h t ρ A) (m : Mo) (hR : MR m W r c s g f k) (hB : Bd W r c s g f k) (x w n : Int32) : CtI mX9_copy 3 0 0 [va_rf (some t), .int x, .int w, .int n] (mput h t ρ m) (fun y h' =>
    ((n < 0 ∨ ¬ n ≤ 3000) ∧ y = -1 ∧ h' = mput h t ρ (th0 m)) ∨
    (∃ N i, n = nI N ∧ N ≤ 3000 ∧ cpB s.1 r x w N = some i ∧ y = -2 - nI i ∧ h' = mput h t ρ (flt (th0 m) k (sortB s.1 r (cpA x w N i)) (cpA x w N i))) ∨
    (∃ N m', n = nI N ∧ N ≤ 3000 ∧ cpB s.1 r x w N = none ∧ y = n ∧ h' = mput h t ρ m' ∧ m'.2 904 = va_cpy (m.2 904) (m.2 904) x.toNatClampNeg w.toNatClampNeg N ∧ Msame [] [904, 925] (th0 m) m')) := by
  obtain ⟨a1, a2, a3, a4, a5, a6, a7⟩ := hR.th
  obtain ⟨b1, b2, b3, b4, b5, b6⟩ := id hB
  refine enX9_copy (fun X C => sm_copy_0 C hS (Nat.le_refl _) (Nat.le_refl _) (fun c1 => Or.inl ⟨Or.inl c1, rfl, rfl⟩) (fun c1 c2 => ?_) (fun c1 c2 => Or.inl ⟨Or.inr c2, rfl, rfl⟩))
  obtain ⟨N, hN0, rfl⟩ := nI_of c1
  rw [show (3000 : Int32) = nI 3000 from rfl, nI_leI hN0 (by decide)] at c2
  have h2N : (2 : Int32) * nI N = nI (2 * N) := pk_mul 2 N
  -- the words are read, then written
  have own : cpB s.1 r x w N = none → ∀ i, i < 2 * N → ∃ j, cpA x w N i = nI j ∧ j < 3000 := fun hn i hi => by
    have := fnd_none hn i (by omega) (by omega)
    simp only [decide_eq_false_iff_not, Decidable.not_not] at this
    exact own_in this a1.1.bd
  have write : cpB s.1 r x w N = none → ∀ n i (m2 : Mo), i + n = N → m2.1 = (th0 m).1 → (∀ q, q ≠ 904 → q ≠ 925 → m2.2 q = m.2 q) → (∀ j, j < N → m2.2 925 j = m.2 904 (x.toNatClampNeg + j)) → (∀ j, m2.2 904 j = if w.toNatClampNeg ≤ j ∧ j < w.toNatClampNeg + i then m.2 904 (x.toNatClampNeg + (j - w.toNatClampNeg)) else m.2 904 j) →
      At X 0 0 120 [some (va_rf (some t)), some (.int x), some (.int w), some (.int (nI N)), some (.int (nI i)), none, none] [] (mput h t ρ m2) := by
    intro hn n
    induction n with
    | zero =>
      intro i m2 hi g1 g2 g3 g4
      have hi : i = N := by omega
      subst hi
      refine sm_copy_120 C hS (Nat.le_refl _) (Nat.le_refl _) (fun c1 => absurd (Int32.le_refl _) c1) (fun c1 => absurd (Int32.le_refl _) c1) (fun _ => Or.inr (Or.inr ⟨i, m2, rfl, c2, hn, rfl, rfl, ?_, ?_⟩)) (fun c1 => absurd (Int32.le_refl _) c1)
      · funext j
        rw [g4 j]; rfl
      · exact ⟨fun q _ => by rw [g1], fun q hq => by simp only [List.mem_cons, List.not_mem_nil, or_false, not_or] at hq; exact g2 q hq.1 hq.2⟩
    | succ n ih =>
      intro i m2 hi g1 g2 g3 g4
      obtain ⟨j0, e0, hj0⟩ := own hn N (by omega)
      rw [cpA, if_pos (Nat.le_refl _)] at e0
      have e0 : w = nI j0 := by
        rw [← e0]
        apply Int32.toBitVec_inj.mp
        simp only [Int32.toBitVec_sub, Int32.toBitVec_add]
        exact (BitVec.add_sub_cancel _ _).symm
      obtain ⟨j1, e1, hj1⟩ := own hn (N + i) (by omega)
      have e1' : w + nI i = nI j1 := by
        rw [← e1, cpA, if_pos (by omega), Nat.add_comm N i, ← nI_add, i32_c]
      have hcw : w.toNatClampNeg = j0 := by rw [e0]; exact nI_clamp (by omega)
      have hj01 : j1 = j0 + i := by
        rw [e0, nI_add, nI_eq (by omega) (by omega)] at e1'
        omega
      refine sm_copy_120 C hS (Nat.le_refl _) (Nat.le_refl _) (fun _ => vin (by omega)) (fun _ => by rw [e1']; exact vin (by omega)) (fun c1 => ?_) (fun _ => ?_)
      · rw [nI_leI (by omega) (by omega)] at c1; omega
      · rw [e1', nI_clamp (by omega), nI_clamp (by omega), nI_1]
        refine ih (i + 1) _ (by omega) g1 (fun q h9 h5 => ?_) (fun j hj => ?_) (fun j => ?_)
        · funext z
          simp only [up2, if_neg h9]
          exact congrFun (g2 q h9 h5) z
        · simp only [up2]
          exact g3 j hj
        · simp only [up2, if_true]
          by_cases hj : j = j1
          · subst hj
            rw [if_pos rfl, g3 i (by omega), if_pos (by omega), show j - w.toNatClampNeg = i by omega]
          · rw [if_neg hj, g4]
            by_cases hj2 : w.toNatClampNeg ≤ j ∧ j < w.toNatClampNeg + i
            · rw [if_pos hj2, if_pos (by omega)]
            · rw [if_neg hj2, if_neg (by omega)]
  have read : cpB s.1 r x w N = none → ∀ n i (m2 : Mo), i + n = N → m2.1 = (th0 m).1 → (∀ q, q ≠ 925 → m2.2 q = m.2 q) → (∀ j, j < i → m2.2 925 j = m.2 904 (x.toNatClampNeg + j)) →
      At X 0 0 89 [some (va_rf (some t)), some (.int x), some (.int w), some (.int (nI N)), some (.int (nI i)), none, none] [] (mput h t ρ m2) := by
    intro hn n
    induction n with
    | zero =>
      intro i m2 hi g1 g2 g3
      have hi : i = N := by omega
      subst hi
      refine sm_copy_89 C hS (fun c1 => absurd (Int32.le_refl _) c1) (fun c1 => absurd (Int32.le_refl _) c1) (fun _ => ?_) (fun c1 => absurd (Int32.le_refl _) c1)
      exact write hn i 0 m2 (by omega) g1 (fun q h9 h5 => g2 q h5) g3 (fun j => by rw [if_neg (by omega), g2 904 (by decide)])
    | succ n ih =>
      intro i m2 hi g1 g2 g3
      obtain ⟨j0, e0, hj0⟩ := own hn 0 (by omega)
      rw [cpA, if_neg (by omega), nI_0, Int32.add_zero] at e0
      obtain ⟨j1, e1, hj1⟩ := own hn i (by omega)
      rw [cpA, if_neg (by omega)] at e1
      have hcx : x.toNatClampNeg = j0 := by rw [e0]; exact nI_clamp (by omega)
      have hj01 : j1 = j0 + i := by
        have e1 := e1
        rw [e0, nI_add, nI_eq (by omega) (by omega)] at e1
        omega
      refine sm_copy_89 C hS (fun _ => by rw [e1]; exact vin (by omega)) (fun _ => vin (by omega)) (fun c1 => ?_) (fun _ => ?_)
      · rw [nI_leI (by omega) (by omega)] at c1; omega
      · rw [e1, nI_clamp (by omega), nI_clamp (by omega), nI_1]
        refine ih (i + 1) _ (by omega) g1 (fun q h5 => ?_) (fun j hj => ?_)
        · funext z
          simp only [up2, if_neg h5]
          exact congrFun (g2 q h5) z
        · simp only [up2, if_true]
          by_cases hji : j = i
          · subst hji
            rw [if_pos rfl, g2 904 (by decide), hcx, hj01]
          · rw [if_neg hji]
            exact g3 j (by omega)
  have look : ∀ n i, i + n = 2 * N → cpB s.1 r x w N = fnd (fun i => decide (¬ sortB s.1 r (cpA x w N i) = 0)) n i → At X 0 0 21 [some (va_rf (some t)), some (.int x), some (.int w), some (.int (nI N)), some (.int (nI i)), none, none] [] (mput h t ρ (th0 m)) := by
    intro n
    induction n with
    | zero =>
      intro i hi hf
      refine sm_copy_21 C hS (fun _ => ?_) (fun c1 => ?_) (fun c1 => ?_)
      · exact read hf N 0 (th0 m) (by omega) rfl (fun _ _ => rfl) (fun j hj => by omega)
      · rw [h2N, nI_leI (by omega) (by omega)] at c1; omega
      · rw [h2N, nI_leI (by omega) (by omega)] at c1; omega
    | succ n ih =>
      intro i hi hf
      rw [fnd] at hf
      have step : ∀ (u : Int32), u = cpA x w N i → At X 0 0 53 [some (va_rf (some t)), some (.int x), some (.int w), some (.int (nI N)), some (.int (nI i)), some (.int u), none] [.int u, va_rf (some t)] (mput h t ρ (th0 m)) := by
        intro u hu
        refine clX9_copy_53 C (ct9_sort hS (th0 m) a1.1 a3 u) (hS.k _) (by decide) (Nat.le_refl _) (Nat.le_refl _) (Nat.le_of_ble_eq_true rfl) (fun y h' ⟨e1, e2⟩ => ?_)
        subst e1; subst e2
        refine sm_copy_56 C hS (fun c1 => ?_) (fun c1 => ?_)
        · refine clX9_copy_71 C (ct9_faulty hS (th0 m) a7 (by omega) _ u) (hS.k _) (by decide) (Nat.le_refl _) (Nat.le_refl _) (Nat.le_of_ble_eq_true rfl) (fun h' e1 => ?_)
          subst e1
          rw [hu] at c1
          refine sm_copy_74 C hS (Nat.le_refl _) (Nat.le_refl _) (Or.inr (Or.inl ⟨N, i, rfl, c2, ?_, rfl, by rw [hu]; rfl⟩))
          rw [hf, if_pos (by simpa using c1)]
        · rw [nI_1]
          rw [hu] at c1
          refine At.les (ls' := [some (va_rf (some t)), some (.int x), some (.int w), some (.int (nI N)), some (.int (nI (i + 1))), none, none]) (fun i v hi => ?_) (ih (i + 1) (by omega) (by rw [hf, if_neg (by simp [c1])]))
          match i, hi with
          | 0, hi => exact hi
          | 1, hi => exact hi
          | 2, hi => exact hi
          | 3, hi => exact hi
          | 4, hi => exact hi
          | 5, hi => simp at hi
          | 6, hi => simp at hi
          | n + 7, hi => simp at hi
      refine sm_copy_21 C hS (fun c1 => ?_) (fun c1 c3 => ?_) (fun c1 c3 => ?_)
      · rw [h2N, nI_leI (by omega) (by omega)] at c1; omega
      · rw [nI_leI (by omega) (by omega)] at c3
        exact step _ (by rw [cpA, if_pos c3])
      · rw [nI_leI (by omega) (by omega)] at c3
        exact step _ (by rw [cpA, if_neg c3])
  exact look (2 * N) 0 (by omega) rfl
set_option maxHeartbeats 1000000 in
theorem ct9_describe (hS : MS h t ρ A) (m : Mo) (hR : MR m W r c s g f k) (x w : Int32) : CtI mX9_describe 3 0 0 [va_rf (some t), .int x, .int w] (mput h t ρ m) (fun y h' =>
    ((w < 0 ∨ ¬ w ≤ 5) ∧ y = -1 ∧ h' = mput h t ρ (th0 m)) ∨
    (¬ w < 0 ∧ w ≤ 5 ∧ bIx s.1 x = none ∧ h' = mput h t ρ (up1 m.1 903 1, m.2)) ∨
    (∃ b, ¬ w < 0 ∧ w ≤ 5 ∧ bIx s.1 x = some b ∧ h' = mput h t ρ (th0 m) ∧ y = (if w = 0 then nI ((bat s.1 b).1 + r) else if w = 1 then nI (bat s.1 b).2.2.1 else if w = 2 then nI (bat s.1 b).2.1 else if w = 3 then nI (bat s.1 b).2.2.2.1 else if w = 4 then (if (bat s.1 b).2.2.2.2 = 0 then 1 else 0) else x - nI ((bat s.1 b).1 + r)))) := by
  obtain ⟨a1, a2, a3, a4, a5, a6, a7⟩ := hR.th
  have h800 := a1.1.2.1
  refine enX9_describe (fun X C => sm_describe_0 C hS (Nat.le_refl _) (Nat.le_refl _) (fun c1 => Or.inl ⟨Or.inl c1, rfl, rfl⟩) (fun c1 c2 => ?_) (fun c1 c2 => Or.inl ⟨Or.inr c2, rfl, rfl⟩))
  refine clX9_describe_18 C (ct9_block hS (th0 m) a1.1 x) (hS.k _) (by decide) (Nat.le_refl _) (Nat.le_refl _) (Nat.le_of_ble_eq_true rfl) (fun y h' ⟨e1, e2⟩ => ?_)
  subst e1
  cases hq : bIx s.1 x with
  | none =>
    rw [hq] at e2
    refine sm_describe_21 C hS (Nat.le_refl _) (Nat.le_refl _) (fun c => absurd e2 c) (fun c => absurd e2 c) (fun c => absurd e2 c) (fun c => absurd e2 c) (fun c => absurd e2 c) (fun c => absurd e2 c) (fun c => absurd e2 c) (fun c => absurd e2 c) (fun c => absurd e2 c) (fun _ => Or.inr (Or.inl ⟨c1, c2, hq, ?_⟩))
    congr 1
    refine Prod.ext ?_ rfl
    funext q
    by_cases h9 : q = 903 <;> simp [th0, up1, h9]
  | some b =>
    rw [hq] at e2
    have e2 : y = nI b := e2
    subst e2
    have hbl := bIx_lt hq
    obtain ⟨q1, q2, q3, q4, q5, q6, q7, q8, q9⟩ := a1.1.at hbl
    have hz : (th0 m).2 911 b = 0 ↔ (bat s.1 b).2.2.2.2 = 0 := by rw [q5]; exact nI_eq (b := 0) (by omega) (by omega)
    have hcl : (nI b).toNatClampNeg = b := nI_clamp (by omega)
    have hst : (th0 m).2 907 b + (th0 m).1 901 = nI ((bat s.1 b).1 + r) := by rw [q1, a3, nI_add]
    refine sm_describe_21 C hS (Nat.le_refl _) (Nat.le_refl _) (fun _ _ => vin (by omega)) (fun _ _ => vin (by omega)) (fun _ _ => vin (by omega)) (fun _ c3 => ?_) (fun _ c3 => ?_) (fun _ c3 => ?_) (fun _ c3 => ?_) (fun _ c3 => ?_) (fun _ c3 => ?_) (fun c => absurd c (nI_m1 (by omega)))
    · refine clX9_describe_112 C (ct9_start hS (th0 m) (b := b) (by omega)) (hS.k _) (by decide) (Nat.le_refl _) (Nat.le_refl _) (Nat.le_of_ble_eq_true rfl) (fun y h' ⟨e1, e2⟩ => ?_)
      subst e1; subst e2
      rw [hst]
      have n0 : ∀ z : Int32, (0 : Int) ≤ z.toInt → z.toInt ≤ 4 → ¬ w = z := fun z hz0 hz4 e => by subst e; omega
      refine sm_describe_115 C hS (Nat.le_refl _) (Nat.le_refl _) (Or.inr (Or.inr ⟨b, c1, c2, hq, rfl, ?_⟩))
      rw [if_neg (n0 0 (by decide) (by decide)), if_neg (n0 1 (by decide) (by decide)), if_neg (n0 2 (by decide) (by decide)), if_neg (n0 3 (by decide) (by decide)), if_neg (n0 4 (by decide) (by decide))]
    · subst c3
      refine clX9_describe_70 C (ct9_start hS (th0 m) (b := b) (by omega)) (hS.k _) (by decide) (Nat.le_refl _) (Nat.le_refl _) (Nat.le_of_ble_eq_true rfl) (fun y h' ⟨e1, e2⟩ => ?_)
      subst e1; subst e2
      exact sm_describe_73 C hS (Nat.le_refl _) (Nat.le_refl _) (Or.inr (Or.inr ⟨b, c1, c2, hq, rfl, by rw [hst]; rfl⟩))
    · subst c3
      exact Or.inr (Or.inr ⟨b, c1, c2, hq, rfl, by rw [hcl, q3]; rfl⟩)
    · subst c3
      exact Or.inr (Or.inr ⟨b, c1, c2, hq, rfl, by rw [hcl, q2]; rfl⟩)
    · subst c3
      exact Or.inr (Or.inr ⟨b, c1, c2, hq, rfl, by rw [hcl, q4]; rfl⟩)
    · subst c3
      refine clX9_describe_97 C (ct9_isLive hS (th0 m) (b := b) (by omega)) (hS.k _) (by decide) (Nat.le_refl _) (Nat.le_refl _) (Nat.le_of_ble_eq_true rfl) (fun y h' ⟨e1, e2⟩ => ?_)
      subst e1; subst e2
      refine sm_describe_100 C hS (Nat.le_refl _) (Nat.le_refl _) (fun c4 => Or.inr (Or.inr ⟨b, c1, c2, hq, rfl, ?_⟩)) (fun c4 => Or.inr (Or.inr ⟨b, c1, c2, hq, rfl, ?_⟩))
      · have h0 : ¬ (bat s.1 b).2.2.2.2 = 0 := fun h0 => by rw [hz.mpr h0] at c4; simp at c4
        rw [if_neg h0]; rfl
      · have h0 : (bat s.1 b).2.2.2.2 = 0 := hz.mp (by by_cases hx : (th0 m).2 911 b = 0 <;> simp [hx] at c4 ⊢)
        rw [if_pos h0]; rfl
end M11
