/-! THE CLASS's public methods: words -/
def CB (h : Hp) (x : Nat) (E : Nat → Nat) (W r c : Nat) (s : St) (nd kn : Nat → Nat) (g f : Nat) : Prop := CC h x E W r c s nd kn g f ∧ SInv W s ∧ BW r s.1 ∧ (∀ b, b ∈ s.1 → b.2.2.2.2 ≤ f) ∧ (1 ≤ r ∧ r ≤ 8) ∧ c ≤ 3000 ∧ 64 ≤ W ∧ f ≤ 600 ∧ (Bl s.1).length + f = g
def fltH (h : Hp) (E : Nat → Nat) (k : Nat) (x a : Int32) : Hp := ((h.sAI (E 400) (k % 32) x).sAI (E 401) (k % 32) a).sI 402 (E 807) (nI (k + 1))
theorem own_W {B : List Blk} {W r : Nat} {x : Int32} (hG : GB W B) (h : sortB B r x = 0) : ∃ j : Nat, x = nI j ∧ j < W := by
  obtain ⟨j, rfl, hj⟩ := own_in h (fun b hb => by have := hG.mem hb; have := hG.2.2; omega)
  refine ⟨j, rfl, ?_⟩
  unfold sortB at h
  cases hq : bIx B (nI j) with
  | none => rw [hq] at h; exact absurd (show (3 : Int32) = 0 from h) (by decide)
  | some i =>
    obtain ⟨h1, h2⟩ := (bIx_some hG (by omega)).mp hq
    have := hG.1 i h1
    simp only [cov] at h2
    omega
section C16
variable {h : Hp} {x : Nat} {E : Nat → Nat} {W r c : Nat} {s : St} {nd kn : Nat → Nat} {g f k : Nat}
set_option maxHeartbeats 1000000 in
theorem ct8_keepStartFault (hC : CB h x E W r c s nd kn g f) (hk : h.I 402 (E 807) = nI k) (hk6 : k < 2147483647) (y : Int32) : CtI mX8_keepStartFault 3 0 0 [va_rf (some x), .int y] h (fun z h' => z = knd s.1 r y ∧ h' = fltH h E k (knd s.1 r y) y) := by
  obtain ⟨hCC, hI, hBW, hT, hr, hc, hW, hf, -⟩ := hC
  obtain ⟨hX, hB, -⟩ := hCC
  obtain ⟨x1, x2, x3, x4, xm, xb, xf, -⟩ := id hX
  refine enX8_keepStartFault (fun X C => sgX8_keepStartFault_0 C x1 ?_)
  rw [x2 804 (by decide)]
  refine clX8_keepStartFault_5 C (ct1_startingAt xb hB hI.gb rfl (by omega) hBW y) xb.1 (by decide) (Nat.zero_le _) (Nat.zero_le _) (Nat.le_of_ble_eq_true rfl) (fun o h' ⟨e1, e2⟩ => ?_)
  subst e1
  cases hq : stIx s.1 r y with
  | none =>
    rw [hq] at e2
    subst e2
    refine sgX8_keepStartFault_8 C x1 (fun z hz => by cases hz) (fun _ => ?_)
    rw [x2 807 (by decide)]
    refine clX8_keepStartFault_23 C (ct4_keep xf hk hk6 5 y) xf.1 (by decide) (Nat.zero_le _) (Nat.zero_le _) (Nat.le_of_ble_eq_true rfl) (fun h2 e3 => ?_)
    exact sgX8_keepStartFault_26 C (by decide) (by decide) ⟨by simp [knd, hq], by simp [knd, hq, fltH, e3]⟩
  | some b =>
    rw [hq] at e2
    subst e2
    refine sgX8_keepStartFault_8 C x1 (fun z hz => ?_) (fun e => by cases e)
    rw [x2 807 (by decide)]
    refine clX8_keepStartFault_23 C (ct4_keep xf hk hk6 4 y) xf.1 (by decide) (Nat.zero_le _) (Nat.zero_le _) (Nat.le_of_ble_eq_true rfl) (fun h2 e3 => ?_)
    exact sgX8_keepStartFault_26 C (by decide) (by decide) ⟨by simp [knd, hq], by simp [knd, hq, fltH, e3]⟩
theorem ct8_keepCopyFault (hC : CB h x E W r c s nd kn g f) (hk : h.I 402 (E 807) = nI k) (hk6 : k < 2147483647) (y n : Int32) : CtI mX8_keepCopyFault 3 0 0 [va_rf (some x), .int y, .int n] h (fun z h' => z = -2 - n ∧ h' = fltH h E k (sortB s.1 r y) y) := by
  obtain ⟨hCC, hI, hBW, hT, hr, hc, hW, hf, -⟩ := hC
  obtain ⟨hX, hB, -⟩ := hCC
  obtain ⟨x1, x2, x3, x4, xm, xb, xf, -⟩ := id hX
  refine enX8_keepCopyFault (fun X C => sgX8_keepCopyFault_0 C x1 ?_)
  rw [x2 804 (by decide), x2 807 (by decide)]
  refine clX8_keepCopyFault_9 C (ct1_sortOf xb hB hI.gb rfl (by omega) y) xb.1 (by decide) (Nat.zero_le _) (Nat.zero_le _) (Nat.le_of_ble_eq_true rfl) (fun z h' ⟨e1, e2⟩ => ?_)
  subst e1; subst e2
  refine sgX8_keepCopyFault_12 C ?_
  refine clX8_keepCopyFault_13 C (ct4_keep xf hk hk6 _ y) xf.1 (by decide) (Nat.zero_le _) (Nat.zero_le _) (Nat.le_of_ble_eq_true rfl) (fun h2 e3 => ?_)
  exact sgX8_keepCopyFault_16 C (by decide) (by decide) ⟨rfl, e3⟩
set_option maxHeartbeats 1000000 in
theorem ct8_load (hC : CB h x E W r c s nd kn g f) (hk : h.I 402 (E 807) = nI k) (hk6 : k < 2147483647) (y : Int32) : CtI mX8_load 3 0 0 [va_rf (some x), .int y] h (fun z h' => (sortB s.1 r y = 0 ∧ (∃ j, y = nI j ∧ j < W ∧ z = h.AI (E 600) j) ∧ h' = h) ∨ (¬ sortB s.1 r y = 0 ∧ z = 0 ∧ h' = fltH h E k (sortB s.1 r y) y)) := by
  obtain ⟨hCC, hI, hBW, hT, hr, hc, hW, hf, -⟩ := hC
  obtain ⟨hX, hB, -⟩ := hCC
  obtain ⟨x1, x2, x3, x4, xm, xb, xf, -⟩ := id hX
  have hG := hI.gb
  have hW3 := hG.2.2
  refine enX8_load (fun X C => sgX8_load_0 C x1 ?_)
  rw [x2 804 (by decide)]
  refine clX8_load_5 C (ct1_sortOf xb hB hG rfl (by omega) y) xb.1 (by decide) (Nat.zero_le _) (Nat.zero_le _) (Nat.le_of_ble_eq_true rfl) (fun z h' ⟨e1, e2⟩ => ?_)
  subst e1; subst e2
  refine sgX8_load_8 C x1 (fun c1 => ?_) (fun c1 => ?_)
  · rw [x2 800 (by decide)]
    refine clX8_load_29 C (ct6_read xm (by omega) y) xm.1 (by decide) (Nat.zero_le _) (Nat.zero_le _) (Nat.le_of_ble_eq_true rfl) (fun z h2 ⟨e1, e2, e3⟩ => ?_)
    subst e1
    obtain ⟨j, rfl, hj⟩ := own_W hG c1
    have := e2 ⟨nI_pos (by omega), by rw [nI_leI (by omega) (by omega)]; omega⟩
    rw [nI_clamp (by omega)] at this
    exact sgX8_load_32 C (by decide) (by decide) (Or.inl ⟨c1, ⟨j, rfl, hj, this⟩, rfl⟩)
  · rw [x2 807 (by decide)]
    refine clX8_load_19 C (ct4_keep xf hk hk6 _ y) xf.1 (by decide) (Nat.zero_le _) (Nat.zero_le _) (Nat.le_of_ble_eq_true rfl) (fun h2 e3 => ?_)
    exact sgX8_load_22 C (by decide) (by decide) (Or.inr ⟨c1, rfl, e3⟩)
set_option maxHeartbeats 1000000 in
theorem ct8_store (hC : CB h x E W r c s nd kn g f) (hk : h.I 402 (E 807) = nI k) (hk6 : k < 2147483647) (y w : Int32) : CtI mX8_store 3 0 0 [va_rf (some x), .int y, .int w] h (fun z h' => z = sortB s.1 r y ∧ ((sortB s.1 r y = 0 ∧ ∃ j, y = nI j ∧ j < W ∧ h' = h.sAI (E 600) j w) ∨ (¬ sortB s.1 r y = 0 ∧ h' = fltH h E k (sortB s.1 r y) y))) := by
  obtain ⟨hCC, hI, hBW, hT, hr, hc, hW, hf, -⟩ := hC
  obtain ⟨hX, hB, -⟩ := hCC
  obtain ⟨x1, x2, x3, x4, xm, xb, xf, -⟩ := id hX
  have hG := hI.gb
  have hW3 := hG.2.2
  refine enX8_store (fun X C => sgX8_store_0 C x1 ?_)
  rw [x2 804 (by decide)]
  refine clX8_store_5 C (ct1_sortOf xb hB hG rfl (by omega) y) xb.1 (by decide) (Nat.zero_le _) (Nat.zero_le _) (Nat.le_of_ble_eq_true rfl) (fun z h' ⟨e1, e2⟩ => ?_)
  subst e1; subst e2
  refine sgX8_store_8 C x1 (fun c1 => ?_) (fun c1 => ?_)
  · rw [x2 800 (by decide)]
    obtain ⟨j, e, hj⟩ := own_W hG c1
    subst e
    refine clX8_store_30 C (ct6_write xm (by omega) hj w) xm.1 (by decide) (Nat.zero_le _) (Nat.zero_le _) (Nat.le_of_ble_eq_true rfl) (fun h2 e3 => ?_)
    exact sgX8_store_33 C (by decide) (by decide) ⟨c1.symm, Or.inl ⟨c1, j, rfl, hj, e3⟩⟩
  · rw [x2 807 (by decide)]
    refine clX8_store_19 C (ct4_keep xf hk hk6 _ y) xf.1 (by decide) (Nat.zero_le _) (Nat.zero_le _) (Nat.le_of_ble_eq_true rfl) (fun h2 e3 => ?_)
    exact sgX8_store_22 C (by decide) (by decide) ⟨rfl, Or.inr ⟨c1, e3⟩⟩
theorem ct8_check (hC : CB h x E W r c s nd kn g f) (y : Int32) : CtI mX8_check 3 0 0 [va_rf (some x), .int y] h (fun z h' => z = sortB s.1 r y ∧ h' = h) := by
  obtain ⟨hCC, hI, hBW, hT, hr, hc, hW, hf, -⟩ := hC
  obtain ⟨hX, hB, -⟩ := hCC
  obtain ⟨x1, x2, x3, x4, xm, xb, xf, -⟩ := id hX
  refine enX8_check (fun X C => sgX8_check_0 C x1 ?_)
  rw [x2 804 (by decide)]
  refine clX8_check_5 C (ct1_sortOf xb hB hI.gb rfl (by omega) y) xb.1 (by decide) (Nat.zero_le _) (Nat.zero_le _) (Nat.le_of_ble_eq_true rfl) (fun z h' ⟨e1, e2⟩ => ?_)
  subst e1
  exact sgX8_check_8 C (by decide) (by decide) ⟨e2, rfl⟩
set_option maxHeartbeats 1000000 in
theorem ct8_sizeOf (hC : CB h x E W r c s nd kn g f) (y : Int32) : CtI mX8_sizeOf 4 0 0 [va_rf (some x), .int y] h (fun z h' => h' = h ∧ z = match lvIx s.1 r y with | none => -1 | some b => nI (bat s.1 b).2.2.1) := by
  obtain ⟨hCC, hI, hBW, hT, hr, hc, hW, hf, -⟩ := hC
  obtain ⟨hX, hB, -⟩ := hCC
  obtain ⟨x1, x2, x3, x4, xm, xb, xf, -⟩ := id hX
  refine enX8_sizeOf (fun X C => sgX8_sizeOf_0 C x1 ?_)
  rw [x2 804 (by decide)]
  refine clX8_sizeOf_5 C (ct1_liveStartingAt xb hB hI.gb rfl (by omega) hBW y) xb.1 (by decide) (Nat.zero_le _) (Nat.zero_le _) (Nat.le_of_ble_eq_true rfl) (fun o h' ⟨e1, e2⟩ => ?_)
  subst e1
  cases hq : lvIx s.1 r y with
  | none =>
    rw [hq] at e2
    subst e2
    exact sgX8_sizeOf_8 C (by decide) (by decide) (fun z hz => by cases hz) (fun z hz => by cases hz) (fun _ => ⟨rfl, by rw [hq]⟩)
  | some b =>
    rw [hq] at e2
    subst e2
    have hn := hB.1 b (lvIx_lt hq).1
    refine sgX8_sizeOf_8 C (by decide) (by decide) (fun z hz => by cases hz; exact hn.1) (fun z hz => ⟨rfl, ?_⟩) (fun e => by cases e)
    cases hz
    rw [hq]
    exact hn.2.2.2.2.1
theorem ct8_setRoot (hX : XS h x E W r c) (y w : Int32) : CtI mX8_setRoot 1 0 0 [va_rf (some x), .int y, .int w] h (fun z h' => (∃ j, y = nI j ∧ j < 16 ∧ z = 1 ∧ h' = h.sAI (E 806) j w) ∨ ((y < 0 ∨ ¬ y < 16) ∧ z = 0 ∧ h' = h)) := by
  obtain ⟨x1, x2, x3, x4, xm, xb, xf, x5, x6, x7, -⟩ := id hX
  have e16 : nI 16 = (16 : Int32) := rfl
  refine enX8_setRoot (fun X C => sgX8_setRoot_0 C (Nat.le_refl _) (Nat.le_refl _) x1 (x2 806 (by decide)) x6 (fun c1 c2 => ?_) (fun c1 => Or.inr ⟨Or.inl c1, rfl, rfl⟩) (fun c1 c2 => ?_) (fun c1 c2 => ?_))
  · obtain ⟨j, hj, rfl⟩ := nI_of c1
    rw [x7, nI_ltI hj (by decide)] at c2
    rw [x7]; exact vin c2
  · obtain ⟨j, hj, rfl⟩ := nI_of c1
    rw [x7, nI_ltI hj (by decide)] at c2
    rw [nI_clamp hj]
    exact Or.inl ⟨j, rfl, c2, rfl, rfl⟩
  · rw [x7, e16] at c2
    exact Or.inr ⟨Or.inr c2, rfl, rfl⟩
set_option maxHeartbeats 1000000 in
theorem cpB_eq (B : List Blk) (r : Nat) (x w : Int32) (N : Nat) : cpB B r x w N = match ownN B r x N with | some i => some i | none => (ownN B r w N).map (fun j => N + j) := by
  have lo : ∀ i, i < N → cpA x w N i = x + nI i := fun i hi => by unfold cpA; rw [if_neg (by omega)]
  have hi : ∀ j, cpA x w N (N + j) = w + nI j := fun j => by
    unfold cpA
    rw [if_pos (by omega), ← nI_add]
    have : w + (nI N + nI j) - nI N = w + nI j := by
      rw [Int32.add_comm (nI N) (nI j), ← Int32.add_assoc, Int32.add_sub_cancel]
    exact this
  cases h1 : ownN B r x N with
  | some i =>
    obtain ⟨-, a2, a3, a4⟩ := fnd_some h1
    have hiN : i < N := by omega
    simp only
    -- the first one
    have key : ∀ n a, a + n = 2 * N → a ≤ i → fnd (fun i => decide (¬ sortB B r (cpA x w N i) = 0)) n a = some i := by
      intro n
      induction n with
      | zero => intro a h1 h2; omega
      | succ n ih =>
        intro a h1 h2
        rw [fnd]
        by_cases hai : a = i
        · subst hai
          rw [if_pos (by rw [lo a hiN]; exact a3)]
        · rw [if_neg (by
            have := a4 a (Nat.zero_le _) (by omega)
            rw [lo a (by omega)]
            simp only [this]; simp)]
          exact ih (a + 1) (by omega) (by omega)
    exact key (2 * N) 0 (by omega) (Nat.zero_le _)
  | none =>
    have a1 := fnd_none h1
    simp only
    have skip : ∀ n a, a + n = N → fnd (fun i => decide (¬ sortB B r (cpA x w N i) = 0)) (n + N) a = fnd (fun i => decide (¬ sortB B r (cpA x w N i) = 0)) N N := by
      intro n
      induction n with
      | zero => intro a h1; rw [show a = N by omega, Nat.zero_add]
      | succ n ih =>
        intro a h1
        rw [show n + 1 + N = (n + N) + 1 by omega, fnd, if_neg (by
          have := a1 a (Nat.zero_le _) (by omega)
          rw [lo a (by omega)]
          simp only [this]; simp)]
        exact ih (a + 1) (by omega)
    have sh : ∀ n a, fnd (fun i => decide (¬ sortB B r (cpA x w N i) = 0)) n (N + a) = (fnd (fun i => decide (¬ sortB B r (w + nI i) = 0)) n a).map (fun j => N + j) := by
      intro n
      induction n with
      | zero => intro a; rfl
      | succ n ih =>
        intro a
        rw [fnd, fnd, hi a]
        by_cases hc : sortB B r (w + nI a) = 0
        · simp only [hc, not_true_eq_false, decide_false, Bool.false_eq_true, if_false]
          exact ih (a + 1)
        · simp [hc]
    unfold cpB ownN
    rw [show 2 * N = N + N by omega, skip N 0 (by omega)]
    have := sh N 0
    rw [Nat.add_zero] at this
    exact this
theorem own_run {B : List Blk} {N : Nat} {y : Int32} (hG : GB W B) (hN : 1 ≤ N) (hN3 : N ≤ 3000) (h : ownN B r y N = none) : ∃ j, y = nI j ∧ j + N ≤ W := by
  have a1 := fnd_none h
  have h0 := a1 0 (Nat.le_refl _) (by omega)
  simp only [decide_eq_false_iff_not, Decidable.not_not] at h0
  rw [show nI 0 = (0 : Int32) from rfl, Int32.add_zero] at h0
  obtain ⟨j, rfl, hj⟩ := own_W hG h0
  have hl := a1 (N - 1) (Nat.zero_le _) (by omega)
  simp only [decide_eq_false_iff_not, Decidable.not_not] at hl
  rw [nI_add] at hl
  obtain ⟨q, e, hq⟩ := own_W hG hl
  have hW3 := hG.2.2
  rw [nI_eq (by omega) (by omega)] at e
  exact ⟨j, rfl, by omega⟩
set_option maxHeartbeats 1000000 in
theorem ct8_copy (hC : CB h x E W r c s nd kn g f) (hk : h.I 402 (E 807) = nI k) (hk6 : k < 2147483647) (y w n : Int32) : CtI mX8_copy 4 0 0 [va_rf (some x), .int y, .int w, .int n] h (fun z h' =>
    ((n < 0 ∨ ¬ n ≤ 3000) ∧ z = -1 ∧ h' = h) ∨
    (∃ N i, n = nI N ∧ N ≤ 3000 ∧ cpB s.1 r y w N = some i ∧ z = -2 - nI i ∧ h' = fltH h E k (sortB s.1 r (cpA y w N i)) (cpA y w N i)) ∨
    (∃ N, n = nI N ∧ N ≤ 3000 ∧ cpB s.1 r y w N = none ∧ z = n ∧ ((N = 0 ∧ h' = h) ∨ ∃ a b, 1 ≤ N ∧ y = nI a ∧ w = nI b ∧ a + N ≤ W ∧ b + N ≤ W ∧ h' = h.wAI (E 600) (va_cpy (h.AI (E 600)) (h.AI (E 600)) a b N)))) := by
  obtain ⟨hCC, hI, hBW, hT, hr, hc, hW, hf, -⟩ := id hC
  obtain ⟨hX, hB, -⟩ := id hCC
  obtain ⟨x1, x2, x3, x4, xm, xb, xf, -⟩ := id hX
  have hG := hI.gb
  have hW3 := hG.2.2
  refine enX8_copy (fun X C => sgX8_copy_0 C (Nat.le_refl _) (Nat.le_refl _) x1 (fun c1 => Or.inl ⟨Or.inl c1, rfl, rfl⟩) (fun c1 c2 => ?_) (fun c1 c2 => Or.inl ⟨Or.inr c2, rfl, rfl⟩))
  obtain ⟨N, hN, rfl⟩ := nI_of c1
  rw [show (3000 : Int32) = nI 3000 from rfl, nI_leI hN (by decide)] at c2
  rw [x2 804 (by decide)]
  have hcp := cpB_eq s.1 r y w N
  refine clX8_copy_19 C (ct1_ownWordsFrom xb hB hG rfl (by omega) y hN) xb.1 (by decide) (Nat.zero_le _) (Nat.zero_le _) (Nat.le_of_ble_eq_true rfl) (fun z h' ⟨e1, e2⟩ => ?_)
  subst e1
  cases h1 : ownN s.1 r y N with
  | some i =>
    rw [h1] at e2 hcp
    simp only at e2 hcp
    subst e2
    obtain ⟨-, a2, -⟩ := fnd_some h1
    refine sgX8_copy_22 C x1 (fun c3 => ?_) (fun _ => ?_)
    · rw [nI_leI hN (by omega)] at c3; omega
    · refine clX8_copy_37 C (ct8_keepCopyFault hC hk hk6 _ _) x1 (by decide) (Nat.zero_le _) (Nat.zero_le _) (Nat.le_of_ble_eq_true rfl) (fun z h2 ⟨e3, e4⟩ => ?_)
      refine sgX8_copy_40 C (by decide) (by decide) (Or.inr (Or.inl ⟨N, i, rfl, c2, hcp, e3, ?_⟩))
      have : cpA y w N i = y + nI i := by unfold cpA; rw [if_neg (by omega)]
      rw [this]; exact e4
  | none =>
    rw [h1] at e2 hcp
    simp only at e2 hcp
    subst e2
    refine sgX8_copy_22 C x1 (fun _ => ?_) (fun c3 => absurd (Int32.le_refl _) c3)
    rw [x2 804 (by decide)]
    refine clX8_copy_47 C (ct1_ownWordsFrom xb hB hG rfl (by omega) w hN) xb.1 (by decide) (Nat.zero_le _) (Nat.zero_le _) (Nat.le_of_ble_eq_true rfl) (fun z h2 ⟨e1, e2⟩ => ?_)
    subst e1
    cases h2' : ownN s.1 r w N with
    | some j =>
      rw [h2'] at e2 hcp
      simp only at e2
      subst e2
      obtain ⟨-, a2, -⟩ := fnd_some h2'
      refine sgX8_copy_50 C x1 (fun c3 => ?_) (fun _ => ?_)
      · rw [nI_leI hN (by omega)] at c3; omega
      · refine clX8_copy_67 C (ct8_keepCopyFault hC hk hk6 _ _) x1 (by decide) (Nat.zero_le _) (Nat.zero_le _) (Nat.le_of_ble_eq_true rfl) (fun z h3 ⟨e3, e4⟩ => ?_)
        refine sgX8_copy_70 C (by decide) (by decide) (Or.inr (Or.inl ⟨N, N + j, rfl, c2, hcp, by rw [← nI_add]; exact e3, ?_⟩))
        have : cpA y w N (N + j) = w + nI j := by
          unfold cpA
          rw [if_pos (by omega), ← nI_add, Int32.add_comm (nI N) (nI j), ← Int32.add_assoc, Int32.add_sub_cancel]
        rw [this]; exact e4
    | none =>
      rw [h2'] at e2 hcp
      simp only at e2
      subst e2
      refine sgX8_copy_50 C x1 (fun _ => ?_) (fun c3 => absurd (Int32.le_refl _) c3)
      rw [x2 800 (by decide)]
      by_cases hN0 : N = 0
      · subst hN0
        refine clX8_copy_78 C (ct6_move0 y w) xm.1 (by decide) (Nat.zero_le _) (Nat.zero_le _) (Nat.le_of_ble_eq_true rfl) (fun h3 e3 => ?_)
        exact sgX8_copy_81 C (by decide) (by decide) (Or.inr (Or.inr ⟨0, rfl, c2, hcp, rfl, Or.inl ⟨rfl, e3⟩⟩))
      · obtain ⟨a, ea, ha⟩ := own_run hG (by omega) c2 h1
        obtain ⟨b, eb, hb⟩ := own_run hG (by omega) c2 h2'
        subst ea; subst eb
        refine clX8_copy_78 C (ct6_move xm (by omega) (by omega) ha hb) xm.1 (by decide) (Nat.zero_le _) (Nat.zero_le _) (Nat.le_of_ble_eq_true rfl) (fun h3 e3 => ?_)
        exact sgX8_copy_81 C (by decide) (by decide) (Or.inr (Or.inr ⟨N, rfl, c2, hcp, rfl, Or.inr ⟨a, b, by omega, rfl, rfl, ha, hb, e3⟩⟩))
end C16
