/-! THE CLASS's public methods: the queue, the search -/
set_option maxHeartbeats 1000000 in
theorem srt_pos {Q : List Blk} (hQ : Q.Pairwise (fun a b => a.2.2.2.2 < b.2.2.2.2)) {k : Nat} {b : Blk} (hb : Q[k]? = some b) : (Q.filter (fun a => decide (a.2.2.2.2 < b.2.2.2.2))).length = k := by
  induction Q generalizing k with
  | nil => simp at hb
  | cons a Q ih =>
    rw [List.pairwise_cons] at hQ
    cases k with
    | zero =>
      simp at hb
      subst hb
      rw [List.length_eq_zero_iff, List.filter_eq_nil_iff]
      intro z hz
      rcases List.mem_cons.mp hz with rfl | hz
      · simp
      · have := hQ.1 z hz
        simp; omega
    | succ k =>
      rw [List.getElem?_cons_succ] at hb
      have h1 := hQ.1 b (List.mem_of_getElem? hb)
      rw [List.filter_cons, if_pos (by simpa using h1), List.length_cons, ih hQ.2 hb]
theorem ahd_sum (B : List Blk) (i : Nat) : ∀ k, k ≤ B.length → ahd B i k = ((Bw (B.take k)).filter (fun a => decide (a.2.2.2.2 < (bat B i).2.2.2.2))).length
  | 0, _ => by simp [ahd, Bw]
  | k + 1, hk => by
    have e : B.take (k + 1) = B.take k ++ [bat B k] := by
      rw [List.take_succ, bat_get (by omega)]
      rfl
    rw [ahd, ahd_sum B i k (by omega), e]
    unfold Bw
    rw [List.filter_append, List.filter_append, List.length_append]
    by_cases h0 : (bat B k).2.2.2.2 = 0
    · rw [if_neg (fun z => z.1 h0)]
      simp [wtg, h0]
    · by_cases h1 : (bat B k).2.2.2.2 < (bat B i).2.2.2.2
      · rw [if_pos ⟨h0, h1⟩]
        simp [wtg, h0, h1]
      · rw [if_neg (fun z => h1 z.2)]
        simp [wtg, h0, h1]
set_option maxHeartbeats 1000000 in
theorem wtIx_Q {B Q : List Blk} {W : Nat} (hG : GB W B) (hQ : QS B Q) (x : Int32) : (match wtIx B x with | none => none | some i => some (bat B i)) = (if x < 0 then none else Q[x.toNatClampNeg]?) := by
  have hlenB : 4 * B.length ≤ 2147483648 := by
    have h1 : B.length ≤ 3000 := by
      have h2 := nodup_lt 3001 (B.map (fun b => b.1)) ?_ ?_
      · rw [List.length_map] at h2
        by_cases h0 : B.length = 3001
        · exfalso
          -- addresses begin with 1
          have h3 := nodup_lt 3000 (B.map (fun b => b.1 - 1)) ?_ ?_
          · rw [List.length_map] at h3; omega
          · unfold List.Nodup
            rw [List.pairwise_map]
            refine List.Pairwise.imp_of_mem ?_ hG.nodup
            intro a b ha hb hab e
            have h4 := hG.mem ha
            have h5 := hG.mem hb
            exact hab (hG.addr ha hb (by omega))
          · intro i hi
            obtain ⟨b, hb, rfl⟩ := List.mem_map.mp hi
            have h4 := hG.mem hb
            have h5 := hG.2.2
            omega
        · omega
      · unfold List.Nodup
        rw [List.pairwise_map]
        refine List.Pairwise.imp_of_mem ?_ hG.nodup
        intro a b ha hb hab e
        exact hab (hG.addr ha hb e)
      · intro i hi
        obtain ⟨b, hb, rfl⟩ := List.mem_map.mp hi
        have h4 := hG.mem hb
        have h5 := hG.2.2
        omega
    omega
  have hahd : ∀ i, ahd B i B.length = (Q.filter (fun a => decide (a.2.2.2.2 < (bat B i).2.2.2.2))).length := fun i => by
    rw [ahd_sum B i B.length (Nat.le_refl _), List.take_length]
    exact ((hQ.2.filter _).length_eq).symm
  have hQl : Q.length ≤ B.length := by
    rw [hQ.2.length_eq]; exact List.length_filter_le _ _
  -- a block of the reference's row at that place is the queue's
  have fwd : ∀ i, i < B.length → ¬ (bat B i).2.2.2.2 = 0 → ∃ k, Q[k]? = some (bat B i) ∧ ahd B i B.length = k := by
    intro i hi h0
    obtain ⟨k, hk⟩ := List.getElem?_of_mem ((hQ.mem _).mpr ⟨bat_mem hi, h0⟩)
    exact ⟨k, hk, by rw [hahd i]; exact srt_pos hQ.1 hk⟩
  by_cases hx : x < 0
  · rw [if_pos hx]
    cases hw : wtIx B x with
    | none => rfl
    | some i =>
      exfalso
      obtain ⟨-, b2, b3, -⟩ := fnd_some hw
      simp only [Bool.and_eq_true, decide_eq_true_eq] at b3
      obtain ⟨k, hk, e⟩ := fwd i (by omega) b3.1
      rw [e] at b3
      have := (List.getElem?_eq_some_iff.mp hk).1
      rw [← b3.2] at hx
      exact nI_pos (by omega) hx
  · rw [if_neg hx]
    obtain ⟨K, hK, rfl⟩ := nI_of hx
    rw [nI_clamp hK]
    cases hw : wtIx B (nI K) with
    | some i =>
      obtain ⟨-, b2, b3, -⟩ := fnd_some hw
      simp only [Bool.and_eq_true, decide_eq_true_eq] at b3
      obtain ⟨k, hk, e⟩ := fwd i (by omega) b3.1
      rw [e] at b3
      have hkl := (List.getElem?_eq_some_iff.mp hk).1
      have : k = K := (nI_eq (by omega) hK).mp b3.2
      subst this
      exact hk.symm
    | none =>
      cases hq : Q[K]? with
      | none => rfl
      | some b =>
        exfalso
        obtain ⟨hbB, h0⟩ := (hQ.mem b).mp (List.mem_of_getElem? hq)
        obtain ⟨i, hi, rfl⟩ := mem_bat hbB
        have := fnd_none hw i (Nat.zero_le _) (by omega)
        have e : ahd B i B.length = K := by rw [hahd i]; exact srt_pos hQ.1 hq
        simp only [e, h0, not_false_eq_true, decide_true, Bool.and_self] at this
        cases this
section C18
variable {h : Hp} {x : Nat} {E : Nat → Nat} {W r c : Nat} {s : St} {nd kn : Nat → Nat} {g f k : Nat} {m : Mo}
set_option maxHeartbeats 1000000 in
theorem ct8_waiting (hC : CB h x E W r c s nd kn g f) (y : Int32) : CtI mX8_waiting 2 0 0 [va_rf (some x), .int y] h (fun z h' => h' = h ∧ z = match wtIx s.1 y with | none => -1 | some b => nI ((bat s.1 b).1 + r)) := by
  obtain ⟨hCC, hI, -⟩ := id hC
  obtain ⟨hX, hB, ⟨⟨Q, q1, q2, q3, q4, q5⟩, q6⟩, hK, -⟩ := id hCC
  have hG := hI.gb
  have hBm := (bk_iff hG).mp hB
  have hlen := hI.len
  have hQl : Q.length ≤ s.1.length := by rw [q1.2.length_eq]; exact List.length_filter_le _ _
  have hw := wtIx_Q hG q1 y
  have hn : ∀ b, b ∈ Q → h.K (nd b.1) = 1 := fun b hb => (hBm.1 b ((q1.mem b).mp hb).1).1
  refine enX8_waiting (fun X C => sgX8_waiting_0 C hX.1 ?_)
  rw [hX.2.1 805 (by decide)]
  refine clX8_waiting_5 C (ct7_behindFirst (B := s.1) hX.2.2.2.2.2.2.2.1 q2 q4 (by omega) hn y) hX.2.2.2.2.2.2.2.1 (by decide) (Nat.zero_le _) (Nat.zero_le _) (Nat.le_of_ble_eq_true rfl) (fun o h' ⟨e1, e2⟩ => ?_)
  subst e1
  rcases e2 with ⟨e2, e3⟩ | ⟨K, b, e2, e3, e4⟩
  · subst e2
    refine sgX8_waiting_8 C (by decide) (by decide) (fun z hz => by cases hz) (fun z hz => by cases hz) (fun _ => ⟨rfl, ?_⟩)
    have hno : (if y < 0 then none else Q[y.toNatClampNeg]?) = none := by
      rcases e3 with e3 | e3
      · rw [if_pos e3]
      · by_cases hy : y < 0
        · rw [if_pos hy]
        · rw [if_neg hy]
          obtain ⟨K, hK, rfl⟩ := nI_of hy
          rw [nI_ltI hK (by omega)] at e3
          rw [nI_clamp hK]
          exact List.getElem?_eq_none (by omega)
    rw [hno] at hw
    cases hq : wtIx s.1 y with
    | none => rfl
    | some i => rw [hq] at hw; cases hw
  · subst e4
    have hbl := (List.getElem?_eq_some_iff.mp e3).1
    have hbm := List.mem_of_getElem? e3
    have hnd := hBm.1 b ((q1.mem b).mp hbm).1
    refine sgX8_waiting_8 C (by decide) (by decide) (fun z hz => by cases hz; exact hnd.1) (fun z hz => ⟨rfl, ?_⟩) (fun e => by cases e)
    cases hz
    rw [e2, if_neg (nI_pos (by omega)), nI_clamp (by omega), e3] at hw
    rw [e2]
    cases hq : wtIx s.1 (nI K) with
    | none => rw [hq] at hw; cases hw
    | some i =>
      rw [hq] at hw
      simp only [Option.some.injEq] at hw
      simp only
      rw [hnd.2.2.2.1, hw]
theorem ct8_pointers {M Rt : Nat → Int32} (hC : CB h x E W r c s nd kn g f) (hM : ∀ j, j < W → h.AI (E 600) j = M j) (hR : ∀ j, j < 16 → h.AI (E 806) j = Rt j) : CtI mX8_pointers 6 0 0 [va_rf (some x)] h (fun z h' => h' = h ∧ z = nI (cR s.1 r Rt 16 + cP s.1 r M s.1.length)) := by
  obtain ⟨hCC, hI, hBW, hT, hr, hc, hW, -⟩ := id hC
  obtain ⟨hX, hB, -⟩ := id hCC
  have s1 := hX.2.2.2.2.2.2.2.2.2.2.2.1.1
  refine enX8_pointers (fun X C => sgX8_pointers_0 C hX.1 ?_)
  rw [hX.2.1 808 (by decide)]
  refine clX8_pointers_4 C (ct5_leadingNumbers (M := M) (Rt := Rt) ⟨hX, hB, hM, hR⟩ hI.gb (by omega) hBW) s1 (by decide) (Nat.zero_le _) (Nat.zero_le _) (Nat.le_of_ble_eq_true rfl) (fun z h' ⟨e1, e2⟩ => ?_)
  subst e1
  exact sgX8_pointers_7 C (by decide) (by decide) ⟨rfl, e2⟩
theorem ct8_leakScan {M Rt : Nat → Int32} (hC : CB h x E W r c s nd kn g f) (hM : ∀ j, j < W → h.AI (E 600) j = M j) (hR : ∀ j, j < 16 → h.AI (E 806) j = Rt j) : CtI mX8_leakScan 6 0 0 [va_rf (some x)] h (runP h E W r s.1 nd M Rt) := by
  obtain ⟨hCC, hI, hBW, hT, hr, hc, hW, -⟩ := id hC
  obtain ⟨hX, hB, -⟩ := id hCC
  have s1 := hX.2.2.2.2.2.2.2.2.2.2.2.1.1
  have hlen : 4 * s.1.length + 1 ≤ W := by
    have := hI.1.length
    simp only [List.length_append, chB, List.length_map] at this
    have h2 := hI.2
    omega
  refine enX8_leakScan (fun X C => sgX8_leakScan_0 C hX.1 ?_)
  rw [hX.2.1 808 (by decide)]
  refine clX8_leakScan_4 C (ct5_run (M := M) (Rt := Rt) ⟨hX, hB, hM, hR⟩ hI.gb (by omega) hBW hlen) s1 (by decide) (Nat.zero_le _) (Nat.zero_le _) (Nat.le_of_ble_eq_true rfl) (fun z h' e2 => ?_)
  exact sgX8_leakScan_7 C (by decide) (by decide) e2
/-- the lost blocks that were kept -/
def LoR (h : Hp) (E : Nat → Nat) (W n : Nat) (m : Mo) : Prop := n ≤ (W - 1) / 4 ∧ h.I 506 (E 808) = nI n ∧ ∀ i, i < n → ∃ q, h.AR (E 504) i = some q ∧ h.K q = 1 ∧ h.I 2 q = m.2 928 i ∧ h.I 3 q = m.2 929 i ∧ h.I 4 q = m.2 930 i ∧ (h.I 7 q = 0 ↔ m.2 931 i = 0)
set_option maxHeartbeats 1000000 in
theorem ct8_leak {n : Nat} (hX : XS h x E W r c) (hW3 : W ≤ 3000) (hL : LoR h E W n m) (y w : Int32) : CtI mX8_leak 2 0 0 [va_rf (some x), .int y, .int w] h (fun z h' => h' = h ∧ z = lkM m n y w) := by
  obtain ⟨l1, l2, l3⟩ := hL
  obtain ⟨x1, x2, -, -, -, -, -, -, -, -, -, ⟨s1, s2, s3, s4, s5, s6, s7, s8, s9, s10⟩, -⟩ := id hX
  have hct : CtR mX5_lostBlock 1 0 0 [va_rf (some (E 808)), .int y] h (fun o h' => h' = h ∧ ((o = none ∧ (y < 0 ∨ nI n ≤ y)) ∨ ∃ j q, y = nI j ∧ j < n ∧ o = some q ∧ h.AR (E 504) j = some q)) := by
    refine enX5_lostBlock (fun X C => sgX5_lostBlock_0 C (Nat.le_refl _) (Nat.le_refl _) s1 s8 s9 (fun c1 c2 c3 => ?_) (fun c1 => ⟨rfl, Or.inl ⟨rfl, Or.inl c1⟩⟩) (fun c1 c2 => ⟨rfl, Or.inl ⟨rfl, Or.inr (by rw [← l2]; exact c2)⟩⟩) (fun c1 c2 c3 => ?_) (fun c1 c2 c3 => ⟨rfl, Or.inr ?_⟩))
    · obtain ⟨j, hj, rfl⟩ := nI_of c1
      rw [s10, nI_leI (by omega) hj] at c3
      rw [s10]; exact vin (by omega)
    · exfalso
      obtain ⟨j, hj, rfl⟩ := nI_of c1
      rw [s10, nI_leI (by omega) hj] at c3
      rw [l2, nI_leI (by omega) hj] at c2
      omega
    · obtain ⟨j, hj, rfl⟩ := nI_of c1
      rw [l2, nI_leI (by omega) hj] at c2
      obtain ⟨q, hq, -⟩ := l3 j (by omega)
      rw [nI_clamp hj]
      exact ⟨j, q, rfl, by omega, hq, hq⟩
  refine enX8_leak (fun X C => sgX8_leak_0 C x1 ?_)
  rw [x2 808 (by decide)]
  refine clX8_leak_5 C hct s1 (by decide) (Nat.zero_le _) (Nat.zero_le _) (Nat.le_of_ble_eq_true rfl) (fun o h' ⟨e1, e2⟩ => ?_)
  subst e1
  rcases e2 with ⟨e2, e3⟩ | ⟨j, q, e2, e3, e4, e5⟩
  · subst e2
    refine sgX8_leak_8 C (by decide) (by decide) (fun z hz => by cases hz) (fun z hz => by cases hz) (fun z hz => by cases hz) (fun z hz => by cases hz) (fun z hz => by cases hz) (fun z hz => by cases hz) (fun z hz => by cases hz) (fun z hz => by cases hz) (fun z hz => by cases hz) (fun z hz => by cases hz) (fun _ => ⟨rfl, ?_⟩)
    rw [lkM, if_pos e3]
  · subst e4; subst e2
    obtain ⟨q', hq', k1, k2, k3, k4, k5⟩ := l3 j e3
    rw [e5] at hq'; cases hq'
    have hno : ¬ (nI j < 0 ∨ nI n ≤ nI j) := fun z => z.elim (nI_pos (by omega)) (fun z => by rw [nI_leI (by omega) (by omega)] at z; omega)
    have hcl : (nI j).toNatClampNeg = j := nI_clamp (by omega)
    refine sgX8_leak_8 C (by decide) (by decide) (fun z hz _ => by cases hz; exact k1) (fun z hz _ => by cases hz; exact k1) (fun z hz _ => by cases hz; exact k1) (fun z hz _ => by cases hz; exact k1) (fun z hz c1 => ⟨rfl, ?_⟩) (fun z hz c1 => ⟨rfl, ?_⟩) (fun z hz c1 => ⟨rfl, ?_⟩) (fun z hz c1 => ⟨rfl, ?_⟩) (fun z hz c1 c2 => ⟨rfl, ?_⟩) (fun z hz c1 c2 => ⟨rfl, ?_⟩) (fun e => by cases e)
    all_goals (cases hz; rw [lkM, if_neg hno, hcl])
    · have n0 : ∀ z : Int32, (0 : Int) ≤ z.toInt → z.toInt ≤ 3 → ¬ w = z := fun z hz0 hz4 e => by subst e; omega
      rw [if_neg (n0 0 (by decide) (by decide)), if_neg (n0 1 (by decide) (by decide)), if_neg (n0 2 (by decide) (by decide)), if_neg (n0 3 (by decide) (by decide))]
    · rw [if_pos c1]; exact k2
    · subst c1; exact k3
    · subst c1; exact k4
    · subst c1
      rw [k5] at c2
      show (0 : Int32) = if m.2 931 j = 0 then 0 else 1
      rw [if_pos c2]
    · subst c1
      rw [k5] at c2
      show (1 : Int32) = if m.2 931 j = 0 then 0 else 1
      rw [if_neg c2]
end C18
