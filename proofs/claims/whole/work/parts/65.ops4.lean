section OPS4
variable {h h1 h2 : Hp} {x t o sc sn j : Nat} {SS : Nat → Int32} {E nd kn nd' kn' ρ A : Nat → Nat} {W r c g f k n g' f' k' n' : Nat} {s s' : St} {m m' : Mo} {z : Int32}
theorem CL.out (hC : CL h x E W r c s nd kn g f k n m) (o i : Nat) (v : Int64) : CL (h.sAL o i v) x E W r c s nd kn g f k n m := by
  obtain ⟨c1, c2, c3, c4, c5, c6, c7⟩ := hC
  exact ⟨c1.fr ⟨fun _ _ => ⟨rfl, rfl⟩, fun q a hq _ => ⟨rfl, rfl⟩⟩ rfl rfl, c2, c3, c4, c5, c6.fr c1.1.1 (fun _ _ => rfl) rfl (fun _ _ _ _ => rfl), c7⟩
theorem up903 (m : Mo) (v : Int32) : Msame [903] [] m (up1 m.1 903 v, m.2) := ⟨fun q hq => up1_n _ _ (by simpa using hq), fun _ _ => rfl⟩
set_option maxHeartbeats 1000000 in
theorem op_describe (hL : LW h x t o sc sn SS E nd kn ρ A W r c s g f k n m) (hj : g ≤ j ∧ f ≤ j ∧ k ≤ j) {y w : Int32}
    (hz : (z = 0 ∧ ∃ u : Int32, h1 = h.sAL o 0 u.toInt64 ∧ (((w < 0 ∨ ¬ w ≤ 5) ∧ u = -1) ∨ ∃ b, ¬ w < 0 ∧ w ≤ 5 ∧ bIx s.1 y = some b ∧ u = desV s.1 r y w b)) ∨ (z = 1 ∧ h1 = h ∧ ¬ w < 0 ∧ w ≤ 5 ∧ bIx s.1 y = none)) : OpT mX9_describe 3 [.int y, .int w] x t o sc sn SS j z h1 := by
  rcases hz with ⟨rfl, u, rfl, hu⟩ | ⟨rfl, rfl, a1, a2, a3⟩
  · refine OpT.of hL hj (Lf.out o 0 _) (hL.1.out o 0 _) (ct9_describe (h := h.sAL o 0 u.toInt64) (hL.2.1.lf (Lf.out o 0 _) hL.2.2.2.2).1 m hL.2.2.1 y w) (fun v h2 hy => ?_)
    have e0 : (h.sAL o 0 u.toInt64).AL o 0 = u.toInt64 := by simp only [AL_sAL, up2_s]
    rcases hy with ⟨b1, b2, b3⟩ | ⟨b1, b2, b3, b4⟩ | ⟨b, b1, b2, b3, b4, b5⟩
    · rcases hu with ⟨-, rfl⟩ | ⟨b, d1, d2, -⟩
      · exact ⟨th0 m, b3, up1_s m.1 903 0, fun _ => by rw [e0, b2], th0_same m⟩
      · rcases b1 with b1 | b1
        · exact absurd b1 d1
        · exact absurd d2 b1
    · rcases hu with ⟨d1, -⟩ | ⟨b, d1, d2, d3, -⟩
      · rcases d1 with d1 | d1
        · exact absurd d1 b1
        · exact absurd b2 d1
      · rw [b3] at d3; cases d3
    · rcases hu with ⟨d1, -⟩ | ⟨b', d1, d2, d3, d4⟩
      · rcases d1 with d1 | d1
        · exact absurd d1 b1
        · exact absurd b2 d1
      · cases Option.some.inj (b3.symm.trans d3)
        exact ⟨th0 m, b4, up1_s m.1 903 0, fun _ => by rw [e0, d4, b5]; rfl, th0_same m⟩
  · refine OpT.of hL hj (Lf.rf E _) hL.1 (ct9_describe hL.2.1.1 m hL.2.2.1 y w) (fun v h2 hy => ?_)
    rcases hy with ⟨b1, b2, b3⟩ | ⟨b1, b2, b3, b4⟩ | ⟨b, b1, b2, b3, b4, b5⟩
    · rcases b1 with b1 | b1
      · exact absurd b1 a1
      · exact absurd a2 b1
    · exact ⟨_, b4, up1_s m.1 903 1, fun e => absurd e (by decide), up903 m 1⟩
    · rw [a3] at b3; cases b3
set_option maxHeartbeats 1000000 in
theorem op_fault (hL : LW h x t o sc sn SS E nd kn ρ A W r c s g f k n m) (hj : g ≤ j ∧ f ≤ j ∧ k ≤ j) (h5 : j ≤ 600) {y w : Int32}
    (hz : (z = 0 ∧ ∃ u : Int32, h1 = h.sAL o 0 u.toInt64 ∧ ∃ K, y = nI K ∧ K < k ∧ K < 32 ∧ (w = 0 ∨ w = 1) ∧ u = fltV K k h (E 400) (E 401) w) ∨ (z = 1 ∧ h1 = h ∧ (y < 0 ∨ nI k ≤ y ∨ 32 ≤ y ∨ (¬ w = 0 ∧ ¬ w = 1)))) : OpT mX9_fault 1 [.int y, .int w] x t o sc sn SS j z h1 := by
  have no : ∀ K, K < k → K < 32 → (w = 0 ∨ w = 1) → ¬ (nI K < 0 ∨ nI k ≤ nI K ∨ 32 ≤ nI K ∨ (¬ w = 0 ∧ ¬ w = 1)) := fun K q1 q2 q3 q4 => by
    have e0 : (nI K).toInt = K := nI_toInt (by omega)
    have e1 : (nI k).toInt = k := nI_toInt (by omega)
    have z0 : (0 : Int32).toInt = 0 := rfl
    have z1 : (32 : Int32).toInt = 32 := rfl
    rw [Int32.lt_iff_toInt_lt, Int32.le_iff_toInt_le, Int32.le_iff_toInt_le] at q4
    rcases q4 with q4 | q4 | q4 | ⟨q4, q5⟩
    · omega
    · omega
    · omega
    · rcases q3 with q3 | q3
      · exact q4 q3
      · exact q5 q3
  have hk := hL.2.2.1.2.2.2.2.2.2
  rcases hz with ⟨rfl, u, rfl, K, rfl, hK1, hK2, hw, hu⟩ | ⟨rfl, rfl, hn⟩
  · refine OpT.of hL hj (Lf.out o 0 _) (hL.1.out o 0 _) (ct9_fault (h := h.sAL o 0 u.toInt64) (hL.2.1.lf (Lf.out o 0 _) hL.2.2.2.2).1 m hk (by omega) (nI K) w) (fun v h2 hy => ?_)
    have e0 : (h.sAL o 0 u.toInt64).AL o 0 = u.toInt64 := by simp only [AL_sAL, up2_s]
    rcases hy with ⟨K', b1, b2, b3, b4, b5, b6⟩ | ⟨b1, b2⟩
    · cases (nI_eq (by omega) (by omega)).mp b1
      refine ⟨th0 m, b5, up1_s m.1 903 0, fun _ => ?_, th0_same m⟩
      rw [e0, hu, b6, fltV]
      have c5 := hL.1.2.2.2.2.1 ((k - 1 - K) % 32) (Nat.mod_lt _ (by decide))
      rw [c5.1, c5.2]
    · exact absurd b1 (no K hK1 hK2 hw)
  · refine OpT.of hL hj (Lf.rf E _) hL.1 (ct9_fault hL.2.1.1 m hk (by omega) y w) (fun v h2 hy => ?_)
    rcases hy with ⟨K, rfl, b2, b3, b4, b5, b6⟩ | ⟨b1, b2⟩
    · exact absurd hn (no K b2 b3 b4)
    · exact ⟨_, b2, up1_s m.1 903 1, fun e => absurd e (by decide), up903 m 1⟩
end OPS4
