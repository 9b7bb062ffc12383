section M1
variable {h : Hp} {t : Nat} {ρ A : Nat → Nat} {m : Mo}
theorem ct9_near (v lo hi : Int32) (h : Hp) : CtI mX9_near 1 0 0 [.int v, .int lo, .int hi] h (fun r h' => h' = h ∧ r = if v < lo then lo else if hi < v then hi else v) := by
  refine enX9_near (fun X C => ?_)
  refine sgX9_near_0 C (Nat.le_refl _) (Nat.le_refl _) (fun c c' => ⟨rfl, ?_⟩) (fun c c' => ⟨rfl, ?_⟩) (fun c => ⟨rfl, ?_⟩)
  · rw [if_neg (Int32.not_lt.mpr c), if_neg (Int32.not_lt.mpr c')]
  · rw [if_neg (Int32.not_lt.mpr c), if_pos (Int32.not_le.mp c')]
  · rw [if_pos (Int32.not_le.mp c)]
theorem ct9_start (hS : MS h t ρ A) (m : Mo) {b : Nat} (hb : b < 800) : CtI mX9_start 1 0 0 [va_rf (some t), .int (nI b)] (mput h t ρ m) (fun r h' => h' = mput h t ρ m ∧ r = m.2 907 b + m.1 901) := by
  refine enX9_start (fun X C => ?_)
  refine sgX9_start_0 C (Nat.le_refl _) (Nat.le_refl _) (hS.k m) (hS.r m 907) (hS.ki m 907) (by rw [nA907 hS]; exact vin hb) ⟨rfl, ?_⟩
  rw [mI901, mA907 hS, nI_clamp (by omega)]
theorem ct9_isLive (hS : MS h t ρ A) (m : Mo) {b : Nat} (hb : b < 800) : CtI mX9_isLive 1 0 0 [va_rf (some t), .int (nI b)] (mput h t ρ m) (fun r h' => h' = mput h t ρ m ∧ r = if m.2 911 b = 0 then 1 else 0) := by
  refine enX9_isLive (fun X C => ?_)
  refine sgX9_isLive_0 C (Nat.le_refl _) (Nat.le_refl _) (hS.k m) (hS.r m 911) (hS.ki m 911) (by rw [nA911 hS]; exact vin hb) ?_ ?_
  all_goals (rw [mA911 hS, nI_clamp (by omega)]; intro c; exact ⟨rfl, by simp [c]⟩)
theorem ct9_thrown (m : Mo) (hS : MS h t ρ A) : CtI mX9_thrown 1 0 0 [va_rf (some t)] (mput h t ρ m) (fun r h' => h' = mput h t ρ m ∧ r = m.1 903) := by
  refine enX9_thrown (fun X C => ?_)
  refine sgX9_thrown_0 C (Nat.le_refl _) (Nat.le_refl _) (hS.k m) ⟨rfl, ?_⟩
  rw [mI903]
end M1
