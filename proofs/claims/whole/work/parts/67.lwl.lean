/-! THE LAW's loop -/
section LWL
variable {X : CX} {h : Hp} {x t o sc sn j cells slots : Nat} {SS : Nat → Int32}
theorem sub4 {a q : Nat} (ha : a ≤ 2051) (hq : q ≤ 3000) : nI a - 4 < nI q ↔ a < q + 4 := by
  rw [Int32.lt_iff_toInt_lt, Int32.toInt_sub, nI_toInt (by omega), nI_toInt (by omega), show (4 : Int32).toInt = 4 from rfl, Int.bmod_eq_of_le (by omega) (by omega)]
  omega
theorem LX.so (hL : LX h x t o sc sn SS j) : SO h o sc sn SS := by
  obtain ⟨E, nd, kn, ρ, A, W, r, c, s, g, f, k, n, m, hL, hj⟩ := hL
  exact hL.2.2.2.1
theorem LX.up (hL : LX h x t o sc sn SS j) : LX h x t o sc sn SS (j + 1) := by
  obtain ⟨E, nd, kn, ρ, A, W, r, c, s, g, f, k, n, m, hL, hj⟩ := hL
  exact ⟨E, nd, kn, ρ, A, W, r, c, s, g, f, k, n, m, hL, by omega, by omega, by omega⟩
set_option maxHeartbeats 1000000 in
theorem lw_body (C : CmI X mL_law 10 601024 7293000 lwp) (hT : ExtT X.base X.s X.s.heap) (hsn : sn ≤ 2051) (hL : LX h x t o sc sn SS j) (hj : j ≤ 512) (hc : cells ≤ 41 + 1027 * j) (hs : slots ≤ 40000 + 3087 * j) (kk : 7 + 4 * j ≤ sn → KK X x t o sc sn SS j cells slots (nI (3 + 4 * j))) : At X cells slots 53 (lsL sc x t o (nI (3 + 4 * j))) [] h := by
  obtain ⟨-, k20, eN, eSS⟩ := hL.so
  have q7 : ¬ nI (h.N sc) - 4 < nI (3 + 4 * j) → 7 + 4 * j ≤ sn := fun c => by
    rw [eN, sub4 hsn (by omega)] at c
    omega
  have jl : ¬ nI (h.N sc) - 4 < nI (3 + 4 * j) → j < 512 := fun c => by have := q7 c; omega
  have cl : ¬ nI (h.N sc) - 4 < nI (3 + 4 * j) → cells + 1027 ≤ 601024 := fun c => by have := jl c; omega
  have sl : ¬ nI (h.N sc) - 4 < nI (3 + 4 * j) → slots + 3087 ≤ 7293000 := fun c => by have := jl c; omega
  have vj : ¬ nI (h.N sc) - 4 < nI (3 + 4 * j) → ∀ i : Nat, i < 4 → vp_in (nI (3 + 4 * j) + nI i) sn := fun c i hi => by
    have := q7 c
    rw [nI_add]
    exact vin (by omega)
  have vi : ¬ nI (h.N sc) - 4 < nI (3 + 4 * j) → ∀ i : Nat, i < 4 → vp_in (nI (3 + 4 * j) + nI i) (h.N sc) := fun c i hi => by rw [eN]; exact vj c i hi
  exact sgL_law_53 C (by omega) (by omega) k20 (fun c => by have := q7 c; rw [eN]; exact vin (by omega)) (fun c _ => vi c 1 (by decide)) (fun c _ => vi c 1 (by decide)) (fun c _ => vi c 1 (by decide)) (fun c _ => vi c 2 (by decide)) (fun c _ => vi c 1 (by decide)) (fun c _ => vi c 1 (by decide)) (fun c _ => vi c 2 (by decide)) (fun c _ => vi c 1 (by decide)) (fun c _ => vi c 1 (by decide)) (fun c _ => vi c 2 (by decide)) (fun c _ => vi c 3 (by decide)) (fun c _ => vi c 1 (by decide)) (fun c _ => vi c 1 (by decide)) (fun c _ => vi c 2 (by decide)) (fun c _ => vi c 1 (by decide)) (fun c _ => vi c 2 (by decide)) (fun c _ => vi c 1 (by decide)) (fun c _ => vi c 2 (by decide)) (fun c _ => vi c 1 (by decide)) (fun c _ => vi c 1 (by decide)) (fun c _ => vi c 1 (by decide)) (fun c _ => vi c 2 (by decide)) (fun c _ => vi c 1 (by decide)) (fun c _ => vi c 1 (by decide)) (fun c _ => vi c 2 (by decide))
    (fun _ => rfl) (fun c _ => kk (q7 c) h cells slots (by omega) (by omega) hL.up)
    (fun c _ => by rw [eSS]; exact lw_alloc C hL (jl c) (vj c 1 (by decide)) (cl c) (sl c) (kk (q7 c)))
    (fun c _ => by rw [eSS]; exact lw_free C hL (jl c) (vj c 1 (by decide)) (cl c) (sl c) (kk (q7 c)))
    (fun c _ => by rw [eSS]; exact lw_resize C hL (jl c) (vj c 1 (by decide)) (vj c 2 (by decide)) (cl c) (sl c) (kk (q7 c)))
    (fun c _ => by rw [eSS]; exact lw_load C hL (jl c) (vj c 1 (by decide)) (cl c) (sl c) (kk (q7 c)))
    (fun c _ => by rw [eSS]; exact lw_store C hL (jl c) (vj c 1 (by decide)) (vj c 2 (by decide)) (cl c) (sl c) (kk (q7 c)))
    (fun c _ => by rw [eSS]; exact lw_check C hL (jl c) (vj c 1 (by decide)) (cl c) (sl c) (kk (q7 c)))
    (fun c _ => by rw [eSS]; exact lw_copy C hL (jl c) (vj c 1 (by decide)) (vj c 2 (by decide)) (vj c 3 (by decide)) (cl c) (sl c) (kk (q7 c)))
    (fun c _ => by rw [eSS]; exact lw_sizeOf C hL (jl c) (vj c 1 (by decide)) (cl c) (sl c) (kk (q7 c)))
    (fun c _ => by rw [eSS]; exact lw_describe C hT hL (jl c) (vj c 1 (by decide)) (vj c 2 (by decide)) (cl c) (sl c) (kk (q7 c)))
    (fun c _ => by rw [eSS]; exact lw_setRoot C hL (jl c) (vj c 1 (by decide)) (vj c 2 (by decide)) (cl c) (sl c) (kk (q7 c)))
    (fun c _ => lw_leakScan C hL (jl c) (cl c) (sl c) (kk (q7 c)))
    (fun c _ => by rw [eSS]; exact lw_leak C hL (jl c) (vj c 1 (by decide)) (vj c 2 (by decide)) (cl c) (sl c) (kk (q7 c)))
    (fun c _ => lw_pointers C hL (jl c) (cl c) (sl c) (kk (q7 c)))
    (fun c _ => by rw [eSS]; exact lw_count C hL (jl c) (vj c 1 (by decide)) (cl c) (sl c) (kk (q7 c)))
    (fun c _ => by rw [eSS]; exact lw_freeMany C hL (jl c) (vj c 1 (by decide)) (cl c) (sl c) (kk (q7 c)))
    (fun c _ => by rw [eSS]; exact lw_freeAt C hL (jl c) (vj c 1 (by decide)) (vj c 2 (by decide)) (cl c) (sl c) (kk (q7 c)))
    (fun c _ => by rw [eSS]; exact lw_waiting C hL (jl c) (vj c 1 (by decide)) (cl c) (sl c) (kk (q7 c)))
    (fun c _ => by rw [eSS]; exact lw_fault C hT hL (jl c) (vj c 1 (by decide)) (vj c 2 (by decide)) (cl c) (sl c) (kk (q7 c)))
theorem lw_ar {a b u v j : Nat} (h : u ≤ a + b * j) (h2 : v ≤ u + b) : v ≤ a + b * (j + 1) := by
  rw [Nat.mul_succ]
  omega
theorem lw_loop (C : CmI X mL_law 10 601024 7293000 lwp) (hT : ExtT X.base X.s X.s.heap) (hsn : sn ≤ 2051) : ∀ (rem j cells slots : Nat) (h : Hp), j + rem = 512 → cells ≤ 41 + 1027 * j → slots ≤ 40000 + 3087 * j → LX h x t o sc sn SS j → At X cells slots 53 (lsL sc x t o (nI (3 + 4 * j))) [] h
  | 0, j, cells, slots, h, e, hc, hs, hL => lw_body C hT hsn hL (by omega) hc hs (fun q => absurd q (by omega))
  | rem + 1, j, cells, slots, h, e, hc, hs, hL => lw_body C hT hsn hL (by omega) hc hs (fun _ h2 c2 s2 a1 a2 hX => by
      have e4 : nI (3 + 4 * j) + 4 = nI (3 + 4 * (j + 1)) := by
        rw [show (4 : Int32) = nI 4 from rfl, nI_add]
        congr 1
      show At X c2 s2 53 (lsL sc x t o (nI (3 + 4 * j) + 4)) [] h2
      rw [e4]
      exact lw_loop C hT hsn rem (j + 1) c2 s2 h2 (by omega) (lw_ar hc a1) (lw_ar hs a2) hX)
end LWL
