/-! THE LAW's loop: a call of each kind -/
section LWK
variable {X : CX} {h : Hp} {x t o sc sn j cells slots : Nat} {SS : Nat → Int32} {x4 : Int32}
theorem lg_cmp_self (a : Int64) : lg_cmp a a = 0 := by simp [lg_cmp]
abbrev lwp : Int32 → Hp → Prop := fun r _ => r = 1
abbrev lsL (sc x t o : Nat) (i : Int32) : List (Option Value) := [some (va_rf (some sc)), some (va_rf (some x)), some (va_rf (some t)), some (va_rf (some o)), some (.int i), none, none]
abbrev KK (X : CX) (x t o sc sn : Nat) (SS : Nat → Int32) (j cells slots : Nat) (x4 : Int32) : Prop := ∀ h2 c2 s2, c2 ≤ cells + 1027 → s2 ≤ slots + 3087 → LX h2 x t o sc sn SS (j + 1) → At X c2 s2 53 (lsL sc x t o (x4 + 4)) [] h2
theorem wT_L_describe : Cond.static yL_describe ∈ gw := gw_of (List.mem_of_getElem? (i := 588) (by decide +kernel)) rfl
theorem wT_L_fault : Cond.static yL_fault ∈ gw := gw_of (List.mem_of_getElem? (i := 663) (by decide +kernel)) rfl
theorem wH_L_describe : Cond.codeWith yL_describe cL_describe 5 (some .int) hhL ∈ gw := gw_of (List.mem_of_getElem? (i := 589) (by decide +kernel)) rfl
theorem wH_L_fault : Cond.codeWith yL_fault cL_fault 5 (some .int) hhL ∈ gw := gw_of (List.mem_of_getElem? (i := 664) (by decide +kernel)) rfl
theorem lw_alloc (C : CmI X mL_law 10 601024 7293000 lwp) (hL : LX h x t o sc sn SS j) (hj5 : j < 512) (hv1 : vp_in (x4 + 1) sn) (hc : cells + 1027 ≤ 601024) (hs : slots + 3087 ≤ 7293000) (kk : KK X x t o sc sn SS j cells slots x4) : At X cells slots 163 (lsL sc x t o x4) [.int (SS ((x4 + 1).toNatClampNeg)), va_rf (some x)] h := by
  obtain ⟨E, nd, kn, ρ, A, W, r, c, s, g, f, k, n, m, hL, hj⟩ := hL
  refine clL_law_163 (mc := 1027) (ms := 3087) C (ct8_alloc hL.1.1 (by have := hL.1.1.bw; omega) (by have := hL.1.1.bw; omega) _) hL.1.1.1.1.1 (by decide) (by omega) (by omega) (Nat.le_of_ble_eq_true rfl) (fun z h1 hz => ?_)
  obtain ⟨hk, ⟨ho, hs1, hs2, hs3⟩, p9, hct, hfin⟩ := op_alloc hL hj (by omega) hz
  refine sgL_law_166 C hs1 (by rw [hs2]; exact hv1) ?_
  rw [hs3]
  refine clL_law_173 (mc := 0) (ms := 0) C hct hk (by decide) (by omega) (by omega) (Nat.le_of_ble_eq_true rfl) (fun y h2 hy => ?_)
  obtain ⟨rfl, hX⟩ := hfin y h2 hy
  exact sgL_law_176 C (by omega) (by omega) (fun _ => kk h2 _ _ (by omega) (by omega) hX) (fun e => absurd rfl e)
theorem lw_free (C : CmI X mL_law 10 601024 7293000 lwp) (hL : LX h x t o sc sn SS j) (hj5 : j < 512) (hv1 : vp_in (x4 + 1) sn) (hc : cells + 1027 ≤ 601024) (hs : slots + 3087 ≤ 7293000) (kk : KK X x t o sc sn SS j cells slots x4) : At X cells slots 188 (lsL sc x t o x4) [.int (SS ((x4 + 1).toNatClampNeg)), va_rf (some x)] h := by
  obtain ⟨E, nd, kn, ρ, A, W, r, c, s, g, f, k, n, m, hL, hj⟩ := hL
  refine clL_law_188 (mc := 1027) (ms := 3087) C (ct8_free hL.1.1 hL.1.2.1 (by omega) (by have := hL.1.1.bw; omega) (by have := hL.1.1.bw; omega) _) hL.1.1.1.1.1 (by decide) (by omega) (by omega) (Nat.le_of_ble_eq_true rfl) (fun z h1 hz => ?_)
  obtain ⟨hk, ⟨ho, hs1, hs2, hs3⟩, p9, hct, hfin⟩ := op_free hL hj (by omega) hz
  refine sgL_law_191 C hs1 (by rw [hs2]; exact hv1) ?_
  rw [hs3]
  refine clL_law_198 (mc := 0) (ms := 0) C hct hk (by decide) (by omega) (by omega) (Nat.le_of_ble_eq_true rfl) (fun y h2 hy => ?_)
  obtain ⟨rfl, hX⟩ := hfin y h2 hy
  exact sgL_law_201 C (by omega) (by omega) (fun _ => kk h2 _ _ (by omega) (by omega) hX) (fun e => absurd rfl e)
theorem lw_resize (C : CmI X mL_law 10 601024 7293000 lwp) (hL : LX h x t o sc sn SS j) (hj5 : j < 512) (hv1 : vp_in (x4 + 1) sn) (hv2 : vp_in (x4 + 2) sn) (hc : cells + 1027 ≤ 601024) (hs : slots + 3087 ≤ 7293000) (kk : KK X x t o sc sn SS j cells slots x4) : At X cells slots 219 (lsL sc x t o x4) [.int (SS ((x4 + 2).toNatClampNeg)), .int (SS ((x4 + 1).toNatClampNeg)), va_rf (some x)] h := by
  obtain ⟨E, nd, kn, ρ, A, W, r, c, s, g, f, k, n, m, hL, hj⟩ := hL
  refine clL_law_219 (mc := 1027) (ms := 3087) C (ct8_resize hL.1.1 hL.1.2.1 (by omega) (by omega) (by have := hL.1.1.bw; omega) (by have := hL.1.1.bw; omega) _ _) hL.1.1.1.1.1 (by decide) (by omega) (by omega) (Nat.le_of_ble_eq_true rfl) (fun z h1 hz => ?_)
  obtain ⟨hk, ⟨ho, hs1, hs2, hs3⟩, p9, hct, hfin⟩ := op_resize hL hj (by omega) hz
  refine sgL_law_222 C hs1 (by rw [hs2]; exact hv1) (by rw [hs2]; exact hv2) ?_
  rw [hs3]
  refine clL_law_235 (mc := 0) (ms := 0) C hct hk (by decide) (by omega) (by omega) (Nat.le_of_ble_eq_true rfl) (fun y h2 hy => ?_)
  obtain ⟨rfl, hX⟩ := hfin y h2 hy
  exact sgL_law_238 C (by omega) (by omega) (fun _ => kk h2 _ _ (by omega) (by omega) hX) (fun e => absurd rfl e)
theorem lw_load (C : CmI X mL_law 10 601024 7293000 lwp) (hL : LX h x t o sc sn SS j) (hj5 : j < 512) (hv1 : vp_in (x4 + 1) sn) (hc : cells + 1027 ≤ 601024) (hs : slots + 3087 ≤ 7293000) (kk : KK X x t o sc sn SS j cells slots x4) : At X cells slots 250 (lsL sc x t o x4) [.int (SS ((x4 + 1).toNatClampNeg)), va_rf (some x)] h := by
  obtain ⟨E, nd, kn, ρ, A, W, r, c, s, g, f, k, n, m, hL, hj⟩ := hL
  refine clL_law_250 (mc := 0) (ms := 0) C (ct8_load hL.1.1 hL.1.2.1 (by omega) _) hL.1.1.1.1.1 (by decide) (by omega) (by omega) (Nat.le_of_ble_eq_true rfl) (fun z h1 hz => ?_)
  obtain ⟨hk, ⟨ho, hs1, hs2, hs3⟩, p9, hct, hfin⟩ := op_load hL hj (by omega) hz
  refine sgL_law_253 C hs1 (by rw [hs2]; exact hv1) ?_
  rw [hs3]
  refine clL_law_260 (mc := 0) (ms := 0) C hct hk (by decide) (by omega) (by omega) (Nat.le_of_ble_eq_true rfl) (fun y h2 hy => ?_)
  obtain ⟨rfl, hX⟩ := hfin y h2 hy
  exact sgL_law_263 C (by omega) (by omega) (fun _ => kk h2 _ _ (by omega) (by omega) hX) (fun e => absurd rfl e)
theorem lw_store (C : CmI X mL_law 10 601024 7293000 lwp) (hL : LX h x t o sc sn SS j) (hj5 : j < 512) (hv1 : vp_in (x4 + 1) sn) (hv2 : vp_in (x4 + 2) sn) (hc : cells + 1027 ≤ 601024) (hs : slots + 3087 ≤ 7293000) (kk : KK X x t o sc sn SS j cells slots x4) : At X cells slots 281 (lsL sc x t o x4) [.int (SS ((x4 + 2).toNatClampNeg)), .int (SS ((x4 + 1).toNatClampNeg)), va_rf (some x)] h := by
  obtain ⟨E, nd, kn, ρ, A, W, r, c, s, g, f, k, n, m, hL, hj⟩ := hL
  refine clL_law_281 (mc := 0) (ms := 0) C (ct8_store hL.1.1 hL.1.2.1 (by omega) _ _) hL.1.1.1.1.1 (by decide) (by omega) (by omega) (Nat.le_of_ble_eq_true rfl) (fun z h1 hz => ?_)
  obtain ⟨hk, ⟨ho, hs1, hs2, hs3⟩, p9, hct, hfin⟩ := op_store hL hj (by omega) hz
  refine sgL_law_284 C hs1 (by rw [hs2]; exact hv1) (by rw [hs2]; exact hv2) ?_
  rw [hs3]
  refine clL_law_297 (mc := 0) (ms := 0) C hct hk (by decide) (by omega) (by omega) (Nat.le_of_ble_eq_true rfl) (fun y h2 hy => ?_)
  obtain ⟨rfl, hX⟩ := hfin y h2 hy
  exact sgL_law_300 C (by omega) (by omega) (fun _ => kk h2 _ _ (by omega) (by omega) hX) (fun e => absurd rfl e)
theorem lw_check (C : CmI X mL_law 10 601024 7293000 lwp) (hL : LX h x t o sc sn SS j) (hj5 : j < 512) (hv1 : vp_in (x4 + 1) sn) (hc : cells + 1027 ≤ 601024) (hs : slots + 3087 ≤ 7293000) (kk : KK X x t o sc sn SS j cells slots x4) : At X cells slots 312 (lsL sc x t o x4) [.int (SS ((x4 + 1).toNatClampNeg)), va_rf (some x)] h := by
  obtain ⟨E, nd, kn, ρ, A, W, r, c, s, g, f, k, n, m, hL, hj⟩ := hL
  refine clL_law_312 (mc := 0) (ms := 0) C (ct8_check hL.1.1 _) hL.1.1.1.1.1 (by decide) (by omega) (by omega) (Nat.le_of_ble_eq_true rfl) (fun z h1 hz => ?_)
  obtain ⟨hk, ⟨ho, hs1, hs2, hs3⟩, p9, hct, hfin⟩ := op_check hL hj  hz
  refine sgL_law_315 C hs1 (by rw [hs2]; exact hv1) ?_
  rw [hs3]
  refine clL_law_322 (mc := 0) (ms := 0) C hct hk (by decide) (by omega) (by omega) (Nat.le_of_ble_eq_true rfl) (fun y h2 hy => ?_)
  obtain ⟨rfl, hX⟩ := hfin y h2 hy
  exact sgL_law_325 C (by omega) (by omega) (fun _ => kk h2 _ _ (by omega) (by omega) hX) (fun e => absurd rfl e)
theorem lw_copy (C : CmI X mL_law 10 601024 7293000 lwp) (hL : LX h x t o sc sn SS j) (hj5 : j < 512) (hv1 : vp_in (x4 + 1) sn) (hv2 : vp_in (x4 + 2) sn) (hv3 : vp_in (x4 + 3) sn) (hc : cells + 1027 ≤ 601024) (hs : slots + 3087 ≤ 7293000) (kk : KK X x t o sc sn SS j cells slots x4) : At X cells slots 349 (lsL sc x t o x4) [.int (SS ((x4 + 3).toNatClampNeg)), .int (SS ((x4 + 2).toNatClampNeg)), .int (SS ((x4 + 1).toNatClampNeg)), va_rf (some x)] h := by
  obtain ⟨E, nd, kn, ρ, A, W, r, c, s, g, f, k, n, m, hL, hj⟩ := hL
  refine clL_law_349 (mc := 0) (ms := 0) C (ct8_copy hL.1.1 hL.1.2.1 (by omega) _ _ _) hL.1.1.1.1.1 (by decide) (by omega) (by omega) (Nat.le_of_ble_eq_true rfl) (fun z h1 hz => ?_)
  obtain ⟨hk, ⟨ho, hs1, hs2, hs3⟩, p9, hct, hfin⟩ := op_copy hL hj (by omega) hz
  refine sgL_law_352 C hs1 (by rw [hs2]; exact hv1) (by rw [hs2]; exact hv2) (by rw [hs2]; exact hv3) ?_
  rw [hs3]
  refine clL_law_371 (mc := 0) (ms := 0) C hct hk (by decide) (by omega) (by omega) (Nat.le_of_ble_eq_true rfl) (fun y h2 hy => ?_)
  obtain ⟨rfl, hX⟩ := hfin y h2 hy
  exact sgL_law_374 C (by omega) (by omega) (fun _ => kk h2 _ _ (by omega) (by omega) hX) (fun e => absurd rfl e)
theorem lw_sizeOf (C : CmI X mL_law 10 601024 7293000 lwp) (hL : LX h x t o sc sn SS j) (hj5 : j < 512) (hv1 : vp_in (x4 + 1) sn) (hc : cells + 1027 ≤ 601024) (hs : slots + 3087 ≤ 7293000) (kk : KK X x t o sc sn SS j cells slots x4) : At X cells slots 386 (lsL sc x t o x4) [.int (SS ((x4 + 1).toNatClampNeg)), va_rf (some x)] h := by
  obtain ⟨E, nd, kn, ρ, A, W, r, c, s, g, f, k, n, m, hL, hj⟩ := hL
  refine clL_law_386 (mc := 0) (ms := 0) C (ct8_sizeOf hL.1.1 _) hL.1.1.1.1.1 (by decide) (by omega) (by omega) (Nat.le_of_ble_eq_true rfl) (fun z h1 hz => ?_)
  obtain ⟨hk, ⟨ho, hs1, hs2, hs3⟩, p9, hct, hfin⟩ := op_sizeOf hL hj  hz
  refine sgL_law_389 C hs1 (by rw [hs2]; exact hv1) ?_
  rw [hs3]
  refine clL_law_396 (mc := 0) (ms := 0) C hct hk (by decide) (by omega) (by omega) (Nat.le_of_ble_eq_true rfl) (fun y h2 hy => ?_)
  obtain ⟨rfl, hX⟩ := hfin y h2 hy
  exact sgL_law_399 C (by omega) (by omega) (fun _ => kk h2 _ _ (by omega) (by omega) hX) (fun e => absurd rfl e)
theorem lw_setRoot (C : CmI X mL_law 10 601024 7293000 lwp) (hL : LX h x t o sc sn SS j) (hj5 : j < 512) (hv1 : vp_in (x4 + 1) sn) (hv2 : vp_in (x4 + 2) sn) (hc : cells + 1027 ≤ 601024) (hs : slots + 3087 ≤ 7293000) (kk : KK X x t o sc sn SS j cells slots x4) : At X cells slots 485 (lsL sc x t o x4) [.int (SS ((x4 + 2).toNatClampNeg)), .int (SS ((x4 + 1).toNatClampNeg)), va_rf (some x)] h := by
  obtain ⟨E, nd, kn, ρ, A, W, r, c, s, g, f, k, n, m, hL, hj⟩ := hL
  refine clL_law_485 (mc := 0) (ms := 0) C (ct8_setRoot hL.1.1.1.1 _ _) hL.1.1.1.1.1 (by decide) (by omega) (by omega) (Nat.le_of_ble_eq_true rfl) (fun z h1 hz => ?_)
  obtain ⟨hk, ⟨ho, hs1, hs2, hs3⟩, p9, hct, hfin⟩ := op_setRoot hL hj  hz
  refine sgL_law_488 C hs1 (by rw [hs2]; exact hv1) (by rw [hs2]; exact hv2) ?_
  rw [hs3]
  refine clL_law_501 (mc := 0) (ms := 0) C hct hk (by decide) (by omega) (by omega) (Nat.le_of_ble_eq_true rfl) (fun y h2 hy => ?_)
  obtain ⟨rfl, hX⟩ := hfin y h2 hy
  exact sgL_law_504 C (by omega) (by omega) (fun _ => kk h2 _ _ (by omega) (by omega) hX) (fun e => absurd rfl e)
theorem lw_leakScan (C : CmI X mL_law 10 601024 7293000 lwp) (hL : LX h x t o sc sn SS j) (hj5 : j < 512)  (hc : cells + 1027 ≤ 601024) (hs : slots + 3087 ≤ 7293000) (kk : KK X x t o sc sn SS j cells slots x4) : At X cells slots 510 (lsL sc x t o x4) [va_rf (some x)] h := by
  obtain ⟨E, nd, kn, ρ, A, W, r, c, s, g, f, k, n, m, hL, hj⟩ := hL
  refine clL_law_510 (mc := 0) (ms := 0) C (ct8_leakScan hL.1.1 hL.1.2.2.1 hL.1.2.2.2.1) hL.1.1.1.1.1 (by decide) (by omega) (by omega) (Nat.le_of_ble_eq_true rfl) (fun z h1 hz => ?_)
  obtain ⟨hk, ⟨ho, hs1, hs2, hs3⟩, p9, hct, hfin⟩ := op_leakScan hL hj  hz
  refine sgL_law_513 C ?_
  refine clL_law_514 (mc := 0) (ms := 0) C hct hk (by decide) (by omega) (by omega) (Nat.le_of_ble_eq_true rfl) (fun y h2 hy => ?_)
  obtain ⟨rfl, hX⟩ := hfin y h2 hy
  exact sgL_law_517 C (by omega) (by omega) (fun _ => kk h2 _ _ (by omega) (by omega) hX) (fun e => absurd rfl e)
theorem lw_leak (C : CmI X mL_law 10 601024 7293000 lwp) (hL : LX h x t o sc sn SS j) (hj5 : j < 512) (hv1 : vp_in (x4 + 1) sn) (hv2 : vp_in (x4 + 2) sn) (hc : cells + 1027 ≤ 601024) (hs : slots + 3087 ≤ 7293000) (kk : KK X x t o sc sn SS j cells slots x4) : At X cells slots 535 (lsL sc x t o x4) [.int (SS ((x4 + 2).toNatClampNeg)), .int (SS ((x4 + 1).toNatClampNeg)), va_rf (some x)] h := by
  obtain ⟨E, nd, kn, ρ, A, W, r, c, s, g, f, k, n, m, hL, hj⟩ := hL
  refine clL_law_535 (mc := 0) (ms := 0) C (ct8_leak hL.1.1.1.1 hL.1.1.2.1.2.2.2 hL.1.2.2.2.2.2.1 _ _) hL.1.1.1.1.1 (by decide) (by omega) (by omega) (Nat.le_of_ble_eq_true rfl) (fun z h1 hz => ?_)
  obtain ⟨hk, ⟨ho, hs1, hs2, hs3⟩, p9, hct, hfin⟩ := op_leak hL hj  hz
  refine sgL_law_538 C hs1 (by rw [hs2]; exact hv1) (by rw [hs2]; exact hv2) ?_
  rw [hs3]
  refine clL_law_551 (mc := 0) (ms := 0) C hct hk (by decide) (by omega) (by omega) (Nat.le_of_ble_eq_true rfl) (fun y h2 hy => ?_)
  obtain ⟨rfl, hX⟩ := hfin y h2 hy
  exact sgL_law_554 C (by omega) (by omega) (fun _ => kk h2 _ _ (by omega) (by omega) hX) (fun e => absurd rfl e)
theorem lw_pointers (C : CmI X mL_law 10 601024 7293000 lwp) (hL : LX h x t o sc sn SS j) (hj5 : j < 512)  (hc : cells + 1027 ≤ 601024) (hs : slots + 3087 ≤ 7293000) (kk : KK X x t o sc sn SS j cells slots x4) : At X cells slots 560 (lsL sc x t o x4) [va_rf (some x)] h := by
  obtain ⟨E, nd, kn, ρ, A, W, r, c, s, g, f, k, n, m, hL, hj⟩ := hL
  refine clL_law_560 (mc := 0) (ms := 0) C (ct8_pointers hL.1.1 hL.1.2.2.1 hL.1.2.2.2.1) hL.1.1.1.1.1 (by decide) (by omega) (by omega) (Nat.le_of_ble_eq_true rfl) (fun z h1 hz => ?_)
  obtain ⟨hk, ⟨ho, hs1, hs2, hs3⟩, p9, hct, hfin⟩ := op_pointers hL hj  hz
  refine sgL_law_563 C ?_
  refine clL_law_564 (mc := 0) (ms := 0) C hct hk (by decide) (by omega) (by omega) (Nat.le_of_ble_eq_true rfl) (fun y h2 hy => ?_)
  obtain ⟨rfl, hX⟩ := hfin y h2 hy
  exact sgL_law_567 C (by omega) (by omega) (fun _ => kk h2 _ _ (by omega) (by omega) hX) (fun e => absurd rfl e)
theorem lw_count (C : CmI X mL_law 10 601024 7293000 lwp) (hL : LX h x t o sc sn SS j) (hj5 : j < 512) (hv1 : vp_in (x4 + 1) sn) (hc : cells + 1027 ≤ 601024) (hs : slots + 3087 ≤ 7293000) (kk : KK X x t o sc sn SS j cells slots x4) : At X cells slots 579 (lsL sc x t o x4) [.int (SS ((x4 + 1).toNatClampNeg)), va_rf (some x)] h := by
  obtain ⟨E, nd, kn, ρ, A, W, r, c, s, g, f, k, n, m, hL, hj⟩ := hL
  refine clL_law_579 (mc := 0) (ms := 0) C (ct8_count hL.1.1 hL.1.2.1 hL.2.2.1 _) hL.1.1.1.1.1 (by decide) (by omega) (by omega) (Nat.le_of_ble_eq_true rfl) (fun z h1 hz => ?_)
  obtain ⟨hk, ⟨ho, hs1, hs2, hs3⟩, p9, hct, hfin⟩ := op_count hL hj  hz
  refine sgL_law_582 C hs1 (by rw [hs2]; exact hv1) ?_
  rw [hs3]
  refine clL_law_589 (mc := 0) (ms := 0) C hct hk (by decide) (by omega) (by omega) (Nat.le_of_ble_eq_true rfl) (fun y h2 hy => ?_)
  obtain ⟨rfl, hX⟩ := hfin y h2 hy
  exact sgL_law_592 C (by omega) (by omega) (fun _ => kk h2 _ _ (by omega) (by omega) hX) (fun e => absurd rfl e)
theorem lw_freeMany (C : CmI X mL_law 10 601024 7293000 lwp) (hL : LX h x t o sc sn SS j) (hj5 : j < 512) (hv1 : vp_in (x4 + 1) sn) (hc : cells + 1027 ≤ 601024) (hs : slots + 3087 ≤ 7293000) (kk : KK X x t o sc sn SS j cells slots x4) : At X cells slots 604 (lsL sc x t o x4) [.int (SS ((x4 + 1).toNatClampNeg)), va_rf (some x)] h := by
  obtain ⟨E, nd, kn, ρ, A, W, r, c, s, g, f, k, n, m, hL, hj⟩ := hL
  refine clL_law_604 (mc := 0) (ms := 0) C (ct8_freeMany hL.1.1 _) hL.1.1.1.1.1 (by decide) (by omega) (by omega) (Nat.le_of_ble_eq_true rfl) (fun z h1 hz => ?_)
  obtain ⟨hk, ⟨ho, hs1, hs2, hs3⟩, p9, hct, hfin⟩ := op_freeMany hL hj  hz
  refine sgL_law_607 C hs1 (by rw [hs2]; exact hv1) ?_
  rw [hs3]
  refine clL_law_614 (mc := 0) (ms := 0) C hct hk (by decide) (by omega) (by omega) (Nat.le_of_ble_eq_true rfl) (fun y h2 hy => ?_)
  obtain ⟨rfl, hX⟩ := hfin y h2 hy
  exact sgL_law_617 C (by omega) (by omega) (fun _ => kk h2 _ _ (by omega) (by omega) hX) (fun e => absurd rfl e)
theorem lw_freeAt (C : CmI X mL_law 10 601024 7293000 lwp) (hL : LX h x t o sc sn SS j) (hj5 : j < 512) (hv1 : vp_in (x4 + 1) sn) (hv2 : vp_in (x4 + 2) sn) (hc : cells + 1027 ≤ 601024) (hs : slots + 3087 ≤ 7293000) (kk : KK X x t o sc sn SS j cells slots x4) : At X cells slots 635 (lsL sc x t o x4) [.int (SS ((x4 + 2).toNatClampNeg)), .int (SS ((x4 + 1).toNatClampNeg)), va_rf (some x)] h := by
  obtain ⟨E, nd, kn, ρ, A, W, r, c, s, g, f, k, n, m, hL, hj⟩ := hL
  refine clL_law_635 (mc := 0) (ms := 0) C (ct8_freeAt hL.1.1 _ _) hL.1.1.1.1.1 (by decide) (by omega) (by omega) (Nat.le_of_ble_eq_true rfl) (fun z h1 hz => ?_)
  obtain ⟨hk, ⟨ho, hs1, hs2, hs3⟩, p9, hct, hfin⟩ := op_freeAt hL hj  hz
  refine sgL_law_638 C hs1 (by rw [hs2]; exact hv1) (by rw [hs2]; exact hv2) ?_
  rw [hs3]
  refine clL_law_651 (mc := 0) (ms := 0) C hct hk (by decide) (by omega) (by omega) (Nat.le_of_ble_eq_true rfl) (fun y h2 hy => ?_)
  obtain ⟨rfl, hX⟩ := hfin y h2 hy
  exact sgL_law_654 C (by omega) (by omega) (fun _ => kk h2 _ _ (by omega) (by omega) hX) (fun e => absurd rfl e)
theorem lw_waiting (C : CmI X mL_law 10 601024 7293000 lwp) (hL : LX h x t o sc sn SS j) (hj5 : j < 512) (hv1 : vp_in (x4 + 1) sn) (hc : cells + 1027 ≤ 601024) (hs : slots + 3087 ≤ 7293000) (kk : KK X x t o sc sn SS j cells slots x4) : At X cells slots 666 (lsL sc x t o x4) [.int (SS ((x4 + 1).toNatClampNeg)), va_rf (some x)] h := by
  obtain ⟨E, nd, kn, ρ, A, W, r, c, s, g, f, k, n, m, hL, hj⟩ := hL
  refine clL_law_666 (mc := 0) (ms := 0) C (ct8_waiting hL.1.1 _) hL.1.1.1.1.1 (by decide) (by omega) (by omega) (Nat.le_of_ble_eq_true rfl) (fun z h1 hz => ?_)
  obtain ⟨hk, ⟨ho, hs1, hs2, hs3⟩, p9, hct, hfin⟩ := op_waiting hL hj  hz
  refine sgL_law_669 C hs1 (by rw [hs2]; exact hv1) ?_
  rw [hs3]
  refine clL_law_676 (mc := 0) (ms := 0) C hct hk (by decide) (by omega) (by omega) (Nat.le_of_ble_eq_true rfl) (fun y h2 hy => ?_)
  obtain ⟨rfl, hX⟩ := hfin y h2 hy
  exact sgL_law_679 C (by omega) (by omega) (fun _ => kk h2 _ _ (by omega) (by omega) hX) (fun e => absurd rfl e)
set_option maxHeartbeats 1000000 in
theorem lw_describe (C : CmI X mL_law 10 601024 7293000 lwp) (hT : ExtT X.base X.s X.s.heap) (hL : LX h x t o sc sn SS j) (hj5 : j < 512) (hv1 : vp_in (x4 + 1) sn) (hv2 : vp_in (x4 + 2) sn) (hc : cells + 1027 ≤ 601024) (hs : slots + 3087 ≤ 7293000) (kk : KK X x t o sc sn SS j cells slots x4) : At X cells slots 418 (lsL sc x t o x4) [va_rf (some o), .int (SS ((x4 + 2).toNatClampNeg)), .int (SS ((x4 + 1).toNatClampNeg)), va_rf (some x)] h := by
  obtain ⟨E, nd, kn, ρ, A, W, r, c, s, g, f, k, n, m, hL, hj⟩ := hL
  refine st_callSH (pc := 418) (M := mL_describe) (hh := hhL) (idx := 64) (n := 4) (d := 7) (mc := 1) (ms := 6) (As := [va_rf (some x), .int (SS ((x4 + 1).toNatClampNeg)), .int (SS ((x4 + 2).toNatClampNeg)), va_rf (some o)]) (rest := []) C.1 hT C.2.2.1 C.2.2.2.2.2.2 ⟨wM_RL_64, wH_L_describe, wI_RL, by decide +kernel, by decide⟩ wT_L_describe dL_law_418 rfl (by decide) (Nat.le_of_ble_eq_true rfl) (ctL_describe hL.1.1 hL.2.2.2.1.1.1 hL.2.2.2.1.1.2 _ _) (by omega) (by omega) (fun v h1 hp => ?_)
  obtain ⟨z, rfl, hz⟩ := hp
  obtain ⟨hk, ⟨ho, hs1, hs2, hs3⟩, p9, hct, hfin⟩ := op_describe hL hj hz
  refine sgL_law_421 C hs1 (by rw [hs2]; exact hv1) (by rw [hs2]; exact hv2) ?_
  rw [hs3]
  refine clL_law_436 (mc := 0) (ms := 0) C hct hk (by decide) (by omega) (by omega) (Nat.le_of_ble_eq_true rfl) (fun y h2 hy => ?_)
  obtain ⟨hk2, ⟨ho2, -⟩, hAL, p10, hct2, hfin2⟩ := hfin y h2 hy
  refine sgL_law_439 C ?_
  refine clL_law_442 (mc := 0) (ms := 0) C hct2 hk2 (by decide) (by omega) (by omega) (Nat.le_of_ble_eq_true rfl) (fun u h3 hu => ?_)
  obtain ⟨rfl, rfl, hq, hX⟩ := hfin2 u h3 hu
  refine sgL_law_445 C (by omega) (by omega) ho2.1 (fun _ _ => by rw [ho2.2]; unfold vp_in; decide) (fun _ _ => ?_) (fun _ _ _ => ?_) (fun _ e0 e1 => ?_) (fun e => absurd rfl e)
  · exact At.fg [_, _, _, _, _] (At.fg [_, _, _, _, _, _] (kk h3 _ _ (by omega) (by omega) hX))
  · exact At.fg [_, _, _, _, _] (At.fg [_, _, _, _, _, _] (kk h3 _ _ (by omega) (by omega) hX))
  · refine absurd ?_ e1
    rw [hAL, show (0 : Int32).toNatClampNeg = 0 from rfl, hq e0]
    exact lg_cmp_self _
set_option maxHeartbeats 1000000 in
theorem lw_fault (C : CmI X mL_law 10 601024 7293000 lwp) (hT : ExtT X.base X.s X.s.heap) (hL : LX h x t o sc sn SS j) (hj5 : j < 512) (hv1 : vp_in (x4 + 1) sn) (hv2 : vp_in (x4 + 2) sn) (hc : cells + 1027 ≤ 601024) (hs : slots + 3087 ≤ 7293000) (kk : KK X x t o sc sn SS j cells slots x4) : At X cells slots 698 (lsL sc x t o x4) [va_rf (some o), .int (SS ((x4 + 2).toNatClampNeg)), .int (SS ((x4 + 1).toNatClampNeg)), va_rf (some x)] h := by
  obtain ⟨E, nd, kn, ρ, A, W, r, c, s, g, f, k, n, m, hL, hj⟩ := hL
  refine st_callSH (pc := 698) (M := mL_fault) (hh := hhL) (idx := 105) (n := 4) (d := 7) (mc := 1) (ms := 6) (As := [va_rf (some x), .int (SS ((x4 + 1).toNatClampNeg)), .int (SS ((x4 + 2).toNatClampNeg)), va_rf (some o)]) (rest := []) C.1 hT C.2.2.1 C.2.2.2.2.2.2 ⟨wM_RL_105, wH_L_fault, wI_RL, by decide +kernel, by decide⟩ wT_L_fault dL_law_698 rfl (by decide) (Nat.le_of_ble_eq_true rfl) (ctL_fault hL.1.1 hL.1.2.1 (by omega) hL.2.2.2.1.1.1 hL.2.2.2.1.1.2 _ _) (by omega) (by omega) (fun v h1 hp => ?_)
  obtain ⟨z, rfl, hz⟩ := hp
  obtain ⟨hk, ⟨ho, hs1, hs2, hs3⟩, p9, hct, hfin⟩ := op_fault hL hj (by omega) hz
  refine sgL_law_701 C hs1 (by rw [hs2]; exact hv1) (by rw [hs2]; exact hv2) ?_
  rw [hs3]
  refine clL_law_716 (mc := 0) (ms := 0) C hct hk (by decide) (by omega) (by omega) (Nat.le_of_ble_eq_true rfl) (fun y h2 hy => ?_)
  obtain ⟨hk2, ⟨ho2, -⟩, hAL, p10, hct2, hfin2⟩ := hfin y h2 hy
  refine sgL_law_719 C ?_
  refine clL_law_722 (mc := 0) (ms := 0) C hct2 hk2 (by decide) (by omega) (by omega) (Nat.le_of_ble_eq_true rfl) (fun u h3 hu => ?_)
  obtain ⟨rfl, rfl, hq, hX⟩ := hfin2 u h3 hu
  refine sgL_law_725 C (by omega) (by omega) ho2.1 (fun _ _ => by rw [ho2.2]; unfold vp_in; decide) (fun _ _ => ?_) (fun _ _ _ => ?_) (fun _ e0 e1 => ?_) (fun e => absurd rfl e)
  · exact At.fg [_, _, _, _, _] (At.fg [_, _, _, _, _, _] (kk h3 _ _ (by omega) (by omega) hX))
  · exact At.fg [_, _, _, _, _] (At.fg [_, _, _, _, _, _] (kk h3 _ _ (by omega) (by omega) hX))
  · refine absurd ?_ e1
    rw [hAL, show (0 : Int32).toNatClampNeg = 0 from rfl, hq e0]
    exact lg_cmp_self _
end LWK
