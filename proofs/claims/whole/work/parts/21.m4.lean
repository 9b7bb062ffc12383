section M4
variable {h : Hp} {t : Nat} {ρ A : Nat → Nat} {m : Mo}
theorem fnd_F {F : Fl} {a i : Nat} {e : Bool} (h : fnd (gbs F a e) F.length 0 = some i) : i < F.length ∧ 64 < (gat F i).2 ∧ (gat F i).1 + (if e then (gat F i).2 else 0) = a := by
  obtain ⟨-, h2, h3, -⟩ := fnd_some h
  obtain ⟨p, hp, h4, h5⟩ := gbs_some h3
  rw [getD_of hp]
  exact ⟨by omega, h4, h5⟩
set_option maxHeartbeats 1000000 in
theorem ct9_release (hS : MS h t ρ A) (m : Mo) {F : Fl} (hF : FRel m F) {top a n : Nat} {j : Int32} (ht : m.1 905 = nI top) (hj : m.1 920 = j) (htl : top ≤ 3000) (hb : ∀ p ∈ F, p.1 + p.2 ≤ 3000) (han : a + n ≤ 3000) (hl : F.length < 799) :
    CtV mX9_release 2 0 0 [va_rf (some t), .int (nI a), .int (nI n)] (mput h t ρ m) (fun h' => ∃ m', h' = mput h t ρ m' ∧ FRel m' (sRel F top j a n).1 ∧ m'.1 905 = nI (sRel F top j a n).2.1 ∧ m'.1 920 = (sRel F top j a n).2.2 ∧ Msame [905, 915, 920] [913, 914] m m') := by
  refine enX9_release (fun X C => sm_release_0 C hS (fun c => ?_) (fun c => ?_))
  · rw [show (64 : Int32) = nI 64 from rfl, nI_ltI (by omega) (by omega)] at c
    -- the join to the right, and the end
    have right : ∀ (m1 : Mo) (q : Fl × Nat × Nat × Int32) (u : Int32), FRel m1 q.1 → m1.1 905 = nI top → m1.1 920 = q.2.2.2 → q.2.1 + q.2.2.1 ≤ 3000 → (∀ p ∈ q.1, p.1 + p.2 ≤ 3000) → q.1.length < 799 → Msame [905, 915, 920] [913, 914] m m1 → sRelR (sRelL F j a n) = sRelR q →
        At X 0 0 76 [some (va_rf (some t)), some (.int (nI a)), some (.int (nI n)), some (.int (nI q.2.1)), some (.int (nI q.2.2.1)), some (.int u)] [.int 0, .int (nI q.2.1 + nI q.2.2.1), va_rf (some t)] (mput h t ρ m1) := by
      intro m1 q u hF1 ht1 hj1 hq hb1 hl1 hM1 hR
      rw [nI_add]
      refine clX9_release_76 C (ct9_greatBeside hS m1 hF1 (a := q.2.1 + q.2.2.1) (by omega) false) (hS.k m1) (by decide) (Nat.le_refl _) (Nat.le_refl _) (Nat.le_of_ble_eq_true rfl) (fun r h' ⟨e1, e2⟩ => ?_)
      subst e1
      have hrel : sRel F top j a n = if (sRelR q).2.1 + (sRelR q).2.2.1 = top then ((sRelR q).1, (sRelR q).2.1, (sRelR q).2.2.2) else ((sRelR q).1 ++ [((sRelR q).2.1, (sRelR q).2.2.1)], top, (sRelR q).2.2.2) := by
        rw [← hR]
        simp only [sRel, if_neg (by omega : ¬ n ≤ 64)]
      cases hf : fnd (gbs q.1 (q.2.1 + q.2.2.1) false) q.1.length 0 with
      | none =>
        rw [hf] at e2
        have hq2 : sRelR q = q := by simp [sRelR, hf]
        rw [hq2] at hrel
        refine sm_release_79 C hS (Nat.le_refl _) (Nat.le_refl _) (fun c => absurd e2 c) (fun _ c2 => ?_) (fun _ c2 => ?_) (fun c => absurd e2 c)
        · rw [ht1, nI_add, nI_eq (by omega) (by omega)] at c2
          rw [if_neg c2] at hrel
          refine clX9_release_138 C (ct9_addFree hS m1 hF1 hl1 (by omega) (by omega)) (hS.k m1) (by decide) (Nat.le_refl _) (Nat.le_refl _) (Nat.le_of_ble_eq_true rfl) (fun h' ⟨m2, e3, hF2, hM2⟩ => ?_)
          subst e3
          refine sm_release_141 C hS (Nat.le_refl _) (Nat.le_refl _) ⟨m2, rfl, ?_, ?_, ?_, hM1.tr (hM2.up (by decide) (by decide))⟩
          · rw [hrel]; exact hF2
          · rw [hrel, hM2.1 905 (by decide)]; exact ht1
          · rw [hrel, hM2.1 920 (by decide)]; exact hj1
        · rw [ht1, nI_add, nI_eq (by omega) (by omega)] at c2
          rw [if_pos c2] at hrel
          refine ⟨_, rfl, ?_, ?_, ?_, hM1.tr ⟨fun g hg => up1_n _ _ (fun e => hg (by rw [e]; decide)), fun g hg => rfl⟩⟩
          · rw [hrel]; exact hF1.same (Is := [905]) (Rs := []) ⟨fun g hg => up1_n _ _ (by simpa using hg), fun g _ => rfl⟩ (by decide) (by decide) (by decide)
          · rw [hrel]; simp [up1]
          · rw [hrel]; simp [up1, hj1]
      | some i =>
        rw [hf] at e2
        have e2 : r = nI i := e2
        subst e2
        obtain ⟨i1, i2, i3⟩ := fnd_F hf
        obtain ⟨g1, g2, g3, g4⟩ := hF1.at i1
        have hcl : (nI i).toNatClampNeg = i := nI_clamp (by omega)
        have hbi := hb1 (gat q.1 i) (by
          have hp : q.1[i]? = some q.1[i] := List.getElem?_eq_getElem i1
          rw [getD_of hp]; exact List.getElem_mem i1)
        simp only [Bool.false_eq_true, if_false, Nat.add_zero] at i3
        have hq2 : sRelR q = (q.1.eraseIdx i, q.2.1, q.2.2.1 + (gat q.1 i).2, q.2.2.2 + 1) := by simp [sRelR, hf]
        rw [hq2] at hrel
        refine sm_release_79 C hS (Nat.le_refl _) (Nat.le_refl _) (fun _ => vin (by have := hF1.2.1; omega)) (fun c => absurd c (nI_m1 (by have := hF1.2.1; omega))) (fun c => absurd c (nI_m1 (by have := hF1.2.1; omega))) (fun _ => ?_)
        rw [hcl, g2, nI_add]
        refine clX9_release_102 C (ct9_takeFree hS m1 hF1 i1) (hS.k m1) (by decide) (Nat.le_refl _) (Nat.le_refl _) (Nat.le_of_ble_eq_true rfl) (fun h' ⟨m2, e3, hF2, hM2⟩ => ?_)
        subst e3
        have hlen : (q.1.eraseIdx i).length < 799 := by have := List.length_eraseIdx_le q.1 i; omega
        refine sm_release_105 C hS (Nat.le_refl _) (Nat.le_refl _) (fun c2 => ?_) (fun c2 => ?_)
        · rw [hM2.1 905 (by decide), ht1, nI_add, nI_eq (by omega) (by omega)] at c2
          rw [if_neg c2] at hrel
          have hF3 : FRel (up1 m2.1 920 (m2.1 920 + 1), m2.2) (q.1.eraseIdx i) := hF2.same (Is := [920]) (Rs := []) ⟨fun g hg => up1_n _ _ (by simpa using hg), fun g _ => rfl⟩ (by decide) (by decide) (by decide)
          refine clX9_release_138 C (ct9_addFree hS _ hF3 hlen (by omega) (by omega)) (hS.k _) (by decide) (Nat.le_refl _) (Nat.le_refl _) (Nat.le_of_ble_eq_true rfl) (fun h' ⟨m3, e4, hF4, hM4⟩ => ?_)
          subst e4
          refine sm_release_141 C hS (Nat.le_refl _) (Nat.le_refl _) ⟨m3, rfl, ?_, ?_, ?_, ?_⟩
          · rw [hrel]; exact hF4
          · rw [hrel, hM4.1 905 (by decide)]
            simp [up1, hM2.1 905 (by decide), ht1]
          · rw [hrel, hM4.1 920 (by decide)]
            simp [up1, hM2.1 920 (by decide), hj1]
          · exact (hM1.tr (hM2.up (by decide) (by decide))).tr (Msame.tr (m' := (up1 m2.1 920 (m2.1 920 + 1), m2.2)) ⟨fun g hg => up1_n _ _ (fun e => hg (by rw [e]; decide)), fun g _ => rfl⟩ (hM4.up (by decide) (by decide)))
        · rw [hM2.1 905 (by decide), ht1, nI_add, nI_eq (by omega) (by omega)] at c2
          rw [if_pos c2] at hrel
          refine ⟨_, rfl, ?_, ?_, ?_, (hM1.tr (hM2.up (by decide) (by decide))).tr ⟨fun g hg => (up1_n _ _ (fun e => hg (by rw [e]; decide))).trans (up1_n _ _ (fun e => hg (by rw [e]; decide))), fun g hg => rfl⟩⟩
          · rw [hrel]; exact hF2.same (Is := [905, 920]) (Rs := []) ⟨fun g hg => by simp only [List.mem_cons, List.not_mem_nil, or_false, not_or] at hg; exact (up1_n _ _ hg.1).trans (up1_n _ _ hg.2), fun g _ => rfl⟩ (by decide) (by decide) (by decide)
          · rw [hrel]; simp [up1]
          · rw [hrel]; simp [up1, hM2.1 920 (by decide), hj1]
    refine clX9_release_23 C (ct9_greatBeside hS m hF (a := a) (by omega) true) (hS.k m) (by decide) (Nat.le_refl _) (Nat.le_refl _) (Nat.le_of_ble_eq_true rfl) (fun r h' ⟨e1, e2⟩ => ?_)
    subst e1
    cases hf : fnd (gbs F a true) F.length 0 with
    | none =>
      rw [hf] at e2
      have hq : sRelL F j a n = (F, a, n, j) := by simp [sRelL, hf]
      refine sm_release_26 C hS (fun c => absurd e2 c) (fun _ => ?_) (fun c => absurd e2 c)
      exact right m (F, a, n, j) r hF ht hj han hb hl (Msame.rf _ _ _) (by rw [hq])
    | some i =>
      rw [hf] at e2
      have e2 : r = nI i := e2
      subst e2
      obtain ⟨i1, i2, i3⟩ := fnd_F hf
      obtain ⟨g1, g2, g3, g4⟩ := hF.at i1
      have hcl : (nI i).toNatClampNeg = i := nI_clamp (by omega)
      simp only [if_true] at i3
      have hq : sRelL F j a n = (F.eraseIdx i, (gat F i).1, n + (gat F i).2, j + 1) := by simp [sRelL, hf]
      refine sm_release_26 C hS (fun _ => vin (by omega)) (fun c => absurd c (nI_m1 (by omega))) (fun _ => ?_)
      rw [hcl, g1, g2, nI_add]
      refine clX9_release_57 C (ct9_takeFree hS m hF i1) (hS.k m) (by decide) (Nat.le_refl _) (Nat.le_refl _) (Nat.le_of_ble_eq_true rfl) (fun h' ⟨m2, e3, hF2, hM2⟩ => ?_)
      subst e3
      refine sm_release_60 C hS ?_
      have hM3 : Msame [905, 915, 920] [913, 914] m (up1 m2.1 920 (m2.1 920 + 1), m2.2) := (hM2.up (by decide) (by decide)).tr ⟨fun g hg => up1_n _ _ (fun e => hg (by rw [e]; decide)), fun g _ => rfl⟩
      refine right _ (F.eraseIdx i, (gat F i).1, n + (gat F i).2, j + 1) _ (hF2.same (Is := [920]) (Rs := []) ⟨fun g hg => up1_n _ _ (by simpa using hg), fun g _ => rfl⟩ (by decide) (by decide) (by decide)) ?_ ?_ ?_ ?_ ?_ hM3 (by rw [hq])
      · simp [up1, hM2.1 905 (by decide), ht]
      · simp [up1, hM2.1 920 (by decide), hj]
      · show (gat F i).1 + (n + (gat F i).2) ≤ 3000
        omega
      · exact fun p hp => hb p (List.mem_of_mem_eraseIdx hp)
      · have := List.length_eraseIdx_le F i
        show (F.eraseIdx i).length < 799
        omega
  · rw [show (64 : Int32) = nI 64 from rfl, nI_ltI (by omega) (by omega)] at c
    refine clX9_release_16 C (ct9_addFree hS m hF hl (by omega) (by omega)) (hS.k m) (by decide) (Nat.le_refl _) (Nat.le_refl _) (Nat.le_of_ble_eq_true rfl) (fun h' ⟨m2, e3, hF2, hM2⟩ => ?_)
    subst e3
    have hrel : sRel F top j a n = (F ++ [(a, n)], top, j) := by simp [sRel, show n ≤ 64 by omega]
    refine sm_release_19 C hS (Nat.le_refl _) (Nat.le_refl _) ⟨m2, rfl, ?_, ?_, ?_, hM2.up (by decide) (by decide)⟩
    · rw [hrel]; exact hF2
    · rw [hrel, hM2.1 905 (by decide)]; exact ht
    · rw [hrel, hM2.1 920 (by decide)]; exact hj
end M4
