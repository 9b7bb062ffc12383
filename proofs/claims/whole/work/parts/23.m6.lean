section M6
variable {h : Hp} {t : Nat} {ρ A : Nat → Nat} {m : Mo}
theorem BRel.at {B : List Blk} (hB : BRel m B) {i : Nat} (hi : i < B.length) : m.2 907 i = nI (bat B i).1 ∧ m.2 908 i = nI (bat B i).2.1 ∧ m.2 909 i = nI (bat B i).2.2.1 ∧ m.2 910 i = nI (bat B i).2.2.2.1 ∧ m.2 911 i = nI (bat B i).2.2.2.2 ∧ (bat B i).1 + (bat B i).2.1 ≤ 3000 ∧ (bat B i).2.2.1 ≤ 3000 ∧ (bat B i).2.2.2.1 ≤ 3000 ∧ (bat B i).2.2.2.2 ≤ 3000 := hB.2.2 i _ (bat_get hi)
theorem SRel.same {s : St} {m' : Mo} {Is Rs : List Nat} (hs : SRel m s) (hM : Msame Is Rs m m') (h1 : ∀ g ∈ [905, 906, 912, 915, 918, 919, 920], g ∉ Is) (h2 : ∀ g ∈ [907, 908, 909, 910, 911, 913, 914], g ∉ Rs) : SRel m' s := by
  obtain ⟨a1, a2, a3, a4, a5, a6, a7⟩ := hs
  refine ⟨a1.same hM (h1 _ (by decide)) (fun g hg => h2 g (by simp at hg ⊢; omega)), a2.same hM (h1 _ (by decide)) (h2 _ (by decide)) (h2 _ (by decide)), ?_, ?_, ?_, ?_, ?_⟩
  · rw [hM.1 _ (h1 905 (by decide))]; exact a3
  · rw [hM.1 _ (h1 906 (by decide))]; exact a4
  · rw [hM.1 _ (h1 919 (by decide))]; exact a5
  · rw [hM.1 _ (h1 920 (by decide))]; exact a6
  · rw [hM.1 _ (h1 918 (by decide))]; exact a7
set_option maxHeartbeats 1000000 in
theorem ct9_find (hS : MS h t ρ A) (m : Mo) {s : St} {W c : Nat} (hs : SRel m s) (hI : SInv W s) (hW : m.1 900 = nI W) (hc4 : 4 ≤ c) (hc : c ≤ 4000) (h4 : c % 4 = 0) :
    CtI mX9_find 3 0 0 [va_rf (some t), .int (nI c)] (mput h t ρ m) (fun r h' => r = oI (sFind W s c).1 ∧ ∃ m', h' = mput h t ρ m' ∧ SRel m' (sFind W s c).2 ∧ Msame [905, 906, 915, 919, 920] [913, 914] m m') := by
  obtain ⟨B, F, top, hi, sp, j, gone⟩ := s
  have hlen := hI.len
  have hfb := hI.fb
  obtain ⟨hg0, hI1, hI2, hI3⟩ := id hI
  obtain ⟨a1, a2, a3, a4, a5, a6, a7⟩ := id hs
  simp only at a1 a2 a3 a4 a5 a6 a7 hlen hfb hI1 hI2
  refine enX9_find (fun X C => sm_find_0 C hS ?_)
  refine clX9_find_2 C (ct9_fits hS m a2 hc) (hS.k m) (by decide) (Nat.le_refl _) (Nat.le_refl _) (Nat.le_of_ble_eq_true rfl) (fun r h' ⟨e1, e2⟩ => ?_)
  subst e1
  cases hq : sFits F c with
  | none =>
    rw [hq] at e2
    have hsub : nI W - nI top = nI (W - top) := pk_sub (by omega)
    refine sm_find_5 C hS (Nat.le_refl _) (Nat.le_refl _) (fun c => absurd e2 c) (fun c => absurd e2 c) (fun _ c1 c2 => ?_) (fun _ c1 c2 => ?_) (fun _ c1 => ?_)
    · rw [hW, a3, hsub, nI_leI (by omega) (by omega)] at c1
      rw [a3, a4, nI_add, nI_leI (by omega) (by omega)] at c2
      have hr : sFind W (B, F, top, hi, sp, j, gone) c = (some top, (B, F, top + c, hi, sp, j, gone)) := by simp [sFind, hq, c1, c2]
      rw [hr]
      refine ⟨a3, _, rfl, ⟨?_, ?_, ?_, ?_, ?_, ?_, ?_⟩, ?_⟩
      · exact a1.same (Is := [905, 906]) (Rs := []) ⟨fun g hg => by simp only [List.mem_cons, List.not_mem_nil, or_false, not_or] at hg; simp [up1, hg], fun _ _ => rfl⟩ (by decide) (by decide)
      · exact a2.same (Is := [905, 906]) (Rs := []) ⟨fun g hg => by simp only [List.mem_cons, List.not_mem_nil, or_false, not_or] at hg; simp [up1, hg], fun _ _ => rfl⟩ (by decide) (by decide) (by decide)
      · simp [up1, a3, nI_add]
      · simp [up1, a4]
      · simp [up1, a5]
      · simp [up1, a6]
      · simp [up1, a7]
      · exact ⟨fun g hg => by simp only [List.mem_cons, List.not_mem_nil, or_false, not_or] at hg; simp [up1, hg], fun _ _ => rfl⟩
    · rw [hW, a3, hsub, nI_leI (by omega) (by omega)] at c1
      rw [a3, a4, nI_add, nI_leI (by omega) (by omega)] at c2
      have hr : sFind W (B, F, top, hi, sp, j, gone) c = (some top, (B, F, top + c, top + c, sp, j, gone)) := by simp [sFind, hq, c1, c2]
      rw [hr]
      refine ⟨a3, _, rfl, ⟨?_, ?_, ?_, ?_, ?_, ?_, ?_⟩, ?_⟩
      · exact a1.same (Is := [905, 906]) (Rs := []) ⟨fun g hg => by simp only [List.mem_cons, List.not_mem_nil, or_false, not_or] at hg; simp [up1, hg], fun _ _ => rfl⟩ (by decide) (by decide)
      · exact a2.same (Is := [905, 906]) (Rs := []) ⟨fun g hg => by simp only [List.mem_cons, List.not_mem_nil, or_false, not_or] at hg; simp [up1, hg], fun _ _ => rfl⟩ (by decide) (by decide) (by decide)
      · simp [up1, a3, nI_add]
      · simp [up1, a3, nI_add]
      · simp [up1, a5]
      · simp [up1, a6]
      · simp [up1, a7]
      · exact ⟨fun g hg => by simp only [List.mem_cons, List.not_mem_nil, or_false, not_or] at hg; simp [up1, hg], fun _ _ => rfl⟩
    · rw [hW, a3, hsub, nI_leI (by omega) (by omega)] at c1
      have hr : sFind W (B, F, top, hi, sp, j, gone) c = (none, (B, F, top, hi, sp, j, gone)) := by simp [sFind, hq, c1]
      rw [hr]
      exact ⟨rfl, m, rfl, hs, Msame.rf _ _ _⟩
  | some f =>
    rw [hq] at e2
    have e2 : r = nI f := e2
    subst e2
    obtain ⟨f1, f2⟩ := sFits_ge hq
    obtain ⟨g1, g2, g3, g4⟩ := a2.at f1
    have hcl : (nI f).toNatClampNeg = f := nI_clamp (by omega)
    have hmem : gat F f ∈ F := List.mem_of_getElem? (gat_get f1)
    have hpf := hfb _ hmem
    refine sm_find_5 C hS (Nat.le_refl _) (Nat.le_refl _) (fun _ => vin (by omega)) (fun _ => ?_) (fun c => absurd c (nI_m1 (by omega))) (fun c => absurd c (nI_m1 (by omega))) (fun c => absurd c (nI_m1 (by omega)))
    rw [hcl, g1, g2]
    refine clX9_find_86 C (ct9_takeFree hS m a2 f1) (hS.k m) (by decide) (Nat.le_refl _) (Nat.le_refl _) (Nat.le_of_ble_eq_true rfl) (fun h' ⟨m2, e3, hF2, hM2⟩ => ?_)
    subst e3
    refine sm_find_89 C hS (Nat.le_refl _) (Nat.le_refl _) (fun c1 => ?_) (fun c1 => ?_)
    · rw [nI_leI (by omega) (by omega)] at c1
      have hr : sFind W (B, F, top, hi, sp, j, gone) c = (some (gat F f).1, (B, F.eraseIdx f, top, hi, sp, j, gone)) := by simp [sFind, hq, c1]
      rw [hr]
      refine ⟨rfl, m2, rfl, ⟨a1.same hM2 (by decide) (by decide), hF2, ?_, ?_, ?_, ?_, ?_⟩, hM2.up (by decide) (by decide)⟩
      · rw [hM2.1 905 (by decide)]; exact a3
      · rw [hM2.1 906 (by decide)]; exact a4
      · rw [hM2.1 919 (by decide)]; exact a5
      · rw [hM2.1 920 (by decide)]; exact a6
      · rw [hM2.1 918 (by decide)]; exact a7
    · rw [nI_leI (by omega) (by omega)] at c1
      rw [nI_add, pk_sub (by omega)]
      generalize hm3 : (up1 m2.1 919 (m2.1 919 + 1), m2.2) = m3
      have hM3 : Msame [919] [] m2 m3 := by subst hm3; exact ⟨fun g hg => up1_n _ _ (by simpa using hg), fun _ _ => rfl⟩
      have hlenF : (F.eraseIdx f).length < 799 := by have := List.length_eraseIdx_le F f; omega
      refine clX9_find_113 C (ct9_release hS m3 (F := F.eraseIdx f) (top := top) (j := j) (hF2.same hM3 (by decide) (by decide) (by decide)) ?_ ?_ (by omega) (fun p hp => hfb p (List.mem_of_mem_eraseIdx hp)) (by omega) hlenF) (hS.k _) (by decide) (Nat.le_refl _) (Nat.le_refl _) (Nat.le_of_ble_eq_true rfl) (fun h' ⟨m4, e4, hF4, ht4, hj4, hM4⟩ => ?_)
      · rw [hM3.1 905 (by decide), hM2.1 905 (by decide)]; exact a3
      · rw [hM3.1 920 (by decide), hM2.1 920 (by decide)]; exact a6
      subst e4
      have hM : Msame [905, 915, 919, 920] [913, 914] m m4 := ((hM2.up (by decide) (by decide)).tr (hM3.up (by decide) (by decide))).tr (hM4.up (by decide) (by decide))
      have hr : sFind W (B, F, top, hi, sp, j, gone) c = (some (gat F f).1, (B, (sRel (F.eraseIdx f) top j ((gat F f).1 + c) ((gat F f).2 - c)).1, (sRel (F.eraseIdx f) top j ((gat F f).1 + c) ((gat F f).2 - c)).2.1, hi, sp + 1, (sRel (F.eraseIdx f) top j ((gat F f).1 + c) ((gat F f).2 - c)).2.2, gone)) := by simp only [sFind, hq, if_neg c1]
      refine sm_find_116 C hS (Nat.le_refl _) (Nat.le_refl _) ?_
      rw [hr]
      refine ⟨rfl, m4, rfl, ⟨a1.same hM (by decide) (by decide), hF4, ht4, ?_, ?_, hj4, ?_⟩, hM.up (by decide) (by decide)⟩
      · rw [hM.1 906 (by decide)]; exact a4
      · rw [hM4.1 919 (by decide), ← hm3]
        simp [up1, hM2.1 919 (by decide), a5]
      · rw [hM.1 918 (by decide)]; exact a7
set_option maxHeartbeats 1000000 in
theorem ct9_longest (hS : MS h t ρ A) (m : Mo) {B : List Blk} (hB : BRel m B) : CtI mX9_longest 2 0 0 [va_rf (some t)] (mput h t ρ m) (fun r h' => h' = mput h t ρ m ∧ r = oI (sLong B B.length)) := by
  refine enX9_longest (fun X C => sm_longest_0 C hS ?_)
  have h1 := hB.1
  have h2 := hB.2.1
  have key : ∀ k i, i + k = B.length → At X 0 0 4 [some (va_rf (some t)), some (.int (oI (sLong B i))), some (.int (nI i))] [] (mput h t ρ m) := by
    intro k
    induction k with
    | zero =>
      intro i hi
      have hi : i = B.length := by omega
      subst hi
      exact sm_longest_4 C hS (Nat.le_refl _) (Nat.le_refl _) (fun _ => ⟨rfl, rfl⟩) (fun c => absurd ((li h1).mpr (by omega)) c)
    | succ k ih =>
      intro i hi
      have hlt : i < B.length := by omega
      have hcl : (nI i).toNatClampNeg = i := nI_clamp (by omega)
      obtain ⟨q1, q2, q3, q4, q5, q6, q7, q8, q9⟩ := hB.at hlt
      have next : ∀ o, sLong B (i + 1) = o → At X 0 0 4 [some (va_rf (some t)), some (.int (oI o)), some (.int (nI i + 1))] [] (mput h t ρ m) := fun o ho => by
        rw [nI_1, ← ho]; exact ih (i + 1) (by omega)
      have e : sLong B (i + 1) = _ := sLong.eq_2 B i
      refine sm_longest_4 C hS (Nat.le_refl _) (Nat.le_refl _) (fun c => absurd ((li h1).mp c) (by omega)) (fun _ => ?_)
      refine clX9_longest_14 C (ct9_isLive hS m (b := i) (by omega)) (hS.k m) (by decide) (Nat.le_refl _) (Nat.le_refl _) (Nat.le_of_ble_eq_true rfl) (fun r h' ⟨e1, e2⟩ => ?_)
      subst e1; subst e2
      have hz : m.2 911 i = 0 ↔ (bat B i).2.2.2.2 = 0 := by rw [q5]; exact nI_eq (b := 0) (by omega) (by omega)
      cases hb : sLong B i with
      | none =>
        rw [hb] at e
        refine sm_longest_17 C hS (fun _ c => absurd rfl c) (fun _ c => absurd rfl c) (fun c => ?_) (fun c _ => ?_) (fun _ c => absurd rfl c) (fun _ c => absurd rfl c)
        · have : (bat B i).2.2.2.2 = 0 := hz.mp (by by_cases hx : m.2 911 i = 0 <;> simp [hx] at c ⊢)
          exact next none (by rw [e, if_pos this])
        · have : ¬ (bat B i).2.2.2.2 = 0 := fun h0 => by rw [hz.mpr h0] at c; simp at c
          exact next (some i) (by rw [e, if_neg this])
      | some b =>
        rw [hb] at e
        have hbl := sLong_lt B hb
        obtain ⟨p1, p2, p3, p4, p5, p6, p7, p8, p9⟩ := hB.at (i := b) (by omega)
        have hcb : (nI b).toNatClampNeg = b := nI_clamp (by omega)
        have hm1 : ¬ nI b = -1 := nI_m1 (by omega)
        refine sm_longest_17 C hS (fun _ _ => vin (by omega)) (fun _ _ => vin (by omega)) (fun c => ?_) (fun _ c => absurd c hm1) (fun c _ c2 => ?_) (fun c _ c2 => ?_)
        · have : (bat B i).2.2.2.2 = 0 := hz.mp (by by_cases hx : m.2 911 i = 0 <;> simp [hx] at c ⊢)
          exact next (some b) (by rw [e, if_pos this])
        · have h0 : ¬ (bat B i).2.2.2.2 = 0 := fun h0 => by rw [hz.mpr h0] at c; simp at c
          simp (disch := omega) only [oI, hcl, hcb, q5, p5, nI_leI] at c2
          exact next (some b) (by rw [e, if_neg h0]; simp only [if_pos c2])
        · have h0 : ¬ (bat B i).2.2.2.2 = 0 := fun h0 => by rw [hz.mpr h0] at c; simp at c
          simp (disch := omega) only [oI, hcl, hcb, q5, p5, nI_leI] at c2
          exact next (some i) (by rw [e, if_neg h0]; simp only [if_neg c2])
  exact key B.length 0 (by omega)
set_option maxHeartbeats 1000000 in
theorem ct9_drop (hS : MS h t ρ A) (m : Mo) {B : List Blk} (hB : BRel m B) {b : Nat} (hb : b < B.length) : CtV mX9_drop 1 0 0 [va_rf (some t), .int (nI b)] (mput h t ρ m) (fun h' => ∃ m', h' = mput h t ρ m' ∧ BRel m' (sDrop B b) ∧ Msame [912] [907, 908, 909, 910, 911] m m') := by
  refine enX9_drop (fun X C => ?_)
  obtain ⟨h1, h2, h3⟩ := id hB
  have e1 : m.1 912 - 1 = nI (B.length - 1) := by rw [h1]; exact pk_sub (a := B.length) (b := 1) (by omega)
  have hcl : (nI b).toNatClampNeg = b := nI_clamp (by omega)
  have hcn : (nI (B.length - 1)).toNatClampNeg = B.length - 1 := nI_clamp (by omega)
  refine sm_drop_0 C hS (Nat.le_refl _) (Nat.le_refl _) (by rw [e1]; exact vin (by omega)) (vin (by omega)) ⟨_, rfl, ⟨?_, ?_, fun i x hx => ?_⟩, ?_, ?_⟩
  · simp [up1, e1, sDrop_len hb]
  · rw [sDrop_len hb]; omega
  · obtain ⟨i1, rfl⟩ := sDrop_get hb hx
    rw [e1, hcl, hcn]
    by_cases hib : i = b
    · subst hib
      have := hB.at (i := B.length - 1) (by omega)
      simp [up2, this]
    · have := hB.at (i := i) (by omega)
      simp [up2, hib, this]
  · exact fun g hg => up1_n _ _ (by simpa using hg)
  · intro g hg
    simp only [List.mem_cons, List.not_mem_nil, or_false, not_or] at hg
    funext j
    simp [up2, hg]
set_option maxHeartbeats 1000000 in
theorem ct9_oneGoes (hS : MS h t ρ A) (m : Mo) {s : St} {W : Nat} (hs : SRel m s) (hI : SInv W s) :
    CtI mX9_oneGoes 3 0 0 [va_rf (some t)] (mput h t ρ m) (fun r h' => (sGo s = none ∧ r = 0 ∧ h' = mput h t ρ m) ∨ ∃ s' m', sGo s = some s' ∧ r = 1 ∧ h' = mput h t ρ m' ∧ SRel m' s' ∧ Msame [905, 912, 915, 918, 920] [907, 908, 909, 910, 911, 913, 914] m m') := by
  obtain ⟨B, F, top, hi, sp, j, gone⟩ := s
  have hlen := hI.len
  have hfb := hI.fb
  obtain ⟨a1, a2, a3, a4, a5, a6, a7⟩ := id hs
  simp only at a1 a2 a3 a4 a5 a6 a7 hlen hfb
  refine enX9_oneGoes (fun X C => sm_oneGoes_0 C hS ?_)
  refine clX9_oneGoes_1 C (ct9_longest hS m a1) (hS.k m) (by decide) (Nat.le_refl _) (Nat.le_refl _) (Nat.le_of_ble_eq_true rfl) (fun r h' ⟨e1, e2⟩ => ?_)
  subst e1
  cases hq : sLong B B.length with
  | none =>
    rw [hq] at e2
    exact sm_oneGoes_4 C hS (Nat.le_refl _) (Nat.le_refl _) (fun c => absurd e2 c) (fun c => absurd e2 c) (fun _ => Or.inl ⟨by simp [sGo, hq], rfl, rfl⟩)
  | some b =>
    rw [hq] at e2
    have e2 : r = nI b := e2
    subst e2
    have hbl := sLong_lt B hq
    obtain ⟨p1, p2, p3, p4, p5, p6, p7, p8, p9⟩ := a1.at hbl
    have hcb : (nI b).toNatClampNeg = b := nI_clamp (by omega)
    refine sm_oneGoes_4 C hS (Nat.le_refl _) (Nat.le_refl _) (fun _ => vin (by omega)) (fun _ => ?_) (fun c => absurd c (nI_m1 (by omega)))
    rw [hcb, p1, p2]
    refine clX9_oneGoes_28 C (ct9_drop hS m a1 hbl) (hS.k m) (by decide) (Nat.le_refl _) (Nat.le_refl _) (Nat.le_of_ble_eq_true rfl) (fun h' ⟨m2, e3, hB2, hM2⟩ => ?_)
    subst e3
    refine sm_oneGoes_31 C hS ?_
    generalize hm3 : (up1 m2.1 918 (m2.1 918 + 1), m2.2) = m3
    have hM3 : Msame [918] [] m2 m3 := by subst hm3; exact ⟨fun g hg => up1_n _ _ (by simpa using hg), fun _ _ => rfl⟩
    refine clX9_oneGoes_44 C (ct9_release hS m3 (F := F) (top := top) (j := j) ((a2.same hM2 (by decide) (by decide) (by decide)).same hM3 (by decide) (by decide) (by decide)) ?_ ?_ (by omega) hfb (by omega) (by omega)) (hS.k _) (by decide) (Nat.le_refl _) (Nat.le_refl _) (Nat.le_of_ble_eq_true rfl) (fun h' ⟨m4, e4, hF4, ht4, hj4, hM4⟩ => ?_)
    · rw [hM3.1 905 (by decide), hM2.1 905 (by decide)]; exact a3
    · rw [hM3.1 920 (by decide), hM2.1 920 (by decide)]; exact a6
    subst e4
    have hM : Msame [905, 912, 915, 918, 920] [907, 908, 909, 910, 911, 913, 914] m m4 := ((hM2.up (by decide) (by decide)).tr (hM3.up (by decide) (by decide))).tr (hM4.up (by decide) (by decide))
    refine sm_oneGoes_47 C hS (Nat.le_refl _) (Nat.le_refl _) (Or.inr ⟨(sDrop B b, (sRel F top j (bat B b).1 (bat B b).2.1).1, (sRel F top j (bat B b).1 (bat B b).2.1).2.1, hi, sp, (sRel F top j (bat B b).1 (bat B b).2.1).2.2, gone + 1), m4, by simp only [sGo, hq], rfl, rfl, ⟨(hB2.same hM3 (by decide) (by decide)).same hM4 (by decide) (by decide), hF4, ht4, ?_, ?_, hj4, ?_⟩, hM⟩)
    · rw [hM.1 906 (by decide)]; exact a4
    · rw [hM.1 919 (by decide)]; exact a5
    · rw [hM4.1 918 (by decide), ← hm3]
      simp [up1, hM2.1 918 (by decide), a7]
def sWt (B : List Blk) : Nat → Nat
  | 0 => 0
  | k + 1 => sWt B k + (if (bat B k).2.2.2.2 = 0 then 0 else (bat B k).2.1)
theorem sWt_le (B : List Blk) : ∀ k, k ≤ B.length → sWt B k ≤ szs (chB (B.take k))
  | 0, _ => by simp [sWt]
  | k + 1, hk => by
    have ih := sWt_le B k (by omega)
    have e : B.take (k + 1) = B.take k ++ [bat B k] := by
      rw [List.take_succ, bat_get (by omega)]; rfl
    rw [sWt, e]
    simp only [szs, chB, List.map_append, List.map_cons, List.map_nil, List.sum_append, List.sum_cons, List.sum_nil] at ih ⊢
    split <;> omega
theorem szs_append (C D : Fl) : szs (C ++ D) = szs C + szs D := by simp [szs]
theorem sWt_bd {W : Nat} {s : St} (hI : SInv W s) : sWt s.1 s.1.length ≤ 3000 := by
  have h1 := sWt_le s.1 s.1.length (Nat.le_refl _)
  rw [List.take_length] at h1
  have h2 := hI.1.2.2
  rw [szs_append] at h2
  have h3 := hI.2
  omega
set_option maxHeartbeats 1000000 in
theorem ct9_waits (hS : MS h t ρ A) (m : Mo) {B : List Blk} (hB : BRel m B) : CtI mX9_waits 2 0 0 [va_rf (some t)] (mput h t ρ m) (fun r h' => h' = mput h t ρ m ∧ r = nI (sWt B B.length)) := by
  refine enX9_waits (fun X C => sm_waits_0 C hS ?_)
  have h1 := hB.1
  have h2 := hB.2.1
  have key : ∀ k i, i + k = B.length → At X 0 0 4 [some (va_rf (some t)), some (.int (nI (sWt B i))), some (.int (nI i))] [] (mput h t ρ m) := by
    intro k
    induction k with
    | zero =>
      intro i hi
      have hi : i = B.length := by omega
      subst hi
      exact sm_waits_4 C hS (Nat.le_refl _) (Nat.le_refl _) (fun _ => ⟨rfl, rfl⟩) (fun c => absurd ((li h1).mpr (by omega)) c)
    | succ k ih =>
      intro i hi
      have hlt : i < B.length := by omega
      have hcl : (nI i).toNatClampNeg = i := nI_clamp (by omega)
      obtain ⟨q1, q2, q3, q4, q5, q6, q7, q8, q9⟩ := hB.at hlt
      have next := ih (i + 1) (by omega)
      rw [← nI_1, sWt] at next
      refine sm_waits_4 C hS (Nat.le_refl _) (Nat.le_refl _) (fun c => absurd ((li h1).mp c) (by omega)) (fun _ => ?_)
      refine clX9_waits_15 C (ct9_isLive hS m (b := i) (by omega)) (hS.k m) (by decide) (Nat.le_refl _) (Nat.le_refl _) (Nat.le_of_ble_eq_true rfl) (fun r h' ⟨e1, e2⟩ => ?_)
      subst e1; subst e2
      have hz : m.2 911 i = 0 ↔ (bat B i).2.2.2.2 = 0 := by rw [q5]; exact nI_eq (b := 0) (by omega) (by omega)
      refine sm_waits_18 C hS (fun _ => vin (by omega)) (fun c => ?_) (fun c => ?_)
      · have h0 : ¬ (bat B i).2.2.2.2 = 0 := fun h0 => by rw [hz.mpr h0] at c; simp at c
        rw [if_neg h0] at next
        rw [hcl, q2, nI_add]
        exact next
      · have h0 : (bat B i).2.2.2.2 = 0 := hz.mp (by by_cases hx : m.2 911 i = 0 <;> simp [hx] at c ⊢)
        rw [if_pos h0] at next
        rw [Int32.add_zero]
        exact next
  exact key B.length 0 (by omega)
end M6
