theorem sLong_wait {B : List Blk} : ∀ {k b : Nat}, sLong B k = some b → (bat B b).2.2.2.2 ≠ 0
  | 0, b, h => by cases h
  | k + 1, b, h => by
    rw [sLong] at h
    have ih := fun x (hx : sLong B k = some x) => sLong_wait hx
    split at h
    · exact ih b h
    · rename_i h0
      cases hb : sLong B k with
      | none => rw [hb] at h; simp at h; subst h; exact h0
      | some x =>
        rw [hb] at h
        simp only at h
        split at h
        · cases h; exact ih _ hb
        · cases h; exact h0
theorem sGo_live {s s' : St} (hg : sGo s = some s') : ∀ b ∈ s.1, b.2.2.2.2 = 0 → b ∈ s'.1 := by
  unfold sGo at hg
  cases hb : sLong s.1 s.1.length with
  | none => rw [hb] at hg; cases hg
  | some i =>
    rw [hb] at hg
    cases hg
    intro b hm h0
    have hp := sDrop_perm (sLong_lt s.1 hb)
    rcases List.mem_cons.mp (hp.mem_iff.mp hm) with rfl | h1
    · exact absurd h0 (sLong_wait hb)
    · exact h1
theorem sGo_sub {s s' : St} (hg : sGo s = some s') : ∀ b ∈ s'.1, b ∈ s.1 := by
  unfold sGo at hg
  cases hb : sLong s.1 s.1.length with
  | none => rw [hb] at hg; cases hg
  | some i =>
    rw [hb] at hg
    cases hg
    intro b hm
    exact (sDrop_perm (sLong_lt s.1 hb)).mem_iff.mpr (List.mem_cons_of_mem _ hm)
theorem sFind_B {W c : Nat} {s s' : St} {o : Option Nat} (hf : sFind W s c = (o, s')) : s'.1 = s.1 := by
  unfold sFind at hf
  split at hf
  · split at hf <;> (cases hf; rfl)
  · split at hf <;> (cases hf; rfl)
set_option maxHeartbeats 1000000 in
theorem sLoop_B {W c : Nat} : ∀ (k : Nat) (s : St) (o : Option Nat) (s' : St), sLoop W c k s = (o, s') → (∀ b ∈ s.1, b.2.2.2.2 = 0 → b ∈ s'.1) ∧ (∀ b ∈ s'.1, b ∈ s.1)
  | 0, s, o, s', h => by cases h; exact ⟨fun b h _ => h, fun b h => h⟩
  | k + 1, s, o, s', h => by
    rw [sLoop] at h
    cases hg : sGo s with
    | none => rw [hg] at h; cases h; exact ⟨fun b h _ => h, fun b h => h⟩
    | some s1 =>
      rw [hg] at h
      simp only at h
      cases hf : sFind W s1 c with
      | mk o2 s2 =>
        rw [hf] at h
        have e := sFind_B hf
        cases o2 with
        | some a =>
          cases h
          rw [e]
          exact ⟨sGo_live hg, sGo_sub hg⟩
        | none =>
          have ih := sLoop_B k s2 o s' h
          rw [e] at ih
          exact ⟨fun b hb h0 => ih.1 b (sGo_live hg b hb h0) h0, fun b hb => sGo_sub hg b (ih.2 b hb)⟩
theorem sSeek_B {W c : Nat} {s : St} {o : Option Nat} {s' : St} (h : sSeek W c s = (o, s')) : (∀ b ∈ s.1, b.2.2.2.2 = 0 → b ∈ s'.1) ∧ (∀ b ∈ s'.1, b ∈ s.1) := by
  unfold sSeek at h
  cases hf : sFind W s c with
  | mk o2 s2 =>
    rw [hf] at h
    have e := sFind_B hf
    cases o2 with
    | some a => cases h; rw [e]; exact ⟨fun b h _ => h, fun b h => h⟩
    | none =>
      have := sLoop_B _ s2 o s' h
      rw [e] at this
      exact this
/-- two blocks of one place are one -/
theorem geo_inj {B : List Blk} {F : Fl} {top i j : Nat} (hg : Geo (chB B ++ F) top) (hi : i < B.length) (hj : j < B.length) (h : (bat B i).1 = (bat B j).1) : i = j := by
  by_cases hij : i = j
  · exact hij
  · exfalso
    have h1 : (chB B ++ F)[i]? = some ((bat B i).1, (bat B i).2.1) := by
      rw [List.getElem?_append_left (by simp [chB]; exact hi), chB, List.getElem?_map, bat_get hi]; rfl
    have h2 : (chB B ++ F)[j]? = some ((bat B j).1, (bat B j).2.1) := by
      rw [List.getElem?_append_left (by simp [chB]; exact hj), chB, List.getElem?_map, bat_get hj]; rfl
    have hd := hg.two h1 h2 hij
    have g1 := hg.1 _ (List.mem_of_getElem? h1)
    have g2 := hg.1 _ (List.mem_of_getElem? h2)
    simp only [dj] at hd
    simp only at g1 g2
    omega
theorem lvIx_of {B : List Blk} {F : Fl} {top r i : Nat} {x : Int32} (hg : Geo (chB B ++ F) top) (ht : top ≤ 3000) (hr : r ≤ 8) (hi : i < B.length) (hx : nI ((bat B i).1 + r) = x) (h0 : (bat B i).2.2.2.2 = 0) : lvIx B r x = some i := by
  have hch : ∀ q, q < B.length → (bat B q).1 + (bat B q).2.1 ≤ 3000 := fun q hq => by
    have := hg.1 ((bat B q).1, (bat B q).2.1) (List.mem_append_left _ (by rw [chB]; exact List.mem_map.mpr ⟨_, List.mem_of_getElem? (bat_get hq), rfl⟩))
    simp only at this
    omega
  have : stIx B r x = some i := by
    refine fnd_uniq ⟨by omega, by omega⟩ (by simp [hx]) (fun q h1 h2 h3 => ?_)
    simp only [decide_eq_true_eq] at h3
    have hq : q < B.length := by omega
    have e : nI ((bat B q).1 + r) = nI ((bat B i).1 + r) := h3.trans hx.symm
    have c1 := hch q hq
    have c2 := hch i hi
    rw [nI_eq (by omega) (by omega)] at e
    exact geo_inj hg hq hi (by omega)
  simp [lvIx, this, h0]
def BW (r : Nat) (B : List Blk) : Prop := ∀ b ∈ B, 1 ≤ b.2.2.1 ∧ b.2.2.1 + 2 * r ≤ b.2.1
section M10
variable {h : Hp} {t : Nat} {ρ A : Nat → Nat} {m : Mo} {W r c : Nat} {s : St} {g f k : Nat}
def rzPost (W r c : Nat) (s : St) (g f k : Nat) (m : Mo) (x w : Int32) (h : Hp) (t : Nat) (ρ : Nat → Nat) : Int32 → Hp → Prop := fun y h' =>
  (¬ 1 ≤ w ∧ y = 0 ∧ h' = mput h t ρ (th0 m)) ∨
  (1 ≤ w ∧ lvIx s.1 r x = none ∧ y = -(knd s.1 r x) ∧ h' = mput h t ρ (flt (th0 m) k (knd s.1 r x) x)) ∨
  (∃ N b, w = nI N ∧ 1 ≤ N ∧ N < 2147483648 ∧ lvIx s.1 r x = some b ∧
    ((∃ s' m', sSeek W (cN N r) s = (none, s') ∧ y = 0 ∧ h' = mput h t ρ m' ∧ SRel m' s' ∧ Msame gI1 gR1 (th0 m) m') ∨
     (∃ a s' b2 m', sSeek W (cN N r) s = (some a, s') ∧ y = nI (a + r) ∧ h' = mput h t ρ m' ∧ b2 < s'.1.length + 1 ∧ bat (s'.1 ++ [(a, cN N r, N, g, 0)]) b2 = bat s.1 b ∧ lvIx (s'.1 ++ [(a, cN N r, N, g, 0)]) r x = some b2 ∧
        SRel m' (sTrim c (s'.1.length + 2) (setT (s'.1 ++ [(a, cN N r, N, g, 0)]) b2 (f + 1), s'.2)) ∧ m'.1 916 = nI (g + 1) ∧ m'.1 917 = nI (f + 1) ∧
        (∀ j, m'.2 904 j = if a + r ≤ j ∧ j < a + r + N then (if j < a + r + (bat s.1 b).2.2.1 then m.2 904 ((bat s.1 b).1 + r + (j - (a + r))) else 0) else m.2 904 j) ∧
        Msame (916 :: 917 :: gI1) (904 :: gR1) (th0 m) m')))
set_option maxHeartbeats 1000000 in
theorem ct9_resize (hS : MS h t ρ A) (m : Mo) (hR : MR m W r c s g f k) (hB : Bd W r c s g f k) (hBW : BW r s.1) (x w : Int32) : CtI mX9_resize 5 0 0 [va_rf (some t), .int x, .int w] (mput h t ρ m) (rzPost W r c s g f k m x w h t ρ) := by
  obtain ⟨a1, a2, a3, a4, a5, a6, a7⟩ := hR.th
  obtain ⟨b1, b2, b3, b4, b5, b6⟩ := id hB
  have h800 := a1.1.2.1
  refine enX9_resize (fun X C => sm_resize_0 C hS (Nat.le_refl _) (Nat.le_refl _) (fun c1 => ?_) (fun c1 => Or.inl ⟨c1, rfl, rfl⟩))
  obtain ⟨N, rfl, h1, h2⟩ := posN c1
  refine clX9_resize_14 C (ct9_liveAt hS (th0 m) a1.1 a3 x) (hS.k _) (by decide) (Nat.le_refl _) (Nat.le_refl _) (Nat.le_of_ble_eq_true rfl) (fun y h' ⟨e1, e2⟩ => ?_)
  subst e1
  cases hq : lvIx s.1 r x with
  | none =>
    rw [hq] at e2
    refine sm_resize_17 C hS (fun c1 => absurd e2 c1) (fun c1 => absurd e2 c1) (fun _ => ?_)
    refine clX9_resize_25 C (ct9_no hS (th0 m) a1.1 a3 a7 (by omega) x) (hS.k _) (by decide) (Nat.le_refl _) (Nat.le_refl _) (Nat.le_of_ble_eq_true rfl) (fun y h' ⟨e1, e2⟩ => ?_)
    subst e2; subst e1
    exact sm_resize_28 C hS (Nat.le_refl _) (Nat.le_refl _) (Or.inr (Or.inl ⟨c1, hq, rfl, rfl⟩))
  | some b =>
    rw [hq] at e2
    have e2 : y = nI b := e2
    subst e2
    obtain ⟨hbl, hbx, hb0⟩ := lvIx_lt hq
    obtain ⟨q1, q2, q3, q4, q5, q6, q7, q8, q9⟩ := a1.1.at hbl
    have hmem : bat s.1 b ∈ s.1 := List.mem_of_getElem? (bat_get hbl)
    have hbw := hBW _ hmem
    refine sm_resize_17 C hS (fun _ => vin (by omega)) (fun _ => ?_) (fun c1 => absurd c1 (nI_m1 (by omega)))
    rw [nI_clamp (by omega), q3]
    refine clX9_resize_40 C (ct9_give hS (th0 m) a1 b1 a2 a3 b2 a5 (by omega) ⟨h1, h2⟩) (hS.k _) (by decide) (Nat.le_refl _) (Nat.le_refl _) (Nat.le_of_ble_eq_true rfl) (fun y h' hp => ?_)
    rcases hp with ⟨s', m', e0, rfl, rfl, e3, e4⟩ | ⟨a, s', m', e0, rfl, rfl, e3, e4, e5, e6⟩
    · exact sm_resize_43 C hS (Nat.le_refl _) (Nat.le_refl _) (fun c1 => absurd rfl c1) (fun _ => Or.inr (Or.inr ⟨N, b, rfl, h1, h2, hq, Or.inl ⟨s', m', e0, rfl, rfl, e3, e4⟩⟩))
    · obtain ⟨c41, c42, c43⟩ := cN_4 N r b2.1
      obtain ⟨w1, w2, w3⟩ := (sSeek_ok c43 c41 b1 e0).2 a rfl
      have hsB := sSeek_B e0
      have hmem2 : bat s.1 b ∈ s'.1 := hsB.1 _ hmem hb0
      obtain ⟨i2, hi2⟩ := List.getElem?_of_mem hmem2
      have hi2l := (List.getElem?_eq_some_iff.mp hi2).1
      have hW3 := b1.2.2.2
      have hga := w1.1 (a, cN N r) List.mem_cons_self
      simp only at hga
      have hgb := w1.1 ((bat s.1 b).1, (bat s.1 b).2.1) (List.mem_cons_of_mem _ (List.mem_append_left _ (by rw [chB]; exact List.mem_map.mpr ⟨_, hmem2, rfl⟩)))
      simp only at hgb
      have hge := cN_ge (N := N) (r := r) (by omega)
      have hdj : dj (a, cN N r) ((bat s.1 b).1, (bat s.1 b).2.1) := by
        have := w1.2.1
        rw [List.pairwise_cons] at this
        exact this.1 _ (List.mem_append_left _ (by rw [chB]; exact List.mem_map.mpr ⟨_, hmem2, rfl⟩))
      simp only [dj] at hdj
      generalize hB' : s'.1 ++ [(a, cN N r, N, g, 0)] = B' at e3 ⊢
      have hG' : Geo (chB B' ++ s'.2.1) s'.2.2.1 := by
        subst hB'
        refine w1.perm ?_
        rw [chB, chB, List.map_append, List.append_assoc]
        exact List.perm_middle.symm
      have hbat2 : bat B' i2 = bat s.1 b := by
        subst hB'
        exact bat_of (by rw [List.getElem?_append_left hi2l]; exact hi2)
      have hi2' : i2 < B'.length := by subst hB'; simp; omega
      have hlv : lvIx B' r x = some i2 := lvIx_of hG' (by omega) b2.2 hi2' (by rw [hbat2]; exact hbx) (by rw [hbat2]; exact hb0)
      have hI' : SInv W (B', s'.2) := ⟨hG', w2, w3, hW3⟩
      have hlen' : s'.1.length + 1 = B'.length := by subst hB'; simp
      subst hbx
      refine sm_resize_43 C hS (Nat.le_refl _) (Nat.le_refl _) (fun _ => ?_) (fun c1 => absurd ((nI_eq (b := 0) (by omega) (by omega)).mp c1) (by omega))
      -- behind the copying
      have fin : ∀ (m2 : Mo) (z : Int32), m2.1 = m'.1 → (∀ q, q ≠ 904 → m2.2 q = m'.2 q) → (∀ j, m2.2 904 j = if a + r ≤ j ∧ j < a + r + N then (if j < a + r + (bat s.1 b).2.2.1 then m.2 904 ((bat s.1 b).1 + r + (j - (a + r))) else 0) else m.2 904 j) →
          At X 0 0 96 [some (va_rf (some t)), some (.int (nI ((bat s.1 b).1 + r))), some (.int (nI N)), some (.int (nI b)), some (.int (nI (bat s.1 b).2.2.1)), some (.int (nI (a + r))), some (.int z)] [.int (nI ((bat s.1 b).1 + r)), va_rf (some t), va_rf (some t)] (mput h t ρ m2) := by
        intro m2 z g1 g2 g3
        have hM2 : Msame [] [904] m' m2 := ⟨fun q _ => by rw [g1], fun q hq => g2 q (by simpa using hq)⟩
        have hs2 : SRel m2 (B', s'.2) := e3.same hM2 (by decide) (by decide)
        have hr2 : m2.1 901 = nI r := by rw [g1, e6.1 901 (by decide)]; exact a3
        have hc2 : m2.1 902 = nI c := by rw [g1, e6.1 902 (by decide)]; exact a4
        have hf2 : m2.1 917 = nI f := by rw [g1, e6.1 917 (by decide)]; exact a6
        refine clX9_resize_96 C (ct9_liveAt hS m2 hs2.1 hr2 _) (hS.k _) (by decide) (Nat.le_refl _) (Nat.le_refl _) (Nat.le_of_ble_eq_true rfl) (fun y h' ⟨e1, e2⟩ => ?_)
        subst e1
        simp only at e2
        rw [hlv] at e2
        have e2 : y = nI i2 := e2
        subst e2
        refine clX9_resize_99 C (ct9_setFree hS m2 hs2 hI' hc2 b3 hf2 (by omega) (by exact hi2')) (hS.k _) (by decide) (Nat.le_refl _) (Nat.le_refl _) (Nat.le_of_ble_eq_true rfl) (fun h' ⟨m3, e1, k1, k2, k3⟩ => ?_)
        subst e1
        refine sm_resize_102 C hS (Nat.le_refl _) (Nat.le_refl _) (Or.inr (Or.inr ⟨N, b, rfl, h1, h2, hq, Or.inr ⟨a, s', i2, m3, e0, rfl, rfl, by omega, by rw [hB']; exact hbat2, by rw [hB']; exact hlv, ?_, ?_, k2, ?_, ?_⟩⟩))
        · rw [hB']
          have : s'.1.length + 2 = B'.length + 1 := by omega
          rw [this]; exact k1
        · rw [k3.1 916 (by decide), g1]; exact e4
        · intro j
          rw [k3.2 904 (by decide)]
          exact g3 j
        · exact ((e6.up (by decide) (by decide)).tr (hM2.up (by decide) (by decide))).tr (k3.up (by decide) (by decide))
      have key : ∀ n i (m2 : Mo), i + n = N ∨ i + n = (bat s.1 b).2.2.1 → i ≤ N → i ≤ (bat s.1 b).2.2.1 → m2.1 = m'.1 → (∀ q, q ≠ 904 → m2.2 q = m'.2 q) → (∀ j, m2.2 904 j = if a + r ≤ j ∧ j < a + r + N then (if j < a + r + i then m.2 904 ((bat s.1 b).1 + r + (j - (a + r))) else 0) else m.2 904 j) →
          At X 0 0 55 [some (va_rf (some t)), some (.int (nI ((bat s.1 b).1 + r))), some (.int (nI N)), some (.int (nI b)), some (.int (nI (bat s.1 b).2.2.1)), some (.int (nI (a + r))), some (.int (nI i))] [] (mput h t ρ m2) := by
        intro n
        induction n with
        | zero =>
          intro i m2 hin hiN hiM g1 g2 g3
          have g4 : ∀ j, m2.2 904 j = if a + r ≤ j ∧ j < a + r + N then (if j < a + r + (bat s.1 b).2.2.1 then m.2 904 ((bat s.1 b).1 + r + (j - (a + r))) else 0) else m.2 904 j := by
            intro j
            rw [g3 j]
            by_cases hj : a + r ≤ j ∧ j < a + r + N
            · rw [if_pos hj, if_pos hj]
              by_cases hj2 : j < a + r + i
              · rw [if_pos hj2, if_pos (by omega)]
              · rw [if_neg hj2, if_neg (by omega)]
            · rw [if_neg hj, if_neg hj]
          refine sm_resize_55 C hS (fun c1 c2 => ?_) (fun c1 c2 => ?_) (fun _ => fin m2 _ g1 g2 g4) (fun _ _ => fin m2 _ g1 g2 g4) (fun c1 c2 => ?_)
          all_goals (rw [nI_leI (by omega) (by omega)] at c1 c2; omega)
        | succ n ih =>
          intro i m2 hin hiN hiM g1 g2 g3
          by_cases hend : N ≤ i ∨ (bat s.1 b).2.2.1 ≤ i
          · have g4 : ∀ j, m2.2 904 j = if a + r ≤ j ∧ j < a + r + N then (if j < a + r + (bat s.1 b).2.2.1 then m.2 904 ((bat s.1 b).1 + r + (j - (a + r))) else 0) else m.2 904 j := by
              intro j
              rw [g3 j]
              by_cases hj : a + r ≤ j ∧ j < a + r + N
              · rw [if_pos hj, if_pos hj]
                by_cases hj2 : j < a + r + i
                · rw [if_pos hj2, if_pos (by omega)]
                · rw [if_neg hj2, if_neg (by omega)]
              · rw [if_neg hj, if_neg hj]
            refine sm_resize_55 C hS (fun c1 c2 => ?_) (fun c1 c2 => ?_) (fun _ => fin m2 _ g1 g2 g4) (fun _ _ => fin m2 _ g1 g2 g4) (fun c1 c2 => ?_)
            all_goals (rw [nI_leI (by omega) (by omega)] at c1 c2; omega)
          · have z1 : (nI ((bat s.1 b).1 + r) + nI i).toNatClampNeg = (bat s.1 b).1 + r + i := by rw [nI_add]; exact nI_clamp (by omega)
            have z2 : (nI (a + r) + nI i).toNatClampNeg = a + r + i := by rw [nI_add]; exact nI_clamp (by omega)
            refine sm_resize_55 C hS (fun _ _ => by rw [nI_add]; exact vin (by omega)) (fun _ _ => by rw [nI_add]; exact vin (by omega)) (fun c1 => ?_) (fun _ c1 => ?_) (fun _ _ => ?_)
            · rw [nI_leI (by omega) (by omega)] at c1; omega
            · rw [nI_leI (by omega) (by omega)] at c1; omega
            · rw [z1, z2, nI_1]
              refine ih (i + 1) _ (by omega) (by omega) (by omega) g1 (fun q hq => ?_) (fun j => ?_)
              · funext z
                simp only [up2, if_neg hq]
                exact congrFun (g2 q hq) z
              · simp only [up2, if_true]
                have gsrc : m2.2 904 ((bat s.1 b).1 + r + i) = m.2 904 ((bat s.1 b).1 + r + i) := by
                  rw [g3, if_neg (by omega)]
                by_cases hj : j = a + r + i
                · subst hj
                  rw [if_pos rfl, gsrc, if_pos (by omega), if_pos (by omega), show a + r + i - (a + r) = i by omega]
                · rw [if_neg hj, g3]
                  by_cases hj1 : a + r ≤ j ∧ j < a + r + N
                  · rw [if_pos hj1, if_pos hj1]
                    by_cases hj2 : j < a + r + i
                    · rw [if_pos hj2, if_pos (by omega)]
                    · rw [if_neg hj2, if_neg (by omega)]
                  · rw [if_neg hj1, if_neg hj1]
      refine key N 0 m' (by omega) (by omega) (by omega) rfl (fun _ _ => rfl) (fun j => ?_)
      rw [e5 j]
      by_cases hj : a + r ≤ j ∧ j < a + r + N
      · rw [if_pos hj, if_pos hj, if_neg (by omega)]
      · rw [if_neg hj, if_neg hj]
        rfl
end M10
