def LR (m : Mo) (L : List Nat) (n : Nat) : Prop := m.1 932 = nI L.length ∧ L.length < 800 ∧ ∀ i o, L[i]? = some o → m.2 927 i = nI o ∧ o < n
/-- another lost block leads to it -/
def hdN (B : List Blk) (r : Nat) (M : Nat → Int32) (L : List Nat) (b : Nat) : Prop := ∃ o, o ∈ L ∧ ¬ o = b ∧ ∃ k, k < (bat B o).2.2.1 ∧ ldB B r (M ((bat B o).1 + r + k)) = some b
section M15
variable {h : Hp} {t : Nat} {ρ A : Nat → Nat} {m : Mo} {W r c : Nat} {s : St} {g f k : Nat}
set_option maxHeartbeats 1000000 in
theorem ct9_isHead (hS : MS h t ρ A) (m : Mo) {B : List Blk} (hB : BRel m B) (hr : m.1 901 = nI r) (hBW : BW r B) {L : List Nat} (hL : LR m L B.length) {b : Nat} (hb : b < B.length) : CtI mX9_isHead 4 0 0 [va_rf (some t), .int (nI b)] (mput h t ρ m) (fun y h' => h' = mput h t ρ m ∧ (y = 0 ∨ y = 1) ∧ (y = 0 ↔ hdN B r (m.2 904) L b)) := by
  have h2 := hB.2.1
  obtain ⟨l1, l2, l3⟩ := hL
  refine enX9_isHead (fun X C => sm_isHead_0 C hS ?_)
  have loop : ∀ n i, i + n = L.length → (∀ j o, j < i → L[j]? = some o → ¬ o = b → ∀ k, k < (bat B o).2.2.1 → ¬ ldB B r (m.2 904 ((bat B o).1 + r + k)) = some b) →
      At X 0 0 2 [some (va_rf (some t)), some (.int (nI b)), some (.int (nI i)), none, none] [] (mput h t ρ m) := by
    intro n
    induction n with
    | zero =>
      intro i hi j1
      have hi : i = L.length := by omega
      subst hi
      refine sm_isHead_2 C hS (Nat.le_refl _) (Nat.le_refl _) (fun c => absurd ((li l1).mpr (Nat.le_refl _)) c) (fun _ => ⟨rfl, Or.inr rfl, ?_⟩) (fun c => absurd ((li l1).mpr (Nat.le_refl _)) c)
      refine ⟨fun e => absurd e (by decide), fun ⟨o, ho, hob, k, hk, hld⟩ => ?_⟩
      obtain ⟨j, hj⟩ := List.getElem?_of_mem ho
      exact absurd hld (j1 j o (List.getElem?_eq_some_iff.mp hj).1 hj hob k hk)
    | succ n ih =>
      intro i hi j1
      have hlt : i < L.length := by omega
      obtain ⟨o, ho⟩ : ∃ o, L[i]? = some o := ⟨_, List.getElem?_eq_getElem hlt⟩
      obtain ⟨q1, q2⟩ := l3 i o ho
      have hco : (nI o).toNatClampNeg = o := nI_clamp (by omega)
      have qo := hB.at q2
      have hbw := bw_at hBW q2
      refine sm_isHead_2 C hS (Nat.le_refl _) (Nat.le_refl _) (fun _ => vin (by omega)) (fun c => absurd ((li l1).mp c) (by omega)) (fun _ => ?_)
      rw [nI_clamp (by omega), q1]
      have next : ∀ k, ((bat B o).2.2.1 ≤ k ∨ o = b) → (∀ k', k' < k → ¬ o = b → ¬ ldB B r (m.2 904 ((bat B o).1 + r + k')) = some b) → At X 0 0 2 [some (va_rf (some t)), some (.int (nI b)), some (.int (nI i + 1)), some (.int (nI o)), some (.int (nI k))] [] (mput h t ρ m) := by
        intro k hk j2
        refine At.fg [_, _, _] (At.fg [_, _, _, _] ?_)
        rw [nI_1]
        refine ih (i + 1) (by omega) (fun j o2 hj ho2 hob k2 hk2 => ?_)
        by_cases hji : j = i
        · subst hji
          rw [ho] at ho2; cases ho2
          rcases hk with hk | hk
          · exact j2 k2 (by omega) hob
          · exact absurd hk hob
        · exact j1 j o2 (by omega) ho2 hob k2 hk2
      have inner : ∀ n2 k, k + n2 = (bat B o).2.2.1 → (∀ k', k' < k → ¬ o = b → ¬ ldB B r (m.2 904 ((bat B o).1 + r + k')) = some b) → At X 0 0 20 [some (va_rf (some t)), some (.int (nI b)), some (.int (nI i)), some (.int (nI o)), some (.int (nI k))] [] (mput h t ρ m) := by
        intro n2
        induction n2 with
        | zero =>
          intro k hk j2
          have e0 : m.2 909 (nI o).toNatClampNeg ≤ nI k := by rw [hco, qo.2.2.1, nI_leI (by omega) (by omega)]; omega
          exact sm_isHead_20 C hS (vin (by omega)) (fun _ => next k (Or.inl (by omega)) j2) (fun c => absurd e0 c) (fun c => absurd e0 c)
        | succ n2 ih2 =>
          intro k hk j2
          refine sm_isHead_20 C hS (vin (by omega)) (fun c => ?_) (fun _ c => next k (Or.inr ((nI_eq (by omega) (by omega)).mp c)) j2) (fun _ c => ?_)
          · exfalso
            rw [hco, qo.2.2.1, nI_leI (by omega) (by omega)] at c; omega
          · have hob : ¬ o = b := fun e => c (by rw [e])
            refine clX9_isHead_43 C (ct9_start hS m (b := o) (by omega)) (hS.k _) (by decide) (Nat.le_refl _) (Nat.le_refl _) (Nat.le_of_ble_eq_true rfl) (fun y h' ⟨e1, e2⟩ => ?_)
            subst e1; subst e2
            rw [qo.1, hr, nI_add]
            refine sm_isHead_46 C hS (by rw [nI_add]; exact vin (by omega)) ?_
            rw [nI_add, nI_clamp (by omega)]
            refine clX9_isHead_50 C (ct9_leads hS m hB hr _) (hS.k _) (by decide) (Nat.le_refl _) (Nat.le_refl _) (Nat.le_of_ble_eq_true rfl) (fun y h' ⟨e1, e2⟩ => ?_)
            subst e1; subst e2
            have hiff : oI (ldB B r (m.2 904 ((bat B o).1 + r + k))) = nI b ↔ ldB B r (m.2 904 ((bat B o).1 + r + k)) = some b := by
              cases hq : ldB B r (m.2 904 ((bat B o).1 + r + k)) with
              | none =>
                refine ⟨fun e => ?_, fun e => by cases e⟩
                have e : (-1 : Int32) = nI b := e
                exact absurd e.symm (nI_m1 (by omega))
              | some d =>
                have hdl := (ldB_lt hq).1
                show nI d = nI b ↔ _
                rw [nI_eq (by omega) (by omega)]
                simp
            refine sm_isHead_53 C hS (Nat.le_refl _) (Nat.le_refl _) (fun c => ?_) (fun c => ⟨rfl, Or.inl rfl, ?_⟩)
            · rw [nI_1]
              refine ih2 (k + 1) (by omega) (fun k' hk' hob2 => ?_)
              by_cases hkk : k' = k
              · subst hkk; exact fun e => c (hiff.mpr e)
              · exact j2 k' (by omega) hob2
            · exact ⟨fun _ => ⟨o, List.mem_of_getElem? ho, hob, k, by omega, hiff.mp c⟩, fun _ => rfl⟩
      exact inner _ 0 (Nat.zero_add _) (fun k' hk' => by omega)
  exact loop L.length 0 (by omega) (fun j o hj => by omega)
/-- the lost blocks, by their chunks -/
def Lost (B : List Blk) (r : Nat) (M R : Nat → Int32) (n : Nat) (L : List Nat) : Prop := L.Pairwise (fun a b => (bat B a).1 < (bat B b).1) ∧ ∀ o, o ∈ L ↔ o < n ∧ (bat B o).2.2.2.2 = 0 ∧ ¬ Rch B r M R o
theorem ins_get (L : List Nat) (b k i : Nat) (hk : k ≤ L.length) : (L.take k ++ b :: L.drop k)[i]? = if i < k then L[i]? else if i = k then some b else L[i - 1]? := by
  by_cases h1 : i < k
  · rw [if_pos h1, List.getElem?_append_left (by rw [List.length_take]; omega), List.getElem?_take, if_pos h1]
  · have hl : (L.take k).length = k := by rw [List.length_take]; omega
    rw [if_neg h1, List.getElem?_append_right (by omega), hl]
    by_cases h2 : i = k
    · subst h2; simp
    · rw [if_neg h2]
      obtain ⟨j, hj⟩ : ∃ j, i - k = j + 1 := ⟨i - k - 1, by omega⟩
      rw [hj, List.getElem?_cons_succ, List.getElem?_drop]
      congr 1; omega
set_option maxHeartbeats 1000000 in
theorem ct9_leakScan (hS : MS h t ρ A) (m : Mo) {B : List Blk} (hB : BRel m B) (hr : m.1 901 = nI r) (hBW : BW r B) (hinj : ∀ i j, i < B.length → j < B.length → (bat B i).1 = (bat B j).1 → i = j) : CtI mX9_leakScan 5 0 0 [va_rf (some t)] (mput h t ρ m) (fun y h' => ∃ m' L, h' = mput h t ρ m' ∧ y = nI L.length ∧ L.length < 800 ∧ m'.1 932 = nI L.length ∧ Msame [903, 932] [926, 927, 928, 929, 930, 931] m m' ∧ Lost B r (m.2 904) (m.2 922) B.length L ∧ ∀ i o, L[i]? = some o → m'.2 928 i = nI ((bat B o).1 + r) ∧ m'.2 929 i = nI (bat B o).2.2.1 ∧ m'.2 930 i = nI (bat B o).2.2.2.1 ∧ (m'.2 931 i = 0 ∨ m'.2 931 i = 1) ∧ (m'.2 931 i = 0 ↔ hdN B r (m.2 904) L o)) := by
  have h2 := hB.2.1
  have hB0 : BRel (th0 m) B := hB.same (th0_same m) (by decide) (by decide)
  refine enX9_leakScan (fun X C => sm_leakScan_0 C hS ?_)
  refine clX9_leakScan_6 C (ct9_reaches hS (th0 m) hB0 hr hBW) (hS.k _) (by decide) (Nat.le_refl _) (Nat.le_refl _) (Nat.le_of_ble_eq_true rfl) (fun h' ⟨fl, e1, hfl⟩ => ?_)
  subst e1
  have hfl : ∀ i, i < B.length → (¬ fl i = 0 ↔ Rch B r (m.2 904) (m.2 922) i) := hfl
  refine sm_leakScan_9 C hS ?_
  generalize hm0 : (up1 (sR (th0 m) fl).1 932 0, (sR (th0 m) fl).2) = m0
  have hM0 : Msame [903, 932] [926] m m0 := by
    subst hm0
    refine ⟨fun g hg => ?_, fun g hg => ?_⟩
    · simp only [List.mem_cons, List.not_mem_nil, or_false, not_or] at hg
      simp [up1, sR, th0, hg]
    · exact (sR_same (th0 m) fl).2 g hg
  have hfl0 : m0.2 926 = fl := by subst hm0; rfl
  have h932 : m0.1 932 = 0 := by subst hm0; simp [up1]
  -- the rows at the end
  have tail : ∀ L : List Nat, L.length ≤ B.length → Lost B r (m.2 904) (m.2 922) B.length L → ∀ n i (m1 : Mo), i + n = L.length → LR m1 L B.length → Msame [903, 932] [926, 927, 928, 929, 930, 931] m m1 → (∀ j o, j < i → L[j]? = some o → m1.2 928 j = nI ((bat B o).1 + r) ∧ m1.2 929 j = nI (bat B o).2.2.1 ∧ m1.2 930 j = nI (bat B o).2.2.2.1 ∧ (m1.2 931 j = 0 ∨ m1.2 931 j = 1) ∧ (m1.2 931 j = 0 ↔ hdN B r (m.2 904) L o)) →
      At X 0 0 120 [some (va_rf (some t)), some (.int (nI i)), none] [] (mput h t ρ m1) := by
    intro L hLl hLo n
    induction n with
    | zero =>
      intro i m1 hi hL hM j1
      have hi : i = L.length := by omega
      subst hi
      refine sm_leakScan_120 C hS (Nat.le_refl _) (Nat.le_refl _) (fun c => absurd ((li hL.1).mpr (Nat.le_refl _)) c) (fun _ => ⟨m1, L, rfl, hL.1, hL.2.1, hL.1, hM, hLo, fun i o ho => j1 i o (List.getElem?_eq_some_iff.mp ho).1 ho⟩) (fun c => absurd ((li hL.1).mpr (Nat.le_refl _)) c)
    | succ n ih =>
      intro i m1 hi hL hM j1
      obtain ⟨l1, l2, l3⟩ := id hL
      have hlt : i < L.length := by omega
      obtain ⟨o, ho⟩ : ∃ o, L[i]? = some o := ⟨_, List.getElem?_eq_getElem hlt⟩
      obtain ⟨q1, q2⟩ := l3 i o ho
      have hco : (nI o).toNatClampNeg = o := nI_clamp (by omega)
      have hci : (nI i).toNatClampNeg = i := nI_clamp (by omega)
      have hB1 : BRel m1 B := hB.same hM (by decide) (by decide)
      have hr1 : m1.1 901 = nI r := (hM.1 901 (by decide)).trans hr
      have qo := hB1.at q2
      refine sm_leakScan_120 C hS (Nat.le_refl _) (Nat.le_refl _) (fun _ => vin (by omega)) (fun c => absurd ((li l1).mp c) (by omega)) (fun _ => ?_)
      rw [hci, q1]
      refine clX9_leakScan_140 C (ct9_start hS m1 (b := o) (by omega)) (hS.k _) (by decide) (Nat.le_refl _) (Nat.le_refl _) (Nat.le_of_ble_eq_true rfl) (fun y h' ⟨e1, e2⟩ => ?_)
      subst e1; subst e2
      refine sm_leakScan_143 C hS (vin (by omega)) (vin (by omega)) (by rw [hci, q1]; exact vin (by omega)) ?_
      rw [hci, q1, hco]
      generalize hm2 : (m1.1, up2 (up2 (up2 m1.2 928 i (m1.2 907 o + m1.1 901)) 929 i (m1.2 909 o)) 930 i (m1.2 910 o)) = m2
      have hM2 : Msame [] [928, 929, 930] m1 m2 := by
        subst hm2
        refine ⟨fun _ _ => rfl, fun g hg => ?_⟩
        simp only [List.mem_cons, List.not_mem_nil, or_false, not_or] at hg
        funext j; simp [up2, hg]
      have hM3 : Msame [903, 932] [926, 927, 928, 929, 930, 931] m m2 := hM.tr (hM2.up (by decide) (by decide))
      have hB2 : BRel m2 B := hB.same hM3 (by decide) (by decide)
      have hr2 : m2.1 901 = nI r := (hM3.1 901 (by decide)).trans hr
      have hL2 : LR m2 L B.length := ⟨(hM2.1 932 (by decide)).trans l1, l2, fun i o ho => by rw [hM2.2 927 (by decide)]; exact l3 i o ho⟩
      refine clX9_leakScan_190 C (ct9_isHead hS m2 hB2 hr2 hBW hL2 q2) (hS.k _) (by decide) (Nat.le_refl _) (Nat.le_refl _) (Nat.le_of_ble_eq_true rfl) (fun y h' ⟨e1, e2, e3⟩ => ?_)
      subst e1
      rw [hM3.2 904 (by decide)] at e3
      refine sm_leakScan_193 C hS (vin (by omega)) e2 ?_
      rw [hci, nI_1]
      have hM4 : Msame [] [931] m2 (m2.1, up2 m2.2 931 i y) := by
        refine ⟨fun _ _ => rfl, fun g hg => ?_⟩
        simp only [List.mem_cons, List.not_mem_nil, or_false] at hg
        funext j; simp [up2, hg]
      refine ih (i + 1) (m2.1, up2 m2.2 931 i y) (by omega) ⟨hL2.1, l2, fun i o ho => by rw [hM4.2 927 (by decide)]; exact hL2.2.2 i o ho⟩ (hM3.tr (hM4.up (by decide) (by decide))) (fun j o2 hj ho2 => ?_)
      by_cases hji : j = i
      · subst hji
        rw [ho] at ho2; cases ho2
        refine ⟨?_, ?_, ?_, ?_, ?_⟩
        · rw [hM4.2 928 (by decide), ← hm2]; simp [up2, qo.1, hr1, nI_add]
        · rw [hM4.2 929 (by decide), ← hm2]; simp [up2, qo.2.2.1]
        · rw [hM4.2 930 (by decide), ← hm2]; simp [up2, qo.2.2.2.1]
        · simpa [up2] using e2
        · simpa [up2] using e3
      · have := j1 j o2 (by omega) ho2
        have w : ∀ g, (up2 m2.2 931 i y) g j = m1.2 g j := by
          intro g
          subst hm2
          simp [up2, hji]
        simp only [w]
        exact this
  -- the list grows
  have grow : ∀ n b (L : List Nat) (m1 : Mo), b + n = B.length → L.length ≤ b → Lost B r (m.2 904) (m.2 922) b L → LR m1 L B.length → m1.2 926 = fl → Msame [903, 932] [926, 927] m m1 → At X 0 0 16 [some (va_rf (some t)), some (.int (nI b)), none] [] (mput h t ρ m1) := by
    intro n
    induction n with
    | zero =>
      intro b L m1 hb hLl hLo hL hf1 hM
      have hb : b = B.length := by omega
      subst hb
      have hB1 : BRel m1 B := hB.same hM (by decide) (by decide)
      refine sm_leakScan_16 C hS (fun _ => ?_) (fun c => absurd ((li hB1.1).mpr (Nat.le_refl _)) c)
      exact tail L hLl hLo L.length 0 m1 (by omega) hL (hM.up (by decide) (by decide)) (fun j o hj => by omega)
    | succ n ih =>
      intro b L m1 hb hLl hLo hL hf1 hM
      have hlt : b < B.length := by omega
      have hB1 : BRel m1 B := hB.same hM (by decide) (by decide)
      have hz := live_z hB1 hlt
      have hcb : (nI b).toNatClampNeg = b := nI_clamp (by omega)
      obtain ⟨l1, l2, l3⟩ := id hL
      refine sm_leakScan_16 C hS (fun c => absurd ((li hB1.1).mp c) (by omega)) (fun _ => ?_)
      refine clX9_leakScan_26 C (ct9_isLive hS m1 (b := b) (by omega)) (hS.k _) (by decide) (Nat.le_refl _) (Nat.le_refl _) (Nat.le_of_ble_eq_true rfl) (fun y h' ⟨e1, e2⟩ => ?_)
      subst e1; subst e2
      have skip : ((bat B b).2.2.2.2 = 0 → Rch B r (m.2 904) (m.2 922) b) → At X 0 0 16 [some (va_rf (some t)), some (.int (nI b + 1)), none] [] (mput h t ρ m1) := by
        intro hno
        rw [nI_1]
        refine ih (b + 1) L m1 (by omega) (by omega) ⟨hLo.1, fun o => ⟨fun ho => ?_, fun ⟨z1, z2, z3⟩ => ?_⟩⟩ hL hf1 hM
        · obtain ⟨z1, z2, z3⟩ := (hLo.2 o).mp ho
          exact ⟨by omega, z2, z3⟩
        · by_cases hob : o = b
          · subst hob; exact absurd (hno z2) z3
          · exact (hLo.2 o).mpr ⟨by omega, z2, z3⟩
      refine sm_leakScan_29 C hS (fun _ => vin (by omega)) (fun c => skip (fun hl => ?_)) (fun c c' => ?_) (fun c c' => skip (fun _ => ?_))
      · exfalso; rw [hz.mpr hl] at c; simp at c
      · have hl : (bat B b).2.2.2.2 = 0 := hz.mp (by by_cases hx : m1.2 911 b = 0 <;> simp [hx] at c ⊢)
        rw [hcb, hf1] at c'
        have hnr : ¬ Rch B r (m.2 904) (m.2 922) b := fun hR => (hfl b hlt).mpr hR c'
        rw [l1]
        have hLb : ∀ i o, L[i]? = some o → o < b := fun i o ho => ((hLo.2 o).mp (List.mem_of_getElem? ho)).1
        -- the place is sought from behind
        have ins : ∀ k (m2 : Mo), k ≤ L.length → m2.1 932 = nI L.length → m2.2 926 = fl → Msame [] [927] m1 m2 → (∀ j o, j < k → L[j]? = some o → m2.2 927 j = nI o) → (∀ j o, k ≤ j → L[j]? = some o → m2.2 927 (j + 1) = nI o ∧ (bat B b).1 < (bat B o).1) →
            At X 0 0 49 [some (va_rf (some t)), some (.int (nI b)), some (.int (nI k))] [] (mput h t ρ m2) := by
          intro k
          have fin : ∀ k (m2 : Mo), k ≤ L.length → m2.1 932 = nI L.length → m2.2 926 = fl → Msame [] [927] m1 m2 → (∀ j o, j < k → L[j]? = some o → m2.2 927 j = nI o) → (∀ j o, k ≤ j → L[j]? = some o → m2.2 927 (j + 1) = nI o ∧ (bat B b).1 < (bat B o).1) → (∀ j o, j < k → L[j]? = some o → (bat B o).1 < (bat B b).1) →
              At X 0 0 16 [some (va_rf (some t)), some (.int (nI b + 1)), some (.int (nI k))] [] (mput h t ρ (up1 m2.1 932 ((m2.1 932) + 1), up2 m2.2 927 (nI k).toNatClampNeg (nI b))) := by
            intro k m2 hk g1 g2 hM2 g3 g4 g5
            refine At.fg [_, _] ?_
            rw [nI_1, nI_clamp (by omega), g1, nI_1]
            have hge := fun i => ins_get L b k i hk
            have hln : (L.take k ++ b :: L.drop k).length = L.length + 1 := by simp; omega
            have hM5 : Msame [932] [927] m1 (up1 m2.1 932 (nI (L.length + 1)), up2 m2.2 927 k (nI b)) := by
              refine ⟨fun g hg => ?_, fun g hg => ?_⟩
              · simp only [List.mem_cons, List.not_mem_nil, or_false] at hg
                rw [← hM2.1 g (by simp)]; simp [up1, hg]
              · rw [← hM2.2 g hg]
                simp only [List.mem_cons, List.not_mem_nil, or_false] at hg
                funext j; simp [up2, hg]
            refine ih (b + 1) (L.take k ++ b :: L.drop k) _ (by omega) (by omega) ⟨?_, fun o => ?_⟩ ⟨?_, by omega, fun i o ho => ?_⟩ ?_ (hM.tr (hM5.up (by decide) (by decide)))
            · rw [List.pairwise_append]
              have hp := hLo.1
              refine ⟨hp.sublist (List.take_sublist _ _), ?_, ?_⟩
              · rw [List.pairwise_cons]
                refine ⟨fun o ho => ?_, hp.sublist (List.drop_sublist _ _)⟩
                obtain ⟨j, hj⟩ := List.getElem?_of_mem ho
                rw [List.getElem?_drop] at hj
                exact (g4 (k + j) o (by omega) hj).2
              · intro a ha o ho
                obtain ⟨j, hj⟩ := List.getElem?_of_mem ha
                rw [List.getElem?_take] at hj
                split at hj
                · rename_i hjk
                  have ga := g5 j a hjk hj
                  rcases List.mem_cons.mp ho with rfl | ho
                  · exact ga
                  · obtain ⟨j2, hj2⟩ := List.getElem?_of_mem ho
                    rw [List.getElem?_drop] at hj2
                    have := (g4 (k + j2) o (by omega) hj2).2
                    omega
                · cases hj
            · have hmem : o ∈ L.take k ++ b :: L.drop k ↔ o = b ∨ o ∈ L := by
                rw [List.mem_append, List.mem_cons]
                constructor
                · rintro (h | h | h)
                  · exact Or.inr (List.mem_of_mem_take h)
                  · exact Or.inl h
                  · exact Or.inr (List.mem_of_mem_drop h)
                · rintro (h | h)
                  · exact Or.inr (Or.inl h)
                  · rw [← List.take_append_drop k L, List.mem_append] at h
                    rcases h with h | h
                    · exact Or.inl h
                    · exact Or.inr (Or.inr h)
              rw [hmem]
              constructor
              · rintro (rfl | h)
                · exact ⟨by omega, hl, hnr⟩
                · obtain ⟨z1, z2, z3⟩ := (hLo.2 o).mp h
                  exact ⟨by omega, z2, z3⟩
              · rintro ⟨z1, z2, z3⟩
                by_cases hob : o = b
                · exact Or.inl hob
                · exact Or.inr ((hLo.2 o).mpr ⟨by omega, z2, z3⟩)
            · rw [hln]; simp [up1]
            · rw [hge] at ho
              by_cases z1 : i < k
              · rw [if_pos z1] at ho
                refine ⟨?_, (l3 i o ho).2⟩
                rw [← g3 i o z1 ho]; simp [up2, show ¬ i = k by omega]
              · rw [if_neg z1] at ho
                by_cases z2 : i = k
                · rw [if_pos z2] at ho
                  cases ho
                  exact ⟨by simp [up2, z2], hlt⟩
                · rw [if_neg z2] at ho
                  have w := (g4 (i - 1) o (by omega) ho).1
                  rw [show i - 1 + 1 = i by omega] at w
                  exact ⟨by rw [← w]; simp [up2, z2], (l3 (i - 1) o ho).2⟩
            · rw [← g2]; funext j; simp [up2]
          induction k with
          | zero =>
            intro m2 hk g1 g2 hM2 g3 g4
            have z0 : ¬ ¬ (nI 0 ≤ (0 : Int32)) := by decide
            refine sm_leakScan_49 C hS (fun _ => vin (by omega)) (fun c => absurd c z0) (fun c => absurd c z0) (fun c => absurd c z0) (fun c => absurd c z0) (fun c => absurd c z0) (fun c => absurd c z0) (fun _ => ?_) (fun c => absurd c z0) (fun c => absurd c z0)
            exact fin 0 m2 hk g1 g2 hM2 g3 g4 (fun j o hj => by omega)
          | succ k ihk =>
            intro m2 hk g1 g2 hM2 g3 g4
            have z0 : ¬ (nI (k + 1) ≤ (0 : Int32)) := by
              rw [show (0 : Int32) = nI 0 from rfl, nI_leI (by omega) (by omega)]; omega
            have hp1 : nI (k + 1) - 1 = nI k := nI_pred k
            have hck : (nI k).toNatClampNeg = k := nI_clamp (by omega)
            have hck1 : (nI (k + 1)).toNatClampNeg = k + 1 := nI_clamp (by omega)
            obtain ⟨o, ho⟩ : ∃ o, L[k]? = some o := ⟨_, List.getElem?_eq_getElem (by omega)⟩
            have qo1 := g3 k o (by omega) ho
            have qol := (l3 k o ho).2
            have hobn := hLb k o ho
            have hco : (nI o).toNatClampNeg = o := nI_clamp (by omega)
            have hB2 : BRel m2 B := hB1.same hM2 (by decide) (by decide)
            have e907 : m2.2 907 (m2.2 927 (nI (k + 1) - 1).toNatClampNeg).toNatClampNeg ≤ m2.2 907 (nI b).toNatClampNeg ↔ (bat B o).1 ≤ (bat B b).1 := by
              have b1 := hB2.at qol
              have b2 := hB2.at hlt
              rw [hp1, hck, qo1, hco, hcb, b1.1, b2.1, nI_leI (by omega) (by omega)]
            refine sm_leakScan_49 C hS (fun c => absurd c z0) (fun _ => by rw [hp1]; exact vin (by omega)) (fun _ => by rw [hp1, hck, qo1]; exact vin (by omega)) (fun _ => vin (by omega)) (fun _ _ => vin (by omega)) (fun _ _ => by rw [hp1]; exact vin (by omega)) (fun _ _ => vin (by omega)) (fun c => absurd c z0) (fun _ c => ?_) (fun _ c => ?_)
            · rw [e907] at c
              have hne : ¬ (bat B o).1 = (bat B b).1 := fun e => by have := hinj o b qol hlt e; omega
              refine fin (k + 1) m2 hk g1 g2 hM2 g3 g4 (fun j o2 hj ho2 => ?_)
              by_cases hjk : j = k
              · subst hjk; rw [ho] at ho2; cases ho2; omega
              · have hp := hLo.1
                rw [List.pairwise_iff_getElem] at hp
                obtain ⟨y1, y2⟩ := List.getElem?_eq_some_iff.mp ho2
                obtain ⟨x1, x2⟩ := List.getElem?_eq_some_iff.mp ho
                have := hp j k y1 x1 (by omega)
                rw [x2, y2] at this
                omega
            · rw [e907] at c
              rw [hp1, hck, hck1, qo1]
              have e3 : nI (k + 1) + (-1) = nI k := pk_m1 k
              rw [e3]
              refine ihk (m2.1, up2 m2.2 927 (k + 1) (nI o)) (by omega) g1 ?_ (hM2.tr ?_) (fun j o2 hj ho2 => ?_) (fun j o2 hj ho2 => ?_)
              · rw [← g2]; funext j; simp [up2]
              · refine ⟨fun _ _ => rfl, fun g hg => ?_⟩
                simp only [List.mem_cons, List.not_mem_nil, or_false] at hg
                funext j; simp [up2, hg]
              · rw [← g3 j o2 (by omega) ho2]; simp [up2, show ¬ j = k + 1 by omega]
              · by_cases hjk : j = k
                · subst hjk; rw [ho] at ho2; cases ho2
                  exact ⟨by simp [up2], by omega⟩
                · have := g4 j o2 (by omega) ho2
                  exact ⟨by rw [← this.1]; simp [up2, hjk], this.2⟩
        refine At.les (fun i v hi => hi) (ins L.length m1 (Nat.le_refl _) l1 hf1 (Msame.rf _ _ _) (fun j o hj ho => (l3 j o ho).1) (fun j o hj ho => ?_))
        have := (List.getElem?_eq_some_iff.mp ho).1
        omega
      · rw [hcb, hf1] at c'
        exact (hfl b hlt).mp c'
  refine grow B.length 0 [] m0 (by omega) (Nat.le_refl _) ⟨List.Pairwise.nil, fun o => ?_⟩ ⟨?_, by simp, fun i o ho => by simp at ho⟩ hfl0 (hM0.up (by decide) (by decide))
  · simp
  · rw [h932]; rfl
end M15
