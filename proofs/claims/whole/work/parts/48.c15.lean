def hd1 (B : List Blk) (r : Nat) (M : Nat → Int32) (a o K : Nat) : Prop := ¬ o = a ∧ ∃ k, k < K ∧ ldB B r (M ((bat B a).1 + r + k)) = some o
section C15
variable {h : Hp} {x : Nat} {E : Nat → Nat} {W r c : Nat} {B : List Blk} {nd : Nat → Nat} {M Rt : Nat → Int32}
set_option maxHeartbeats 1000000 in
theorem ct5_unmarkHeads (hS : SC h x E W r c B nd M Rt) (hG : GB W B) (hW : 1 ≤ W) (hBW : BW r B) {a : Nat} (hal : a < B.length) : CtV mX5_unmarkHeads 4 0 0 [va_rf (some (E 808)), va_rf (some (ndB nd B a))] h (fun h' => Sr E h h' ∧ h'.I 506 = h.I 506 ∧ h'.AR = h.AR ∧ ∀ o, o < B.length → (hd1 B r M a o (bat B a).2.2.1 → h'.I 7 (ndB nd B o) = 0) ∧ (¬ hd1 B r M a o (bat B a).2.2.1 → h'.I 7 (ndB nd B o) = h.I 7 (ndB nd B o))) := by
  have hn := hS.2.1.1 a hal
  have hga := hG.1 a hal
  have hbw := bw_at hBW hal
  have hW3 := hG.2.2
  refine enX5_unmarkHeads (fun X C => sgX5_unmarkHeads_0 C (fun z hz => by cases hz; exact hn.1) (fun z hz => ?_) (fun e => by cases e))
  cases hz
  rw [hn.2.2.2.2.1]
  have key : ∀ n k (hh : Hp), k + n = (bat B a).2.2.1 → Sr E h hh → hh.I 506 = h.I 506 → hh.AR = h.AR → (∀ o, o < B.length → (hd1 B r M a o k → hh.I 7 (ndB nd B o) = 0) ∧ (¬ hd1 B r M a o k → hh.I 7 (ndB nd B o) = h.I 7 (ndB nd B o))) → At X 0 0 15 [some (va_rf (some (E 808))), some (va_rf (some (ndB nd B a))), some (.int (nI (bat B a).2.2.1)), some (.int (nI k)), none] [] hh := by
    intro n
    induction n with
    | zero =>
      intro k hh hk hs h5 hr j1
      have hk : k = (bat B a).2.2.1 := by omega
      subst hk
      exact sgX5_unmarkHeads_15 C (Nat.le_refl _) (Nat.le_refl _) (fun _ => ⟨hs, h5, hr, j1⟩) (fun c => absurd (Int32.le_refl _) c)
    | succ n ih =>
      intro k hh hk hs h5 hr j1
      have hS2 := hS.sr hs
      have z1 := hS2.1.2.2.2.2.2.2.2.2.2.2.2.1.1
      have same : (∀ o, o < B.length → ldB B r (M ((bat B a).1 + r + k)) = some o → o = a) → ∀ o, o < B.length → (hd1 B r M a o (k + 1) → hh.I 7 (ndB nd B o) = 0) ∧ (¬ hd1 B r M a o (k + 1) → hh.I 7 (ndB nd B o) = h.I 7 (ndB nd B o)) := by
        intro hno o ho
        have e : hd1 B r M a o (k + 1) ↔ hd1 B r M a o k := by
          constructor
          · rintro ⟨y1, k2, y2, y3⟩
            refine ⟨y1, k2, ?_, y3⟩
            by_cases hkk : k2 = k
            · subst hkk; exact absurd (hno o ho y3) y1
            · omega
          · rintro ⟨y1, k2, y2, y3⟩; exact ⟨y1, k2, by omega, y3⟩
        rw [e]; exact j1 o ho
      refine sgX5_unmarkHeads_15 C (Nat.le_refl _) (Nat.le_refl _) (fun c => ?_) (fun _ => ?_)
      · rw [nI_leI (by omega) (by omega)] at c; omega
      · refine clX5_unmarkHeads_23 C (ct5_ledToByWord hS2 hG hW hBW hal (by omega)) z1 (by decide) (Nat.zero_le _) (Nat.zero_le _) (Nat.le_of_ble_eq_true rfl) (fun o h' ⟨e1, e2⟩ => ?_)
        subst e1
        cases hq : ldB B r (M ((bat B a).1 + r + k)) with
        | none =>
          rw [hq] at e2
          subst e2
          refine sgX5_unmarkHeads_26 C (fun z hz => by cases hz) (fun _ => ?_) (fun z hz => by cases hz) (fun z hz => by cases hz)
          rw [nI_1]
          exact At.fg [_, _, _, _] (ih (k + 1) h' (by omega) hs h5 hr (same (fun o _ ho => by rw [hq] at ho; cases ho)))
        | some d =>
          rw [hq] at e2
          subst e2
          obtain ⟨hdl, hd0⟩ := ldB_lt hq
          have hnd := hS2.2.1.1 d hdl
          refine sgX5_unmarkHeads_26 C (fun z hz _ => by cases hz; exact hnd.1) (fun e => by cases e) (fun z hz c1 => ?_) (fun z hz c1 => ?_)
          · cases hz
            have hda : d = a := by
              by_cases e : d = a
              · exact e
              · exact absurd (Option.some.inj c1) (ndB_ne hG hS2.2.1.1 hdl hal e)
            rw [nI_1]
            exact At.fg [_, _, _, _] (ih (k + 1) h' (by omega) hs h5 hr (same (fun o _ ho => by rw [hq] at ho; cases ho; exact hda)))
          · cases hz
            have hda : ¬ d = a := fun e => c1 (by rw [e])
            rw [nI_1]
            refine At.fg [_, _, _, _] (ih (k + 1) _ (by omega) (hs.trans (Sr.sI E h' _ (Or.inr (Or.inl rfl)))) ?_ hr (fun o ho => ?_))
            · rw [← h5]; funext b; simp [I_sI, up2]
            · simp only [I_sI, up2, if_true]
              by_cases hod : o = d
              · subst hod
                refine ⟨fun _ => by simp, fun hno => absurd ⟨hda, k, by omega, hq⟩ hno⟩
              · rw [if_neg (ndB_ne hG hS2.2.1.1 ho hdl hod)]
                have e : hd1 B r M a o (k + 1) ↔ hd1 B r M a o k := by
                  constructor
                  · rintro ⟨y1, k2, y2, y3⟩
                    refine ⟨y1, k2, ?_, y3⟩
                    by_cases hkk : k2 = k
                    · subst hkk; rw [hq] at y3; cases y3; exact absurd rfl hod
                    · omega
                  · rintro ⟨y1, k2, y2, y3⟩; exact ⟨y1, k2, by omega, y3⟩
                rw [e]; exact j1 o ho
  refine key _ 0 h (Nat.zero_add _) (Sr.rf E h) rfl rfl (fun o ho => ⟨fun ⟨_, k, hk, _⟩ => by omega, fun _ => rfl⟩)
def runP (h : Hp) (E : Nat → Nat) (W r : Nat) (B : List Blk) (nd : Nat → Nat) (M Rt : Nat → Int32) (y : Int32) (h' : Hp) : Prop := ∃ L, y = nI L.length ∧ Lost B r M Rt B.length L ∧ Sr E h h' ∧ h'.I 506 (E 808) = nI L.length ∧ L.length ≤ (W - 1) / 4 ∧ ∀ i o, L[i]? = some o → h'.AR (E 504) i = some (ndB nd B o) ∧ (h'.I 7 (ndB nd B o) = 0 ↔ hdN B r M L o)
set_option maxHeartbeats 1000000 in
theorem ct5_run (hS : SC h x E W r c B nd M Rt) (hG : GB W B) (hW : 1 ≤ W) (hBW : BW r B) (hlen : 4 * B.length + 1 ≤ W) : CtI mX5_run 5 0 0 [va_rf (some (E 808))] h (runP h E W r B nd M Rt) := by
  have hW3 := hG.2.2
  have s1 := hS.1.2.2.2.2.2.2.2.2.2.2.2.1.1
  refine enX5_run (fun X C => sgX5_run_0 C ?_)
  refine clX5_run_1 C (ct5_forgetReached hS hG) s1 (by decide) (Nat.zero_le _) (Nat.zero_le _) (Nat.le_of_ble_eq_true rfl) (fun h1 ⟨hT1, hs1⟩ => ?_)
  have hS1 := hS.sr hs1
  refine sgX5_run_4 C ?_
  refine clX5_run_5 C (ct5_reachFromRoots hS1 hG hW hlen hT1) hS1.1.2.2.2.2.2.2.2.2.2.2.2.1.1 (by decide) (Nat.zero_le _) (Nat.zero_le _) (Nat.le_of_ble_eq_true rfl) (fun h2 ⟨T, hT, hs2, j1, j2⟩ => ?_)
  refine sgX5_run_8 C ?_
  -- the heads
  have tail2 : ∀ (L : List Nat), Lost B r M Rt B.length L → L.length ≤ (W - 1) / 4 → ∀ n i (hh : Hp), i + n = L.length → Sr E h hh → hh.I 506 (E 808) = nI L.length → (∀ j o, L[j]? = some o → hh.AR (E 504) j = some (ndB nd B o)) → (∀ o, o ∈ L → ((∃ j a, j < i ∧ L[j]? = some a ∧ hd1 B r M a o (bat B a).2.2.1) → hh.I 7 (ndB nd B o) = 0) ∧ ((¬ ∃ j a, j < i ∧ L[j]? = some a ∧ hd1 B r M a o (bat B a).2.2.1) → hh.I 7 (ndB nd B o) = 1)) →
      At X 0 0 49 [some (va_rf (some (E 808))), some (.int (nI i))] [] hh := by
    intro L hL hLU n
    induction n with
    | zero =>
      intro i hh hi hs h5 hr j3
      have hi : i = L.length := by omega
      subst hi
      have hS2 := hS.sr hs
      obtain ⟨-, -, -, -, -, -, -, -, -, -, -, ⟨z1, z2, z3, z4, z5, z6, z7, z8, z9, z10⟩, -⟩ := id hS2.1
      have fin : hh.I 506 (E 808) = nI L.length ∧ Lost B r M Rt B.length L ∧ Sr E h hh ∧ hh.I 506 (E 808) = nI L.length ∧ L.length ≤ (W - 1) / 4 ∧ ∀ i o, L[i]? = some o → hh.AR (E 504) i = some (ndB nd B o) ∧ (hh.I 7 (ndB nd B o) = 0 ↔ hdN B r M L o) := by
        refine ⟨h5, hL, hs, h5, hLU, fun i o ho => ⟨hr i o ho, ?_⟩⟩
        have hom := List.mem_of_getElem? ho
        have heq : hdN B r M L o ↔ ∃ j a, j < L.length ∧ L[j]? = some a ∧ hd1 B r M a o (bat B a).2.2.1 := by
          constructor
          · rintro ⟨a, ha, hao, k, hk, hld⟩
            obtain ⟨j, hj⟩ := List.getElem?_of_mem ha
            exact ⟨j, a, (List.getElem?_eq_some_iff.mp hj).1, hj, fun e => hao e.symm, k, hk, hld⟩
          · rintro ⟨j, a, hjl, hj, hao, k, hk, hld⟩
            exact ⟨a, List.mem_of_getElem? hj, fun e => hao e.symm, k, hk, hld⟩
        rw [heq]
        constructor
        · intro h0
          apply Classical.byContradiction
          intro hno
          rw [(j3 o hom).2 hno] at h0
          exact absurd h0 (by decide)
        · exact (j3 o hom).1
      refine sgX5_run_49 C (Nat.le_refl _) (Nat.le_refl _) z1 z8 z9 (fun _ c => ?_) (fun _ => ⟨L, fin⟩) (fun _ _ => ⟨L, fin⟩) (fun _ c => ?_)
      · rw [h5] at c; exact absurd (Int32.le_refl _) c
      · rw [h5] at c; exact absurd (Int32.le_refl _) c
    | succ n ih =>
      intro i hh hi hs h5 hr j3
      have hS2 := hS.sr hs
      obtain ⟨-, -, -, -, -, -, -, -, -, -, -, ⟨z1, z2, z3, z4, z5, z6, z7, z8, z9, z10⟩, -⟩ := id hS2.1
      obtain ⟨a, ha⟩ : ∃ a, L[i]? = some a := ⟨_, List.getElem?_eq_getElem (by omega)⟩
      have hal := ((hL.2 a).mp (List.mem_of_getElem? ha)).1
      refine sgX5_run_49 C (Nat.le_refl _) (Nat.le_refl _) z1 z8 z9 (fun _ _ => by rw [z10]; exact vin (by omega)) (fun c => ?_) (fun _ c => ?_) (fun _ _ => ?_)
      · rw [z10, nI_leI (by omega) (by omega)] at c; omega
      · rw [h5, nI_leI (by omega) (by omega)] at c; omega
      · rw [nI_clamp (by omega), hr i a ha]
        refine clX5_run_73 C (ct5_unmarkHeads hS2 hG hW hBW hal) z1 (by decide) (Nat.zero_le _) (Nat.zero_le _) (Nat.le_of_ble_eq_true rfl) (fun h3 ⟨e1, e2, e3, e4⟩ => ?_)
        refine sgX5_run_76 C ?_
        rw [nI_1]
        refine ih (i + 1) h3 (by omega) (hs.trans e1) (by rw [e2]; exact h5) (fun j o ho => by rw [e3]; exact hr j o ho) (fun o ho => ?_)
        have hol := ((hL.2 o).mp ho).1
        have e5 : (∃ j a', j < i + 1 ∧ L[j]? = some a' ∧ hd1 B r M a' o (bat B a').2.2.1) ↔ (∃ j a', j < i ∧ L[j]? = some a' ∧ hd1 B r M a' o (bat B a').2.2.1) ∨ hd1 B r M a o (bat B a).2.2.1 := by
          constructor
          · rintro ⟨j, a', y1, y2, y3⟩
            by_cases hji : j = i
            · subst hji; rw [ha] at y2; cases y2; exact Or.inr y3
            · exact Or.inl ⟨j, a', by omega, y2, y3⟩
          · rintro (⟨j, a', y1, y2, y3⟩ | y3)
            · exact ⟨j, a', by omega, y2, y3⟩
            · exact ⟨i, a, by omega, ha, y3⟩
        rw [e5]
        obtain ⟨f1, f2⟩ := e4 o hol
        obtain ⟨g1, g2⟩ := j3 o ho
        refine ⟨fun hor => ?_, fun hno => ?_⟩
        · by_cases hh1 : hd1 B r M a o (bat B a).2.2.1
          · exact f1 hh1
          · rw [f2 hh1]
            rcases hor with hor | hor
            · exact g1 hor
            · exact absurd hor hh1
        · rw [f2 (fun z => hno (Or.inr z))]
          exact g2 (fun z => hno (Or.inl z))
  -- the lost ones
  have tail1 : ∀ (T : List Nat) (hh : Hp) (l1 : Int32), RS hh E B nd T → Sr E h hh → (∀ i, i ∈ T → Rch B r M Rt i) → (∀ j, j < 16 → ∀ d, ldB B r (Rt j) = some d → d ∈ T) → (∀ a, a ∈ T → ∀ k, k < (bat B a).2.2.1 → ∀ d, ldB B r (M ((bat B a).1 + r + k)) = some d → d ∈ T) → At X 0 0 44 [some (va_rf (some (E 808))), some (.int l1)] [va_rf (some (E 808))] hh := by
    intro T hh l1 hT hs i1 i2 i3
    have hS2 := hS.sr hs
    refine clX5_run_44 C (ct5_keepLost hS2 hG hT (fun i hi => ⟨i1 i, fun hR => hR (fun q => q ∈ T) ⟨i2, i3⟩⟩)) hS2.1.2.2.2.2.2.2.2.2.2.2.2.1.1 (by decide) (Nat.zero_le _) (Nat.zero_le _) (Nat.le_of_ble_eq_true rfl) (fun h3 ⟨L, e1, e2, e3, e4, e5⟩ => ?_)
    refine sgX5_run_47 C ?_
    refine tail2 L e1 e4 L.length 0 h3 (by omega) (hs.trans e2) e3 (fun j o ho => (e5 j o ho).1) (fun o ho => ⟨fun ⟨j, a, hj, _⟩ => by omega, fun _ => ?_⟩)
    obtain ⟨j, hj⟩ := List.getElem?_of_mem ho
    exact (e5 j o hj).2
  -- what the reached ones lead to
  have loop : ∀ n i (T : List Nat) (hh : Hp), i + n = (W - 1) / 4 → i ≤ T.length → RS hh E B nd T → Sr E h hh → (∀ i, i ∈ T → Rch B r M Rt i) → (∀ j, j < 16 → ∀ d, ldB B r (Rt j) = some d → d ∈ T) → (∀ j a, j < i → T[j]? = some a → ∀ k, k < (bat B a).2.2.1 → ∀ d, ldB B r (M ((bat B a).1 + r + k)) = some d → d ∈ T) → At X 0 0 10 [some (va_rf (some (E 808))), some (.int (nI i))] [] hh := by
    intro n
    induction n with
    | zero =>
      intro i T hh hi hiT hT hs i1 i2 i3
      have hS2 := hS.sr hs
      obtain ⟨-, -, -, -, -, -, -, -, -, -, -, ⟨z1, z2, z3, z4, z5, z6, z7, z8, z9, z10⟩, -⟩ := id hS2.1
      have hTl : T.length ≤ B.length := nodup_lt _ T hT.2.1 (fun i hi => (hT.2.2.1 i hi).1)
      have hle : nI (hh.N (E 503)) ≤ nI i := by rw [z7, nI_leI (by omega) (by omega)]; omega
      refine sgX5_run_10 C z1 z5 z6 (fun c => absurd hle c) (fun _ => ?_) (fun c => absurd hle c) (fun c => absurd hle c)
      refine tail1 T hh _ hT hs i1 i2 (fun a ha => ?_)
      obtain ⟨j, hj⟩ := List.getElem?_of_mem ha
      have := (List.getElem?_eq_some_iff.mp hj).1
      exact i3 j a (by omega) hj
    | succ n ih =>
      intro i T hh hi hiT hT hs i1 i2 i3
      have hS2 := hS.sr hs
      obtain ⟨-, -, -, -, -, -, -, -, -, -, -, ⟨z1, z2, z3, z4, z5, z6, z7, z8, z9, z10⟩, -⟩ := id hS2.1
      have hTl : T.length ≤ B.length := nodup_lt _ T hT.2.1 (fun i hi => (hT.2.2.1 i hi).1)
      refine sgX5_run_10 C z1 z5 z6 (fun _ _ => by rw [z7]; exact vin (by omega)) (fun c => ?_) (fun _ c => ?_) (fun _ c => ?_)
      · rw [z7, nI_leI (by omega) (by omega)] at c; omega
      · rw [hT.1, nI_leI (by omega) (by omega)] at c
        refine tail1 T hh _ hT hs i1 i2 (fun a ha => ?_)
        obtain ⟨j, hj⟩ := List.getElem?_of_mem ha
        have := (List.getElem?_eq_some_iff.mp hj).1
        exact i3 j a (by omega) hj
      · rw [hT.1, nI_leI (by omega) (by omega)] at c
        obtain ⟨a, ha⟩ : ∃ a, T[i]? = some a := ⟨_, List.getElem?_eq_getElem (by omega)⟩
        rw [nI_clamp (by omega), hT.2.2.2.1 i a ha]
        refine clX5_run_34 C (ct5_reachFromBlock hS2 hG hW hBW hlen hT i1 (List.mem_of_getElem? ha)) z1 (by decide) (Nat.zero_le _) (Nat.zero_le _) (Nat.le_of_ble_eq_true rfl) (fun h3 ⟨Y, e1, e2, e3, e4⟩ => ?_)
        refine sgX5_run_37 C ?_
        rw [nI_1]
        refine ih (i + 1) (T ++ Y) h3 (by omega) (by simp; omega) e1 (hs.trans e2) e3 (fun j hj d hd => List.mem_append_left _ (i2 j hj d hd)) (fun j a' hj ha' k hk d hd => ?_)
        by_cases hji : j = i
        · subst hji
          rw [List.getElem?_append_left (by omega), ha] at ha'
          cases ha'
          exact e4 k hk d hd
        · rw [List.getElem?_append_left (by omega)] at ha'
          exact List.mem_append_left _ (i3 j a' (by omega) ha' k hk d hd)
  exact loop _ 0 T h2 (Nat.zero_add _) (Nat.zero_le _) hT (hs1.trans hs2) j1 j2 (fun j a hj => by omega)
set_option maxHeartbeats 1000000 in
/-- a list that is sorted by its chunks is known by its members -/
theorem lost_uniq {B : List Blk} : ∀ {L L' : List Nat}, L.Pairwise (fun a b => (bat B a).1 < (bat B b).1) → L'.Pairwise (fun a b => (bat B a).1 < (bat B b).1) → (∀ o, o ∈ L ↔ o ∈ L') → L = L'
  | [], [], _, _, _ => rfl
  | [], b :: L', _, _, h => absurd ((h b).mpr List.mem_cons_self) (by simp)
  | a :: L, [], _, _, h => absurd ((h a).mp List.mem_cons_self) (by simp)
  | a :: L, b :: L', h1, h2, h => by
    rw [List.pairwise_cons] at h1 h2
    have hab : a = b := by
      rcases List.mem_cons.mp ((h a).mp List.mem_cons_self) with e | e
      · exact e
      · rcases List.mem_cons.mp ((h b).mpr List.mem_cons_self) with e2 | e2
        · exact e2.symm
        · have x1 := h2.1 a e
          have x2 := h1.1 b e2
          omega
    subst hab
    have : L = L' := lost_uniq h1.2 h2.2 (fun o => by
      have ho := h o
      constructor
      · intro hm
        rcases List.mem_cons.mp (ho.mp (List.mem_cons_of_mem _ hm)) with e | e
        · subst e
          have := h1.1 o hm
          omega
        · exact e
      · intro hm
        rcases List.mem_cons.mp (ho.mpr (List.mem_cons_of_mem _ hm)) with e | e
        · subst e
          have := h2.1 o hm
          omega
        · exact e)
    rw [this]
end C15
