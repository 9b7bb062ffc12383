/-! THE SEARCH in the class: what is reached, what is lost -/
set_option maxHeartbeats 1000000 in
theorem nodup_lt : ∀ (n : Nat) (T : List Nat), T.Nodup → (∀ i, i ∈ T → i < n) → T.length ≤ n
  | 0, T, _, h => by
    cases T with
    | nil => simp
    | cons a T => exact absurd (h a List.mem_cons_self) (by omega)
  | n + 1, T, hn, h => by
    by_cases hm : n ∈ T
    · have h1 := nodup_lt n (T.erase n) (hn.erase n) (fun i hi => by
        rw [hn.mem_erase_iff] at hi
        have := h i hi.2
        have := hi.1
        omega)
      rw [List.length_erase_of_mem hm] at h1
      omega
    · have := nodup_lt n T hn (fun i hi => by
        have h1 := h i hi
        have : ¬ i = n := fun e => hm (by rw [← e]; exact hi)
        omega)
      omega
def addR (T : List Nat) (d : Nat) : List Nat := if d ∈ T then T else T ++ [d]
theorem addR_mem (T : List Nat) (d i : Nat) : i ∈ addR T d ↔ i ∈ T ∨ i = d := by
  unfold addR
  split
  · rename_i h
    constructor
    · exact Or.inl
    · rintro (h1 | h1)
      · exact h1
      · rw [h1]; exact h
  · simp
theorem addR_pre (T : List Nat) (d : Nat) : ∃ X, addR T d = T ++ X := by
  unfold addR
  split
  · exact ⟨[], by simp⟩
  · exact ⟨[d], rfl⟩
section C14
variable {h : Hp} {x : Nat} {E : Nat → Nat} {W r c : Nat} {B : List Blk} {nd : Nat → Nat} {M Rt : Nat → Int32}
/-- the blocks that were reached, in their order -/
def RS (h : Hp) (E : Nat → Nat) (B : List Blk) (nd : Nat → Nat) (T : List Nat) : Prop := h.I 505 (E 808) = nI T.length ∧ T.Nodup ∧ (∀ i, i ∈ T → i < B.length ∧ (bat B i).2.2.2.2 = 0) ∧ (∀ j i, T[j]? = some i → h.AR (E 503) j = some (ndB nd B i)) ∧ ∀ i, i < B.length → (bat B i).2.2.2.2 = 0 → (¬ h.I 6 (ndB nd B i) = 0 ↔ i ∈ T)
theorem ndB_ne (hG : GB W B) (hB : ∀ i, i < B.length → NdR h (ndB nd B i) (bat B i) r) {i j : Nat} (hi : i < B.length) (hj : j < B.length) (hne : ¬ i = j) : ¬ ndB nd B i = ndB nd B j := fun e => by
  have h1 := hG.1 i hi
  have h2 := hG.1 j hj
  have h3 := hG.2.2
  have h4 := (hB i hi).2.1
  rw [e, (hB j hj).2.1, nI_eq (by omega) (by omega)] at h4
  have h5 := hG.2.1 i j hi hj hne
  simp only [dj] at h5
  omega
theorem len_U (hG : GB W B) (hlen : 4 * B.length + 1 ≤ W) : B.length ≤ (W - 1) / 4 := by omega
set_option maxHeartbeats 1000000 in
theorem ct5_reach (hS : SC h x E W r c B nd M Rt) (hG : GB W B) (hlen : 4 * B.length + 1 ≤ W) {T : List Nat} (hT : RS h E B nd T) {d : Nat} (hd : d < B.length) (hl : (bat B d).2.2.2.2 = 0) : CtV mX5_reach 1 0 0 [va_rf (some (E 808)), va_rf (some (ndB nd B d))] h (fun h' => RS h' E B nd (addR T d) ∧ Sr E h h') := by
  obtain ⟨hX, hB, hM, hR⟩ := id hS
  obtain ⟨x1, x2, x3, x4, xm, xb, xf, x5, x6, x7, x12, ⟨s1, s2, s3, s4, s5, s6, s7, s8, s9, s10⟩, xd, xe⟩ := id hX
  obtain ⟨t1, t2, t3, t4, t5⟩ := id hT
  have hn := hB.1 d hd
  have hW3 := hG.2.2
  have hTl : T.length ≤ B.length := nodup_lt _ T t2 (fun i hi => (t3 i hi).1)
  have h6 := t5 d hd hl
  have hlt : d ∉ T → T.length < (W - 1) / 4 := fun hno => by
    have : (T ++ [d]).length ≤ B.length := nodup_lt _ (T ++ [d]) (by
      rw [List.nodup_append]
      exact ⟨t2, by simp, fun a ha b hb => by simp at hb; subst hb; exact fun e => hno (by rw [← e]; exact ha)⟩) (fun i hi => by
      rcases List.mem_append.mp hi with hi | hi
      · exact (t3 i hi).1
      · simp at hi; subst hi; exact hd)
    simp at this
    omega
  refine enX5_reach (fun X C => sgX5_reach_0 C (Nat.le_refl _) (Nat.le_refl _) (fun z hz => by cases hz; exact hn.1) s1 s5 s6 (fun z hz _ _ => by cases hz; exact hn.1) (fun z hz c1 c2 => ?_) (fun z hz _ _ v hv => by cases hz; cases hv; exact hn.1) (fun e => by cases e) (fun z hz c1 => ?_) (fun z hz c1 c2 => ?_) (fun z hz c1 c2 => ?_))
  · rw [t1, s7, nI_ltI (by omega) (by omega)] at c2
    rw [t1, s7]; exact vin c2
  · cases hz
    have hin := h6.mp c1
    have : addR T d = T := by unfold addR; rw [if_pos hin]
    rw [this]
    exact ⟨hT, Sr.rf E h⟩
  · cases hz
    have hno : d ∉ T := fun hin => h6.mpr hin c1
    have e : addR T d = T ++ [d] := by unfold addR; rw [if_neg hno]
    rw [e, t1, nI_clamp (by omega), nI_1]
    refine ⟨⟨?_, ?_, fun i hi => ?_, fun j i hj => ?_, fun i hi hli => ?_⟩, ((Sr.sI E h _ (Or.inl rfl)).trans (Sr.sAR _ _ (Or.inl rfl))).trans (Sr.sI E _ _ (Or.inr (Or.inr (Or.inl rfl))))⟩
    · simp [I_sI, up2]
    · rw [List.nodup_append]
      exact ⟨t2, by simp, fun a ha b hb => by simp at hb; subst hb; exact fun e => hno (by rw [← e]; exact ha)⟩
    · rcases List.mem_append.mp hi with hi | hi
      · exact t3 i hi
      · simp at hi; subst hi; exact ⟨hd, hl⟩
    · simp only [AR_sI, AR_sAR, up2, if_true]
      by_cases hjl : j < T.length
      · rw [List.getElem?_append_left hjl] at hj
        rw [if_neg (by omega)]
        exact t4 j i hj
      · rw [List.getElem?_append_right (by omega)] at hj
        have hz := (List.getElem?_eq_some_iff.mp hj).1
        have hj2 : j = T.length := by simp at hz; omega
        subst hj2
        simp at hj
        subst hj
        simp
    · simp only [I_sI, I_sAR, up2, Nat.reduceEqDiff, if_false, if_true]
      rw [List.mem_append]
      by_cases hid : i = d
      · subst hid
        simp
      · rw [if_neg (ndB_ne hG hB.1 hi hd hid), t5 i hi hli]
        simp [hid]
  · exfalso
    cases hz
    have hno : d ∉ T := fun hin => h6.mpr hin c1
    have := hlt hno
    rw [t1, s7, nI_ltI (by omega) (by omega)] at c2
    exact c2 this
theorem ct5_reach0 (hS : SC h x E W r c B nd M Rt) : CtV mX5_reach 1 0 0 [va_rf (some (E 808)), va_rf none] h (fun h' => h' = h) := by
  obtain ⟨x1, x2, x3, x4, xm, xb, xf, x5, x6, x7, x12, ⟨s1, s2, s3, s4, s5, s6, s7, s8, s9, s10⟩, xd, xe⟩ := id hS.1
  exact enX5_reach (fun X C => sgX5_reach_0 C (Nat.le_refl _) (Nat.le_refl _) (fun z hz => by cases hz) s1 s5 s6 (fun z hz => by cases hz) (fun z hz => by cases hz) (fun z hz => by cases hz) (fun _ => rfl) (fun z hz => by cases hz) (fun z hz => by cases hz) (fun z hz => by cases hz))
set_option maxHeartbeats 1000000 in
theorem ct5_reachFromRoots (hS : SC h x E W r c B nd M Rt) (hG : GB W B) (hW : 1 ≤ W) (hlen : 4 * B.length + 1 ≤ W) (hT : RS h E B nd []) : CtV mX5_reachFromRoots 3 0 0 [va_rf (some (E 808))] h (fun h' => ∃ T, RS h' E B nd T ∧ Sr E h h' ∧ (∀ i, i ∈ T → Rch B r M Rt i) ∧ ∀ j, j < 16 → ∀ d, ldB B r (Rt j) = some d → d ∈ T) := by
  obtain ⟨x1, x2, x3, x4, xm, xb, xf, x5, x6, x7, x12, ⟨s1, s2, s3, s4, s5, s6, s7, s8, s9, s10⟩, xd, xe⟩ := id hS.1
  have hclo := Rch.clo B r M Rt
  refine enX5_reachFromRoots (fun X C => sgX5_reachFromRoots_0 C ?_)
  have key : ∀ n i (T : List Nat) (hh : Hp), i + n = 16 → RS hh E B nd T → Sr E h hh → (∀ i, i ∈ T → Rch B r M Rt i) → (∀ j, j < i → ∀ d, ldB B r (Rt j) = some d → d ∈ T) → At X 0 0 2 [some (va_rf (some (E 808))), some (.int (nI i))] [] hh := by
    intro n
    induction n with
    | zero =>
      intro i T hh hi hT hs j1 j2
      have hi : i = 16 := by omega
      subst hi
      have hS2 := hS.sr hs
      obtain ⟨-, -, -, -, -, -, -, -, y6, y7, -, ⟨z1, -, -, z4, -⟩, -⟩ := id hS2.1
      refine sgX5_reachFromRoots_2 C (Nat.le_refl _) (Nat.le_refl _) z1 z4 y6 (fun c => ?_) (fun _ => ⟨T, hT, hs, j1, j2⟩) (fun c => ?_)
      · rw [y7] at c; exact absurd (Int32.le_refl _) c
      · rw [y7] at c; exact absurd (Int32.le_refl _) c
    | succ n ih =>
      intro i T hh hi hT hs j1 j2
      have hS2 := hS.sr hs
      obtain ⟨-, -, -, -, -, yb, -, -, y6, y7, -, ⟨z1, z2, -, z4, -⟩, -⟩ := id hS2.1
      refine sgX5_reachFromRoots_2 C (Nat.le_refl _) (Nat.le_refl _) z1 z4 y6 (fun _ => by rw [y7]; exact vin (by omega)) (fun c => ?_) (fun _ => ?_)
      · rw [y7, nI_leI (by omega) (by omega)] at c; omega
      · rw [nI_clamp (by omega), hS2.2.2.2 i (by omega), z2]
        refine clX5_reachFromRoots_22 C (hS2.led hG hW _) yb.1 (by decide) (Nat.zero_le _) (Nat.zero_le _) (Nat.le_of_ble_eq_true rfl) (fun o h' ⟨e1, e2⟩ => ?_)
        subst e1
        cases hq : ldB B r (Rt i) with
        | none =>
          rw [hq] at e2
          subst e2
          refine clX5_reachFromRoots_25 C (ct5_reach0 hS2) z1 (by decide) (Nat.zero_le _) (Nat.zero_le _) (Nat.le_of_ble_eq_true rfl) (fun h2 e1 => ?_)
          subst e1
          refine sgX5_reachFromRoots_28 C ?_
          rw [nI_1]
          refine ih (i + 1) T h2 (by omega) hT hs j1 (fun j hj d hd => ?_)
          by_cases hji : j = i
          · subst hji; rw [hq] at hd; cases hd
          · exact j2 j (by omega) d hd
        | some d =>
          rw [hq] at e2
          subst e2
          obtain ⟨hdl, hd0⟩ := ldB_lt hq
          refine clX5_reachFromRoots_25 C (ct5_reach hS2 hG hlen hT hdl hd0) z1 (by decide) (Nat.zero_le _) (Nat.zero_le _) (Nat.le_of_ble_eq_true rfl) (fun h2 ⟨e1, e3⟩ => ?_)
          refine sgX5_reachFromRoots_28 C ?_
          rw [nI_1]
          refine ih (i + 1) _ h2 (by omega) e1 (hs.trans e3) (fun q hq2 => ?_) (fun j hj d2 hd2 => ?_)
          · rcases (addR_mem T d q).mp hq2 with h1 | h1
            · exact j1 q h1
            · subst h1; exact hclo.1 i (by omega) q hq
          · rw [addR_mem]
            by_cases hji : j = i
            · subst hji; rw [hq] at hd2; cases hd2; exact Or.inr rfl
            · exact Or.inl (j2 j (by omega) d2 hd2)
  exact key 16 0 [] h rfl hT (Sr.rf E h) (fun i hi => by cases hi) (fun j hj => by omega)
set_option maxHeartbeats 1000000 in
theorem ct5_reachFromBlock (hS : SC h x E W r c B nd M Rt) (hG : GB W B) (hW : 1 ≤ W) (hBW : BW r B) (hlen : 4 * B.length + 1 ≤ W) {T : List Nat} (hT : RS h E B nd T) (hR : ∀ i, i ∈ T → Rch B r M Rt i) {a : Nat} (ha : a ∈ T) : CtV mX5_reachFromBlock 4 0 0 [va_rf (some (E 808)), va_rf (some (ndB nd B a))] h (fun h' => ∃ Y, RS h' E B nd (T ++ Y) ∧ Sr E h h' ∧ (∀ i, i ∈ T ++ Y → Rch B r M Rt i) ∧ ∀ k, k < (bat B a).2.2.1 → ∀ d, ldB B r (M ((bat B a).1 + r + k)) = some d → d ∈ T ++ Y) := by
  obtain ⟨hal, hal0⟩ := hT.2.2.1 a ha
  have hclo := Rch.clo B r M Rt
  have hn := hS.2.1.1 a hal
  have hga := hG.1 a hal
  have hbw := bw_at hBW hal
  have hW3 := hG.2.2
  have s1 := hS.1.2.2.2.2.2.2.2.2.2.2.2.1.1
  refine enX5_reachFromBlock (fun X C => sgX5_reachFromBlock_0 C (fun z hz => by cases hz; exact hn.1) (fun z hz => ?_) (fun e => by cases e))
  cases hz
  rw [hn.2.2.2.2.1]
  have key : ∀ n k (Y : List Nat) (hh : Hp), k + n = (bat B a).2.2.1 → RS hh E B nd (T ++ Y) → Sr E h hh → (∀ i, i ∈ T ++ Y → Rch B r M Rt i) → (∀ j, j < k → ∀ d, ldB B r (M ((bat B a).1 + r + j)) = some d → d ∈ T ++ Y) → At X 0 0 15 [some (va_rf (some (E 808))), some (va_rf (some (ndB nd B a))), some (.int (nI (bat B a).2.2.1)), some (.int (nI k))] [] hh := by
    intro n
    induction n with
    | zero =>
      intro k Y hh hk hT hs j1 j2
      have hk : k = (bat B a).2.2.1 := by omega
      subst hk
      exact sgX5_reachFromBlock_15 C (Nat.le_refl _) (Nat.le_refl _) (fun _ => ⟨Y, hT, hs, j1, j2⟩) (fun c => absurd (Int32.le_refl _) c)
    | succ n ih =>
      intro k Y hh hk hT hs j1 j2
      have hS2 := hS.sr hs
      have z1 := hS2.1.2.2.2.2.2.2.2.2.2.2.2.1.1
      refine sgX5_reachFromBlock_15 C (Nat.le_refl _) (Nat.le_refl _) (fun c => ?_) (fun _ => ?_)
      · rw [nI_leI (by omega) (by omega)] at c; omega
      · refine clX5_reachFromBlock_24 C (ct5_ledToByWord hS2 hG hW hBW hal (by omega)) z1 (by decide) (Nat.zero_le _) (Nat.zero_le _) (Nat.le_of_ble_eq_true rfl) (fun o h' ⟨e1, e2⟩ => ?_)
        subst e1
        cases hq : ldB B r (M ((bat B a).1 + r + k)) with
        | none =>
          rw [hq] at e2
          subst e2
          refine clX5_reachFromBlock_27 C (ct5_reach0 hS2) z1 (by decide) (Nat.zero_le _) (Nat.zero_le _) (Nat.le_of_ble_eq_true rfl) (fun h2 e1 => ?_)
          subst e1
          refine sgX5_reachFromBlock_30 C ?_
          rw [nI_1]
          refine ih (k + 1) Y h2 (by omega) hT hs j1 (fun j hj d hd => ?_)
          by_cases hji : j = k
          · subst hji; rw [hq] at hd; cases hd
          · exact j2 j (by omega) d hd
        | some d =>
          rw [hq] at e2
          subst e2
          obtain ⟨hdl, hd0⟩ := ldB_lt hq
          refine clX5_reachFromBlock_27 C (ct5_reach hS2 hG hlen hT hdl hd0) z1 (by decide) (Nat.zero_le _) (Nat.zero_le _) (Nat.le_of_ble_eq_true rfl) (fun h2 ⟨e1, e3⟩ => ?_)
          refine sgX5_reachFromBlock_30 C ?_
          rw [nI_1]
          obtain ⟨Z, hZ⟩ := addR_pre (T ++ Y) d
          have eZ : addR (T ++ Y) d = T ++ (Y ++ Z) := by rw [hZ, List.append_assoc]
          rw [eZ] at e1
          refine ih (k + 1) (Y ++ Z) h2 (by omega) e1 (hs.trans e3) (fun q hq2 => ?_) (fun j hj d2 hd2 => ?_)
          · rw [← eZ] at hq2
            rcases (addR_mem _ d q).mp hq2 with h1 | h1
            · exact j1 q h1
            · subst h1; exact hclo.2 a (hR a ha) k (by omega) q hq
          · rw [← eZ, addR_mem]
            by_cases hji : j = k
            · subst hji; rw [hq] at hd2; cases hd2; exact Or.inr rfl
            · exact Or.inl (j2 j (by omega) d2 hd2)
  have h0 : T ++ [] = T := List.append_nil T
  exact key _ 0 [] h (Nat.zero_add _) (by rw [h0]; exact hT) (Sr.rf E h) (by rw [h0]; exact hR) (fun j hj => by omega)
set_option maxHeartbeats 1000000 in
theorem ct5_forgetReached (hS : SC h x E W r c B nd M Rt) (hG : GB W B) : CtV mX5_forgetReached 2 0 0 [va_rf (some (E 808))] h (fun h' => RS h' E B nd [] ∧ Sr E h h') := by
  obtain ⟨x1, x2, x3, x4, xm, xb, xf, x5, x6, x7, x12, ⟨s1, s2, s3, s4, s5, s6, s7, s8, s9, s10⟩, xd, xe⟩ := id hS.1
  have hW3 := hG.2.2
  refine enX5_forgetReached (fun X C => sgX5_forgetReached_0 C s1 ?_)
  have key : ∀ n u (hh : Hp), u + n = (W - 1) / 4 → Sr E h hh → hh.I 505 (E 808) = 0 → (∀ v i, v < u → ulv B v = some i → hh.I 6 (ndB nd B i) = 0) → At X 0 0 7 [some (va_rf (some (E 808))), some (.int (nI u)), none] [] hh := by
    intro n
    induction n with
    | zero =>
      intro u hh hu hs h5 j1
      have hu : u = (W - 1) / 4 := by omega
      subst hu
      have hS2 := hS.sr hs
      obtain ⟨-, -, -, -, -, yb, -, -, -, -, -, ⟨z1, z2, -⟩, -⟩ := id hS2.1
      refine sgX5_forgetReached_7 C (Nat.le_refl _) (Nat.le_refl _) z1 z2 yb.1 yb.2.1 yb.2.2.1 (fun _ => ⟨⟨h5, by simp, fun i hi => (by cases hi), fun j i hj => by simp at hj, fun i hi hl => ?_⟩, hs⟩) (fun c => ?_)
      · obtain ⟨e1, e2⟩ := ulv_of hG hi hl
        have := j1 _ i e2 e1
        simp [this]
      · rw [yb.2.2.2] at c; exact absurd (Int32.le_refl _) c
    | succ n ih =>
      intro u hh hu hs h5 j1
      have hS2 := hS.sr hs
      obtain ⟨-, -, -, -, -, yb, -, -, -, -, -, ⟨z1, z2, -⟩, -⟩ := id hS2.1
      refine sgX5_forgetReached_7 C (Nat.le_refl _) (Nat.le_refl _) z1 z2 yb.1 yb.2.1 yb.2.2.1 (fun c => ?_) (fun _ => ?_)
      · rw [yb.2.2.2, nI_leI (by omega) (by omega)] at c; omega
      · refine clX5_forgetReached_24 C (ct1_liveFromUnit yb hS2.2.1 hG (by omega) (u := u) (by omega)) yb.1 (by decide) (Nat.zero_le _) (Nat.zero_le _) (Nat.le_of_ble_eq_true rfl) (fun o h' ⟨e1, e2⟩ => ?_)
        subst e1
        cases hq : ulv B u with
        | none =>
          rw [hq] at e2
          subst e2
          refine sgX5_forgetReached_27 C (fun z hz => by cases hz) (fun _ => ?_) (fun z hz => by cases hz)
          rw [nI_1]
          refine At.fg [_, _] (ih (u + 1) h' (by omega) hs h5 (fun v i hv hi => ?_))
          by_cases hvu : v = u
          · subst hvu; rw [hq] at hi; cases hi
          · exact j1 v i (by omega) hi
        | some i =>
          rw [hq] at e2
          subst e2
          have hil := (ulv_lt hq).1
          have hn := hS2.2.1.1 i hil
          refine sgX5_forgetReached_27 C (fun z hz => by cases hz; exact hn.1) (fun e => by cases e) (fun z hz => ?_)
          cases hz
          rw [nI_1]
          refine At.fg [_, _] (ih (u + 1) _ (by omega) (hs.trans (Sr.sI E _ _ (Or.inl rfl))) ?_ (fun v j hv hj => ?_))
          · simp only [I_sI, up2, Nat.reduceEqDiff, if_false]; exact h5
          · simp only [I_sI, up2, if_true]
            by_cases hji : ndB nd B j = ndB nd B i
            · rw [if_pos hji]
            · rw [if_neg hji]
              refine j1 v j ?_ hj
              by_cases hvu : v = u
              · subst hvu; rw [hq] at hj; cases hj; exact absurd rfl hji
              · omega
  refine key _ 0 _ (Nat.zero_add _) (Sr.sI E h _ (Or.inr (Or.inr (Or.inl rfl)))) ?_ (fun v i hv => by omega)
  simp [I_sI, up2]
set_option maxHeartbeats 1000000 in
theorem ct5_keepLost (hS : SC h x E W r c B nd M Rt) (hG : GB W B) {T : List Nat} (hT : RS h E B nd T) (hTR : ∀ i, i < B.length → (i ∈ T ↔ Rch B r M Rt i)) : CtV mX5_keepLost 2 0 0 [va_rf (some (E 808))] h (fun h' => ∃ L, Lost B r M Rt B.length L ∧ Sr E h h' ∧ h'.I 506 (E 808) = nI L.length ∧ L.length ≤ (W - 1) / 4 ∧ ∀ i o, L[i]? = some o → h'.AR (E 504) i = some (ndB nd B o) ∧ h'.I 7 (ndB nd B o) = 1) := by
  obtain ⟨x1, x2, x3, x4, xm, xb, xf, x5, x6, x7, x12, ⟨s1, s2, s3, s4, s5, s6, s7, s8, s9, s10⟩, xd, xe⟩ := id hS.1
  have hW3 := hG.2.2
  refine enX5_keepLost (fun X C => sgX5_keepLost_0 C s1 ?_)
  have key : ∀ n u (hh : Hp) (L : List Nat), u + n = (W - 1) / 4 → Sr E h hh → hh.I 6 = h.I 6 → hh.I 506 (E 808) = nI L.length → L.length ≤ u → L.Pairwise (fun a b => (bat B a).1 < (bat B b).1) → (∀ o, o ∈ L ↔ o < B.length ∧ (bat B o).2.2.2.2 = 0 ∧ ¬ Rch B r M Rt o ∧ (bat B o).1 < 4 * u + 1) → (∀ i o, L[i]? = some o → hh.AR (E 504) i = some (ndB nd B o) ∧ hh.I 7 (ndB nd B o) = 1) → At X 0 0 7 [some (va_rf (some (E 808))), some (.int (nI u)), none] [] hh := by
    intro n
    induction n with
    | zero =>
      intro u hh L hu hs h6 h5 hLl hLp hLm hLr
      have hu : u = (W - 1) / 4 := by omega
      subst hu
      have hS2 := hS.sr hs
      obtain ⟨-, -, -, -, -, yb, -, -, -, -, -, ⟨z1, z2, -⟩, -⟩ := id hS2.1
      refine sgX5_keepLost_7 C (Nat.le_refl _) (Nat.le_refl _) z1 z2 yb.1 yb.2.1 yb.2.2.1 (fun _ => ⟨L, ⟨hLp, fun o => ?_⟩, hs, h5, hLl, hLr⟩) (fun c => ?_)
      · rw [hLm o]
        constructor
        · rintro ⟨a1, a2, a3, a4⟩; exact ⟨a1, a2, a3⟩
        · rintro ⟨a1, a2, a3⟩
          have := hG.1 o a1
          exact ⟨a1, a2, a3, by omega⟩
      · rw [yb.2.2.2] at c; exact absurd (Int32.le_refl _) c
    | succ n ih =>
      intro u hh L hu hs h6 h5 hLl hLp hLm hLr
      have hS2 := hS.sr hs
      obtain ⟨-, -, -, -, -, yb, -, -, -, -, -, ⟨z1, z2, z3, z4, z5, z6, z7, z8, z9, z10⟩, -⟩ := id hS2.1
      -- no block but that of this unit comes in
      have nxt : ∀ (L2 : List Nat), (∀ o, o ∈ L2 ↔ o ∈ L ∨ (ulv B u = some o ∧ ¬ Rch B r M Rt o)) → ∀ o, o ∈ L2 ↔ o < B.length ∧ (bat B o).2.2.2.2 = 0 ∧ ¬ Rch B r M Rt o ∧ (bat B o).1 < 4 * (u + 1) + 1 := by
        intro L2 hL2 o
        rw [hL2 o, hLm o]
        constructor
        · rintro (⟨a1, a2, a3, a4⟩ | ⟨a1, a2⟩)
          · exact ⟨a1, a2, a3, by omega⟩
          · obtain ⟨b1, b2, b3⟩ := ulv_lt a1
            exact ⟨b1, b3, a2, by omega⟩
        · rintro ⟨a1, a2, a3, a4⟩
          have hg := hG.1 o a1
          by_cases hlt : (bat B o).1 < 4 * u + 1
          · exact Or.inl ⟨a1, a2, a3, hlt⟩
          · have := (ulv_of hG a1 a2).1
            rw [show ((bat B o).1 - 1) / 4 = u by omega] at this
            exact Or.inr ⟨this, a3⟩
      refine sgX5_keepLost_7 C (Nat.le_refl _) (Nat.le_refl _) z1 z2 yb.1 yb.2.1 yb.2.2.1 (fun c => ?_) (fun _ => ?_)
      · rw [yb.2.2.2, nI_leI (by omega) (by omega)] at c; omega
      · refine clX5_keepLost_24 C (ct1_liveFromUnit yb hS2.2.1 hG (by omega) (u := u) (by omega)) yb.1 (by decide) (Nat.zero_le _) (Nat.zero_le _) (Nat.le_of_ble_eq_true rfl) (fun o h' ⟨e1, e2⟩ => ?_)
        subst e1
        cases hq : ulv B u with
        | none =>
          rw [hq] at e2
          subst e2
          refine sgX5_keepLost_27 C (fun z hz => by cases hz) z1 z8 z9 (fun z hz => by cases hz) (fun z hz => by cases hz) (fun z hz => by cases hz) (fun _ => ?_) (fun z hz => by cases hz) (fun z hz => by cases hz) (fun z hz => by cases hz)
          rw [nI_1]
          refine At.fg [_, _] (ih (u + 1) h' L (by omega) hs h6 h5 (by omega) hLp (nxt L (fun o => ?_)) hLr)
          rw [hq]; simp
        | some i =>
          rw [hq] at e2
          subst e2
          obtain ⟨hil, hi1, hi0⟩ := ulv_lt hq
          have hn := hS2.2.1.1 i hil
          have h6i : ¬ h'.I 6 (ndB nd B i) = 0 ↔ Rch B r M Rt i := by rw [h6, hT.2.2.2.2 i hil hi0, hTR i hil]
          have skip : Rch B r M Rt i → At X 0 0 7 [some (va_rf (some (E 808))), some (.int (nI u + 1)), some (va_rf (some (ndB nd B i)))] [] h' := by
            intro hR
            rw [nI_1]
            refine At.fg [_, _] (ih (u + 1) h' L (by omega) hs h6 h5 (by omega) hLp (nxt L (fun o => ?_)) hLr)
            constructor
            · exact Or.inl
            · rintro (h1 | ⟨h1, h2⟩)
              · exact h1
              · rw [hq] at h1; cases h1; exact absurd hR h2
          refine sgX5_keepLost_27 C (fun z hz => by cases hz; exact hn.1) z1 z8 z9 (fun z hz _ _ => by cases hz; exact hn.1) (fun z hz _ _ => ?_) (fun z hz _ _ v hv => by cases hz; cases hv; exact hn.1) (fun e => by cases e) (fun z hz c1 => ?_) (fun z hz c1 c2 => ?_) (fun z hz c1 c2 => ?_)
          · rw [h5, z10]; exact vin (by omega)
          · cases hz; exact skip (h6i.mp c1)
          · exfalso
            rw [h5, z10, nI_leI (by omega) (by omega)] at c2; omega
          · cases hz
            have hnr : ¬ Rch B r M Rt i := fun hR => h6i.mpr hR c1
            rw [h5, nI_clamp (by omega), nI_1, nI_1]
            refine At.fg [_, _] (ih (u + 1) _ (L ++ [i]) (by omega) (hs.trans (((Sr.sI E h' _ (Or.inr (Or.inl rfl))).trans (Sr.sAR _ _ (Or.inr rfl))).trans (Sr.sI E _ _ (Or.inr (Or.inr (Or.inr rfl)))))) ?_ ?_ (by simp; omega) ?_ (nxt (L ++ [i]) (fun o => ?_)) (fun j o ho => ?_))
            · rw [← h6]
              funext b
              simp [I_sI, I_sAR, up2]
            · simp [I_sI, up2]
            · rw [List.pairwise_append]
              refine ⟨hLp, List.pairwise_singleton _ _, fun a ha b hb => ?_⟩
              simp at hb; subst hb
              have := ((hLm a).mp ha).2.2.2
              omega
            · rw [List.mem_append, List.mem_singleton, hq]
              constructor
              · rintro (h1 | h1)
                · exact Or.inl h1
                · exact Or.inr ⟨by rw [h1], by rw [h1]; exact hnr⟩
              · rintro (h1 | ⟨h1, h2⟩)
                · exact Or.inl h1
                · cases h1; exact Or.inr rfl
            · simp only [AR_sI, AR_sAR, I_sI, I_sAR, up2, Nat.reduceEqDiff, if_false, if_true]
              by_cases hjl : j < L.length
              · rw [List.getElem?_append_left hjl] at ho
                have := hLr j o ho
                rw [if_neg (by omega)]
                refine ⟨this.1, ?_⟩
                split
                · rfl
                · exact this.2
              · rw [List.getElem?_append_right (by omega)] at ho
                have hz := (List.getElem?_eq_some_iff.mp ho).1
                have hj2 : j = L.length := by simp at hz; omega
                subst hj2
                simp at ho
                subst ho
                simp
  refine key _ 0 _ [] (Nat.zero_add _) (Sr.sI E h _ (Or.inr (Or.inr (Or.inr rfl)))) ?_ ?_ (Nat.le_refl _) List.Pairwise.nil (fun o => ?_) (fun i o ho => by simp at ho)
  · funext b; simp [I_sI, up2]
  · simp [I_sI, up2]; rfl
  · constructor
    · intro ho; cases ho
    · rintro ⟨a1, a2, a3, a4⟩
      have := hG.1 o a1
      omega
end C14
