/-! what leads where, and what is lost -/
theorem At.fg {X : CX} {cells slots pc : Nat} {st : List Value} {h : Hp} (pre : List (Option Value)) {x : Option Value} {post : List (Option Value)} (k : At X cells slots pc (pre ++ none :: post) st h) : At X cells slots pc (pre ++ x :: post) st h := by
  refine At.les (fun i v hi => ?_) k
  by_cases h1 : i < pre.length
  · rw [List.getElem?_append_left h1] at hi ⊢; exact hi
  · rw [List.getElem?_append_right (by omega)] at hi ⊢
    cases hj : i - pre.length with
    | zero => rw [hj] at hi; simp at hi
    | succ j => rw [hj] at hi; simpa using hi
def ldB (B : List Blk) (r : Nat) (v : Int32) : Option Nat := if sortB B r v = 0 then bIx B v else none
theorem ldB_lt {B : List Blk} {r : Nat} {v : Int32} {i : Nat} (h : ldB B r v = some i) : i < B.length ∧ (bat B i).2.2.2.2 = 0 := by
  unfold ldB at h
  split at h
  · rename_i h0
    refine ⟨bIx_lt h, ?_⟩
    unfold sortB at h0
    rw [h] at h0
    simp only at h0
    split at h0
    · exact absurd h0 (by decide)
    · split at h0
      · split at h0
        · assumption
        · exact absurd h0 (by decide)
      · exact absurd h0 (by decide)
  · cases h
theorem oI_mm {o : Option Nat} (h : ∀ i, o = some i → i < 2147483648) : oI o = -1 ↔ o = none := by
  cases o with
  | none => simp [oI]
  | some i => simp [oI, nI_m1 (h i rfl)]
def cR (B : List Blk) (r : Nat) (R : Nat → Int32) : Nat → Nat
  | 0 => 0
  | i + 1 => if ldB B r (R i) = none then cR B r R i else cR B r R i + 1
def cW (B : List Blk) (r : Nat) (M : Nat → Int32) (b : Nat) : Nat → Nat
  | 0 => 0
  | i + 1 => if ldB B r (M ((bat B b).1 + r + i)) = none then cW B r M b i else cW B r M b i + 1
def cP (B : List Blk) (r : Nat) (M : Nat → Int32) : Nat → Nat
  | 0 => 0
  | i + 1 => if (bat B i).2.2.2.2 = 0 then cP B r M i + cW B r M i (bat B i).2.2.1 else cP B r M i
section M13
variable {h : Hp} {t : Nat} {ρ A : Nat → Nat} {m : Mo} {W r c : Nat} {s : St} {g f k : Nat}
theorem ct9_leads (hS : MS h t ρ A) (m : Mo) {B : List Blk} (hB : BRel m B) (hr : m.1 901 = nI r) (v : Int32) : CtI mX9_leads 3 0 0 [va_rf (some t), .int v] (mput h t ρ m) (fun y h' => h' = mput h t ρ m ∧ y = oI (ldB B r v)) := by
  refine enX9_leads (fun X C => sm_leads_0 C hS ?_)
  refine clX9_leads_2 C (ct9_sort hS m hB hr v) (hS.k m) (by decide) (Nat.le_refl _) (Nat.le_refl _) (Nat.le_of_ble_eq_true rfl) (fun y h' ⟨e1, e2⟩ => ?_)
  subst e1; subst e2
  refine sm_leads_5 C hS (Nat.le_refl _) (Nat.le_refl _) (fun c1 => ⟨rfl, by simp [ldB, c1, oI]⟩) (fun c1 => ?_)
  refine clX9_leads_10 C (ct9_block hS m hB v) (hS.k m) (by decide) (Nat.le_refl _) (Nat.le_refl _) (Nat.le_of_ble_eq_true rfl) (fun y h' ⟨e1, e2⟩ => ?_)
  subst e1; subst e2
  exact sm_leads_13 C hS (Nat.le_refl _) (Nat.le_refl _) ⟨rfl, by simp [ldB, c1]⟩
theorem ld_m1 {B : List Blk} (hB : BRel m B) (v : Int32) : oI (ldB B r v) = -1 ↔ ldB B r v = none := oI_mm (fun i hi => by have := (ldB_lt hi).1; have := hB.2.1; omega)
theorem bw_at {B : List Blk} (hBW : BW r B) {i : Nat} (hi : i < B.length) : 1 ≤ (bat B i).2.2.1 ∧ (bat B i).2.2.1 + 2 * r ≤ (bat B i).2.1 := hBW _ (List.mem_of_getElem? (bat_get hi))
set_option maxHeartbeats 1000000 in
theorem ct9_pointers (hS : MS h t ρ A) (m : Mo) {B : List Blk} (hB : BRel m B) (hr : m.1 901 = nI r) (hBW : BW r B) : CtI mX9_pointers 4 0 0 [va_rf (some t)] (mput h t ρ m) (fun y h' => h' = mput h t ρ (th0 m) ∧ y = nI (cR B r (m.2 922) 16 + cP B r (m.2 904) B.length)) := by
  have hB0 : BRel (th0 m) B := hB.same (th0_same m) (by decide) (by decide)
  have hr0 : (th0 m).1 901 = nI r := hr
  have h1 := hB0.1
  have h2 := hB0.2.1
  refine enX9_pointers (fun X C => sm_pointers_0 C hS ?_)
  have loop2 : ∀ n i, i + n = B.length → At X 0 0 45 [some (va_rf (some t)), some (.int (nI (cR B r (m.2 922) 16 + cP B r (m.2 904) i))), some (.int (nI i)), none] [] (mput h t ρ (th0 m)) := by
    intro n
    induction n with
    | zero =>
      intro i hi
      have hi : i = B.length := by omega
      subst hi
      exact sm_pointers_45 C hS (Nat.le_refl _) (Nat.le_refl _) (fun _ => ⟨rfl, rfl⟩) (fun c => absurd ((li h1).mpr (by omega)) c)
    | succ n ih =>
      intro i hi
      have hlt : i < B.length := by omega
      have hz := live_z hB0 hlt
      have hcl : (nI i).toNatClampNeg = i := nI_clamp (by omega)
      have qi := hB0.at hlt
      have hbw := bw_at hBW hlt
      have nx := ih (i + 1) (by omega)
      rw [← nI_1, cP] at nx
      have inner : ∀ n2 j, j + n2 = (bat B i).2.2.1 → (bat B i).2.2.2.2 = 0 → At X 0 0 55 [some (va_rf (some t)), some (.int (nI (cR B r (m.2 922) 16 + cP B r (m.2 904) i + cW B r (m.2 904) i j))), some (.int (nI i)), some (.int (nI j))] [] (mput h t ρ (th0 m)) := by
        intro n2
        induction n2 with
        | zero =>
          intro j hj hl
          have hj : j = (bat B i).2.2.1 := by omega
          refine sm_pointers_55 C hS (vin (by omega)) (fun c => ?_) (fun c => ?_)
          · rw [if_pos hl] at nx
            rw [hj, Nat.add_assoc]
            exact At.fg [_, _, _] nx
          · exfalso
            rw [hcl, qi.2.2.1, nI_leI (by omega) (by omega)] at c
            omega
        | succ n2 ih2 =>
          intro j hj hl
          have nx2 := ih2 (j + 1) (by omega) hl
          rw [← nI_1, cW] at nx2
          refine sm_pointers_55 C hS (vin (by omega)) (fun c => ?_) (fun c => ?_)
          · exfalso
            rw [hcl, qi.2.2.1, nI_leI (by omega) (by omega)] at c
            omega
          · refine clX9_pointers_67 C (ct9_isLive hS (th0 m) (b := i) (by omega)) (hS.k _) (by decide) (Nat.le_refl _) (Nat.le_refl _) (Nat.le_of_ble_eq_true rfl) (fun y h' ⟨e1, e2⟩ => ?_)
            subst e1; subst e2
            refine sm_pointers_70 C hS (fun c => ?_) (fun c => ?_)
            · rw [hz.mpr hl] at c; simp at c
            · refine clX9_pointers_81 C (ct9_start hS (th0 m) (b := i) (by omega)) (hS.k _) (by decide) (Nat.le_refl _) (Nat.le_refl _) (Nat.le_of_ble_eq_true rfl) (fun y h' ⟨e1, e2⟩ => ?_)
              subst e1; subst e2
              rw [qi.1, hr0, nI_add]
              refine sm_pointers_84 C hS (by rw [nI_add]; exact vin (by omega)) ?_
              rw [nI_add, nI_clamp (by omega)]
              refine clX9_pointers_87 C (ct9_leads hS (th0 m) hB0 hr0 _) (hS.k _) (by decide) (Nat.le_refl _) (Nat.le_refl _) (Nat.le_of_ble_eq_true rfl) (fun y h' ⟨e1, e2⟩ => ?_)
              subst e1; subst e2
              refine sm_pointers_90 C hS (fun c => ?_) (fun c => ?_)
              · rw [ld_m1 hB0] at c
                have c : ldB B r (m.2 904 ((bat B i).1 + r + j)) = none := c
                rw [if_pos c] at nx2
                rw [Int32.add_zero]; exact nx2
              · rw [ld_m1 hB0] at c
                have c : ¬ ldB B r (m.2 904 ((bat B i).1 + r + j)) = none := c
                rw [if_neg c, ← Nat.add_assoc, ← nI_1] at nx2
                exact nx2
      by_cases hl : (bat B i).2.2.2.2 = 0
      · refine sm_pointers_45 C hS (Nat.le_refl _) (Nat.le_refl _) (fun c => absurd ((li h1).mp c) (by omega)) (fun _ => ?_)
        exact inner (bat B i).2.2.1 0 (by omega) hl
      · refine sm_pointers_45 C hS (Nat.le_refl _) (Nat.le_refl _) (fun c => absurd ((li h1).mp c) (by omega)) (fun _ => ?_)
        refine sm_pointers_55 C hS (vin (by omega)) (fun c => ?_) (fun c => ?_)
        · exfalso
          rw [hcl, qi.2.2.1] at c
          have := (nI_leI (a := (bat B i).2.2.1) (b := 0) (by omega) (by omega)).mp c
          omega
        · refine clX9_pointers_67 C (ct9_isLive hS (th0 m) (b := i) (by omega)) (hS.k _) (by decide) (Nat.le_refl _) (Nat.le_refl _) (Nat.le_of_ble_eq_true rfl) (fun y h' ⟨e1, e2⟩ => ?_)
          subst e1; subst e2
          refine sm_pointers_70 C hS (fun c => ?_) (fun c => ?_)
          · rw [if_neg hl] at nx
            exact At.fg [_, _, _] nx
          · exfalso
            have : ¬ (th0 m).2 911 i = 0 := fun e => hl (hz.mp e)
            simp [this] at c
  have loop1 : ∀ n i, i + n = 16 → At X 0 0 9 [some (va_rf (some t)), some (.int (nI (cR B r (m.2 922) i))), some (.int (nI i)), none] [] (mput h t ρ (th0 m)) := by
    intro n
    induction n with
    | zero =>
      intro i hi
      have hi : i = 16 := by omega
      subst hi
      refine sm_pointers_9 C hS (fun c => absurd (show (16 : Int32) ≤ nI 16 by decide) c) (fun _ => ?_) (fun c => absurd (show (16 : Int32) ≤ nI 16 by decide) c)
      exact loop2 B.length 0 (by omega)
    | succ n ih =>
      intro i hi
      have nx := ih (i + 1) (by omega)
      rw [← nI_1, cR] at nx
      have h16 : ¬ (16 : Int32) ≤ nI i := by
        rw [show (16 : Int32) = nI 16 from rfl, nI_leI (by omega) (by omega)]; omega
      refine sm_pointers_9 C hS (fun _ => vin (by omega)) (fun c => absurd c h16) (fun _ => ?_)
      rw [nI_clamp (by omega)]
      refine clX9_pointers_23 C (ct9_leads hS (th0 m) hB0 hr0 _) (hS.k _) (by decide) (Nat.le_refl _) (Nat.le_refl _) (Nat.le_of_ble_eq_true rfl) (fun y h' ⟨e1, e2⟩ => ?_)
      subst e1; subst e2
      refine sm_pointers_26 C hS (fun c => ?_) (fun c => ?_)
      · rw [ld_m1 hB0] at c
        have c : ldB B r (m.2 922 i) = none := c
        rw [if_pos c] at nx
        rw [Int32.add_zero]; exact nx
      · rw [ld_m1 hB0] at c
        have c : ¬ ldB B r (m.2 922 i) = none := c
        rw [if_neg c, ← nI_1 (cR B r (m.2 922) i)] at nx
        exact nx
  exact loop1 16 0 rfl
end M13
