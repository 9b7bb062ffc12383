/-! the reference's search -/
def clo (B : List Blk) (r : Nat) (M R : Nat → Int32) (S : Nat → Prop) : Prop := (∀ i, i < 16 → ∀ d, ldB B r (R i) = some d → S d) ∧ ∀ a, S a → ∀ k, k < (bat B a).2.2.1 → ∀ d, ldB B r (M ((bat B a).1 + r + k)) = some d → S d
def Rch (B : List Blk) (r : Nat) (M R : Nat → Int32) (b : Nat) : Prop := ∀ S, clo B r M R S → S b
theorem Rch.clo (B : List Blk) (r : Nat) (M R : Nat → Int32) : clo B r M R (Rch B r M R) := ⟨fun i hi d hd S hS => hS.1 i hi d hd, fun a ha k hk d hd S hS => hS.2 a (ha S hS) k hk d hd⟩
def sR (m : Mo) (fl : Nat → Int32) : Mo := (m.1, fun g j => if g = 926 then fl j else m.2 g j)
theorem sR_up (m : Mo) (fl : Nat → Int32) (i : Nat) (v : Int32) : ((sR m fl).1, up2 (sR m fl).2 926 i v) = sR m (up1 fl i v) := by
  refine Prod.ext rfl ?_
  funext g j
  by_cases hg : g = 926
  · subst hg
    by_cases hj : j = i <;> simp [sR, up2, up1, hj]
  · simp [sR, up2, hg]
theorem sR_0 (m : Mo) : m = sR m (m.2 926) := by
  refine Prod.ext rfl ?_
  funext g j
  by_cases hg : g = 926
  · subst hg; simp [sR]
  · simp [sR, hg]
theorem sR_same (m : Mo) (fl : Nat → Int32) : Msame [] [926] m (sR m fl) := ⟨fun _ _ => rfl, fun g hg => by funext j; simp only [List.mem_cons, List.not_mem_nil, or_false] at hg; simp [sR, hg]⟩
theorem sR_fl (m : Mo) (fl : Nat → Int32) (i : Nat) : (sR m fl).2 926 i = fl i := rfl
def zc (fl : Nat → Int32) : Nat → Nat
  | 0 => 0
  | i + 1 => if fl i = 0 then zc fl i + 1 else zc fl i
theorem zc_up {fl : Nat → Int32} {d : Nat} (h0 : fl d = 0) : ∀ n, zc (up1 fl d 1) n + (if d < n then 1 else 0) = zc fl n
  | 0 => by simp [zc]
  | n + 1 => by
    have ih := zc_up h0 n
    by_cases hd : d = n
    · subst hd
      simp only [zc, up1, if_true, h0, Nat.lt_irrefl, if_false, Nat.add_zero] at ih ⊢
      rw [if_neg (by decide), if_pos (by omega), ih]
    · have e : up1 fl d 1 n = fl n := up1_n _ _ (fun e => hd e.symm)
      simp only [zc, e]
      by_cases hz : fl n = 0 <;> by_cases hl : d < n <;> simp [hz, hl, show (d < n + 1) ↔ d < n by omega] at ih ⊢ <;> omega
section M14
variable {h : Hp} {t : Nat} {ρ A : Nat → Nat} {m : Mo} {W r c : Nat} {s : St} {g f k : Nat}
set_option maxHeartbeats 1000000 in
theorem ct9_reaches (hS : MS h t ρ A) (m : Mo) {B : List Blk} (hB : BRel m B) (hr : m.1 901 = nI r) (hBW : BW r B) : CtV mX9_reaches 4 0 0 [va_rf (some t)] (mput h t ρ m) (fun h' => ∃ fl, h' = mput h t ρ (sR m fl) ∧ ∀ i, i < B.length → (¬ fl i = 0 ↔ Rch B r (m.2 904) (m.2 922) i)) := by
  have hB0 : ∀ fl, BRel (sR m fl) B := fun fl => hB.same (sR_same m fl) (by decide) (by decide)
  have hr0 : ∀ fl, (sR m fl).1 901 = nI r := fun fl => hr
  have h1 := hB.1
  have h2 := hB.2.1
  refine enX9_reaches (fun X C => sm_reaches_0 C hS ?_)
  have hclo := Rch.clo B r (m.2 904) (m.2 922)
  -- the passes
  have loop3 : ∀ N fl (x1 : Int32), (∀ i, i < B.length → ¬ fl i = 0 → Rch B r (m.2 904) (m.2 922) i) → (∀ j, j < 16 → ∀ d, ldB B r (m.2 922 j) = some d → ¬ fl d = 0) → ((x1 = 0 ∧ ∀ a, a < B.length → ¬ fl a = 0 → ∀ k, k < (bat B a).2.2.1 → ∀ d, ldB B r (m.2 904 ((bat B a).1 + r + k)) = some d → ¬ fl d = 0) ∨ (x1 = 1 ∧ zc fl B.length < N)) →
      At X 0 0 69 [some (va_rf (some t)), some (.int x1), none, none, none] [] (mput h t ρ (sR m fl)) := by
    intro N
    induction N with
    | zero =>
      intro fl x1 i1 i2 i3
      rcases i3 with ⟨rfl, i3⟩ | ⟨_, i3⟩
      · refine sm_reaches_69 C hS (Nat.le_refl _) (Nat.le_refl _) (fun _ => ⟨fl, rfl, fun i hi => ⟨i1 i hi, fun hR => ?_⟩⟩) (fun c => absurd rfl c)
        have := hR (fun q => q < B.length ∧ ¬ fl q = 0) ⟨fun j hj d hd => ⟨(ldB_lt hd).1, i2 j hj d hd⟩, fun a ha k hk d hd => ⟨(ldB_lt hd).1, i3 a ha.1 ha.2 k hk d hd⟩⟩
        exact this.2
      · omega
    | succ N ihN =>
      intro fl x1 i1 i2 i3
      rcases i3 with ⟨rfl, i3⟩ | ⟨rfl, i3⟩
      · exact ihN fl 0 i1 i2 (Or.inl ⟨rfl, i3⟩)
      refine sm_reaches_69 C hS (Nat.le_refl _) (Nat.le_refl _) (fun c => absurd c (by decide)) (fun _ => ?_)
      -- one pass
      have pass : ∀ n b fl2 (x1 : Int32), b + n = B.length → (∀ i, i < B.length → ¬ fl2 i = 0 → Rch B r (m.2 904) (m.2 922) i) → (∀ j, j < 16 → ∀ d, ldB B r (m.2 922 j) = some d → ¬ fl2 d = 0) → ((x1 = 0 ∧ fl2 = fl ∧ ∀ a, a < b → ¬ fl a = 0 → ∀ k, k < (bat B a).2.2.1 → ∀ d, ldB B r (m.2 904 ((bat B a).1 + r + k)) = some d → ¬ fl d = 0) ∨ (x1 = 1 ∧ zc fl2 B.length < zc fl B.length)) →
          At X 0 0 77 [some (va_rf (some t)), some (.int x1), some (.int (nI b)), none, none] [] (mput h t ρ (sR m fl2)) := by
        intro n
        induction n with
        | zero =>
          intro b fl2 x1 hb j1 j2 j3
          have hb : b = B.length := by omega
          subst hb
          refine sm_reaches_77 C hS (fun _ => ?_) (fun c => absurd ((li h1).mpr (Nat.le_refl _)) c)
          refine At.fg [_, _] (ihN fl2 x1 j1 j2 ?_)
          rcases j3 with ⟨e1, e2, j3⟩ | ⟨e1, j3⟩
          · subst e2; exact Or.inl ⟨e1, j3⟩
          · exact Or.inr ⟨e1, by omega⟩
        | succ n ihp =>
          intro b fl2 x1 hb j1 j2 j3
          have hlt : b < B.length := by omega
          have hcl : (nI b).toNatClampNeg = b := nI_clamp (by omega)
          have hbw := bw_at hBW hlt
          have qb := hB.at hlt
          refine sm_reaches_77 C hS (fun c => absurd ((li h1).mp c) (by omega)) (fun _ => ?_)
          have inner : ∀ n2 k fl2 (x1 : Int32), k + n2 = (bat B b).2.2.1 → (∀ i, i < B.length → ¬ fl2 i = 0 → Rch B r (m.2 904) (m.2 922) i) → (∀ j, j < 16 → ∀ d, ldB B r (m.2 922 j) = some d → ¬ fl2 d = 0) → ((x1 = 0 ∧ fl2 = fl ∧ (∀ a, a < b → ¬ fl a = 0 → ∀ k, k < (bat B a).2.2.1 → ∀ d, ldB B r (m.2 904 ((bat B a).1 + r + k)) = some d → ¬ fl d = 0) ∧ ∀ k', k' < k → ∀ d, ldB B r (m.2 904 ((bat B b).1 + r + k')) = some d → ¬ fl d = 0) ∨ (x1 = 1 ∧ zc fl2 B.length < zc fl B.length)) →
              At X 0 0 87 [some (va_rf (some t)), some (.int x1), some (.int (nI b)), some (.int (nI k)), none] [] (mput h t ρ (sR m fl2)) := by
            intro n2
            induction n2 with
            | zero =>
              intro k fl2 x1 hk j1 j2 j3
              have hk : k = (bat B b).2.2.1 := by omega
              refine sm_reaches_87 C hS (vin (by omega)) (fun _ => vin (by omega)) (fun c => ?_) (fun c => ?_) (fun c => ?_)
              · refine At.fg [_, _, _] ?_
                rw [nI_1]
                refine ihp (b + 1) fl2 x1 (by omega) j1 j2 ?_
                rcases j3 with ⟨e1, e2, j3, j4⟩ | j3
                · refine Or.inl ⟨e1, e2, fun a ha hfa k2 hk2 d hd => ?_⟩
                  by_cases hab : a = b
                  · subst hab; exact j4 k2 (by omega) d hd
                  · exact j3 a (by omega) hfa k2 hk2 d hd
                · exact Or.inr j3
              all_goals (exfalso; rw [hcl] at c; have c : ¬ m.2 909 b ≤ nI k := c; rw [qb.2.2.1, nI_leI (by omega) (by omega)] at c; omega)
            | succ n2 ih2 =>
              intro k fl2 x1 hk j1 j2 j3
              refine sm_reaches_87 C hS (vin (by omega)) (fun _ => vin (by omega)) (fun c => ?_) (fun c c' => ?_) (fun c c' => ?_)
              · exfalso
                rw [hcl] at c
                have c : m.2 909 b ≤ nI k := c
                rw [qb.2.2.1, nI_leI (by omega) (by omega)] at c; omega
              · rw [hcl, sR_fl] at c'
                refine At.fg [_, _, _] ?_
                rw [nI_1]
                refine ihp (b + 1) fl2 x1 (by omega) j1 j2 ?_
                rcases j3 with ⟨e1, e2, j3, j4⟩ | j3
                · refine Or.inl ⟨e1, e2, fun a ha hfa k2 hk2 d hd => ?_⟩
                  by_cases hab : a = b
                  · subst hab; rw [e2] at c'; exact absurd c' hfa
                  · exact j3 a (by omega) hfa k2 hk2 d hd
                · exact Or.inr j3
              · rw [hcl, sR_fl] at c'
                refine clX9_reaches_113 C (ct9_start hS (sR m fl2) (b := b) (by omega)) (hS.k _) (by decide) (Nat.le_refl _) (Nat.le_refl _) (Nat.le_of_ble_eq_true rfl) (fun y h' ⟨e1, e2⟩ => ?_)
                subst e1; subst e2
                have e9 : (sR m fl2).2 907 b + (sR m fl2).1 901 = nI ((bat B b).1 + r) := by
                  rw [hr0, (hB0 fl2).at hlt |>.1, nI_add]
                rw [e9]
                refine sm_reaches_116 C hS (by rw [nI_add]; exact vin (by omega)) ?_
                rw [nI_add, nI_clamp (by omega)]
                refine clX9_reaches_119 C (ct9_leads hS (sR m fl2) (hB0 fl2) (hr0 fl2) _) (hS.k _) (by decide) (Nat.le_refl _) (Nat.le_refl _) (Nat.le_of_ble_eq_true rfl) (fun y h' ⟨e1, e2⟩ => ?_)
                subst e1
                have e2 : y = oI (ldB B r (m.2 904 ((bat B b).1 + r + k))) := e2
                cases hq : ldB B r (m.2 904 ((bat B b).1 + r + k)) with
                | none =>
                  rw [hq] at e2
                  refine sm_reaches_122 C hS (fun c => absurd e2 c) (fun c => absurd e2 c) (fun _ => ?_) (fun c => absurd e2 c) (fun c => absurd e2 c)
                  refine At.fg [_, _, _, _] ?_
                  rw [nI_1]
                  refine ih2 (k + 1) fl2 x1 (by omega) j1 j2 ?_
                  rcases j3 with ⟨e1, e2, j3, j4⟩ | j3
                  · refine Or.inl ⟨e1, e2, j3, fun k2 hk2 d hd => ?_⟩
                    by_cases hkk : k2 = k
                    · subst hkk; rw [hq] at hd; cases hd
                    · exact j4 k2 (by omega) d hd
                  · exact Or.inr j3
                | some d =>
                  rw [hq] at e2
                  have e2 : y = nI d := e2
                  subst e2
                  have hdl := (ldB_lt hq).1
                  have hcd : (nI d).toNatClampNeg = d := nI_clamp (by omega)
                  refine sm_reaches_122 C hS (fun _ => vin (by omega)) (fun _ _ => vin (by omega)) (fun c => absurd c (nI_m1 (by omega))) (fun _ c2 => ?_) (fun _ c2 => ?_)
                  · rw [hcd, sR_fl] at c2
                    rw [hcd, sR_up]
                    refine At.fg [_, _, _, _] ?_
                    rw [nI_1]
                    have hz := zc_up c2 B.length
                    rw [if_pos hdl] at hz
                    refine ih2 (k + 1) (up1 fl2 d 1) 1 (by omega) (fun i hi hf => ?_) (fun j hj d2 hd2 => ?_) (Or.inr ⟨rfl, ?_⟩)
                    · by_cases hid : i = d
                      · subst hid
                        exact hclo.2 b (j1 b hlt c') k (by omega) i hq
                      · rw [up1_n _ _ hid] at hf; exact j1 i hi hf
                    · by_cases hid : d2 = d
                      · subst hid; rw [up1_s]; decide
                      · rw [up1_n _ _ hid]; exact j2 j hj d2 hd2
                    · rcases j3 with ⟨e1, e2, -⟩ | ⟨-, j3⟩
                      · rw [e2] at hz ⊢; omega
                      · omega
                  · rw [hcd, sR_fl] at c2
                    refine At.fg [_, _, _, _] ?_
                    rw [nI_1]
                    refine ih2 (k + 1) fl2 x1 (by omega) j1 j2 ?_
                    rcases j3 with ⟨e1, e5, j3, j4⟩ | j3
                    · refine Or.inl ⟨e1, e5, j3, fun k2 hk2 d2 hd => ?_⟩
                      by_cases hkk : k2 = k
                      · subst hkk; rw [hq] at hd; cases hd; rw [e5] at c2; exact c2
                      · exact j4 k2 (by omega) d2 hd
                    · exact Or.inr j3
          refine inner _ 0 fl2 x1 (Nat.zero_add _) j1 j2 ?_
          rcases j3 with ⟨e1, e2, j3⟩ | j3
          · exact Or.inl ⟨e1, e2, j3, fun k' hk' => by omega⟩
          · exact Or.inr j3
      exact pass B.length 0 fl 0 (by omega) i1 i2 (Or.inl ⟨rfl, rfl, fun a ha => by omega⟩)
  -- the roots
  have loop2 : ∀ n i fl, i + n = 16 → (∀ i, i < B.length → ¬ fl i = 0 → Rch B r (m.2 904) (m.2 922) i) → (∀ j, j < i → ∀ d, ldB B r (m.2 922 j) = some d → ¬ fl d = 0) → At X 0 0 25 [some (va_rf (some t)), some (.int (nI i)), none, none, none] [] (mput h t ρ (sR m fl)) := by
    intro n
    induction n with
    | zero =>
      intro i fl hi j1 j2
      have hi : i = 16 := by omega
      subst hi
      refine sm_reaches_25 C hS (fun c => absurd (show (16 : Int32) ≤ nI 16 by decide) c) (fun _ => ?_) (fun c => absurd (show (16 : Int32) ≤ nI 16 by decide) c)
      exact loop3 (zc fl B.length + 1) fl 1 j1 j2 (Or.inr ⟨rfl, by omega⟩)
    | succ n ih =>
      intro i fl hi j1 j2
      have h16 : ¬ (16 : Int32) ≤ nI i := by
        rw [show (16 : Int32) = nI 16 from rfl, nI_leI (by omega) (by omega)]; omega
      have hcl : (nI i).toNatClampNeg = i := nI_clamp (by omega)
      refine sm_reaches_25 C hS (fun _ => vin (by omega)) (fun c => absurd c h16) (fun _ => ?_)
      rw [hcl]
      refine clX9_reaches_38 C (ct9_leads hS (sR m fl) (hB0 fl) (hr0 fl) _) (hS.k _) (by decide) (Nat.le_refl _) (Nat.le_refl _) (Nat.le_of_ble_eq_true rfl) (fun y h' ⟨e1, e2⟩ => ?_)
      subst e1
      have e2 : y = oI (ldB B r (m.2 922 i)) := e2
      cases hq : ldB B r (m.2 922 i) with
      | none =>
        rw [hq] at e2
        refine sm_reaches_41 C hS (fun c => absurd e2 c) (fun _ => ?_) (fun c => absurd e2 c)
        rw [nI_1]
        refine ih (i + 1) fl (by omega) j1 (fun j hj d hd => ?_)
        by_cases hji : j = i
        · subst hji; rw [hq] at hd; cases hd
        · exact j2 j (by omega) d hd
      | some d =>
        rw [hq] at e2
        have e2 : y = nI d := e2
        subst e2
        have hdl := (ldB_lt hq).1
        have hcd : (nI d).toNatClampNeg = d := nI_clamp (by omega)
        refine sm_reaches_41 C hS (fun _ => vin (by omega)) (fun c => absurd c (nI_m1 (by omega))) (fun _ => ?_)
        rw [hcl]
        refine clX9_reaches_56 C (ct9_leads hS (sR m fl) (hB0 fl) (hr0 fl) _) (hS.k _) (by decide) (Nat.le_refl _) (Nat.le_refl _) (Nat.le_of_ble_eq_true rfl) (fun y h' ⟨e1, e2⟩ => ?_)
        subst e1
        have e2 : y = oI (ldB B r (m.2 922 i)) := e2
        rw [hq] at e2
        have e2 : y = nI d := e2
        subst e2
        refine sm_reaches_59 C hS (vin (by omega)) ?_
        rw [hcd, sR_up, nI_1]
        refine ih (i + 1) (up1 fl d 1) (by omega) (fun q hq2 hf => ?_) (fun j hj d2 hd2 => ?_)
        · by_cases hid : q = d
          · subst hid; exact hclo.1 i (by omega) q hq
          · rw [up1_n _ _ hid] at hf; exact j1 q hq2 hf
        · by_cases hid : d2 = d
          · subst hid; rw [up1_s]; decide
          · rw [up1_n _ _ hid]
            by_cases hji : j = i
            · subst hji; rw [hq] at hd2; cases hd2; exact absurd rfl hid
            · exact j2 j (by omega) d2 hd2
  have loop1 : ∀ n i fl, i + n = B.length → (∀ j, j < i → fl j = 0) → At X 0 0 2 [some (va_rf (some t)), some (.int (nI i)), none, none, none] [] (mput h t ρ (sR m fl)) := by
    intro n
    induction n with
    | zero =>
      intro i fl hi j1
      refine sm_reaches_2 C hS (fun c => absurd ((li h1).mpr (by omega)) c) (fun _ => ?_) (fun c => absurd ((li h1).mpr (by omega)) c)
      exact loop2 16 0 fl rfl (fun q hq hf => absurd (j1 q (by omega)) hf) (fun j hj => by omega)
    | succ n ih =>
      intro i fl hi j1
      refine sm_reaches_2 C hS (fun _ => vin (by omega)) (fun c => absurd ((li h1).mp c) (by omega)) (fun _ => ?_)
      rw [nI_clamp (by omega), sR_up, nI_1]
      refine ih (i + 1) _ (by omega) (fun j hj => ?_)
      by_cases hji : j = i
      · subst hji; exact up1_s _ _ _
      · rw [up1_n _ _ hji]; exact j1 j (by omega)
  have := loop1 B.length 0 (m.2 926) (by omega) (fun j hj => by omega)
  rw [← sR_0 m] at this
  exact this
end M14
