/-! FITS, FIND, who goes: the reference's way, as functions of its lists -/
def bestS (F : Fl) (c : Nat) : Nat → Option Nat
  | 0 => none
  | k + 1 => if (gat F k).2 < c then bestS F c k else if (gat F k).2 ≤ 64 then (match bestS F c k with
      | none => some k
      | some b => if (gat F b).2 < (gat F k).2 then some b else some k) else bestS F c k
def bestG (F : Fl) (c : Nat) : Nat → Option Nat
  | 0 => none
  | k + 1 => if (gat F k).2 < c then bestG F c k else if 64 < (gat F k).2 then (match bestG F c k with
      | none => some k
      | some b => if (gat F k).2 < (gat F b).2 then some k else if (gat F k).2 = (gat F b).2 then (if (gat F b).1 ≤ (gat F k).1 then some b else some k) else some b) else bestG F c k
def sFits (F : Fl) (c : Nat) : Option Nat := match bestS F c F.length with
  | some b => some b
  | none => bestG F c F.length
theorem bestS_lt (F : Fl) (c : Nat) : ∀ {k b : Nat}, bestS F c k = some b → b < k
  | 0, b, h => by cases h
  | k + 1, b, h => by
    rw [bestS] at h
    have ih := fun x (hx : bestS F c k = some x) => bestS_lt F c hx
    split at h
    · have := ih b h; omega
    · split at h
      · cases hb : bestS F c k with
        | none => rw [hb] at h; simp at h; omega
        | some x =>
          rw [hb] at h
          simp only at h
          have := ih x hb
          split at h <;> (cases h; omega)
      · have := ih b h; omega
theorem bestG_lt (F : Fl) (c : Nat) : ∀ {k b : Nat}, bestG F c k = some b → b < k
  | 0, b, h => by cases h
  | k + 1, b, h => by
    rw [bestG] at h
    have ih := fun x (hx : bestG F c k = some x) => bestG_lt F c hx
    split at h
    · have := ih b h; omega
    · split at h
      · cases hb : bestG F c k with
        | none => rw [hb] at h; simp at h; omega
        | some x =>
          rw [hb] at h
          simp only at h
          have := ih x hb
          repeat (first | (split at h) | (cases h; omega))
      · have := ih b h; omega
theorem oI_m1 {o : Option Nat} : oI o = -1 → (∀ b, o = some b → b < 2147483648) → o = none := by
  intro h hb
  cases o with
  | none => rfl
  | some b => exact absurd h (nI_m1 (hb b rfl))
section M3
variable {h : Hp} {t : Nat} {ρ A : Nat → Nat} {m : Mo}
theorem FRel.at {F : Fl} (hF : FRel m F) {i : Nat} (hi : i < F.length) : m.2 913 i = nI (gat F i).1 ∧ m.2 914 i = nI (gat F i).2 ∧ (gat F i).1 ≤ 3000 ∧ (gat F i).2 ≤ 3000 := by
  have hp : F[i]? = some F[i] := List.getElem?_eq_getElem hi
  rw [getD_of hp]
  exact hF.2.2 i _ hp
set_option maxHeartbeats 1000000 in
theorem ct9_fits (hS : MS h t ρ A) (m : Mo) {F : Fl} (hF : FRel m F) {c : Nat} (hc : c ≤ 4000) : CtI mX9_fits 1 0 0 [va_rf (some t), .int (nI c)] (mput h t ρ m) (fun r h' => h' = mput h t ρ m ∧ r = oI (sFits F c)) := by
  refine enX9_fits (fun X C => sm_fits_0 C hS ?_)
  have h1 := hF.1
  have h2 := hF.2.1
  have keyG : bestS F c F.length = none → ∀ k i, i + k = F.length → At X 0 0 73 [some (va_rf (some t)), some (.int (nI c)), some (.int (oI (bestG F c i))), some (.int (nI i))] [] (mput h t ρ m) := by
    intro hS0 k
    induction k with
    | zero =>
      intro i hi
      have hi : i = F.length := by omega
      subst hi
      refine sm_fits_73 C hS (Nat.le_refl _) (Nat.le_refl _) ?_ ?_ ?_ ?_ ?_ ?_ ?_ ?_ (fun _ => ⟨rfl, by rw [sFits, hS0]⟩) ?_ ?_ ?_ ?_ ?_ ?_ ?_ <;> (intro c; exact absurd ((li h1).mpr (by omega)) c)
    | succ k ih =>
      intro i hi
      have hlt : i < F.length := by omega
      have hcl : (nI i).toNatClampNeg = i := nI_clamp (by omega)
      obtain ⟨q1, q2, q3, q4⟩ := hF.at hlt
      have next : ∀ o, bestG F c (i + 1) = o → At X 0 0 73 [some (va_rf (some t)), some (.int (nI c)), some (.int (oI o)), some (.int (nI i + 1))] [] (mput h t ρ m) := fun o ho => by
        rw [nI_1, ← ho]; exact ih (i + 1) (by omega)
      rw [show oI (bestG F c i) = oI (bestG F c i) from rfl]
      have e : bestG F c (i + 1) = _ := bestG.eq_2 F c i
      have h64 : (64 : Int32) = nI 64 := rfl
      cases hb : bestG F c i with
      | none =>
        rw [hb] at e
        refine sm_fits_73 C hS (Nat.le_refl _) (Nat.le_refl _) (fun _ => vin (by omega)) (fun _ _ => vin (by omega)) (fun _ _ _ c => absurd rfl c) (fun _ _ _ c => absurd rfl c) (fun _ _ _ c => absurd rfl c) (fun _ _ _ c => absurd rfl c) (fun _ _ _ c => absurd rfl c) (fun _ _ _ c => absurd rfl c) (fun c => absurd ((li h1).mp c) (by omega)) (fun _ c1 => ?_) (fun _ c1 c2 _ => ?_) (fun _ _ _ c => absurd rfl c) (fun _ _ _ c => absurd rfl c) (fun _ _ _ c => absurd rfl c) (fun _ _ _ c => absurd rfl c) (fun _ c1 c2 => ?_)
        · simp (disch := omega) only [hcl, q1, q2, nI_ltI, nI_leI, nI_eq] at c1
          exact next none (by rw [e]; simp [c1])
        · simp (disch := omega) only [hcl, q1, q2, h64, nI_ltI, nI_leI, nI_eq] at c1 c2
          exact next (some i) (by rw [e]; simp [c1, c2])
        · simp (disch := omega) only [hcl, q1, q2, h64, nI_ltI, nI_leI, nI_eq] at c1 c2
          exact next none (by rw [e]; simp [c1, c2])
      | some b =>
        rw [hb] at e
        have hbl := bestG_lt F c hb
        obtain ⟨p1, p2, p3, p4⟩ := hF.at (i := b) (by omega)
        have hcb : (nI b).toNatClampNeg = b := nI_clamp (by omega)
        have hm1 : ¬ nI b = -1 := nI_m1 (by omega)
        refine sm_fits_73 C hS (Nat.le_refl _) (Nat.le_refl _) (fun _ => vin (by omega)) (fun _ _ => vin (by omega)) (fun _ _ _ _ => vin (by omega)) (fun _ _ _ _ => vin (by omega)) (fun _ _ _ _ _ => vin (by omega)) (fun _ _ _ _ _ => vin (by omega)) (fun _ _ _ _ _ _ => vin (by omega)) (fun _ _ _ _ _ _ => vin (by omega)) (fun c => absurd ((li h1).mp c) (by omega)) (fun _ c1 => ?_) (fun _ _ _ c => absurd c hm1) (fun _ c1 c2 _ c3 => ?_) (fun _ c1 c2 _ c3 c4 => ?_) (fun _ c1 c2 _ c3 c4 c5 => ?_) (fun _ c1 c2 _ c3 c4 c5 => ?_) (fun _ c1 c2 => ?_)
        · simp (disch := omega) only [hcl, q1, q2, nI_ltI, nI_leI, nI_eq] at c1
          exact next (some b) (by rw [e]; simp [c1])
        · simp (disch := omega) only [oI, hcl, hcb, q1, q2, p1, p2, h64, nI_ltI, nI_leI, nI_eq] at c1 c2 c3
          exact next (some i) (by rw [e]; simp [c1, c2, c3])
        · simp (disch := omega) only [oI, hcl, hcb, q1, q2, p1, p2, h64, nI_ltI, nI_leI, nI_eq] at c1 c2 c3 c4
          exact next (some b) (by rw [e]; simp [c1, c2, c3, c4])
        · simp (disch := omega) only [oI, hcl, hcb, q1, q2, p1, p2, h64, nI_ltI, nI_leI, nI_eq] at c1 c2 c3 c4 c5
          exact next (some b) (by rw [e]; simp [c1, c2, c4, c5])
        · simp (disch := omega) only [oI, hcl, hcb, q1, q2, p1, p2, h64, nI_ltI, nI_leI, nI_eq] at c1 c2 c3 c4 c5
          exact next (some i) (by rw [e, if_neg c1, if_pos c2]; simp only [if_neg c3, if_pos c4, if_neg c5])
        · simp (disch := omega) only [oI, hcl, hcb, q1, q2, p1, p2, h64, nI_ltI, nI_leI, nI_eq] at c1 c2
          exact next (some b) (by rw [e]; simp [c1, c2])
  have key : ∀ k i, i + k = F.length → At X 0 0 4 [some (va_rf (some t)), some (.int (nI c)), some (.int (oI (bestS F c i))), some (.int (nI i))] [] (mput h t ρ m) := by
    intro k
    induction k with
    | zero =>
      intro i hi
      have hi : i = F.length := by omega
      subst hi
      have hbS : ∀ b, bestS F c F.length = some b → b < 2147483648 := fun b hb => by have := bestS_lt F c hb; omega
      refine sm_fits_4 C hS (Nat.le_refl _) (Nat.le_refl _) ?_ ?_ ?_ ?_ (fun _ cz => ?_) (fun _ cz => ⟨rfl, ?_⟩) ?_ ?_ ?_ ?_ ?_
      all_goals try (intro c; exact absurd ((li h1).mpr (by omega)) c)
      · have h0 := oI_m1 cz hbS
        have := keyG h0 F.length 0 (by omega)
        rw [h0]
        exact this
      · cases hb : bestS F c F.length with
        | none => rw [hb] at cz; exact absurd rfl cz
        | some b => rw [sFits, hb]
    | succ k ih =>
      intro i hi
      have hlt : i < F.length := by omega
      have hcl : (nI i).toNatClampNeg = i := nI_clamp (by omega)
      obtain ⟨q1, q2, q3, q4⟩ := hF.at hlt
      have next : ∀ o, bestS F c (i + 1) = o → At X 0 0 4 [some (va_rf (some t)), some (.int (nI c)), some (.int (oI o)), some (.int (nI i + 1))] [] (mput h t ρ m) := fun o ho => by
        rw [nI_1, ← ho]; exact ih (i + 1) (by omega)
      have e : bestS F c (i + 1) = _ := bestS.eq_2 F c i
      have h64 : (64 : Int32) = nI 64 := rfl
      cases hb : bestS F c i with
      | none =>
        rw [hb] at e
        refine sm_fits_4 C hS (Nat.le_refl _) (Nat.le_refl _) (fun _ => vin (by omega)) (fun _ _ => vin (by omega)) (fun _ _ _ c => absurd rfl c) (fun _ _ _ c => absurd rfl c) (fun c => absurd ((li h1).mp c) (by omega)) (fun c => absurd ((li h1).mp c) (by omega)) (fun _ c1 => ?_) (fun _ c1 c2 _ => ?_) (fun _ _ _ c => absurd rfl c) (fun _ _ _ c => absurd rfl c) (fun _ c1 c2 => ?_)
        · simp (disch := omega) only [hcl, q1, q2, nI_ltI, nI_leI, nI_eq] at c1
          exact next none (by rw [e]; simp [c1])
        · simp (disch := omega) only [hcl, q1, q2, h64, nI_ltI, nI_leI, nI_eq] at c1 c2
          exact next (some i) (by rw [e]; simp [c1, c2])
        · simp (disch := omega) only [hcl, q1, q2, h64, nI_ltI, nI_leI, nI_eq] at c1 c2
          exact next none (by rw [e]; simp [c1, c2])
      | some b =>
        rw [hb] at e
        have hbl := bestS_lt F c hb
        obtain ⟨p1, p2, p3, p4⟩ := hF.at (i := b) (by omega)
        have hcb : (nI b).toNatClampNeg = b := nI_clamp (by omega)
        have hm1 : ¬ nI b = -1 := nI_m1 (by omega)
        refine sm_fits_4 C hS (Nat.le_refl _) (Nat.le_refl _) (fun _ => vin (by omega)) (fun _ _ => vin (by omega)) (fun _ _ _ _ => vin (by omega)) (fun _ _ _ _ => vin (by omega)) (fun c => absurd ((li h1).mp c) (by omega)) (fun c => absurd ((li h1).mp c) (by omega)) (fun _ c1 => ?_) (fun _ _ _ c => absurd c hm1) (fun _ c1 c2 _ c3 => ?_) (fun _ c1 c2 _ c3 => ?_) (fun _ c1 c2 => ?_)
        · simp (disch := omega) only [hcl, q1, q2, nI_ltI, nI_leI, nI_eq] at c1
          exact next (some b) (by rw [e]; simp [c1])
        · simp (disch := omega) only [oI, hcl, hcb, q1, q2, p1, p2, h64, nI_ltI, nI_leI, nI_eq] at c1 c2 c3
          exact next (some b) (by rw [e]; simp [c1, c2, c3])
        · simp (disch := omega) only [oI, hcl, hcb, q1, q2, p1, p2, h64, nI_ltI, nI_leI, nI_eq] at c1 c2 c3
          exact next (some i) (by rw [e]; simp [c1, c2, c3])
        · simp (disch := omega) only [oI, hcl, hcb, q1, q2, p1, p2, h64, nI_ltI, nI_leI, nI_eq] at c1 c2
          exact next (some b) (by rw [e]; simp [c1, c2])
  exact key F.length 0 (by omega)
end M3
