/-! THE SEARCH in the class: what leads where -/
def SC (h : Hp) (x : Nat) (E : Nat → Nat) (W r c : Nat) (B : List Blk) (nd : Nat → Nat) (M Rt : Nat → Int32) : Prop := XS h x E W r c ∧ BkR h (E 100) ((W - 1) / 4) B r nd ∧ (∀ j, j < W → h.AI (E 600) j = M j) ∧ ∀ j, j < 16 → h.AI (E 806) j = Rt j
def srf (f : Nat) : Prop := f = 6 ∨ f = 7 ∨ f = 505 ∨ f = 506
/-- what the search leaves alone -/
def Sr (E : Nat → Nat) (h h' : Hp) : Prop := h'.K = h.K ∧ h'.N = h.N ∧ h'.R = h.R ∧ h'.AI = h.AI ∧ h'.AL = h.AL ∧ (∀ a, ¬ a = E 503 → ¬ a = E 504 → h'.AR a = h.AR a) ∧ ∀ f, ¬ srf f → h'.I f = h.I f
theorem Sr.rf (E : Nat → Nat) (h : Hp) : Sr E h h := ⟨rfl, rfl, rfl, rfl, rfl, fun _ _ _ => rfl, fun _ _ => rfl⟩
theorem Sr.trans {E : Nat → Nat} {h h1 h2 : Hp} (a : Sr E h h1) (b : Sr E h1 h2) : Sr E h h2 := ⟨b.1.trans a.1, b.2.1.trans a.2.1, b.2.2.1.trans a.2.2.1, b.2.2.2.1.trans a.2.2.2.1, b.2.2.2.2.1.trans a.2.2.2.2.1, fun x h1 h2 => (b.2.2.2.2.2.1 x h1 h2).trans (a.2.2.2.2.2.1 x h1 h2), fun f hf => (b.2.2.2.2.2.2 f hf).trans (a.2.2.2.2.2.2 f hf)⟩
theorem Sr.sI (E : Nat → Nat) (h : Hp) {f a : Nat} (v : Int32) (hf : srf f) : Sr E h (h.sI f a v) := ⟨rfl, rfl, rfl, rfl, rfl, fun _ _ _ => rfl, fun g hg => by
  funext b
  simp only [I_sI, up2, if_neg (show ¬ g = f from fun e => hg (by rw [e]; exact hf))]⟩
theorem Sr.sAR {E : Nat → Nat} (h : Hp) {a i : Nat} (v : Option Nat) (ha : a = E 503 ∨ a = E 504) : Sr E h (h.sAR a i v) := ⟨rfl, rfl, rfl, rfl, rfl, fun b h1 h2 => by
  funext j
  have : ¬ b = a := fun e => by rcases ha with h3 | h3 <;> simp_all
  simp [AR_sAR, up2, this], fun _ _ => rfl⟩
theorem Sr.ag {φ : Nat → Prop} {E : Nat → Nat} {h h' : Hp} (hs : Sr E h h') (hp : ∀ f, φ f → ¬ srf f) : Ag φ h h' := ⟨fun a _ => by rw [hs.1, hs.2.1]; exact ⟨rfl, rfl⟩, fun f a hf _ => by rw [hs.2.2.1, hs.2.2.2.2.2.2 f (hp f hf)]; exact ⟨rfl, rfl⟩⟩
section C13
variable {h : Hp} {x : Nat} {E : Nat → Nat} {W r c : Nat} {B : List Blk} {nd : Nat → Nat} {M Rt : Nat → Int32}
theorem SC.sr {h' : Hp} (hS : SC h x E W r c B nd M Rt) (hs : Sr E h h') : SC h' x E W r c B nd M Rt := by
  obtain ⟨hX, hB, hM, hR⟩ := hS
  have h1 := hX.2.2.2.2.2.2.2.2.2.2.2.2.2
  refine ⟨hX.fr (hs.ag (fun f hf => by simp only [stf] at hf; simp only [srf]; omega)), hB.fr (hs.ag (fun f hf => by simp only [srf]; omega)) (hs.2.2.2.2.2.1 _ (fun e => h1.1 e.symm) (fun e => h1.2.1 e.symm)), fun j hj => by rw [hs.2.2.2.1]; exact hM j hj, fun j hj => by rw [hs.2.2.2.1]; exact hR j hj⟩
theorem SC.led (hS : SC h x E W r c B nd M Rt) (hG : GB W B) (hW : 1 ≤ W) (v : Int32) : CtR mX1_ledToBy 2 0 0 [va_rf (some (E 804)), .int v] h (fun o h' => h' = h ∧ o = (ldB B r v).map (ndB nd B)) := ct1_ledToBy hS.1.2.2.2.2.2.1 hS.2.1 hG rfl hW v
set_option maxHeartbeats 1000000 in
theorem ct5_ledToByWord (hS : SC h x E W r c B nd M Rt) (hG : GB W B) (hW : 1 ≤ W) (hBW : BW r B) {i k : Nat} (hi : i < B.length) (hk : k < (bat B i).2.2.1) : CtR mX5_ledToByWord 3 0 0 [va_rf (some (E 808)), va_rf (some (ndB nd B i)), .int (nI k)] h (fun o h' => h' = h ∧ o = (ldB B r (M ((bat B i).1 + r + k))).map (ndB nd B)) := by
  obtain ⟨hX, hB, hM, hR⟩ := id hS
  obtain ⟨x1, x2, x3, x4, xm, xb, xf, x5, x6, x7, x12, ⟨s1, s2, s3, s4, s5, s6, s7, s8, s9, s10⟩, -⟩ := id hX
  have hn := hB.1 i hi
  have hgi := hG.1 i hi
  have hbw := bw_at hBW hi
  have hW3 := hG.2.2
  refine enX5_ledToByWord (fun X C => sgX5_ledToByWord_0 C (Nat.le_refl _) (Nat.le_refl _) s1 (fun z hz => by cases hz; exact hn.1) (fun z hz => ?_) (fun e => by cases e))
  cases hz
  rw [hn.2.2.2.1, nI_add, s3, s2]
  refine clX5_ledToByWord_22 C (ct6_read xm (by omega) _) xm.1 (by decide) (Nat.zero_le _) (Nat.zero_le _) (Nat.le_of_ble_eq_true rfl) (fun y h' ⟨e1, e2, e3⟩ => ?_)
  subst e1
  have hin : inW W (nI ((bat B i).1 + r + k)) := ⟨nI_pos (by omega), by rw [nI_leI (by omega) (by omega)]; omega⟩
  have e2 := e2 hin
  rw [nI_clamp (by omega), hM _ (by omega)] at e2
  subst e2
  refine clX5_ledToByWord_25 C (hS.led hG hW _) xb.1 (by decide) (Nat.zero_le _) (Nat.zero_le _) (Nat.le_of_ble_eq_true rfl) (fun o h2 ⟨e1, e4⟩ => ?_)
  subst e1
  exact sgX5_ledToByWord_28 C (Nat.le_refl _) (Nat.le_refl _) ⟨rfl, e4⟩
set_option maxHeartbeats 1000000 in
theorem ct5_leadingWords (hS : SC h x E W r c B nd M Rt) (hG : GB W B) (hW : 1 ≤ W) (hBW : BW r B) {i : Nat} (hi : i < B.length) : CtI mX5_leadingWords 4 0 0 [va_rf (some (E 808)), va_rf (some (ndB nd B i))] h (fun y h' => h' = h ∧ y = nI (cW B r M i (bat B i).2.2.1)) := by
  obtain ⟨hX, hB, hM, hR⟩ := id hS
  obtain ⟨x1, x2, x3, x4, xm, xb, xf, x5, x6, x7, x12, ⟨s1, -⟩, -⟩ := id hX
  have hn := hB.1 i hi
  have hgi := hG.1 i hi
  have hbw := bw_at hBW hi
  have hW3 := hG.2.2
  refine enX5_leadingWords (fun X C => sgX5_leadingWords_0 C (fun z hz => by cases hz; exact hn.1) (fun z hz => ?_) (fun e => by cases e))
  cases hz
  rw [hn.2.2.2.2.1]
  have key : ∀ n j, j + n = (bat B i).2.2.1 → At X 0 0 18 [some (va_rf (some (E 808))), some (va_rf (some (ndB nd B i))), some (.int (nI (cW B r M i j))), some (.int (nI (bat B i).2.2.1)), some (.int (nI j))] [] h := by
    intro n
    induction n with
    | zero =>
      intro j hj
      have hj : j = (bat B i).2.2.1 := by omega
      subst hj
      exact sgX5_leadingWords_18 C (Nat.le_refl _) (Nat.le_refl _) (fun _ => ⟨rfl, rfl⟩) (fun c => absurd (Int32.le_refl _) c)
    | succ n ih =>
      intro j hj
      have nx := ih (j + 1) (by omega)
      rw [← nI_1, cW] at nx
      refine sgX5_leadingWords_18 C (Nat.le_refl _) (Nat.le_refl _) (fun c => ?_) (fun _ => ?_)
      · rw [nI_leI (by omega) (by omega)] at c; omega
      · refine clX5_leadingWords_28 C (ct5_ledToByWord hS hG hW hBW hi (by omega)) s1 (by decide) (Nat.zero_le _) (Nat.zero_le _) (Nat.le_of_ble_eq_true rfl) (fun o h' ⟨e1, e2⟩ => ?_)
        subst e1
        cases hq : ldB B r (M ((bat B i).1 + r + j)) with
        | none =>
          rw [hq] at e2
          subst e2
          rw [if_pos hq] at nx
          exact sgX5_leadingWords_31 C (fun _ => nx) (fun z hz => by cases hz)
        | some d =>
          rw [hq] at e2
          subst e2
          rw [if_neg (by rw [hq]; simp), ← nI_1 (cW B r M i j)] at nx
          exact sgX5_leadingWords_31 C (fun e => by cases e) (fun z hz => nx)
  exact key _ 0 (Nat.zero_add _)
theorem ct5_leadingWords0 (hk : h.K (E 808) = 6) : CtI mX5_leadingWords 4 0 0 [va_rf (some (E 808)), va_rf none] h (fun y h' => h' = h ∧ y = 0) := by
  refine enX5_leadingWords (fun X C => sgX5_leadingWords_0 C (fun z hz => by cases hz) (fun z hz => by cases hz) (fun _ => ?_))
  exact sgX5_leadingWords_18 C (Nat.le_refl _) (Nat.le_refl _) (fun _ => ⟨rfl, rfl⟩) (fun c => absurd (Int32.le_refl _) c)
def cU (B : List Blk) (r : Nat) (M : Nat → Int32) : Nat → Nat
  | 0 => 0
  | u + 1 => cU B r M u + match ulv B u with | none => 0 | some i => cW B r M i (bat B i).2.2.1
theorem ulv_lt {u i : Nat} (hu : ulv B u = some i) : i < B.length ∧ (bat B i).1 = 4 * u + 1 ∧ (bat B i).2.2.2.2 = 0 := by
  unfold ulv at hu
  cases hq : bIx B (nI (4 * u + 1)) with
  | none => rw [hq] at hu; cases hu
  | some j =>
    rw [hq] at hu
    simp only at hu
    split at hu
    · rename_i hc
      cases hu
      exact ⟨bIx_lt hq, hc⟩
    · cases hu
theorem ulv_of (hG : GB W B) {i : Nat} (hi : i < B.length) (hl : (bat B i).2.2.2.2 = 0) : ulv B (((bat B i).1 - 1) / 4) = some i ∧ ((bat B i).1 - 1) / 4 < (W - 1) / 4 := by
  have h1 := hG.1 i hi
  have h3 := hG.2.2
  have e : 4 * (((bat B i).1 - 1) / 4) + 1 = (bat B i).1 := by omega
  refine ⟨?_, by omega⟩
  unfold ulv
  rw [e, (bIx_some hG (by omega)).mpr ⟨hi, by simp only [cov]; omega⟩]
  simp [hl]
set_option maxHeartbeats 1000000 in
/-- by units, or by blocks: the same sum -/
theorem sum_units (hG : GB W B) (w : Nat → Nat) (S : Nat → Nat) (hS0 : S 0 = 0) (hS : ∀ u, S (u + 1) = S u + match ulv B u with | none => 0 | some i => w i) (T : Nat → Nat) (hT0 : T 0 = 0) (hT : ∀ i, T (i + 1) = if (bat B i).2.2.2.2 = 0 then T i + w i else T i) : S ((W - 1) / 4) = T B.length := by
  -- the part of the blocks below n
  have part : ∀ n, n ≤ B.length → ∀ (P : Nat → Nat), P 0 = 0 → (∀ u, P (u + 1) = P u + match ulv B u with | none => 0 | some i => if i < n then w i else 0) → P ((W - 1) / 4) = T n := by
    intro n
    induction n with
    | zero =>
      intro _ P hP0 hP
      have : ∀ u, P u = 0 := by
        intro u
        induction u with
        | zero => exact hP0
        | succ u ih =>
          rw [hP u, ih]
          cases ulv B u <;> simp
      rw [this, hT0]
    | succ n ih =>
      intro hn P hP0 hP
      have hnl : n < B.length := by omega
      -- the sum below n, and what n adds
      let P1 : Nat → Nat := fun u => Nat.rec 0 (fun u a => a + match ulv B u with | none => 0 | some i => if i < n then w i else 0) u
      have hP1 := ih (by omega) P1 rfl (fun u => rfl)
      have add : ∀ u, P u = P1 u + if (bat B n).2.2.2.2 = 0 ∧ ((bat B n).1 - 1) / 4 < u then w n else 0 := by
        intro u
        induction u with
        | zero => rw [hP0]; simp; rfl
        | succ u ihu =>
          rw [hP u, ihu]
          have e1 : P1 (u + 1) = P1 u + match ulv B u with | none => 0 | some i => if i < n then w i else 0 := rfl
          rw [e1]
          have h1 := hG.1 n hnl
          by_cases hu : (bat B n).2.2.2.2 = 0 ∧ u = ((bat B n).1 - 1) / 4
          · have hul := (ulv_of hG hnl hu.1).1
            rw [← hu.2] at hul
            rw [hul]
            simp only [Nat.lt_irrefl, if_false]
            rw [if_neg (by omega), if_pos (by omega), if_pos (by omega)]
          · have hne : ulv B u ≠ some n := fun e => by
              obtain ⟨_, e2, e3⟩ := ulv_lt e
              exact hu ⟨e3, by omega⟩
            have e2 : (match ulv B u with | none => 0 | some i => if i < n + 1 then w i else 0) = (match ulv B u with | none => 0 | some i => if i < n then w i else 0) := by
              cases hq : ulv B u with
              | none => rfl
              | some i =>
                have : ¬ i = n := fun e => hne (by rw [hq, e])
                simp only
                by_cases hin : i < n
                · rw [if_pos hin, if_pos (by omega)]
                · rw [if_neg hin, if_neg (by omega)]
            rw [e2]
            by_cases hc : (bat B n).2.2.2.2 = 0 ∧ ((bat B n).1 - 1) / 4 < u
            · rw [if_pos hc, if_pos ⟨hc.1, by omega⟩]; omega
            · rw [if_neg hc, if_neg (fun z => hc ⟨z.1, by
                have := z.2
                by_cases hh : u = ((bat B n).1 - 1) / 4
                · exact absurd ⟨z.1, hh⟩ hu
                · omega⟩)]
              omega
      rw [add, hP1, hT n]
      by_cases hl : (bat B n).2.2.2.2 = 0
      · rw [if_pos hl, if_pos ⟨hl, (ulv_of hG hnl hl).2⟩]
      · rw [if_neg hl, if_neg (fun z => hl z.1)]; rfl
  refine part B.length (Nat.le_refl _) S hS0 (fun u => ?_)
  rw [hS u]
  cases hq : ulv B u with
  | none => rfl
  | some i =>
    have := (ulv_lt hq).1
    simp only
    rw [if_pos this]
theorem cU_cP (hG : GB W B) : cU B r M ((W - 1) / 4) = cP B r M B.length := sum_units hG (fun i => cW B r M i (bat B i).2.2.1) (cU B r M) rfl (fun u => rfl) (cP B r M) rfl (fun i => rfl)
set_option maxHeartbeats 1000000 in
theorem ct5_leadingNumbers (hS : SC h x E W r c B nd M Rt) (hG : GB W B) (hW : 1 ≤ W) (hBW : BW r B) : CtI mX5_leadingNumbers 5 0 0 [va_rf (some (E 808))] h (fun y h' => h' = h ∧ y = nI (cR B r Rt 16 + cP B r M B.length)) := by
  obtain ⟨hX, hB, hM, hR⟩ := id hS
  obtain ⟨x1, x2, x3, x4, xm, xb, xf, x5, x6, x7, x12, ⟨s1, s2, s3, s4, s5, s6, s7, s8, s9, s10⟩, -⟩ := id hX
  have hW3 := hG.2.2
  refine enX5_leadingNumbers (fun X C => sgX5_leadingNumbers_0 C ?_)
  have loop2 : ∀ n u, u + n = (W - 1) / 4 → At X 0 0 40 [some (va_rf (some (E 808))), some (.int (nI (cR B r Rt 16 + cU B r M u))), some (.int (nI u))] [] h := by
    intro n
    induction n with
    | zero =>
      intro u hu
      have hu : u = (W - 1) / 4 := by omega
      subst hu
      refine sgX5_leadingNumbers_40 C (Nat.le_refl _) (Nat.le_refl _) s1 s2 xb.1 xb.2.1 xb.2.2.1 (fun _ => ⟨rfl, by rw [cU_cP hG]⟩) (fun c => ?_)
      rw [xb.2.2.2] at c
      exact absurd (Int32.le_refl _) c
    | succ n ih =>
      intro u hu
      have nx := ih (u + 1) (by omega)
      rw [← nI_1, cU] at nx
      refine sgX5_leadingNumbers_40 C (Nat.le_refl _) (Nat.le_refl _) s1 s2 xb.1 xb.2.1 xb.2.2.1 (fun c => ?_) (fun _ => ?_)
      · rw [xb.2.2.2, nI_leI (by omega) (by omega)] at c; omega
      · refine clX5_leadingNumbers_59 C (ct1_liveFromUnit xb hB hG (by omega) (u := u) (by omega)) xb.1 (by decide) (Nat.zero_le _) (Nat.zero_le _) (Nat.le_of_ble_eq_true rfl) (fun o h' ⟨e1, e2⟩ => ?_)
        subst e1
        cases hq : ulv B u with
        | none =>
          rw [hq] at e2 nx
          subst e2
          refine clX5_leadingNumbers_62 C (ct5_leadingWords0 s1) s1 (by decide) (Nat.zero_le _) (Nat.zero_le _) (Nat.le_of_ble_eq_true rfl) (fun y h2 ⟨e1, e2⟩ => ?_)
          subst e1; subst e2
          refine sgX5_leadingNumbers_65 C ?_
          rw [Int32.add_zero]
          exact nx
        | some i =>
          rw [hq] at e2 nx
          subst e2
          refine clX5_leadingNumbers_62 C (ct5_leadingWords hS hG hW hBW (ulv_lt hq).1) s1 (by decide) (Nat.zero_le _) (Nat.zero_le _) (Nat.le_of_ble_eq_true rfl) (fun y h2 ⟨e1, e2⟩ => ?_)
          subst e1; subst e2
          refine sgX5_leadingNumbers_65 C ?_
          rw [← Nat.add_assoc] at nx
          rw [nI_add]
          exact nx
  have loop1 : ∀ n i, i + n = 16 → At X 0 0 4 [some (va_rf (some (E 808))), some (.int (nI (cR B r Rt i))), some (.int (nI i))] [] h := by
    intro n
    induction n with
    | zero =>
      intro i hi
      have hi : i = 16 := by omega
      subst hi
      refine sgX5_leadingNumbers_4 C s1 s4 x6 (fun c => ?_) (fun _ => ?_) (fun c => ?_)
      · rw [x7] at c; exact absurd (Int32.le_refl _) c
      · exact loop2 _ 0 (Nat.zero_add _)
      · rw [x7] at c; exact absurd (Int32.le_refl _) c
    | succ n ih =>
      intro i hi
      have nx := ih (i + 1) (by omega)
      rw [← nI_1, cR] at nx
      refine sgX5_leadingNumbers_4 C s1 s4 x6 (fun _ => by rw [x7]; exact vin (by omega)) (fun c => ?_) (fun _ => ?_)
      · rw [x7, nI_leI (by omega) (by omega)] at c; omega
      · rw [nI_clamp (by omega), hR i (by omega), s2]
        refine clX5_leadingNumbers_23 C (hS.led hG hW _) xb.1 (by decide) (Nat.zero_le _) (Nat.zero_le _) (Nat.le_of_ble_eq_true rfl) (fun o h' ⟨e1, e2⟩ => ?_)
        subst e1
        cases hq : ldB B r (Rt i) with
        | none =>
          rw [hq] at e2
          subst e2
          rw [if_pos hq] at nx
          exact sgX5_leadingNumbers_26 C (fun _ => nx) (fun z hz => by cases hz)
        | some d =>
          rw [hq] at e2
          subst e2
          rw [if_neg (by rw [hq]; simp), ← nI_1 (cR B r Rt i)] at nx
          exact sgX5_leadingNumbers_26 C (fun e => by cases e) (fun z hz => nx)
  exact loop1 16 0 rfl
end C13
