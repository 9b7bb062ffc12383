theorem lg_le {a b : Nat} (ha : a < 2 ^ 62) (hb : b < 2 ^ 62) : lg_cmp (lN a) (lN b) ≤ 0 ↔ a ≤ b := by
  unfold lg_cmp
  have h1 : (lN b < lN a) ↔ b < a := pk_lLT (by omega) (by omega)
  have h2 : (lN a = lN b) ↔ a = b := pk_lEQ (by omega) (by omega)
  by_cases c1 : b < a
  · rw [if_pos (h1.mpr c1)]
    constructor
    · intro h; exact absurd h (by decide)
    · intro h; omega
  · rw [if_neg (fun x => c1 (h1.mp x))]
    constructor
    · intro _; omega
    · intro _
      split <;> decide
def cN (N r : Nat) : Nat := if (N + 2 * r + 3) / 4 * 4 ≤ 4000 then (N + 2 * r + 3) / 4 * 4 else 4000
theorem cN_4 (N r : Nat) (hr : 1 ≤ r) : 4 ≤ cN N r ∧ cN N r ≤ 4000 ∧ cN N r % 4 = 0 := by
  unfold cN
  split <;> omega
theorem cN_ge {N r : Nat} (h : cN N r < 4000) : N + 2 * r ≤ cN N r := by
  unfold cN at h ⊢
  split at h
  · rw [if_pos (by assumption)]; omega
  · omega
def sLoop (W c : Nat) : Nat → St → Option Nat × St
  | 0, s => (none, s)
  | k + 1, s => match sGo s with
    | none => (none, s)
    | some s1 => match sFind W s1 c with
      | (some a, s2) => (some a, s2)
      | (none, s2) => sLoop W c k s2
def sSeek (W c : Nat) (s : St) : Option Nat × St := match sFind W s c with
  | (some a, s') => (some a, s')
  | (none, s') => sLoop W c (s'.1.length + 1) s'
/-- what was found lies where it may -/
def Fnd (W c a : Nat) (s' : St) : Prop := Geo ((a, c) :: (chB s'.1 ++ s'.2.1)) s'.2.2.1 ∧ s'.2.2.1 ≤ s'.2.2.2.1 ∧ s'.2.2.2.1 ≤ W
theorem Fnd.of {W : Nat} {s : St} {c a : Nat} {s' : St} (h : SInv W s) (h4 : c % 4 = 0) (hc : 4 ≤ c) (hf : sFind W s c = (some a, s')) : Fnd W c a s' := by
  obtain ⟨g1, g2, g3, g4, g5⟩ := geo_find h h4 hc hf
  exact ⟨g1, g3, g4⟩
set_option maxHeartbeats 1000000 in
theorem sLoop_ok {W c : Nat} (h4 : c % 4 = 0) (hc : 4 ≤ c) : ∀ (k : Nat) (s : St), SInv W s → ∀ o s', sLoop W c k s = (o, s') → (o = none → SInv W s') ∧ (∀ a, o = some a → Fnd W c a s')
  | 0, s, hI, o, s', h => by cases h; exact ⟨fun _ => hI, fun a e => by cases e⟩
  | k + 1, s, hI, o, s', h => by
    rw [sLoop] at h
    cases hg : sGo s with
    | none => rw [hg] at h; cases h; exact ⟨fun _ => hI, fun a e => by cases e⟩
    | some s1 =>
      rw [hg] at h
      have hI1 := (geo_go hI hg).1
      simp only at h
      cases hf : sFind W s1 c with
      | mk o2 s2 =>
        rw [hf] at h
        cases o2 with
        | some a =>
          cases h
          exact ⟨(fun e => by cases e), fun a e => by cases e; exact Fnd.of hI1 h4 hc hf⟩
        | none =>
          have := geo_find0 hf
          subst this
          exact sLoop_ok h4 hc k s2 hI1 o s' h
theorem sSeek_ok {W c : Nat} (h4 : c % 4 = 0) (hc : 4 ≤ c) {s : St} (hI : SInv W s) {o : Option Nat} {s' : St} (h : sSeek W c s = (o, s')) : (o = none → SInv W s') ∧ (∀ a, o = some a → Fnd W c a s') := by
  unfold sSeek at h
  cases hf : sFind W s c with
  | mk o2 s2 =>
    rw [hf] at h
    cases o2 with
    | some a =>
      cases h
      exact ⟨(fun e => by cases e), fun a e => by cases e; exact Fnd.of hI h4 hc hf⟩
    | none =>
      have := geo_find0 hf
      subst this
      exact sLoop_ok h4 hc _ s2 hI o s' h
section M7
variable {h : Hp} {t : Nat} {ρ A : Nat → Nat} {m : Mo}
abbrev gI1 : List Nat := [905, 906, 912, 915, 918, 919, 920]
abbrev gR1 : List Nat := [907, 908, 909, 910, 911, 913, 914]
def gvPost (W r g N : Nat) (s : St) (m : Mo) (h : Hp) (t : Nat) (ρ : Nat → Nat) : Int32 → Hp → Prop := fun x h' =>
  (∃ s' m', sSeek W (cN N r) s = (none, s') ∧ x = 0 ∧ h' = mput h t ρ m' ∧ SRel m' s' ∧ Msame gI1 gR1 m m') ∨
  (∃ a s' m', sSeek W (cN N r) s = (some a, s') ∧ x = nI (a + r) ∧ h' = mput h t ρ m' ∧ SRel m' (s'.1 ++ [(a, cN N r, N, g, 0)], s'.2) ∧ m'.1 916 = nI (g + 1) ∧ (∀ j, m'.2 904 j = if a + r ≤ j ∧ j < a + r + N then 0 else m.2 904 j) ∧ Msame (916 :: gI1) (904 :: gR1) m m')
set_option maxHeartbeats 1000000 in
theorem ct9_give (hS : MS h t ρ A) (m : Mo) {s : St} {W r g N : Nat} (hs : SRel m s) (hI : SInv W s) (hW : m.1 900 = nI W) (hr : m.1 901 = nI r) (hr1 : 1 ≤ r ∧ r ≤ 8) (hg : m.1 916 = nI g) (hg1 : g ≤ 2999) (hN : 1 ≤ N ∧ N < 2147483648) :
    CtI mX9_give 4 0 0 [va_rf (some t), .int (nI N)] (mput h t ρ m) (gvPost W r g N s m h t ρ) := by
  obtain ⟨c1, c2, c3⟩ := cN_4 N r hr1.1
  refine enX9_give (fun X C => ?_)
  have hll : (((nI N).toInt64 + 2 * (m.1 901).toInt64 + 3) / 4) * 4 = lN ((N + 2 * r + 3) / 4 * 4) := by
    rw [hr, nI_l (by omega), nI_l (by omega), show (2 : Int64) = lN 2 from rfl, show (3 : Int64) = lN 3 from rfl, show (4 : Int64) = lN 4 from rfl, lN_mul, lN_add, lN_add, pk_lDiv (by omega) (by decide) (by decide), lN_mul]
  -- behind the search: the block is made
  have fill : ∀ (m1 : Mo) (s1 : St) (a : Nat) (y2 y4 : Int64) (x8 : Int32), sSeek W (cN N r) s = (some a, s1) → SRel m1 s1 → Msame gI1 gR1 m m1 →
      At X 0 0 59 [some (va_rf (some t)), some (.int (nI N)), some (.long y2), none, some (.long y4), none, some (.int (nI (cN N r))), some (.int (nI a)), some (.int x8), none] [] (mput h t ρ m1) := by
    intro m1 s1 a y2 y4 x8 hk hs1 hM1
    obtain ⟨B, F, top, hi, sp, j, gone⟩ := s1
    obtain ⟨a1, a2, a3, a4, a5, a6, a7⟩ := id hs1
    simp only at a1 a2 a3 a4 a5 a6 a7
    obtain ⟨q1, q2, q3⟩ := (sSeek_ok c3 c1 hI hk).2 a rfl
    simp only at q1 q2 q3
    obtain ⟨w1, w2, w3, w4, w5⟩ := q1.1 (a, cN N r) List.mem_cons_self
    simp only at w1 w2 w3 w4 w5
    have hW3 := hI.2.2.2
    have hge := cN_ge (N := N) (r := r) (by omega)
    have hlen := q1.length
    simp only [List.length_cons, List.length_append, chB, List.length_map] at hlen
    have hm1 : ¬ nI a = -1 := nI_m1 (by omega)
    have hcb : (m1.1 912).toNatClampNeg = B.length := by rw [a1.1]; exact nI_clamp (by omega)
    have hg2 : m1.1 916 = nI g := (hM1.1 916 (by decide)).trans hg
    have hr2 : m1.1 901 = nI r := (hM1.1 901 (by decide)).trans hr
    refine sm_give_59 C hS (Nat.le_refl _) (Nat.le_refl _) (fun _ _ => by rw [a1.1]; exact vin (by omega)) (fun c => absurd c hm1) (fun _ _ => ?_) (fun _ c => absurd c hm1) (fun c => absurd c hm1) (fun c => absurd c hm1) (fun c => absurd c hm1)
    rw [hcb]
    generalize hm2 : (up1 (up1 m1.1 912 (m1.1 912 + 1)) 916 (m1.1 916 + 1), up2 (up2 (up2 (up2 (up2 m1.2 907 B.length (nI a)) 908 B.length (nI (cN N r))) 909 B.length (nI N)) 910 B.length (m1.1 916)) 911 B.length 0) = m2
    have hB2 : BRel m2 (B ++ [(a, cN N r, N, g, 0)]) := by
      subst hm2
      refine ⟨by simp [up1, a1.1, nI_1], by simp; omega, fun i x hx => ?_⟩
      by_cases hil : i < B.length
      · rw [List.getElem?_append_left hil] at hx
        have := a1.2.2 i x hx
        simp [up2, Nat.ne_of_lt hil, this]
      · rw [List.getElem?_append_right (by omega)] at hx
        have hz := (List.getElem?_eq_some_iff.mp hx).1
        have hi2 : i = B.length := by simp at hz; omega
        subst hi2
        simp at hx
        subst hx
        simp only [up2]
        simp [hg2]
        exact ⟨rfl, by omega, by omega, by omega⟩
    have hM2 : Msame [912, 916] [907, 908, 909, 910, 911] m1 m2 := by
      subst hm2
      exact ⟨fun g hg => by simp only [List.mem_cons, List.not_mem_nil, or_false, not_or] at hg; simp [up1, hg], fun g hg => by simp only [List.mem_cons, List.not_mem_nil, or_false, not_or] at hg; funext j; simp [up2, hg]⟩
    have hg3 : m2.1 916 = nI (g + 1) := by subst hm2; simp [up1, hg2, nI_1]
    have hr3 : m2.1 901 = nI r := (hM2.1 901 (by decide)).trans hr2
    have key : ∀ k i (m3 : Mo), i + k = N → m3.1 = m2.1 → (∀ g, g ≠ 904 → m3.2 g = m2.2 g) → (∀ q, m3.2 904 q = if a + r ≤ q ∧ q < a + r + i then 0 else m.2 904 q) →
        At X 0 0 178 [some (va_rf (some t)), some (.int (nI N)), some (.long y2), none, some (.long y4), none, some (.int (nI (cN N r))), some (.int (nI a)), some (.int x8), some (.int (nI i))] [] (mput h t ρ m3) := by
      intro k
      induction k with
      | zero =>
        intro i m3 hi3 e1 e2 e3
        have hi3 : i = N := by omega
        subst hi3
        refine sm_give_178 C hS (Nat.le_refl _) (Nat.le_refl _) (fun c => absurd (Int32.le_refl _) c) (fun _ => Or.inr ⟨a, (B, F, top, hi, sp, j, gone), m3, hk, ?_, rfl, ?_, ?_, e3, ?_⟩) (fun c => absurd (Int32.le_refl _) c)
        · rw [e1, hr3, nI_add]
        · have hM3 : Msame [] [904] m2 m3 := ⟨fun g _ => by rw [e1], fun g hg => e2 g (by simpa using hg)⟩
          refine ⟨hB2.same hM3 (by decide) (by decide), (a2.same hM2 (by decide) (by decide) (by decide)).same hM3 (by decide) (by decide) (by decide), ?_, ?_, ?_, ?_, ?_⟩
          · rw [e1, hM2.1 905 (by decide)]; exact a3
          · rw [e1, hM2.1 906 (by decide)]; exact a4
          · rw [e1, hM2.1 919 (by decide)]; exact a5
          · rw [e1, hM2.1 920 (by decide)]; exact a6
          · rw [e1, hM2.1 918 (by decide)]; exact a7
        · rw [e1]; exact hg3
        · exact ((hM1.up (by decide) (by decide)).tr (hM2.up (by decide) (by decide))).tr ⟨fun g _ => by rw [e1], fun g hg => e2 g (fun e => hg (by rw [e]; decide))⟩
      | succ k ih =>
        intro i m3 hi3 e1 e2 e3
        have hix : nI a + m3.1 901 + nI i = nI (a + r + i) := by rw [e1, hr3, nI_add, nI_add]
        refine sm_give_178 C hS (Nat.le_refl _) (Nat.le_refl _) (fun _ => by rw [hix]; exact vin (by omega)) (fun c => absurd ((nI_leI (by omega) (by omega)).mp c) (by omega)) (fun _ => ?_)
        rw [hix, nI_clamp (by omega), nI_1]
        refine ih (i + 1) _ (by omega) e1 (fun g hg => ?_) (fun q => ?_)
        · funext z
          simp only [up2, if_neg hg]
          exact congrFun (e2 g hg) z
        · simp only [up2, if_true]
          by_cases hq : q = a + r + i
          · subst hq
            rw [if_pos rfl, if_pos (by omega)]
          · rw [if_neg hq, e3]
            by_cases hq2 : a + r ≤ q ∧ q < a + r + i
            · rw [if_pos hq2, if_pos (by omega)]
            · rw [if_neg hq2, if_neg (by omega)]
    exact key N 0 m2 (by omega) rfl (fun _ _ => rfl) (fun q => by rw [if_neg (by omega), hM2.2 904 (by decide), hM1.2 904 (by decide)])
  -- the loop
  have loop : ∀ (k : Nat) (m1 : Mo) (s1 : St) (y2 y4 : Int64), s1.1.length < k → SRel m1 s1 → SInv W s1 → Msame gI1 gR1 m m1 → sSeek W (cN N r) s = sLoop W (cN N r) k s1 →
      At X 0 0 59 [some (va_rf (some t)), some (.int (nI N)), some (.long y2), none, some (.long y4), none, some (.int (nI (cN N r))), some (.int (-1)), some (.int 1), none] [] (mput h t ρ m1) := by
    intro k
    induction k with
    | zero => intro m1 s1 y2 y4 hk; omega
    | succ k ih =>
      intro m1 s1 y2 y4 hk hs1 hI1 hM1 hseek
      rw [sLoop] at hseek
      refine sm_give_59 C hS (Nat.le_refl _) (Nat.le_refl _) (fun c => absurd rfl c) (fun _ c => absurd c (by decide)) (fun c => absurd rfl c) (fun c => absurd rfl c) (fun _ c => absurd c (by decide)) (fun _ c => absurd c (by decide)) (fun _ _ => ?_)
      refine clX9_give_71 C (ct9_oneGoes hS m1 hs1 hI1) (hS.k m1) (by decide) (Nat.le_refl _) (Nat.le_refl _) (Nat.le_of_ble_eq_true rfl) (fun x h' hp => ?_)
      rcases hp with ⟨g0, rfl, rfl⟩ | ⟨s2, m2, g0, rfl, rfl, hs2, hM2⟩
      · rw [g0] at hseek
        refine sm_give_74 C hS (fun _ => ?_) (fun c => absurd rfl c)
        refine sm_give_59 C hS (Nat.le_refl _) (Nat.le_refl _) (fun c => absurd rfl c) (fun _ _ c => absurd rfl c) (fun c => absurd rfl c) (fun c => absurd rfl c) (fun _ _ c => absurd rfl c) (fun _ _ _ => Or.inl ⟨s1, m1, hseek, rfl, rfl, hs1, hM1⟩) (fun _ c => absurd rfl c)
      · rw [g0] at hseek
        simp only at hseek
        have hI2 := (geo_go hI1 g0).1
        have hl2 := (geo_go hI1 g0).2
        have hMm : Msame gI1 gR1 m m2 := hM1.tr (hM2.up (by decide) (by decide))
        refine sm_give_74 C hS (fun c => absurd c (by decide)) (fun _ => ?_)
        refine clX9_give_84 C (ct9_find hS m2 hs2 hI2 ((hMm.1 900 (by decide)).trans hW) c1 c2 c3) (hS.k m2) (by decide) (Nat.le_refl _) (Nat.le_refl _) (Nat.le_of_ble_eq_true rfl) (fun x h' ⟨e1, m3, e2, hs3, hM3⟩ => ?_)
        subst e2
        have hM4 : Msame gI1 gR1 m m3 := hMm.tr (hM3.up (by decide) (by decide))
        refine sm_give_87 C hS ?_
        cases hf : sFind W s2 (cN N r) with
        | mk o s3 =>
          rw [hf] at hseek hs3 e1
          cases o with
          | some a =>
            have e1 : x = nI a := e1
            subst e1
            exact fill m3 s3 a _ _ _ hseek hs3 hM4
          | none =>
            have e1 : x = -1 := e1
            subst e1
            have := geo_find0 hf
            subst this
            exact ih m3 s3 _ _ (by omega) hs3 hI2 hM4 hseek
  have start : ∀ (y2 y4 : Int64), At X 0 0 51 [some (va_rf (some t)), some (.int (nI N)), some (.long y2), none, some (.long y4), none, some (.int (nI (cN N r))), none, none, none] [.int (nI (cN N r)), va_rf (some t)] (mput h t ρ m) := by
    intro y2 y4
    refine clX9_give_51 C (ct9_find hS m hs hI hW c1 c2 c3) (hS.k m) (by decide) (Nat.le_refl _) (Nat.le_refl _) (Nat.le_of_ble_eq_true rfl) (fun x h' ⟨e1, m3, e2, hs3, hM3⟩ => ?_)
    subst e2
    have hM4 : Msame gI1 gR1 m m3 := hM3.up (by decide) (by decide)
    refine sm_give_54 C hS ?_
    have hseek : sSeek W (cN N r) s = _ := rfl
    unfold sSeek at hseek
    cases hf : sFind W s (cN N r) with
    | mk o s3 =>
      rw [hf] at hseek hs3 e1
      cases o with
      | some a =>
        have e1 : x = nI a := e1
        subst e1
        exact fill m3 s3 a _ _ _ (by unfold sSeek; rw [hf]) hs3 hM4
      | none =>
        have e1 : x = -1 := e1
        subst e1
        have := geo_find0 hf
        subst this
        exact loop (s3.1.length + 1) m3 s3 _ _ (by omega) hs3 hI hM4 (by unfold sSeek; rw [hf])
  refine sm_give_0 C hS (fun c => ?_) (fun c => ?_)
  · rw [hll, show (4000 : Int64) = lN 4000 from rfl, lg_le (by omega) (by omega)] at c
    rw [hll, lN_i]
    have : cN N r = (N + 2 * r + 3) / 4 * 4 := by simp [cN, c]
    rw [← this]
    exact start _ _
  · rw [hll, show (4000 : Int64) = lN 4000 from rfl, lg_le (by omega) (by omega)] at c
    have : cN N r = 4000 := by simp only [cN, if_neg c]
    have hh := start ((nI N).toInt64 + 2 * (m.1 901).toInt64) ((((nI N).toInt64 + 2 * (m.1 901).toInt64 + 3) / 4) * 4)
    rw [this] at hh
    exact hh
end M7
