/-! addresses and blocks -/
def inBk (B : List Blk) (a : Int32) (i : Nat) : Bool := decide (nI (bat B i).1 ≤ a) && decide (a < nI ((bat B i).1 + (bat B i).2.1))
def bIx (B : List Blk) (a : Int32) : Option Nat := fnd (inBk B a) B.length 0
theorem i32_sub {x y : Int32} (hy : 0 ≤ y.toInt) (hxy : y.toInt ≤ x.toInt) : (x - y).toInt = x.toInt - y.toInt := by
  rw [Int32.toInt_sub]
  have h1 := Int32.toInt_lt x
  have h2 := Int32.le_toInt x
  exact Int.bmod_eq_of_le (by omega) (by omega)
set_option maxHeartbeats 1000000 in
theorem inB_eq {m : Mo} {B : List Blk} (hB : BRel m B) {a : Int32} {i : Nat} (hi : i < B.length) : inB m a i = inBk B a i := by
  obtain ⟨q1, q2, q3, q4, q5, q6, q7, q8, q9⟩ := hB.at hi
  unfold inB inBk
  rw [q1, q2]
  have t1 : (nI (bat B i).1).toInt = (bat B i).1 := nI_toInt (by omega)
  have t2 : (nI (bat B i).2.1).toInt = (bat B i).2.1 := nI_toInt (by omega)
  have t3 : (nI ((bat B i).1 + (bat B i).2.1)).toInt = ((bat B i).1 + (bat B i).2.1 : Nat) := nI_toInt (by omega)
  by_cases c1 : a < nI (bat B i).1
  · have : ¬ nI (bat B i).1 ≤ a := Int32.not_le.mpr c1
    simp [c1, this]
  · have c2 : nI (bat B i).1 ≤ a := Int32.not_lt.mp c1
    have c3 := Int32.le_iff_toInt_le.mp c2
    rw [t1] at c3
    have t4 := i32_sub (x := a) (y := nI (bat B i).1) (by rw [t1]; omega) (by rw [t1]; exact c3)
    have e : (¬ nI (bat B i).2.1 ≤ a - nI (bat B i).1) ↔ a < nI ((bat B i).1 + (bat B i).2.1) := by
      rw [Int32.not_le, Int32.lt_iff_toInt_lt, Int32.lt_iff_toInt_lt, t4, t1, t2, t3]
      omega
    simp only [c1, c2, e, not_false_eq_true, decide_true]
theorem bIx_eq {m : Mo} {B : List Blk} (hB : BRel m B) (a : Int32) : fnd (inB m a) B.length 0 = bIx B a := fnd_congr (fun k _ hk => inB_eq hB (by omega))
def stIx (B : List Blk) (r : Nat) (p : Int32) : Option Nat := fnd (fun i => decide (nI ((bat B i).1 + r) = p)) B.length 0
theorem stIx_eq {m : Mo} {B : List Blk} (hB : BRel m B) {r : Nat} (hr : m.1 901 = nI r) (p : Int32) : fnd (fun i => decide (m.2 907 i + m.1 901 = p)) B.length 0 = stIx B r p := fnd_congr (fun k _ hk => by rw [(hB.at (by omega)).1, hr, nI_add])
def sortB (B : List Blk) (r : Nat) (a : Int32) : Int32 := match bIx B a with
  | none => 3
  | some i => if a < nI ((bat B i).1 + r) then 2 else if a < nI ((bat B i).1 + r + (bat B i).2.2.1) then (if (bat B i).2.2.2.2 = 0 then 0 else 1) else 2
theorem bIx_lt {B : List Blk} {a : Int32} {i : Nat} (h : bIx B a = some i) : i < B.length := by have := (fnd_some h).2.1; omega
theorem stIx_lt {B : List Blk} {r : Nat} {a : Int32} {i : Nat} (h : stIx B r a = some i) : i < B.length ∧ nI ((bat B i).1 + r) = a := by
  obtain ⟨-, h2, h3, -⟩ := fnd_some h
  exact ⟨by omega, by simpa using h3⟩
theorem sortB_eq {m : Mo} {B : List Blk} (hB : BRel m B) {r : Nat} (hr : m.1 901 = nI r) (a : Int32) : sortM m B.length a = sortB B r a := by
  unfold sortM sortB
  rw [bIx_eq hB a]
  cases hq : bIx B a with
  | none => rfl
  | some i =>
    obtain ⟨q1, q2, q3, q4, q5, q6, q7, q8, q9⟩ := hB.at (bIx_lt hq)
    have hz : m.2 911 i = 0 ↔ (bat B i).2.2.2.2 = 0 := by rw [q5]; exact nI_eq (b := 0) (by omega) (by omega)
    simp only [q1, q3, hr, nI_add, hz]
def lvIx (B : List Blk) (r : Nat) (p : Int32) : Option Nat := match stIx B r p with
  | none => none
  | some b => if (bat B b).2.2.2.2 = 0 then some b else none
section M8
variable {h : Hp} {t : Nat} {ρ A : Nat → Nat} {m : Mo}
theorem ct9_sort (hS : MS h t ρ A) (m : Mo) {B : List Blk} {r : Nat} (hB : BRel m B) (hr : m.1 901 = nI r) (a : Int32) : CtI mX9_sortOf 2 0 0 [va_rf (some t), .int a] (mput h t ρ m) (fun x h' => h' = mput h t ρ m ∧ x = sortB B r a) := by
  have := ct9_sortOf hS m hB.1 hB.2.1 a
  rw [sortB_eq hB hr] at this
  exact this
theorem ct9_block (hS : MS h t ρ A) (m : Mo) {B : List Blk} (hB : BRel m B) (a : Int32) : CtI mX9_blockOf 1 0 0 [va_rf (some t), .int a] (mput h t ρ m) (fun x h' => h' = mput h t ρ m ∧ x = oI (bIx B a)) := by
  have := ct9_blockOf hS m hB.1 hB.2.1 a
  rw [bIx_eq hB] at this
  exact this
theorem ct9_starts (hS : MS h t ρ A) (m : Mo) {B : List Blk} {r : Nat} (hB : BRel m B) (hr : m.1 901 = nI r) (a : Int32) : CtI mX9_startsAt 2 0 0 [va_rf (some t), .int a] (mput h t ρ m) (fun x h' => h' = mput h t ρ m ∧ x = oI (stIx B r a)) := by
  have := ct9_startsAt hS m hB.1 hB.2.1 a
  rw [stIx_eq hB hr] at this
  exact this
set_option maxHeartbeats 1000000 in
theorem ct9_liveAt (hS : MS h t ρ A) (m : Mo) {B : List Blk} {r : Nat} (hB : BRel m B) (hr : m.1 901 = nI r) (a : Int32) : CtI mX9_liveAt 3 0 0 [va_rf (some t), .int a] (mput h t ρ m) (fun x h' => h' = mput h t ρ m ∧ x = oI (lvIx B r a)) := by
  refine enX9_liveAt (fun X C => sm_liveAt_0 C hS ?_)
  refine clX9_liveAt_2 C (ct9_starts hS m hB hr a) (hS.k m) (by decide) (Nat.le_refl _) (Nat.le_refl _) (Nat.le_of_ble_eq_true rfl) (fun x h' ⟨e1, e2⟩ => ?_)
  subst e1
  cases hq : stIx B r a with
  | none =>
    rw [hq] at e2
    exact sm_liveAt_5 C hS (Nat.le_refl _) (Nat.le_refl _) (fun _ => ⟨rfl, by simp [lvIx, hq, oI]⟩) (fun c => absurd e2 c)
  | some b =>
    rw [hq] at e2
    have e2 : x = nI b := e2
    subst e2
    have hbl := (stIx_lt hq).1
    have h800 := hB.2.1
    obtain ⟨q1, q2, q3, q4, q5, q6, q7, q8, q9⟩ := hB.at hbl
    have hz : m.2 911 b = 0 ↔ (bat B b).2.2.2.2 = 0 := by rw [q5]; exact nI_eq (b := 0) (by omega) (by omega)
    refine sm_liveAt_5 C hS (Nat.le_refl _) (Nat.le_refl _) (fun c => absurd c (nI_m1 (by omega))) (fun _ => ?_)
    refine clX9_liveAt_13 C (ct9_isLive hS m (b := b) (by omega)) (hS.k m) (by decide) (Nat.le_refl _) (Nat.le_refl _) (Nat.le_of_ble_eq_true rfl) (fun x h' ⟨e1, e2⟩ => ?_)
    subst e1; subst e2
    refine sm_liveAt_16 C hS (Nat.le_refl _) (Nat.le_refl _) (fun c => ⟨rfl, ?_⟩) (fun c => ⟨rfl, ?_⟩)
    · have h0 : ¬ (bat B b).2.2.2.2 = 0 := fun h0 => by rw [hz.mpr h0] at c; simp at c
      simp [lvIx, hq, h0, oI]
    · have h0 : (bat B b).2.2.2.2 = 0 := hz.mp (by by_cases hx : m.2 911 b = 0 <;> simp [hx] at c ⊢)
      simp [lvIx, hq, h0, oI]
/-- a fault more -/
def flt (m : Mo) (k : Nat) (x a : Int32) : Mo := (up1 m.1 921 (nI (k + 1)), up2 (up2 m.2 923 (k % 32) x) 924 (k % 32) a)
theorem flt_same (m : Mo) (k : Nat) (x a : Int32) : Msame [921] [923, 924] m (flt m k x a) := ⟨fun g hg => up1_n _ _ (by simpa using hg), fun g hg => by simp only [List.mem_cons, List.not_mem_nil, or_false, not_or] at hg; funext j; simp [flt, up2, hg]⟩
def knd (B : List Blk) (r : Nat) (p : Int32) : Int32 := match stIx B r p with
  | none => 5
  | some _ => 4
set_option maxHeartbeats 1000000 in
theorem ct9_no (hS : MS h t ρ A) (m : Mo) {B : List Blk} {r k : Nat} (hB : BRel m B) (hr : m.1 901 = nI r) (hk : m.1 921 = nI k) (hl : k < 2147483647) (a : Int32) : CtI mX9_no 3 0 0 [va_rf (some t), .int a] (mput h t ρ m) (fun x h' => x = knd B r a ∧ h' = mput h t ρ (flt m k (knd B r a) a)) := by
  refine enX9_no (fun X C => sm_no_0 C hS ?_)
  refine clX9_no_2 C (ct9_starts hS m hB hr a) (hS.k m) (by decide) (Nat.le_refl _) (Nat.le_refl _) (Nat.le_of_ble_eq_true rfl) (fun x h' ⟨e1, e2⟩ => ?_)
  subst e1
  cases hq : stIx B r a with
  | none =>
    rw [hq] at e2
    refine sm_no_5 C hS (fun c => absurd e2 c) (fun _ => ?_)
    refine clX9_no_18 C (ct9_faulty hS m hk hl 5 a) (hS.k m) (by decide) (Nat.le_refl _) (Nat.le_refl _) (Nat.le_of_ble_eq_true rfl) (fun h' e1 => ?_)
    subst e1
    exact sm_no_21 C hS (Nat.le_refl _) (Nat.le_refl _) ⟨by simp [knd, hq], by simp [knd, hq, flt]⟩
  | some b =>
    rw [hq] at e2
    have e2 : x = nI b := e2
    subst e2
    have hbl := (stIx_lt hq).1
    have h800 := hB.2.1
    refine sm_no_5 C hS (fun _ => ?_) (fun c => absurd c (nI_m1 (by omega)))
    refine clX9_no_18 C (ct9_faulty hS m hk hl 4 a) (hS.k m) (by decide) (Nat.le_refl _) (Nat.le_refl _) (Nat.le_of_ble_eq_true rfl) (fun h' e1 => ?_)
    subst e1
    exact sm_no_21 C hS (Nat.le_refl _) (Nat.le_refl _) ⟨by simp [knd, hq], by simp [knd, hq, flt]⟩
/-- as long as too many wait, the longest goes -/
def sTrim (c : Nat) : Nat → St → St
  | 0, s => s
  | k + 1, s => if sWt s.1 s.1.length ≤ c then s else (match sGo s with
      | none => s
      | some s' => sTrim c k s')
def setT (B : List Blk) (b f : Nat) : List Blk := B.set b ((bat B b).1, (bat B b).2.1, (bat B b).2.2.1, (bat B b).2.2.2.1, f)
theorem setT_len (B : List Blk) (b f : Nat) : (setT B b f).length = B.length := by simp [setT]
theorem setT_bat {B : List Blk} {b f i : Nat} (hb : b < B.length) : bat (setT B b f) i = if i = b then ((bat B b).1, (bat B b).2.1, (bat B b).2.2.1, (bat B b).2.2.2.1, f) else bat B i := by
  unfold setT bat
  rw [List.getD_eq_getElem?_getD, List.getElem?_set]
  by_cases h : b = i
  · subst h; simp [hb]
  · simp [h, Ne.symm h, List.getD_eq_getElem?_getD]
theorem setT_ch {B : List Blk} {b f : Nat} (hb : b < B.length) : chB (setT B b f) = chB B := by
  apply List.ext_getElem?
  intro i
  simp only [chB, List.getElem?_map]
  by_cases hi : i < B.length
  · rw [bat_get (B := setT B b f) (by rw [setT_len]; exact hi), bat_get hi, setT_bat hb]
    by_cases h : i = b <;> simp [h]
  · rw [List.getElem?_eq_none (by rw [setT_len]; omega), List.getElem?_eq_none (by omega)]
theorem sLong_none {B : List Blk} : ∀ {k : Nat}, sLong B k = none → sWt B k = 0
  | 0, _ => rfl
  | k + 1, h => by
    rw [sLong] at h
    split at h
    · rename_i h0
      rw [sWt, sLong_none h, if_pos h0]
    · split at h
      · cases h
      · split at h <;> cases h
set_option maxHeartbeats 1000000 in
theorem ct9_setFree (hS : MS h t ρ A) (m : Mo) {s : St} {W c f b : Nat} (hs : SRel m s) (hI : SInv W s) (hc : m.1 902 = nI c) (hc3 : c ≤ 3000) (hf : m.1 917 = nI f) (hf1 : f < 3000) (hb : b < s.1.length) :
    CtV mX9_setFree 4 0 0 [va_rf (some t), .int (nI b)] (mput h t ρ m) (fun h' => ∃ m', h' = mput h t ρ m' ∧ SRel m' (sTrim c (s.1.length + 1) (setT s.1 b (f + 1), s.2)) ∧ m'.1 917 = nI (f + 1) ∧ Msame (917 :: gI1) gR1 m m') := by
  obtain ⟨B, F, top, hi, sp, j, gone⟩ := s
  obtain ⟨a1, a2, a3, a4, a5, a6, a7⟩ := id hs
  have hlen := hI.len
  simp only at a1 a2 a3 a4 a5 a6 a7 hb hlen
  refine enX9_setFree (fun X C => sm_setFree_0 C hS (vin (by omega)) ?_)
  rw [nI_clamp (by omega), hf, nI_1]
  generalize hm1 : (up1 m.1 917 (nI (f + 1)), up2 m.2 911 b (nI (f + 1))) = m1
  have hM1 : Msame [917] [911] m m1 := by
    subst hm1
    exact ⟨fun g hg => up1_n _ _ (by simpa using hg), fun g hg => by funext q; simp only [List.mem_cons, List.not_mem_nil, or_false] at hg; simp [up2, hg]⟩
  have hB1 : BRel m1 (setT B b (f + 1)) := by
    subst hm1
    refine ⟨by simp [up1, setT_len, a1.1], by rw [setT_len]; exact a1.2.1, fun i x hx => ?_⟩
    have hi2 := (List.getElem?_eq_some_iff.mp hx).1
    rw [setT_len] at hi2
    have : x = bat (setT B b (f + 1)) i := (bat_of hx).symm
    subst this
    rw [setT_bat hb]
    have q := a1.at hi2
    by_cases hib : i = b
    · subst hib
      simp [up2, q]
      omega
    · simp [up2, hib, q]
  have hs1 : SRel m1 (setT B b (f + 1), F, top, hi, sp, j, gone) := by
    refine ⟨hB1, a2.same hM1 (by decide) (by decide) (by decide), ?_, ?_, ?_, ?_, ?_⟩
    · rw [hM1.1 905 (by decide)]; exact a3
    · rw [hM1.1 906 (by decide)]; exact a4
    · rw [hM1.1 919 (by decide)]; exact a5
    · rw [hM1.1 920 (by decide)]; exact a6
    · rw [hM1.1 918 (by decide)]; exact a7
  have hI1 : SInv W (setT B b (f + 1), F, top, hi, sp, j, gone) := by
    refine ⟨?_, hI.2⟩
    show Geo (chB (setT B b (f + 1)) ++ F) top
    rw [setT_ch hb]; exact hI.1
  have loop : ∀ (k : Nat) (m2 : Mo) (s2 : St), s2.1.length < k → SRel m2 s2 → SInv W s2 → Msame gI1 gR1 m1 m2 → sTrim c (B.length + 1) (setT B b (f + 1), F, top, hi, sp, j, gone) = sTrim c k s2 →
      At X 0 0 20 [some (va_rf (some t)), some (.int (nI b)), none] [] (mput h t ρ m2) := by
    intro k
    induction k with
    | zero => intro m2 s2 hk; omega
    | succ k ih =>
      intro m2 s2 hk hs2 hI2 hM2 htr
      rw [show sTrim c (k + 1) s2 = (if sWt s2.1 s2.1.length ≤ c then s2 else (match sGo s2 with | none => s2 | some s' => sTrim c k s')) from rfl] at htr
      refine sm_setFree_20 C hS ?_
      refine clX9_setFree_21 C (ct9_waits hS m2 hs2.1) (hS.k m2) (by decide) (Nat.le_refl _) (Nat.le_refl _) (Nat.le_of_ble_eq_true rfl) (fun x h' ⟨e1, e2⟩ => ?_)
      subst e1; subst e2
      have hw := sWt_bd hI2
      have hcc : m2.1 902 = nI c := ((hM2.1 902 (by decide)).trans (hM1.1 902 (by decide))).trans hc
      refine sm_setFree_24 C hS (Nat.le_refl _) (Nat.le_refl _) (fun c1 => ?_) (fun c1 => ?_)
      · rw [hcc, nI_leI (by omega) (by omega)] at c1
        rw [if_pos c1] at htr
        refine ⟨m2, rfl, ?_, ?_, (hM1.up (by decide) (by decide)).tr (hM2.up (by decide) (by decide))⟩
        · rw [htr]; exact hs2
        · rw [hM2.1 917 (by decide), ← hm1]; simp [up1]
      · rw [hcc, nI_leI (by omega) (by omega)] at c1
        rw [if_neg c1] at htr
        refine clX9_setFree_32 C (ct9_oneGoes hS m2 hs2 hI2) (hS.k m2) (by decide) (Nat.le_refl _) (Nat.le_refl _) (Nat.le_of_ble_eq_true rfl) (fun x h' hp => ?_)
        rcases hp with ⟨g0, rfl, rfl⟩ | ⟨s3, m3, g0, rfl, rfl, hs3, hM3⟩
        · exfalso
          have hl0 : sLong s2.1 s2.1.length = none := by
            unfold sGo at g0
            cases hq : sLong s2.1 s2.1.length with
            | none => rfl
            | some q => rw [hq] at g0; cases g0
          have := sLong_none hl0
          omega
        · rw [g0] at htr
          have hg := geo_go hI2 g0
          refine sm_setFree_35 C hS ?_
          refine At.les (ls' := [some (va_rf (some t)), some (.int (nI b)), none]) (fun i v hi => ?_) (ih m3 s3 (by omega) hs3 hg.1 (hM2.tr (hM3.up (by decide) (by decide))) htr)
          match i, hi with
          | 0, hi => exact hi
          | 1, hi => exact hi
          | 2, hi => simp at hi
          | n + 3, hi => simp at hi
  exact loop (B.length + 1) m1 _ (by simp [setT_len]) hs1 hI1 (Msame.rf _ _ _) rfl
end M8
