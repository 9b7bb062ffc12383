section M12
variable {h : Hp} {t : Nat} {ρ A : Nat → Nat} {m : Mo} {W r c : Nat} {s : St} {g f k : Nat}
def cLv (B : List Blk) : Nat → Nat
  | 0 => 0
  | i + 1 => if (bat B i).2.2.2.2 = 0 then cLv B i + 1 else cLv B i
def wLv (B : List Blk) : Nat → Nat
  | 0 => 0
  | i + 1 => if (bat B i).2.2.2.2 = 0 then wLv B i + (bat B i).2.2.1 else wLv B i
theorem live_z {B : List Blk} (hB : BRel m B) {i : Nat} (hi : i < B.length) : m.2 911 i = 0 ↔ (bat B i).2.2.2.2 = 0 := by
  obtain ⟨q1, q2, q3, q4, q5, q6, q7, q8, q9⟩ := hB.at hi
  rw [q5]; exact nI_eq (b := 0) (by omega) (by omega)
set_option maxHeartbeats 1000000 in
theorem ct9_lives (hS : MS h t ρ A) (m : Mo) {B : List Blk} (hB : BRel m B) (w : Bool) : CtI mX9_lives 2 0 0 [va_rf (some t), .int (if w then 1 else 0)] (mput h t ρ m) (fun y h' => h' = mput h t ρ m ∧ y = if w then nI (wLv B B.length) else nI (cLv B B.length)) := by
  refine enX9_lives (fun X C => sm_lives_0 C hS ?_)
  have h1 := hB.1
  have h2 := hB.2.1
  have key : ∀ n i, i + n = B.length → At X 0 0 4 [some (va_rf (some t)), some (.int (if w then 1 else 0)), some (.int (if w then nI (wLv B i) else nI (cLv B i))), some (.int (nI i))] [] (mput h t ρ m) := by
    intro n
    induction n with
    | zero =>
      intro i hi
      have hi : i = B.length := by omega
      subst hi
      exact sm_lives_4 C hS (Nat.le_refl _) (Nat.le_refl _) (fun _ => ⟨rfl, rfl⟩) (fun c => absurd ((li h1).mpr (by omega)) c)
    | succ n ih =>
      intro i hi
      have hlt : i < B.length := by omega
      have hz := live_z hB hlt
      have q3 := (hB.at hlt).2.2.1
      have nx := ih (i + 1) (by omega)
      rw [← nI_1, wLv, cLv] at nx
      refine sm_lives_4 C hS (Nat.le_refl _) (Nat.le_refl _) (fun c => absurd ((li h1).mp c) (by omega)) (fun _ => ?_)
      refine clX9_lives_14 C (ct9_isLive hS m (b := i) (by omega)) (hS.k m) (by decide) (Nat.le_refl _) (Nat.le_refl _) (Nat.le_of_ble_eq_true rfl) (fun r h' ⟨e1, e2⟩ => ?_)
      subst e1; subst e2
      refine sm_lives_17 C hS (fun _ _ => vin (by omega)) (fun c => ?_) (fun c c' => ?_) (fun c c' => ?_)
      · have h0 : ¬ (bat B i).2.2.2.2 = 0 := fun h0 => by rw [hz.mpr h0] at c; simp at c
        rw [if_neg h0, if_neg h0] at nx
        exact nx
      · have h0 : (bat B i).2.2.2.2 = 0 := hz.mp (by by_cases hx : m.2 911 i = 0 <;> simp [hx] at c ⊢)
        have hw : w = false := by cases w <;> simp at c' ⊢
        subst hw
        simp only [if_pos h0, Bool.false_eq_true, if_false] at nx ⊢
        rw [nI_1 (cLv B i)]
        exact nx
      · have h0 : (bat B i).2.2.2.2 = 0 := hz.mp (by by_cases hx : m.2 911 i = 0 <;> simp [hx] at c ⊢)
        have hw : w = true := by cases w <;> simp at c' ⊢
        subst hw
        simp only [if_pos h0, if_true] at nx ⊢
        rw [nI_clamp (by omega), q3, nI_add]
        exact nx
  have := key B.length 0 (by omega)
  simp only [wLv, cLv, ite_self] at this
  exact this
def wF (F : Fl) : Nat → Nat
  | 0 => 0
  | i + 1 => wF F i + (gat F i).2
set_option maxHeartbeats 1000000 in
theorem ct9_freeWords (hS : MS h t ρ A) (m : Mo) {F : Fl} (hF : FRel m F) : CtI mX9_freeWords 1 0 0 [va_rf (some t)] (mput h t ρ m) (fun y h' => h' = mput h t ρ m ∧ y = nI (wF F F.length)) := by
  refine enX9_freeWords (fun X C => sm_freeWords_0 C hS ?_)
  have h1 := hF.1
  have h2 := hF.2.1
  have key : ∀ n i, i + n = F.length → At X 0 0 4 [some (va_rf (some t)), some (.int (nI (wF F i))), some (.int (nI i))] [] (mput h t ρ m) := by
    intro n
    induction n with
    | zero =>
      intro i hi
      have hi : i = F.length := by omega
      subst hi
      exact sm_freeWords_4 C hS (Nat.le_refl _) (Nat.le_refl _) (fun c => absurd ((li h1).mpr (by omega)) c) (fun _ => ⟨rfl, rfl⟩) (fun c => absurd ((li h1).mpr (by omega)) c)
    | succ n ih =>
      intro i hi
      have hlt : i < F.length := by omega
      have nx := ih (i + 1) (by omega)
      rw [← nI_1, wF] at nx
      refine sm_freeWords_4 C hS (Nat.le_refl _) (Nat.le_refl _) (fun _ => vin (by omega)) (fun c => absurd ((li h1).mp c) (by omega)) (fun _ => ?_)
      rw [nI_clamp (by omega), (hF.at hlt).2.1, nI_add]
      exact nx
  exact key F.length 0 (by omega)
def cntM (m : Mo) (s : St) (x : Int32) : Int32 :=
  if x = 0 then m.1 905 else if x = 1 then nI (cLv s.1 s.1.length) else if x = 2 then nI (wLv s.1 s.1.length) else if x = 3 then nI s.1.length - nI (cLv s.1 s.1.length) else if x = 4 then nI (sWt s.1 s.1.length) else if x = 5 then nI s.2.1.length else if x = 6 then nI (wF s.2.1 s.2.1.length)
  else if x = 7 then m.1 916 else if x = 8 then m.1 917 else if x = 9 then m.1 918 else if x = 10 then m.1 919 else if x = 11 then m.1 920 else if x = 12 then m.1 906 else if x = 13 then m.1 921 else if x = 14 then m.1 900 else if x = 15 then m.1 901 else if x = 16 then m.1 902 else -1
set_option maxHeartbeats 1000000 in
theorem ct9_count (hS : MS h t ρ A) (m : Mo) (hs : SRel m s) (x : Int32) : CtI mX9_count 3 0 0 [va_rf (some t), .int x] (mput h t ρ m) (fun y h' => h' = mput h t ρ (th0 m) ∧ y = cntM m s x) := by
  have hs0 : SRel (th0 m) s := hs.same (th0_same m) (by decide) (by decide)
  refine enX9_count (fun X C => sm_count_0 C hS (Nat.le_refl _) (Nat.le_refl _) (fun c => ⟨rfl, ?_⟩) (fun c => ?_) (fun c => ?_) (fun c => ?_) (fun c => ?_) (fun c => ?_) (fun c => ?_) (fun c => ?_) (fun c => ?_) (fun c => ?_) (fun c => ?_) (fun c => ?_) (fun c => ?_) (fun c => ?_) (fun c => ?_) (fun c => ?_) (fun c => ?_) (fun c => ?_))
  · have n0 : ∀ z : Int32, (0 : Int) ≤ z.toInt → z.toInt ≤ 16 → ¬ x = z := fun z hz0 hz4 e => by subst e; omega
    unfold cntM
    rw [if_neg (n0 0 (by decide) (by decide)), if_neg (n0 1 (by decide) (by decide)), if_neg (n0 2 (by decide) (by decide)), if_neg (n0 3 (by decide) (by decide)), if_neg (n0 4 (by decide) (by decide)), if_neg (n0 5 (by decide) (by decide)), if_neg (n0 6 (by decide) (by decide)), if_neg (n0 7 (by decide) (by decide)), if_neg (n0 8 (by decide) (by decide)), if_neg (n0 9 (by decide) (by decide)), if_neg (n0 10 (by decide) (by decide)), if_neg (n0 11 (by decide) (by decide)), if_neg (n0 12 (by decide) (by decide)), if_neg (n0 13 (by decide) (by decide)), if_neg (n0 14 (by decide) (by decide)), if_neg (n0 15 (by decide) (by decide)), if_neg (n0 16 (by decide) (by decide))]
  · subst c; exact ⟨rfl, rfl⟩
  · subst c
    refine clX9_count_95 C (ct9_lives hS (th0 m) hs0.1 false) (hS.k _) (by decide) (Nat.le_refl _) (Nat.le_refl _) (Nat.le_of_ble_eq_true rfl) (fun y h' ⟨e1, e2⟩ => ?_)
    subst e1
    exact sm_count_98 C hS (Nat.le_refl _) (Nat.le_refl _) ⟨rfl, e2⟩
  · subst c
    refine clX9_count_101 C (ct9_lives hS (th0 m) hs0.1 true) (hS.k _) (by decide) (Nat.le_refl _) (Nat.le_refl _) (Nat.le_of_ble_eq_true rfl) (fun y h' ⟨e1, e2⟩ => ?_)
    subst e1
    exact sm_count_104 C hS (Nat.le_refl _) (Nat.le_refl _) ⟨rfl, e2⟩
  · subst c
    refine clX9_count_111 C (ct9_lives hS (th0 m) hs0.1 false) (hS.k _) (by decide) (Nat.le_refl _) (Nat.le_refl _) (Nat.le_of_ble_eq_true rfl) (fun y h' ⟨e1, e2⟩ => ?_)
    subst e1
    refine sm_count_114 C hS (Nat.le_refl _) (Nat.le_refl _) ⟨rfl, ?_⟩
    rw [e2, hs.1.1]; rfl
  · subst c
    refine clX9_count_117 C (ct9_waits hS (th0 m) hs0.1) (hS.k _) (by decide) (Nat.le_refl _) (Nat.le_refl _) (Nat.le_of_ble_eq_true rfl) (fun y h' ⟨e1, e2⟩ => ?_)
    subst e1
    exact sm_count_120 C hS (Nat.le_refl _) (Nat.le_refl _) ⟨rfl, e2⟩
  · subst c; exact ⟨rfl, hs.2.1.1⟩
  · subst c
    refine clX9_count_127 C (ct9_freeWords hS (th0 m) hs0.2.1) (hS.k _) (by decide) (Nat.le_refl _) (Nat.le_refl _) (Nat.le_of_ble_eq_true rfl) (fun y h' ⟨e1, e2⟩ => ?_)
    subst e1
    exact sm_count_130 C hS (Nat.le_refl _) (Nat.le_refl _) ⟨rfl, e2⟩
  all_goals (subst c; exact ⟨rfl, rfl⟩)
def nOf (F : Fl) (x : Int32) : Nat → Nat
  | 0 => 0
  | i + 1 => if nI (gat F i).2 = x then nOf F x i + 1 else nOf F x i
set_option maxHeartbeats 1000000 in
theorem ct9_freeMany (hS : MS h t ρ A) (m : Mo) {F : Fl} (hF : FRel m F) (x : Int32) : CtI mX9_freeMany 1 0 0 [va_rf (some t), .int x] (mput h t ρ m) (fun y h' => h' = mput h t ρ (th0 m) ∧ y = nI (nOf F x F.length)) := by
  refine enX9_freeMany (fun X C => sm_freeMany_0 C hS ?_)
  have hF0 : FRel (th0 m) F := hF.same (th0_same m) (by decide) (by decide) (by decide)
  have h1 := hF0.1
  have h2 := hF0.2.1
  have key : ∀ n i, i + n = F.length → At X 0 0 9 [some (va_rf (some t)), some (.int x), some (.int (nI (nOf F x i))), some (.int (nI i))] [] (mput h t ρ (th0 m)) := by
    intro n
    induction n with
    | zero =>
      intro i hi
      have hi : i = F.length := by omega
      subst hi
      refine sm_freeMany_9 C hS (Nat.le_refl _) (Nat.le_refl _) ?_ (fun _ => ⟨rfl, rfl⟩) ?_ ?_ <;> (intro c; exact absurd ((li h1).mpr (by omega)) c)
    | succ n ih =>
      intro i hi
      have hlt : i < F.length := by omega
      have nx := ih (i + 1) (by omega)
      rw [← nI_1, nOf] at nx
      refine sm_freeMany_9 C hS (Nat.le_refl _) (Nat.le_refl _) (fun _ => vin (by omega)) (fun c => absurd ((li h1).mp c) (by omega)) (fun _ c => ?_) (fun _ c => ?_)
      · rw [nI_clamp (by omega), (hF0.at hlt).2.1] at c
        rw [if_neg c] at nx
        rw [Int32.add_zero]; exact nx
      · rw [nI_clamp (by omega), (hF0.at hlt).2.1] at c
        rw [if_pos c] at nx
        rw [nI_1]; exact nx
  exact key F.length 0 (by omega)
/-- from above: the l-th of a size below the place j -/
def fDn (F : Fl) (x : Int32) : Nat → Nat → Option Nat
  | 0, _ => none
  | j + 1, l => if nI (gat F j).2 = x then (if l = 0 then some j else fDn F x j (l - 1)) else fDn F x j l
def blw (F : Fl) (x : Int32) (i : Nat) : Nat → Nat
  | 0 => 0
  | j + 1 => if nI (gat F j).2 = x ∧ (gat F j).1 < (gat F i).1 then blw F x i j + 1 else blw F x i j
def fAtM (F : Fl) (x w : Int32) : Int32 :=
  if ¬ 0 ≤ w then -1
  else if 64 < x then (match fnd (fun i => decide (nI (gat F i).2 = x) && decide (nI (blw F x i F.length) = w)) F.length 0 with
    | none => -1
    | some i => nI (gat F i).1)
  else (match fDn F x F.length w.toNatClampNeg with
    | none => -1
    | some i => nI (gat F i).1)
theorem fDn_lt (F : Fl) (x : Int32) : ∀ {j l i : Nat}, fDn F x j l = some i → i < j
  | 0, l, i, h => by cases h
  | j + 1, l, i, h => by
    rw [fDn] at h
    split at h
    · split at h
      · cases h; omega
      · have := fDn_lt F x h; omega
    · have := fDn_lt F x h; omega
set_option maxHeartbeats 1000000 in
theorem ct9_freeAt (hS : MS h t ρ A) (m : Mo) {F : Fl} (hF : FRel m F) (x w : Int32) : CtI mX9_freeAt 1 0 0 [va_rf (some t), .int x, .int w] (mput h t ρ m) (fun y h' => h' = mput h t ρ (th0 m) ∧ y = fAtM F x w) := by
  have hF0 : FRel (th0 m) F := hF.same (th0_same m) (by decide) (by decide) (by decide)
  have h1 := hF0.1
  have h2 := hF0.2.1
  refine enX9_freeAt (fun X C => sm_freeAt_0 C hS (Nat.le_refl _) (Nat.le_refl _) (fun c1 c2 => ?_) (fun c1 c2 => ?_) (fun c1 => ⟨rfl, by simp [fAtM, c1]⟩))
  · generalize hp : (fun i => decide (nI (gat F i).2 = x) && decide (nI (blw F x i F.length) = w)) = p
    have hres : fAtM F x w = match fnd p F.length 0 with | none => -1 | some i => nI (gat F i).1 := by subst hp; simp [fAtM, c1, c2]
    have key : ∀ n i, i + n = F.length → fnd p F.length 0 = fnd p n i → ∀ ls4 ls5, At X 0 0 71 [some (va_rf (some t)), some (.int x), some (.int w), some (.int (nI i)), ls4, ls5] [] (mput h t ρ (th0 m)) := by
      intro n
      induction n with
      | zero =>
        intro i hi hf ls4 ls5
        refine At.les (ls' := [some (va_rf (some t)), some (.int x), some (.int w), some (.int (nI i)), none, none]) ?_ (sm_freeAt_71 C hS (Nat.le_refl _) (Nat.le_refl _) (fun _ => ⟨rfl, by rw [hres, hf]; rfl⟩) (fun c => absurd ((li h1).mpr (by omega)) c))
        intro i v hi
        match i, hi with
        | 0, hi => exact hi
        | 1, hi => exact hi
        | 2, hi => exact hi
        | 3, hi => exact hi
        | 4, hi => simp at hi
        | 5, hi => simp at hi
        | n + 6, hi => simp at hi
      | succ n ih =>
        intro i hi hf ls4 ls5
        have hlt : i < F.length := by omega
        obtain ⟨q1, q2, q3, q4⟩ := hF0.at hlt
        have hcl : (nI i).toNatClampNeg = i := nI_clamp (by omega)
        rw [fnd] at hf
        have inner : ∀ n2 j, j + n2 = F.length → At X 0 0 85 [some (va_rf (some t)), some (.int x), some (.int w), some (.int (nI i)), some (.int (nI (blw F x i j))), some (.int (nI j))] [] (mput h t ρ (th0 m)) := by
          intro n2
          induction n2 with
          | zero =>
            intro j hj
            have hj : j = F.length := by omega
            subst hj
            refine sm_freeAt_85 C hS (Nat.le_refl _) (Nat.le_refl _) (fun _ => vin (by omega)) (fun _ _ _ => vin (by omega)) (fun c => absurd ((li h1).mpr (by omega)) c) (fun c => absurd ((li h1).mpr (by omega)) c) (fun c => absurd ((li h1).mpr (by omega)) c) (fun _ c => ?_) (fun _ c c' => ?_) (fun _ c c' => ⟨rfl, ?_⟩) (fun c => absurd ((li h1).mpr (by omega)) c) (fun c => absurd ((li h1).mpr (by omega)) c) (fun c => absurd ((li h1).mpr (by omega)) c)
            · rw [hcl, q2] at c
              rw [nI_1]
              exact ih (i + 1) (by omega) (by rw [hf, if_neg (by subst hp; simp [c])]) _ _
            · rw [hcl, q2] at c
              rw [nI_1]
              exact ih (i + 1) (by omega) (by rw [hf, if_neg (by subst hp; simp [c'])]) _ _
            · rw [hcl, q2] at c
              rw [hres, hf, if_pos (by subst hp; simp [c, c']), hcl, q1]
          | succ n2 ih2 =>
            intro j hj
            have hjl : j < F.length := by omega
            obtain ⟨p1, p2, p3, p4⟩ := hF0.at hjl
            have hcj : (nI j).toNatClampNeg = j := nI_clamp (by omega)
            have nx := ih2 (j + 1) (by omega)
            rw [← nI_1, blw] at nx
            refine sm_freeAt_85 C hS (Nat.le_refl _) (Nat.le_refl _) (fun c => absurd ((li h1).mp c) (by omega)) (fun c => absurd ((li h1).mp c) (by omega)) (fun _ => vin (by omega)) (fun _ _ => vin (by omega)) (fun _ _ => vin (by omega)) (fun c => absurd ((li h1).mp c) (by omega)) (fun c => absurd ((li h1).mp c) (by omega)) (fun c => absurd ((li h1).mp c) (by omega)) (fun _ c => ?_) (fun _ c c' => ?_) (fun _ c c' => ?_)
            · rw [hcj, p2] at c
              rw [if_neg (fun z => c z.1)] at nx
              rw [Int32.add_zero]; exact nx
            · rw [hcj, p2] at c
              rw [hcl, hcj, q1, p1, nI_leI (by omega) (by omega)] at c'
              rw [if_neg (fun z => by omega)] at nx
              rw [Int32.add_zero]; exact nx
            · rw [hcj, p2] at c
              rw [hcl, hcj, q1, p1, nI_leI (by omega) (by omega)] at c'
              rw [if_pos ⟨c, by omega⟩] at nx
              rw [nI_1 (blw F x i j)]; exact nx
        refine At.les (ls' := [some (va_rf (some t)), some (.int x), some (.int w), some (.int (nI i)), none, none]) ?_ (sm_freeAt_71 C hS (Nat.le_refl _) (Nat.le_refl _) (fun c => absurd ((li h1).mp c) (by omega)) (fun _ => inner F.length 0 (by omega)))
        intro i v hi
        match i, hi with
        | 0, hi => exact hi
        | 1, hi => exact hi
        | 2, hi => exact hi
        | 3, hi => exact hi
        | 4, hi => simp at hi
        | 5, hi => simp at hi
        | n + 6, hi => simp at hi
    exact key F.length 0 (by omega) rfl _ _
  · obtain ⟨K, hK, rfl⟩ := nI_of (x := w) (Int32.not_lt.mpr c1)
    have hres : fAtM F x (nI K) = match fDn F x F.length K with | none => -1 | some i => nI (gat F i).1 := by simp [fAtM, c1, c2, nI_clamp hK]
    have e1 : m.1 915 - 1 = nI F.length - 1 := by rw [← h1]; rfl
    rw [e1]
    have key : ∀ j l, j ≤ F.length → l < 2147483648 → fDn F x F.length K = fDn F x j l → At X 0 0 27 [some (va_rf (some t)), some (.int x), some (.int (nI K)), some (.int (nI l)), some (.int (nI j - 1)), none] [] (mput h t ρ (th0 m)) := by
      intro j
      induction j with
      | zero =>
        intro l hj hl hf
        have : (nI 0 - 1 : Int32) < 0 := by decide
        refine sm_freeAt_27 C hS (Nat.le_refl _) (Nat.le_refl _) (fun c => absurd this c) (fun c => absurd this c) (fun _ => ⟨rfl, by rw [hres, hf]; rfl⟩) (fun c => absurd this c) (fun c => absurd this c) (fun c => absurd this c)
      | succ j ih =>
        intro l hj hl hf
        have e2 : nI (j + 1) - 1 = nI j := nI_pred j
        have e3 : nI j + (-1) = nI j - 1 := by
          rw [Int32.sub_eq_add_neg]
        have hjl : j < F.length := by omega
        obtain ⟨p1, p2, p3, p4⟩ := hF0.at hjl
        have hcj : (nI j).toNatClampNeg = j := nI_clamp (by omega)
        rw [e2]
        rw [fDn] at hf
        refine sm_freeAt_27 C hS (Nat.le_refl _) (Nat.le_refl _) (fun _ => vin (by omega)) (fun _ _ _ => vin (by omega)) (fun c => absurd c (nI_pos (by omega))) (fun _ c c' => ?_) (fun _ c c' => ⟨rfl, ?_⟩) (fun _ c => ?_)
        · rw [hcj, p2] at c
          have hl0 : ¬ l = 0 := fun e => c' (by rw [e]; rfl)
          rw [if_pos c, if_neg hl0] at hf
          rw [e3]
          have e4 : nI l + (-1) = nI (l - 1) := by
            have : l = (l - 1) + 1 := by omega
            rw [this]; exact pk_m1 (l - 1)
          rw [e4]
          exact ih (l - 1) (by omega) (by omega) hf
        · rw [hcj, p2] at c
          have hl0 : l = 0 := by
            have := (nI_eq (b := 0) (by omega) (by omega)).mp c'
            exact this
          rw [if_pos c, if_pos hl0] at hf
          rw [hres, hf, hcj, p1]
        · rw [hcj, p2] at c
          rw [if_neg c] at hf
          rw [e3]
          exact ih l (by omega) hl hf
    exact key F.length K (Nat.le_refl _) hK rfl
def ahd (B : List Blk) (i : Nat) : Nat → Nat
  | 0 => 0
  | j + 1 => if ¬ (bat B j).2.2.2.2 = 0 ∧ (bat B j).2.2.2.2 < (bat B i).2.2.2.2 then ahd B i j + 1 else ahd B i j
def wtIx (B : List Blk) (x : Int32) : Option Nat := fnd (fun i => decide (¬ (bat B i).2.2.2.2 = 0) && decide (nI (ahd B i B.length) = x)) B.length 0
set_option maxHeartbeats 1000000 in
theorem ct9_waiting (hS : MS h t ρ A) (m : Mo) {B : List Blk} (hB : BRel m B) (hr : m.1 901 = nI r) (x : Int32) : CtI mX9_waiting 2 0 0 [va_rf (some t), .int x] (mput h t ρ m) (fun y h' => h' = mput h t ρ (th0 m) ∧ y = match wtIx B x with | none => -1 | some b => nI ((bat B b).1 + r)) := by
  have hB0 : BRel (th0 m) B := hB.same (th0_same m) (by decide) (by decide)
  have hr0 : (th0 m).1 901 = nI r := hr
  have h1 := hB0.1
  have h2 := hB0.2.1
  refine enX9_waiting (fun X C => sm_waiting_0 C hS ?_)
  generalize hp : (fun i => decide (¬ (bat B i).2.2.2.2 = 0) && decide (nI (ahd B i B.length) = x)) = p
  have hw : wtIx B x = fnd p B.length 0 := by subst hp; rfl
  have les : ∀ {ls3 ls4 : Option Value} {i : Int32} {pc : Nat} {hh : Hp}, At X 0 0 pc [some (va_rf (some t)), some (.int x), some (.int i), none, none] [] hh → At X 0 0 pc [some (va_rf (some t)), some (.int x), some (.int i), ls3, ls4] [] hh := fun k => At.les (fun i v hi => by
    match i, hi with
    | 0, hi => exact hi
    | 1, hi => exact hi
    | 2, hi => exact hi
    | 3, hi => simp at hi
    | 4, hi => simp at hi
    | n + 5, hi => simp at hi) k
  have key : ∀ n i, i + n = B.length → fnd p B.length 0 = fnd p n i → At X 0 0 7 [some (va_rf (some t)), some (.int x), some (.int (nI i)), none, none] [] (mput h t ρ (th0 m)) := by
    intro n
    induction n with
    | zero =>
      intro i hi hf
      exact sm_waiting_7 C hS (Nat.le_refl _) (Nat.le_refl _) (fun _ => ⟨rfl, by rw [hw, hf]; rfl⟩) (fun c => absurd ((li h1).mpr (by omega)) c)
    | succ n ih =>
      intro i hi hf
      have hlt : i < B.length := by omega
      have hz := live_z hB0 hlt
      have hcl : (nI i).toNatClampNeg = i := nI_clamp (by omega)
      have qi := hB0.at hlt
      rw [fnd] at hf
      refine sm_waiting_7 C hS (Nat.le_refl _) (Nat.le_refl _) (fun c => absurd ((li h1).mp c) (by omega)) (fun _ => ?_)
      refine clX9_waiting_17 C (ct9_isLive hS (th0 m) (b := i) (by omega)) (hS.k _) (by decide) (Nat.le_refl _) (Nat.le_refl _) (Nat.le_of_ble_eq_true rfl) (fun y h' ⟨e1, e2⟩ => ?_)
      subst e1; subst e2
      refine sm_waiting_20 C hS (fun c => ?_) (fun c => ?_)
      · have h0 : ¬ (bat B i).2.2.2.2 = 0 := fun h0 => by rw [hz.mpr h0] at c; simp at c
        have inner : ∀ n2 j, j + n2 = B.length → At X 0 0 31 [some (va_rf (some t)), some (.int x), some (.int (nI i)), some (.int (nI (ahd B i j))), some (.int (nI j))] [] (mput h t ρ (th0 m)) := by
          intro n2
          induction n2 with
          | zero =>
            intro j hj
            have hj : j = B.length := by omega
            subst hj
            refine sm_waiting_31 C hS (fun _ c2 => les ?_) (fun _ c2 => ?_) (fun c => absurd ((li h1).mpr (by omega)) c)
            · rw [nI_1]
              exact ih (i + 1) (by omega) (by rw [hf, if_neg (by subst hp; simp [c2])])
            · refine clX9_waiting_86 C (ct9_start hS (th0 m) (b := i) (by omega)) (hS.k _) (by decide) (Nat.le_refl _) (Nat.le_refl _) (Nat.le_of_ble_eq_true rfl) (fun y h' ⟨e1, e2⟩ => ?_)
              subst e1; subst e2
              refine sm_waiting_89 C hS (Nat.le_refl _) (Nat.le_refl _) ⟨rfl, ?_⟩
              rw [hw, hf, if_pos (by subst hp; simp [h0, c2]), qi.1, hr0, nI_add]
          | succ n2 ih2 =>
            intro j hj
            have hjl : j < B.length := by omega
            have hzj := live_z hB0 hjl
            have qj := hB0.at hjl
            have hcj : (nI j).toNatClampNeg = j := nI_clamp (by omega)
            have nx := ih2 (j + 1) (by omega)
            rw [← nI_1, ahd] at nx
            refine sm_waiting_31 C hS (fun c => absurd ((li h1).mp c) (by omega)) (fun c => absurd ((li h1).mp c) (by omega)) (fun _ => ?_)
            refine clX9_waiting_44 C (ct9_isLive hS (th0 m) (b := j) (by omega)) (hS.k _) (by decide) (Nat.le_refl _) (Nat.le_refl _) (Nat.le_of_ble_eq_true rfl) (fun y h' ⟨e1, e2⟩ => ?_)
            subst e1; subst e2
            refine sm_waiting_47 C hS (fun _ => vin (by omega)) (fun _ => vin (by omega)) (fun c => ?_) (fun c c' => ?_) (fun c c' => ?_)
            · have z0 : (bat B j).2.2.2.2 = 0 := hzj.mp (by by_cases hx : (th0 m).2 911 j = 0 <;> simp [hx] at c ⊢)
              rw [if_neg (fun z => z.1 z0)] at nx
              rw [Int32.add_zero]; exact nx
            · rw [hcl, hcj, qi.2.2.2.2.1, qj.2.2.2.2.1, nI_leI (by omega) (by omega)] at c'
              rw [if_neg (fun z => by omega)] at nx
              rw [Int32.add_zero]; exact nx
            · have z0 : ¬ (bat B j).2.2.2.2 = 0 := fun h0 => by rw [hzj.mpr h0] at c; simp at c
              rw [hcl, hcj, qi.2.2.2.2.1, qj.2.2.2.2.1, nI_leI (by omega) (by omega)] at c'
              rw [if_pos ⟨z0, by omega⟩] at nx
              rw [nI_1 (ahd B i j)]; exact nx
        exact inner B.length 0 (by omega)
      · have h0 : (bat B i).2.2.2.2 = 0 := hz.mp (by by_cases hx : (th0 m).2 911 i = 0 <;> simp [hx] at c ⊢)
        rw [nI_1]
        exact ih (i + 1) (by omega) (by rw [hf, if_neg (by subst hp; simp [h0])])
  exact key B.length 0 (by omega) rfl
set_option maxHeartbeats 1000000 in
theorem ct9_fault (hS : MS h t ρ A) (m : Mo) (hk : m.1 921 = nI k) (hk6 : k ≤ 600) (x w : Int32) : CtI mX9_fault 1 0 0 [va_rf (some t), .int x, .int w] (mput h t ρ m) (fun y h' => (∃ K, x = nI K ∧ K < k ∧ K < 32 ∧ (w = 0 ∨ w = 1) ∧ h' = mput h t ρ (th0 m) ∧ y = if w = 0 then m.2 923 ((k - 1 - K) % 32) else m.2 924 ((k - 1 - K) % 32)) ∨ ((x < 0 ∨ nI k ≤ x ∨ 32 ≤ x ∨ (¬ w = 0 ∧ ¬ w = 1)) ∧ h' = mput h t ρ (up1 m.1 903 1, m.2))) := by
  have idx : ∀ K, K < k → nI k - 1 - nI K - (nI k - 1 - nI K) / 32 * 32 = nI ((k - 1 - K) % 32) := by
    intro K hK
    have e1 : nI k - 1 = nI (k - 1) := pk_sub (a := k) (b := 1) (by omega)
    rw [e1, pk_sub (by omega)]
    exact pk_rem (a := k - 1 - K) (d := 32) (by omega) (by decide) (by decide)
  have get : ¬ x < 0 → ¬ nI k ≤ x → ¬ 32 ≤ x → ∃ K, x = nI K ∧ K < k ∧ K < 32 := by
    intro c1 c2 c3
    obtain ⟨K, hK, rfl⟩ := nI_of c1
    rw [nI_leI (by omega) hK] at c2
    rw [show (32 : Int32) = nI 32 from rfl, nI_leI (by omega) hK] at c3
    exact ⟨K, rfl, by omega, by omega⟩
  have ml : ∀ n, n % 32 < 32 := fun n => Nat.mod_lt _ (by decide)
  refine enX9_fault (fun X C => sm_fault_0 C hS (Nat.le_refl _) (Nat.le_refl _) ?_ ?_ ?_ ?_ ?_ ?_ ?_ ?_ ?_ ?_ ?_ ?_)
  all_goals (try rw [hk])
  · intro c1 c2 c3 c4 c5; exact absurd c4 c5
  · intro c1 c2 c3 c4 c5
    obtain ⟨K, rfl, h1, h2⟩ := get c1 c2 c3
    rw [idx K h1]; exact vin (ml _)
  · intro c1 c2 c3 c4 c5 c6
    obtain ⟨K, rfl, h1, h2⟩ := get c1 c2 c3
    rw [idx K h1]; exact vin (ml _)
  · intro c1 c2 c3 c4 c5 c6; exact absurd c6 c4
  · intro c1; exact Or.inr ⟨Or.inl c1, rfl⟩
  · intro c1 c2; exact Or.inr ⟨Or.inr (Or.inl c2), rfl⟩
  · intro c1 c2 c3; exact Or.inr ⟨Or.inr (Or.inr (Or.inl c3)), rfl⟩
  · intro c1 c2 c3 c4 c5; exact absurd c4 c5
  · intro c1 c2 c3 c4 c5
    obtain ⟨K, rfl, h1, h2⟩ := get c1 c2 c3
    rw [idx K h1, nI_clamp (by have := ml (k - 1 - K); omega)]
    exact Or.inl ⟨K, rfl, h1, h2, Or.inl c4, rfl, by rw [if_pos c4]⟩
  · intro c1 c2 c3 c4 c5; exact Or.inr ⟨Or.inr (Or.inr (Or.inr ⟨c4, c5⟩)), rfl⟩
  · intro c1 c2 c3 c4 c5 c6
    obtain ⟨K, rfl, h1, h2⟩ := get c1 c2 c3
    rw [idx K h1, nI_clamp (by have := ml (k - 1 - K); omega)]
    exact Or.inl ⟨K, rfl, h1, h2, Or.inr c5, rfl, by rw [if_neg c4]⟩
  · intro c1 c2 c3 c4 c5 c6; exact absurd c6 c4
def lkM (m : Mo) (n : Nat) (x w : Int32) : Int32 := if x < 0 ∨ nI n ≤ x then -1 else if w = 0 then m.2 928 x.toNatClampNeg else if w = 1 then m.2 929 x.toNatClampNeg else if w = 2 then m.2 930 x.toNatClampNeg else if w = 3 then (if m.2 931 x.toNatClampNeg = 0 then 0 else 1) else -1
set_option maxHeartbeats 1000000 in
theorem ct9_leak (hS : MS h t ρ A) (m : Mo) {n : Nat} (hn : m.1 932 = nI n) (hn8 : n < 800) (x w : Int32) : CtI mX9_leak 1 0 0 [va_rf (some t), .int x, .int w] (mput h t ρ m) (fun y h' => h' = mput h t ρ (th0 m) ∧ y = lkM m n x w) := by
  have rng : ¬ x < 0 → x < m.1 932 → vp_in x 800 ∧ ¬ (x < 0 ∨ nI n ≤ x) := by
    intro c1 c2
    rw [hn] at c2
    refine ⟨?_, fun z => z.elim c1 (fun z => Int32.not_le.mpr c2 z)⟩
    obtain ⟨K, hK, rfl⟩ := nI_of c1
    rw [nI_ltI hK (by omega)] at c2
    exact vin (by omega)
  refine enX9_leak (fun X C => sm_leak_0 C hS (Nat.le_refl _) (Nat.le_refl _) (fun c1 c2 _ => (rng c1 c2).1) (fun c1 c2 _ => (rng c1 c2).1) (fun c1 c2 _ => (rng c1 c2).1) (fun c1 c2 _ => (rng c1 c2).1) (fun c1 => ⟨rfl, ?_⟩) (fun c1 c2 c3 => ⟨rfl, ?_⟩) (fun c1 c2 c3 => ⟨rfl, ?_⟩) (fun c1 c2 c3 => ⟨rfl, ?_⟩) (fun c1 c2 c3 => ⟨rfl, ?_⟩) (fun c1 c2 c3 c4 => ⟨rfl, ?_⟩) (fun c1 c2 c3 c4 => ⟨rfl, ?_⟩) (fun c1 c2 => ⟨rfl, ?_⟩))
  · rw [lkM, if_pos (Or.inl c1)]
  · have n0 : ∀ z : Int32, (0 : Int) ≤ z.toInt → z.toInt ≤ 3 → ¬ w = z := fun z hz0 hz4 e => by subst e; omega
    rw [lkM, if_neg (rng c1 c2).2, if_neg (n0 0 (by decide) (by decide)), if_neg (n0 1 (by decide) (by decide)), if_neg (n0 2 (by decide) (by decide)), if_neg (n0 3 (by decide) (by decide))]
  · rw [lkM, if_neg (rng c1 c2).2, if_pos c3]
  · subst c3; rw [lkM, if_neg (rng c1 c2).2]; rfl
  · subst c3; rw [lkM, if_neg (rng c1 c2).2]; rfl
  · subst c3; rw [lkM, if_neg (rng c1 c2).2]; simp [c4]
  · subst c3; rw [lkM, if_neg (rng c1 c2).2]; simp [c4]
  · rw [hn] at c2
    rw [lkM, if_pos (Or.inr (Int32.not_lt.mp c2))]
end M12
