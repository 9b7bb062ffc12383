/-! a new reference -/
/-- what stood before stands, but for the fields of the reference -/
def Fx (h h1 : Hp) : Prop := (∀ a, ¬ h.K a = 0 → h1.K a = h.K a ∧ h1.N a = h.N a ∧ h1.AI a = h.AI a ∧ h1.AR a = h.AR a ∧ h1.AL a = h.AL a) ∧ ∀ f a, ¬ h.K a = 0 → f < 900 → h1.I f a = h.I f a ∧ h1.R f a = h.R f a
def Con (h h1 : Hp) (t : Nat) (A : Nat → Nat) (J : Nat → Int32) (Z : List Nat) : Prop := h1.K t = 10 ∧ ¬ h.K t = 0 ∧ Fx h h1 ∧ (∀ g, g ∈ Z → 900 ≤ g ∧ h1.R g t = some (A g) ∧ h1.K (A g) = mknd g ∧ h1.N (A g) = mlen g ∧ (∀ i, h1.AI (A g) i = 0) ∧ h.K (A g) = 0) ∧ (∀ g g', g ∈ Z → g' ∈ Z → A g = A g' → g = g') ∧ ∀ f, 900 ≤ f → h1.I f t = J f
theorem mknd_pos (g : Nat) : ¬ mknd g = 0 := by unfold mknd; split <;> decide
theorem Con.k {h h1 : Hp} {t : Nat} {A : Nat → Nat} {J : Nat → Int32} {Z : List Nat} (hC : Con h h1 t A J Z) {q k n : Nat} (hq : h1.K q = 0) : (h1.nw q k n).K t = 10 := by
  have : ¬ t = q := fun e => by have := hC.1; rw [e, hq] at this; cases this
  simp [K_nw, this, hC.1]
set_option maxHeartbeats 1000000 in
theorem Con.row {h h1 : Hp} {t : Nat} {A : Nat → Nat} {J : Nat → Int32} {Z : List Nat} (hC : Con h h1 t A J Z) {q g : Nat} {k n : Nat} (hq : h1.K q = 0) (hg : 900 ≤ g) (hz : ¬ g ∈ Z) (hk : k = mknd g) (hn : n = mlen g) : Con h ((h1.nw q k n).sR g t (some q)) t (up1 A g q) J (g :: Z) := by
  subst hk; subst hn
  have htq : ¬ t = q := fun e => by have := hC.1; rw [e, hq] at this; cases this
  obtain ⟨c1, c2, c3, c4, c5, c6⟩ := hC
  have old : ∀ a, ¬ h.K a = 0 → ¬ a = q := fun a ha e => by
    subst e
    exact ha ((c3.1 a ha).1.symm.trans hq)
  have qn : h.K q = 0 := by
    by_cases h0 : h.K q = 0
    · exact h0
    · exact absurd rfl (old q h0)
  have own : ∀ x, x ∈ Z → ¬ A x = q := fun x hx e => by
    have h1 := (c4 x hx).2.2.1
    rw [e, hq] at h1
    exact mknd_pos x h1.symm
  have ng : ∀ x, x ∈ Z → ¬ x = g := fun x hx e => hz (by rw [← e]; exact hx)
  refine ⟨?_, c2, ⟨fun a ha => ?_, fun f a ha hf => ?_⟩, fun x hx => ?_, fun x y hx hy => ?_, fun f hf => ?_⟩
  · simp [K_sR, K_nw, htq, c1]
  · have := old a ha
    simp only [K_sR, K_nw, N_sR, N_nw, AI_sR, AI_nw, AR_sR, AR_nw, AL_sR, AL_nw, if_neg this]
    exact c3.1 a ha
  · have := old a ha
    have c7 := c3.2 f a ha hf
    simp only [I_sR, I_nw, R_sR, R_nw, up2, if_neg this, if_neg (show ¬ f = g by omega)]
    exact c7
  · rcases List.mem_cons.mp hx with rfl | hx
    · simp [hg, K_sR, K_nw, N_sR, N_nw, AI_sR, AI_nw, R_sR, R_nw, up2, up1, qn]
    · have h1 := own x hx
      have h2 := ng x hx
      have h3 := c4 x hx
      simp only [K_sR, K_nw, N_sR, N_nw, AI_sR, AI_nw, R_sR, R_nw, up2, up1, if_neg h1, if_neg h2, if_neg htq]
      exact h3
  · intro e
    rcases List.mem_cons.mp hx with hx1 | hx1 <;> rcases List.mem_cons.mp hy with hy1 | hy1
    · rw [hx1, hy1]
    · rw [hx1, up1_s, up1_n _ _ (ng y hy1)] at e
      exact absurd e.symm (own y hy1)
    · rw [hy1, up1_s, up1_n _ _ (ng x hx1)] at e
      exact absurd e (own x hx1)
    · rw [up1_n _ _ (ng x hx1), up1_n _ _ (ng y hy1)] at e
      exact c5 x y hx1 hy1 e
  · simp only [I_sR, I_nw, if_neg htq]
    exact c6 f hf
theorem Con.int {h h1 : Hp} {t : Nat} {A : Nat → Nat} {J : Nat → Int32} {Z : List Nat} (hC : Con h h1 t A J Z) {f : Nat} {v : Int32} (hf : 900 ≤ f) : Con h (h1.sI f t v) t A (up1 J f v) Z := by
  obtain ⟨c1, c2, c3, c4, c5, c6⟩ := hC
  refine ⟨c1, c2, ⟨c3.1, fun g a ha hg => ?_⟩, c4, c5, fun g hg => ?_⟩
  · simp only [I_sI, R_sI, up2, if_neg (show ¬ g = f by omega)]
    exact c3.2 g a ha hg
  · simp only [I_sI, up2, up1, if_true]
    by_cases h0 : g = f
    · simp [h0]
    · simp only [if_neg h0]; exact c6 g hg
def nearN (v lo hi : Int32) : Int32 := if v < lo then lo else if hi < v then hi else v
def rhoOf (A : Nat → Nat) (a : Nat) : Nat := match mfs.find? (fun g => decide (A g = a)) with
  | some g => g
  | none => 0
def mini (x1 x2 x3 : Int32) : Nat → Int32 := up1 (up1 (up1 (up1 (up1 (fun _ => 0) 905 1) 906 1) 900 (nearN x1 64 3000)) 901 (nearN x2 1 8)) 902 (nearN x3 0 3000)
set_option maxHeartbeats 1000000 in
theorem Con.done {h h1 : Hp} {t : Nat} {A : Nat → Nat} {J : Nat → Int32} {Z : List Nat} (hC : Con h h1 t A J Z) (hZ : ∀ g, g ∈ mfs → g ∈ Z) : MS h1 t (rhoOf A) A ∧ (∀ a, 900 ≤ rhoOf A a → h.K a = 0) ∧ ∀ g, g ∈ mfs → ∀ i, h1.AI (A g) i = 0 := by
  obtain ⟨c1, c2, c3, c4, c5, c6⟩ := hC
  have hro : ∀ g, g ∈ mfs → rhoOf A (A g) = g := by
    intro g hg
    unfold rhoOf
    cases hf : mfs.find? (fun x => decide (A x = A g)) with
    | none =>
      have := List.find?_eq_none.mp hf g hg
      simp at this
    | some x =>
      have h1 := List.find?_some hf
      have h2 := List.mem_of_find?_eq_some hf
      exact c5 x g (hZ x h2) (hZ g hg) (by simpa using h1)
  have hinv : ∀ a, 900 ≤ rhoOf A a → a = A (rhoOf A a) ∧ rhoOf A a ∈ mfs := by
    intro a ha
    unfold rhoOf at ha ⊢
    cases hf : mfs.find? (fun x => decide (A x = a)) with
    | none => rw [hf] at ha; simp at ha
    | some x =>
      have h1 := List.find?_some hf
      exact ⟨(by simpa using h1 : A x = a).symm, List.mem_of_find?_eq_some hf⟩
  refine ⟨⟨c1, fun b hb => (hinv b hb).1, fun g hg => ?_⟩, fun a ha => ?_, fun g hg => (c4 g (hZ g hg)).2.2.2.2.1⟩
  · have := c4 g (hZ g hg)
    exact ⟨this.2.1, hro g hg, this.2.2.1, this.2.2.2.1⟩
  · obtain ⟨e, hm⟩ := hinv a ha
    rw [e]
    exact (c4 _ (hZ _ hm)).2.2.2.2.2
set_option maxHeartbeats 1000000 in
theorem ct9_init {t : Nat} {h : Hp} (ht : h.K t = 10) (hz : ∀ f, 900 ≤ f → h.I f t = 0) (x1 x2 x3 : Int32) : CtV mX9_init 2 18 16482 [va_rf (some t), .int x1, .int x2, .int x3] h (fun h' => ∃ ρ A, MS h' t ρ A ∧ Fx h h' ∧ (∀ a, 900 ≤ ρ a → h.K a = 0) ∧ (∀ f, 900 ≤ f → h'.I f t = mini x1 x2 x3 f) ∧ ∀ g, g ∈ mfs → ∀ i, h'.AI (A g) i = 0) := by
  refine enX9_init (fun X C => sgX9_init_0 C (by decide) ?_)
  have hC : Con h h t (fun _ => 0) (fun _ => 0) [] := ⟨ht, by rw [ht]; decide, ⟨fun a _ => ⟨rfl, rfl, rfl, rfl, rfl⟩, fun f a _ _ => ⟨rfl, rfl⟩⟩, fun g hg => (by cases hg), fun g g' hg => (by cases hg), hz⟩
  refine nwX9_init_8 C (by decide) (by decide) (by decide) (by decide) (fun q hq => ?_)
  refine sgX9_init_10 C (hC.k hq) (hC.k hq) ?_
  replace hC := hC.row (g := 904) (k := 11) (n := (3001 : Int32).toNatClampNeg) hq (by decide) (by decide) (by decide) (by decide)
  replace hC := (hC.int (f := 905) (v := 1) (by decide)).int (f := 906) (v := 1) (by decide)
  generalize (((Hp.nw _ q 11 (3001 : Int32).toNatClampNeg).sR 904 t (some q)).sI 905 t 1).sI 906 t 1 = h1 at hC ⊢
  refine nwX9_init_27 C (by decide) (by decide) (by decide) (by decide) (fun q hq => ?_)
  refine sgX9_init_29 C (hC.k hq) ?_
  replace hC := hC.row (g := 907) (k := 11) (n := (800 : Int32).toNatClampNeg) hq (by decide) (by decide) (by decide) (by decide)
  generalize (Hp.nw _ q 11 (800 : Int32).toNatClampNeg).sR 907 t (some q) = h2 at hC ⊢
  refine nwX9_init_36 C (by decide) (by decide) (by decide) (by decide) (fun q hq => ?_)
  refine sgX9_init_38 C (hC.k hq) ?_
  replace hC := hC.row (g := 908) (k := 11) (n := (800 : Int32).toNatClampNeg) hq (by decide) (by decide) (by decide) (by decide)
  generalize (Hp.nw _ q 11 (800 : Int32).toNatClampNeg).sR 908 t (some q) = h3 at hC ⊢
  refine nwX9_init_45 C (by decide) (by decide) (by decide) (by decide) (fun q hq => ?_)
  refine sgX9_init_47 C (hC.k hq) ?_
  replace hC := hC.row (g := 909) (k := 11) (n := (800 : Int32).toNatClampNeg) hq (by decide) (by decide) (by decide) (by decide)
  generalize (Hp.nw _ q 11 (800 : Int32).toNatClampNeg).sR 909 t (some q) = h4 at hC ⊢
  refine nwX9_init_54 C (by decide) (by decide) (by decide) (by decide) (fun q hq => ?_)
  refine sgX9_init_56 C (hC.k hq) ?_
  replace hC := hC.row (g := 910) (k := 11) (n := (800 : Int32).toNatClampNeg) hq (by decide) (by decide) (by decide) (by decide)
  generalize (Hp.nw _ q 11 (800 : Int32).toNatClampNeg).sR 910 t (some q) = h5 at hC ⊢
  refine nwX9_init_63 C (by decide) (by decide) (by decide) (by decide) (fun q hq => ?_)
  refine sgX9_init_65 C (hC.k hq) ?_
  replace hC := hC.row (g := 911) (k := 11) (n := (800 : Int32).toNatClampNeg) hq (by decide) (by decide) (by decide) (by decide)
  generalize (Hp.nw _ q 11 (800 : Int32).toNatClampNeg).sR 911 t (some q) = h6 at hC ⊢
  refine nwX9_init_72 C (by decide) (by decide) (by decide) (by decide) (fun q hq => ?_)
  refine sgX9_init_74 C (hC.k hq) ?_
  replace hC := hC.row (g := 913) (k := 11) (n := (800 : Int32).toNatClampNeg) hq (by decide) (by decide) (by decide) (by decide)
  generalize (Hp.nw _ q 11 (800 : Int32).toNatClampNeg).sR 913 t (some q) = h7 at hC ⊢
  refine nwX9_init_81 C (by decide) (by decide) (by decide) (by decide) (fun q hq => ?_)
  refine sgX9_init_83 C (hC.k hq) ?_
  replace hC := hC.row (g := 914) (k := 11) (n := (800 : Int32).toNatClampNeg) hq (by decide) (by decide) (by decide) (by decide)
  generalize (Hp.nw _ q 11 (800 : Int32).toNatClampNeg).sR 914 t (some q) = h8 at hC ⊢
  refine nwX9_init_89 C (by decide) (by decide) (by decide) (by decide) (fun q hq => ?_)
  refine sgX9_init_91 C (hC.k hq) ?_
  replace hC := hC.row (g := 922) (k := 11) (n := (16 : Int32).toNatClampNeg) hq (by decide) (by decide) (by decide) (by decide)
  generalize (Hp.nw _ q 11 (16 : Int32).toNatClampNeg).sR 922 t (some q) = h9 at hC ⊢
  refine nwX9_init_97 C (by decide) (by decide) (by decide) (by decide) (fun q hq => ?_)
  refine sgX9_init_99 C (hC.k hq) ?_
  replace hC := hC.row (g := 923) (k := 11) (n := (32 : Int32).toNatClampNeg) hq (by decide) (by decide) (by decide) (by decide)
  generalize (Hp.nw _ q 11 (32 : Int32).toNatClampNeg).sR 923 t (some q) = h10 at hC ⊢
  refine nwX9_init_105 C (by decide) (by decide) (by decide) (by decide) (fun q hq => ?_)
  refine sgX9_init_107 C (hC.k hq) ?_
  replace hC := hC.row (g := 924) (k := 11) (n := (32 : Int32).toNatClampNeg) hq (by decide) (by decide) (by decide) (by decide)
  generalize (Hp.nw _ q 11 (32 : Int32).toNatClampNeg).sR 924 t (some q) = h11 at hC ⊢
  refine nwX9_init_114 C (by decide) (by decide) (by decide) (by decide) (fun q hq => ?_)
  refine sgX9_init_116 C (hC.k hq) ?_
  replace hC := hC.row (g := 925) (k := 11) (n := (3001 : Int32).toNatClampNeg) hq (by decide) (by decide) (by decide) (by decide)
  generalize (Hp.nw _ q 11 (3001 : Int32).toNatClampNeg).sR 925 t (some q) = h12 at hC ⊢
  refine nwX9_init_123 C (by decide) (by decide) (by decide) (by decide) (fun q hq => ?_)
  refine sgX9_init_125 C (hC.k hq) ?_
  replace hC := hC.row (g := 926) (k := 12) (n := (800 : Int32).toNatClampNeg) hq (by decide) (by decide) (by decide) (by decide)
  generalize (Hp.nw _ q 12 (800 : Int32).toNatClampNeg).sR 926 t (some q) = h13 at hC ⊢
  refine nwX9_init_132 C (by decide) (by decide) (by decide) (by decide) (fun q hq => ?_)
  refine sgX9_init_134 C (hC.k hq) ?_
  replace hC := hC.row (g := 927) (k := 11) (n := (800 : Int32).toNatClampNeg) hq (by decide) (by decide) (by decide) (by decide)
  generalize (Hp.nw _ q 11 (800 : Int32).toNatClampNeg).sR 927 t (some q) = h14 at hC ⊢
  refine nwX9_init_141 C (by decide) (by decide) (by decide) (by decide) (fun q hq => ?_)
  refine sgX9_init_143 C (hC.k hq) ?_
  replace hC := hC.row (g := 928) (k := 11) (n := (800 : Int32).toNatClampNeg) hq (by decide) (by decide) (by decide) (by decide)
  generalize (Hp.nw _ q 11 (800 : Int32).toNatClampNeg).sR 928 t (some q) = h15 at hC ⊢
  refine nwX9_init_150 C (by decide) (by decide) (by decide) (by decide) (fun q hq => ?_)
  refine sgX9_init_152 C (hC.k hq) ?_
  replace hC := hC.row (g := 929) (k := 11) (n := (800 : Int32).toNatClampNeg) hq (by decide) (by decide) (by decide) (by decide)
  generalize (Hp.nw _ q 11 (800 : Int32).toNatClampNeg).sR 929 t (some q) = h16 at hC ⊢
  refine nwX9_init_159 C (by decide) (by decide) (by decide) (by decide) (fun q hq => ?_)
  refine sgX9_init_161 C (hC.k hq) ?_
  replace hC := hC.row (g := 930) (k := 11) (n := (800 : Int32).toNatClampNeg) hq (by decide) (by decide) (by decide) (by decide)
  generalize (Hp.nw _ q 11 (800 : Int32).toNatClampNeg).sR 930 t (some q) = h17 at hC ⊢
  refine nwX9_init_168 C (by decide) (by decide) (by decide) (by decide) (fun q hq => ?_)
  refine sgX9_init_170 C (hC.k hq) ?_
  replace hC := hC.row (g := 931) (k := 12) (n := (800 : Int32).toNatClampNeg) hq (by decide) (by decide) (by decide) (by decide)
  generalize (Hp.nw _ q 12 (800 : Int32).toNatClampNeg).sR 931 t (some q) = h18 at hC ⊢
  refine clX9_init_180 C (ct9_near x1 64 3000 _) (by decide) (by decide) (by decide) (Nat.le_of_ble_eq_true rfl) (fun y h' ⟨e1, e2⟩ => ?_)
  subst e1; subst e2
  refine sgX9_init_183 C hC.1 ?_
  replace hC := hC.int (f := 900) (v := nearN x1 64 3000) (by decide)
  refine clX9_init_191 C (ct9_near x2 1 8 _) (by decide) (by decide) (by decide) (Nat.le_of_ble_eq_true rfl) (fun y h' ⟨e1, e2⟩ => ?_)
  subst e1; subst e2
  refine sgX9_init_194 C hC.1 ?_
  replace hC := hC.int (f := 901) (v := nearN x2 1 8) (by decide)
  refine clX9_init_203 C (ct9_near x3 0 3000 _) (by decide) (by decide) (by decide) (Nat.le_of_ble_eq_true rfl) (fun y h' ⟨e1, e2⟩ => ?_)
  subst e1; subst e2
  refine sgX9_init_206 C (by decide) (by decide) hC.1 ?_
  replace hC := hC.int (f := 902) (v := nearN x3 0 3000) (by decide)
  have hd := hC.done (by decide)
  exact ⟨_, _, hd.1, hC.2.2.1, hd.2.1, hC.2.2.2.2.2, hd.2.2⟩
