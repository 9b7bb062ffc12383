/-! THE REFERENCE's object as a state of its own: its int fields (900 ..) and its rows, by the fields that hold them -/
abbrev Mo : Type := (Nat → Int32) × (Nat → Nat → Int32)
theorem Hp.ext7 {h g : Hp} (e1 : h.K = g.K) (e2 : h.N = g.N) (e3 : h.I = g.I) (e4 : h.R = g.R) (e5 : h.AI = g.AI) (e6 : h.AR = g.AR) (e7 : h.AL = g.AL) : h = g := by
  obtain ⟨a1, a2, a3, a4, a5, a6, a7⟩ := h
  obtain ⟨b1, b2, b3, b4, b5, b6, b7⟩ := g
  have e1 : a1 = b1 := e1
  have e2 : a2 = b2 := e2
  have e3 : a3 = b3 := e3
  have e4 : a4 = b4 := e4
  have e5 : a5 = b5 := e5
  have e6 : a6 = b6 := e6
  have e7 : a7 = b7 := e7
  subst e1; subst e2; subst e3; subst e4; subst e5; subst e6; subst e7
  rfl
def up1 {α : Type} (f : Nat → α) (k : Nat) (v : α) : Nat → α := fun g => if g = k then v else f g
theorem up1_s {α : Type} (f : Nat → α) (k : Nat) (v : α) : up1 f k v k = v := by simp [up1]
theorem up1_n {α : Type} (f : Nat → α) {k g : Nat} (v : α) (h : g ≠ k) : up1 f k v g = f g := by simp [up1, h]
/-- the object t, the rows that ρ calls its own -/
def mput (h : Hp) (t : Nat) (ρ : Nat → Nat) (m : Mo) : Hp :=
  (h.1, h.2.1, (fun f a => if 900 ≤ f then (if a = t then m.1 f else h.2.2.1 f a) else h.2.2.1 f a), h.2.2.2.1, (fun a i => if 900 ≤ ρ a then m.2 (ρ a) i else h.2.2.2.2.1 a i), h.2.2.2.2.2)
def mo (h : Hp) (t : Nat) (A : Nat → Nat) : Mo := (fun f => h.I f t, fun g => h.AI (A g))
def mfs : List Nat := [904, 907, 908, 909, 910, 911, 913, 914, 922, 923, 924, 925, 926, 927, 928, 929, 930, 931]
def mlen (g : Nat) : Nat := if g = 904 ∨ g = 925 then 3001 else if g = 922 then 16 else if g = 923 ∨ g = 924 then 32 else 800
def mknd (g : Nat) : Nat := if g = 926 ∨ g = 931 then 12 else 11
/-- what stays: kinds, lengths, where the rows are -/
def MS (h : Hp) (t : Nat) (ρ A : Nat → Nat) : Prop :=
  h.K t = 10 ∧ (∀ b, 900 ≤ ρ b → b = A (ρ b)) ∧ ∀ g ∈ mfs, h.R g t = some (A g) ∧ ρ (A g) = g ∧ h.K (A g) = mknd g ∧ h.N (A g) = mlen g
section MOL
variable {h : Hp} {t : Nat} {ρ A : Nat → Nat} {m : Mo}
theorem MS.put (hS : MS h t ρ A) (m : Mo) : MS (mput h t ρ m) t ρ A := hS
theorem MS.k (hS : MS h t ρ A) (m : Mo) : (mput h t ρ m).K t = 10 := hS.1
theorem MS.r (hS : MS h t ρ A) (m : Mo) (g : Nat) (hg : g ∈ mfs := by decide) : (mput h t ρ m).R g t = some (A g) := (hS.2.2 g hg).1
theorem MS.ki (hS : MS h t ρ A) (m : Mo) (g : Nat) (hg : g ∈ mfs ∧ mknd g = 11 := by decide) : (mput h t ρ m).K (A g) = 11 := (hS.2.2 g hg.1).2.2.1.trans hg.2
theorem MS.kz (hS : MS h t ρ A) (m : Mo) (g : Nat) (hg : g ∈ mfs ∧ mknd g = 12 := by decide) : (mput h t ρ m).K (A g) = 12 := (hS.2.2 g hg.1).2.2.1.trans hg.2
theorem MS.n (hS : MS h t ρ A) (m : Mo) (g n : Nat) (hg : g ∈ mfs ∧ mlen g = n := by decide) : (mput h t ρ m).N (A g) = n := (hS.2.2 g hg.1).2.2.2.trans hg.2
theorem MS.ro (hS : MS h t ρ A) (g : Nat) (hg : g ∈ mfs := by decide) : ρ (A g) = g := (hS.2.2 g hg).2.1
theorem mput_I (h : Hp) (t : Nat) (ρ : Nat → Nat) (m : Mo) (f : Nat) (hf : 900 ≤ f := by decide) : (mput h t ρ m).I f t = m.1 f := by
  show (if 900 ≤ f then _ else _) = _
  rw [if_pos hf, if_pos rfl]
theorem mput_AI (hS : MS h t ρ A) (m : Mo) (g : Nat) (hg : g ∈ mfs ∧ 900 ≤ g := by decide) : (mput h t ρ m).AI (A g) = m.2 g := by
  funext i
  show (if 900 ≤ ρ (A g) then _ else _) = _
  rw [hS.ro g hg.1, if_pos hg.2]
theorem mput_sI (h : Hp) (t : Nat) (ρ : Nat → Nat) (m : Mo) (f : Nat) (v : Int32) (hf : 900 ≤ f := by decide) : (mput h t ρ m).sI f t v = mput h t ρ (up1 m.1 f v, m.2) := by
  refine Hp.ext7 rfl rfl ?_ rfl rfl rfl rfl
  funext g a
  show up2 (fun f a => if 900 ≤ f then if a = t then m.1 f else h.2.2.1 f a else h.2.2.1 f a) f t v g a = (if 900 ≤ g then if a = t then up1 m.1 f v g else h.2.2.1 g a else h.2.2.1 g a)
  by_cases hg : g = f
  · subst hg
    by_cases ha : a = t <;> simp [up2, up1, ha, hf]
  · simp [up2, up1, hg]
theorem mput_sAI (hS : MS h t ρ A) (m : Mo) (g i : Nat) (v : Int32) (hg : g ∈ mfs ∧ 900 ≤ g := by decide) : (mput h t ρ m).sAI (A g) i v = mput h t ρ (m.1, up2 m.2 g i v) := by
  refine Hp.ext7 rfl rfl rfl rfl ?_ rfl rfl
  funext a j
  show up2 (fun a i => if 900 ≤ ρ a then m.2 (ρ a) i else h.2.2.2.2.1 a i) (A g) i v a j = (if 900 ≤ ρ a then up2 m.2 g i v (ρ a) j else h.2.2.2.2.1 a j)
  have hro := hS.ro g hg.1
  by_cases ha : a = A g
  · subst ha
    simp only [up2, hro, if_pos hg.2, if_true]
  · by_cases hr : 900 ≤ ρ a
    · have hne : ρ a ≠ g := fun e => ha (by rw [hS.2.1 a hr, e])
      simp [up2, ha, hr, hne]
    · simp [up2, ha, hr]
theorem mput_mo (hS : MS h t ρ A) : mput h t ρ (mo h t A) = h := by
  refine Hp.ext7 rfl rfl ?_ rfl ?_ rfl rfl
  · funext f a
    show (if 900 ≤ f then if a = t then h.I f t else h.I f a else h.I f a) = h.I f a
    by_cases hf : 900 ≤ f
    · by_cases ha : a = t
      · subst ha; simp [hf]
      · simp [hf, ha]
    · simp [hf]
  · funext a i
    show (if 900 ≤ ρ a then h.AI (A (ρ a)) i else h.AI a i) = h.AI a i
    by_cases hr : 900 ≤ ρ a
    · rw [if_pos hr, ← hS.2.1 a hr]
    · rw [if_neg hr]
theorem mput_mput (h : Hp) (t : Nat) (ρ : Nat → Nat) (m m' : Mo) : mput (mput h t ρ m) t ρ m' = mput h t ρ m' := by
  refine Hp.ext7 rfl rfl ?_ rfl ?_ rfl rfl
  · funext f a
    show (if 900 ≤ f then if a = t then m'.1 f else (if 900 ≤ f then if a = t then m.1 f else h.I f a else h.I f a) else (if 900 ≤ f then if a = t then m.1 f else h.I f a else h.I f a)) = (if 900 ≤ f then if a = t then m'.1 f else h.I f a else h.I f a)
    by_cases hf : 900 ≤ f <;> by_cases ha : a = t <;> simp [hf, ha]
  · funext a i
    show (if 900 ≤ ρ a then m'.2 (ρ a) i else (if 900 ≤ ρ a then m.2 (ρ a) i else h.AI a i)) = (if 900 ≤ ρ a then m'.2 (ρ a) i else h.AI a i)
    by_cases hr : 900 ≤ ρ a <;> simp [hr]
end MOL
theorem vin {i n : Nat} (h : i < n) (hn : n < 2147483648 := by omega) : vp_in (nI i) n := vp_in_nI h hn
