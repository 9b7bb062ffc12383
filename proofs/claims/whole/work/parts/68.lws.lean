/-! THE LAW from its entry to its loop -/
section LWS
variable {X : CX} {h h1 h2 h3 : Hp} {x t o sc sn : Nat} {SS : Nat → Int32} {E nd kn ρ A : Nat → Nat} {W r c g f : Nat} {s : St}
def cellV (sn : Nat) (SS : Nat → Int32) (x1 : Int32) : Int32 := if nI sn ≤ x1 then 0 else SS x1.toNatClampNeg
theorem ctL_cell (hK : h.K sc = 20) (hN : h.N sc = sn) (hA : h.AI sc = SS) (hsn : sn ≤ 2051) {i : Nat} (hi : i < 3000) : CtI mL_cell 1 0 0 [va_rf (some sc), .int (nI i)] h (fun r h' => h' = h ∧ r = cellV sn SS (nI i)) := by
  refine enL_cell (fun X C => sgL_cell_0 C (by decide) (by decide) hK (fun c => ?_) (fun c => ⟨rfl, ?_⟩) (fun c => ⟨rfl, ?_⟩))
  · rw [hN] at c ⊢
    rw [Int32.le_iff_toInt_le, nI_toInt (by omega), nI_toInt (by omega)] at c
    exact vin (by omega)
  · rw [hN] at c
    rw [cellV, if_pos c]
  · rw [hN] at c
    rw [cellV, if_neg c, hA]
theorem Fx.nw (h : Hp) {q : Nat} (k n : Nat) (hq : h.K q = 0) : Fx h (h.nw q k n) := by
  have ne : ∀ a, ¬ h.K a = 0 → ¬ a = q := fun a ha e => ha (by rw [e]; exact hq)
  refine ⟨fun a ha => ?_, fun f a ha _ => ?_⟩
  · simp only [K_nw, N_nw, AI_nw, AR_nw, AL_nw, if_neg (ne a ha)]
    exact ⟨trivial, trivial, trivial, trivial, trivial⟩
  · simp only [I_nw, R_nw, if_neg (ne a ha)]
    exact ⟨trivial, trivial⟩
theorem Fx.go {h h1 h2 : Hp} (a : Fx h h1) (b : Fx h1 h2) : Fx h h2 := by
  refine ⟨fun q hq => ?_, fun f q hq hf => ?_⟩
  · obtain ⟨a1, a2, a3, a4, a5⟩ := a.1 q hq
    obtain ⟨b1, b2, b3, b4, b5⟩ := b.1 q (by rw [a1]; exact hq)
    exact ⟨b1.trans a1, b2.trans a2, b3.trans a3, b4.trans a4, b5.trans a5⟩
  · obtain ⟨a1, -⟩ := a.1 q hq
    obtain ⟨c1, c2⟩ := a.2 f q hq hf
    obtain ⟨d1, d2⟩ := b.2 f q (by rw [a1]; exact hq) hf
    exact ⟨d1.trans c1, d2.trans c2⟩
theorem CC.fx (hC : CC h x E W r c s nd kn g f) (hF : Fx h h1) : CC h1 x E W r c s nd kn g f := by
  have k1 : h.K (E 100) = 13 := hC.1.2.2.2.2.2.1.2.2.1
  have k3 := hC.pi14
  exact hC.fr ⟨fun a ha => ⟨(hF.1 a ha).1, (hF.1 a ha).2.1⟩, fun f a hf ha => hF.2 f a ha (by unfold cbf at hf; omega)⟩ (hF.1 _ (by rw [k1]; decide)).2.2.2.1 (hF.1 _ (by rw [k3]; decide)).2.2.2.1
def rho (ρ : Nat → Nat) : Nat → Nat := fun a => if ρ a ∈ mfs then ρ a else 0
theorem rho_in {a : Nat} (h : 900 ≤ rho ρ a) : rho ρ a = ρ a ∧ ρ a ∈ mfs := by
  unfold rho at h ⊢
  by_cases e : ρ a ∈ mfs
  · rw [if_pos e]; exact ⟨rfl, e⟩
  · rw [if_neg e] at h; omega
theorem rho_lt {a : Nat} (h : ρ a < 900) : rho ρ a < 900 := by
  by_cases e : 900 ≤ rho ρ a
  · have := (rho_in e).1; omega
  · omega
set_option maxHeartbeats 1000000 in
/-- both made, the answer's row made -/
theorem LX.ini {y1 y2 y3 : Int32} (hx : iniP h x y1 y2 y3 h1) (hK : h.K sc = 20) (hN : h.N sc = sn) (hA : h.AI sc = SS) (ht : h1.K t = 0)
    (h5 : MS h2 t ρ A) (h6 : Fx (h1.nw t 10 0) h2) (h7 : ∀ a, 900 ≤ ρ a → (h1.nw t 10 0).K a = 0) (h8 : ∀ f, 900 ≤ f → h2.I f t = mini y1 y2 y3 f) (h9 : ∀ g, g ∈ mfs → ∀ i, h2.AI (A g) i = 0) (ho : h2.K o = 0) : LX (h2.nw o 15 1) x t o sc sn SS 0 := by
  obtain ⟨E, kn, W, r, c, e1, e2, e3, eW, er, ec, hC, hz, h402, h506, hNf, -⟩ := hx
  have F1 : Fx h1 (h1.nw t 10 0) := Fx.nw h1 10 0 ht
  have F3 : Fx h2 (h2.nw o 15 1) := Fx.nw h2 15 1 ho
  have F : Fx h1 (h2.nw o 15 1) := (F1.go h6).go F3
  obtain ⟨-, -, -, -, xm, -, xf, -, x6, -, -, k13, -⟩ := id hC.1
  have kn0 : ∀ a v, h1.K a = v + 1 → ¬ h1.K a = 0 := fun a v e => by omega
  have ksc : h1.K sc = 20 := ((hNf.1 sc (by rw [hK]; decide)).1).trans hK
  have low : ∀ a v, h1.K a = v + 1 → rho ρ a < 900 := fun a v e => rho_lt (by
    by_cases q : 900 ≤ ρ a
    · have := h7 a q
      rw [(F1.1 a (kn0 a v e)).1] at this
      omega
    · omega)
  have AIo : ∀ a v, h1.K a = v + 1 → (h2.nw o 15 1).AI a = h1.AI a := fun a v e => (F.1 a (kn0 a v e)).2.2.1
  have hto : ¬ t = o := fun e => by have := h5.1; rw [e, ho] at this; cases this
  have hgo : ∀ g, g ∈ mfs → ¬ A g = o := fun g hg e => by
    have := (h5.2.2 g hg).2.2.1
    rw [e, ho] at this
    exact (mfs_k hg).2 this.symm
  refine ⟨E, fun _ => 0, kn, rho ρ, A, W, r, c, ([], [], 1, 1, 0, 0, 0), 0, 0, 0, 0, (mini y1 y2 y3, fun _ _ => 0), ⟨⟨⟨hC.fx F, ?_, ?_, ?_, er, ec, eW.1, by decide, rfl⟩, ?_, ?_, ?_, ?_, ⟨Nat.zero_le _, ?_, fun i hi => absurd hi (Nat.not_lt_zero _)⟩, ?_⟩, ⟨⟨?_, ?_, ?_⟩, ?_, ?_, ?_⟩, ⟨?_, ?_, ?_, ?_, ?_, ?_, ?_⟩, ⟨⟨?_, ?_⟩, ?_, ?_, ?_⟩, low _ 10 xm.2.2.1, low _ 10 x6, low _ 10 xf.2.2.1, low _ 10 xf.2.2.2.2.2.1, low _ 19 ksc⟩, Nat.le_refl _, Nat.le_refl _, Nat.le_refl _⟩
  · exact ⟨⟨fun p hp => (by cases hp), List.Pairwise.nil, rfl⟩, Nat.le_refl _, (show 1 ≤ W by omega), eW.2⟩
  · intro b hb; cases hb
  · intro b hb; cases hb
  · rw [(F.2 402 _ (kn0 _ 4 xf.1) (by decide)).1]; exact h402
  · intro j _; rw [AIo _ 10 xm.2.2.1]; exact (hz j).1
  · intro j _; rw [AIo _ 10 x6]; exact (hz j).2.1
  · intro j _; rw [AIo _ 10 xf.2.2.1, AIo _ 10 xf.2.2.2.2.2.1]; exact (hz j).2.2
  · rw [(F.2 506 _ (kn0 _ 5 k13.1) (by decide)).1]; exact h506
  · rfl
  · rw [K_nw]; show (if t = o then 15 else h2.K t) = 10; rw [if_neg hto]; exact h5.1
  · intro b hb
    have := rho_in hb
    rw [this.1] at hb ⊢
    exact h5.2.1 b hb
  · intro g hg
    obtain ⟨a1, a2, a3, a4⟩ := h5.2.2 g hg
    refine ⟨?_, ?_, ?_, ?_⟩
    · rw [R_nw]; show (if t = o then none else h2.R g t) = _; rw [if_neg hto]; exact a1
    · unfold rho; rw [a2, if_pos hg]
    · rw [K_nw]; show (if A g = o then 15 else h2.K (A g)) = _; rw [if_neg (hgo g hg)]; exact a3
    · rw [N_nw]; show (if A g = o then 1 else h2.N (A g)) = _; rw [if_neg (hgo g hg)]; exact a4
  · intro a ha
    have := rho_in ha
    rw [this.1]; exact this.2
  · intro f hf
    rw [I_nw]; show (if t = o then 0 else h2.I f t) = _; rw [if_neg hto]; exact h8 f hf
  · intro a ha
    have hr := rho_in ha
    have ea : a = A (ρ a) := h5.2.1 a (by rw [← hr.1]; exact ha)
    funext i
    rw [AI_nw]
    show (if a = o then 0 else h2.AI a i) = 0
    by_cases e : a = o
    · rw [if_pos e]
    · rw [if_neg e, ea]; exact h9 _ hr.2 i
  · refine ⟨⟨rfl, by decide, fun i b hb => by simp at hb⟩, ⟨rfl, by decide, fun i b hb => by simp at hb⟩, rfl, rfl, rfl, rfl, rfl⟩
  · exact e1.symm
  · exact e2.symm
  · exact e3.symm
  · rfl
  · rfl
  · rfl
  · rw [K_nw]; show (if o = o then 15 else h2.K o) = 15; rw [if_pos rfl]
  · rw [N_nw]; show (if o = o then 1 else h2.N o) = 1; rw [if_pos rfl]
  · rw [(F.1 sc (kn0 _ 19 ksc)).1]; exact ksc
  · rw [(F.1 sc (kn0 _ 19 ksc)).2.1, (hNf.1 sc (by rw [hK]; decide)).2.1]; exact hN
  · rw [(F.1 sc (kn0 _ 19 ksc)).2.2.1, (hNf.1 sc (by rw [hK]; decide)).2.2.1]; exact hA
set_option maxHeartbeats 1000000 in
theorem lw_entry (C : CmI X mL_law 10 601024 7293000 lwp) (hT : ExtT X.base X.s X.s.heap) (hK : h.K sc = 20) (hN : h.N sc = sn) (hA : h.AI sc = SS) (hsn : sn ≤ 2051) : At X 0 0 0 [some (va_rf (some sc)), none, none, none, none, none, none] [] h := by
  refine nwL_law_0 C (by decide) (by decide) (fun x hx => ?_)
  have hxs : ¬ sc = x := fun e => by rw [← e, hK] at hx; cases hx
  have k1 : (h.nw x 9 0).K sc = 20 := by rw [K_nw]; show (if sc = x then 9 else h.K sc) = 20; rw [if_neg hxs]; exact hK
  have k2 : (h.nw x 9 0).N sc = sn := by rw [N_nw]; show (if sc = x then 0 else h.N sc) = sn; rw [if_neg hxs]; exact hN
  have k3 : (h.nw x 9 0).AI sc = SS := by rw [AI_nw]; funext i; show (if sc = x then 0 else h.AI sc i) = SS i; rw [if_neg hxs, hA]
  refine sgL_law_3 C ?_
  refine clL_law_6 (mc := 0) (ms := 0) C (ctL_cell (i := 0) k1 k2 k3 hsn (by decide)) (by decide) (by decide) (by decide) (Nat.le_of_ble_eq_true rfl) (fun z h' ⟨e1, e2⟩ => ?_)
  subst e1; subst e2
  refine sgL_law_9 C ?_
  refine clL_law_11 (mc := 0) (ms := 0) C (ctL_cell (i := 1) k1 k2 k3 hsn (by decide)) (by decide) (by decide) (by decide) (Nat.le_of_ble_eq_true rfl) (fun z h' ⟨e1, e2⟩ => ?_)
  subst e1; subst e2
  refine sgL_law_14 C ?_
  refine clL_law_16 (mc := 0) (ms := 0) C (ctL_cell (i := 2) k1 k2 k3 hsn (by decide)) (by decide) (by decide) (by decide) (Nat.le_of_ble_eq_true rfl) (fun z h' ⟨e1, e2⟩ => ?_)
  subst e1; subst e2
  refine sgL_law_19 C ?_
  refine clL_law_19 C (ct8_init (x := x) ?_ (fun f _ _ => ?_) _ _ _) (by decide) (by decide) (by decide) (Nat.le_of_ble_eq_true rfl) (fun h1 hi => ?_)
  · rw [K_nw]; show (if x = x then 9 else h.K x) = 9; rw [if_pos rfl]
  · rw [I_nw]; show (if x = x then 0 else h.I f x) = 0; rw [if_pos rfl]
  refine sgL_law_22 C ?_
  have hNf : Nf x (h.nw x 9 0) h1 := by
    obtain ⟨E, kn, W, r, c, -, -, -, -, -, -, -, -, -, -, e, -⟩ := hi
    exact e
  have ks := hNf.1 sc (by rw [k1]; decide)
  refine nwL_law_23 C (by decide) (by decide) (fun t ht => ?_)
  have hts : ¬ sc = t := fun e => by rw [← e, ks.1, k1] at ht; cases ht
  have m1 : (h1.nw t 10 0).K sc = 20 := by rw [K_nw]; show (if sc = t then 10 else h1.K sc) = 20; rw [if_neg hts, ks.1]; exact k1
  have m2 : (h1.nw t 10 0).N sc = sn := by rw [N_nw]; show (if sc = t then 0 else h1.N sc) = sn; rw [if_neg hts, ks.2.1]; exact k2
  have m3 : (h1.nw t 10 0).AI sc = SS := by rw [AI_nw]; funext i; show (if sc = t then 0 else h1.AI sc i) = SS i; rw [if_neg hts, ks.2.2.1, k3]
  refine sgL_law_26 C ?_
  refine clL_law_29 (mc := 0) (ms := 0) C (ctL_cell (i := 0) m1 m2 m3 hsn (by decide)) (by decide) (by decide) (by decide) (Nat.le_of_ble_eq_true rfl) (fun z h' ⟨e1, e2⟩ => ?_)
  subst e1; subst e2
  refine sgL_law_32 C ?_
  refine clL_law_34 (mc := 0) (ms := 0) C (ctL_cell (i := 1) m1 m2 m3 hsn (by decide)) (by decide) (by decide) (by decide) (Nat.le_of_ble_eq_true rfl) (fun z h' ⟨e1, e2⟩ => ?_)
  subst e1; subst e2
  refine sgL_law_37 C ?_
  refine clL_law_39 (mc := 0) (ms := 0) C (ctL_cell (i := 2) m1 m2 m3 hsn (by decide)) (by decide) (by decide) (by decide) (Nat.le_of_ble_eq_true rfl) (fun z h' ⟨e1, e2⟩ => ?_)
  subst e1; subst e2
  refine sgL_law_42 C ?_
  refine clL_law_42 C (ct9_init (t := t) ?_ (fun f _ => ?_) _ _ _) (by decide) (by decide) (by decide) (Nat.le_of_ble_eq_true rfl) (fun h2 hm => ?_)
  · rw [K_nw]; show (if t = t then 10 else h1.K t) = 10; rw [if_pos rfl]
  · rw [I_nw]; show (if t = t then 0 else h1.I f t) = 0; rw [if_pos rfl]
  obtain ⟨ρ, A, h5, h6, h7, h8, h9⟩ := hm
  refine sgL_law_45 C ?_
  refine nwL_law_47 C (by decide) (by decide) (by decide) (by decide) (fun o ho => ?_)
  refine sgL_law_49 C ?_
  exact lw_loop C hT hsn 512 0 _ _ _ rfl (by decide) (by decide) (LX.ini hi k1 k2 k3 ht h5 h6 h7 h8 h9 ho)
end LWS
