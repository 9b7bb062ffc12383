/-! THE LAW's relation: class and reference in one heap -/
section LWR
variable {h h' h1 : Hp} {x t o sc sn : Nat} {SS : Nat → Int32} {E nd kn nd' kn' ρ A : Nat → Nat} {W r c g f k n g' f' k' n' : Nat} {s s' : St} {m m' : Mo}
def Lf (E : Nat → Nat) (h h' : Hp) : Prop := (∀ a, ¬ h.K a = 0 → h'.K a = h.K a ∧ h'.N a = h.N a ∧ (¬ a = E 600 → ¬ a = E 806 → ¬ a = E 400 → ¬ a = E 401 → h'.AI a = h.AI a)) ∧ ∀ f a, ¬ h.K a = 0 → 900 ≤ f → h'.I f a = h.I f a ∧ h'.R f a = h.R f a
theorem Lf.rf (E : Nat → Nat) (h : Hp) : Lf E h h := ⟨fun _ _ => ⟨rfl, rfl, fun _ _ _ _ => rfl⟩, fun _ _ _ _ => ⟨rfl, rfl⟩⟩
theorem Lf.cf (hF : Cf (E 600) (E 100) h h') : Lf E h h' := ⟨fun a ha => ⟨(hF.1 a ha).1, (hF.1 a ha).2.1, fun e _ _ _ => (hF.1 a ha).2.2.2.1 e⟩, fun f a ha hf => hF.2 f a (by unfold corf ckf; omega) ha⟩
theorem Lf.sr (hF : Sr E h h') : Lf E h h' := ⟨fun a ha => ⟨by rw [hF.1], by rw [hF.2.1], fun _ _ _ _ => by rw [hF.2.2.2.1]⟩, fun f a ha hf => ⟨by rw [hF.2.2.2.2.2.2 f (by unfold srf; omega)], by rw [hF.2.2.1]⟩⟩
theorem Lf.flt (k : Nat) (z y : Int32) : Lf E h (fltH h E k z y) := by
  refine ⟨fun a ha => ⟨rfl, rfl, fun _ _ e3 e4 => ?_⟩, fun f a ha hf => ⟨?_, rfl⟩⟩
  · funext i
    simp only [fltH, AI_sI, AI_sAI, up2, if_neg e3, if_neg e4]
  · simp only [fltH, I_sI, I_sAI, up2, if_neg (show ¬ f = 402 by omega)]
theorem Lf.mem (j : Nat) (w : Int32) : Lf E h (h.sAI (E 600) j w) := ⟨fun a ha => ⟨rfl, rfl, fun e _ _ _ => by funext i; simp only [AI_sAI, up2, if_neg e]⟩, fun f a ha hf => ⟨rfl, rfl⟩⟩
theorem Lf.root (j : Nat) (w : Int32) : Lf E h (h.sAI (E 806) j w) := ⟨fun a ha => ⟨rfl, rfl, fun _ e _ _ => by funext i; simp only [AI_sAI, up2, if_neg e]⟩, fun f a ha hf => ⟨rfl, rfl⟩⟩
theorem Lf.wmem (F : Nat → Int32) : Lf E h (h.wAI (E 600) F) := ⟨fun a ha => ⟨rfl, rfl, fun e _ _ _ => by simp only [AI_wAI, if_neg e]⟩, fun f a ha hf => ⟨rfl, rfl⟩⟩
theorem Lf.out (o i : Nat) (v : Int64) : Lf E h (h.sAL o i v) := ⟨fun a ha => ⟨rfl, rfl, fun _ _ _ _ => rfl⟩, fun f a ha hf => ⟨rfl, rfl⟩⟩
def cbf (f : Nat) : Prop := f ≤ 5 ∨ f = 8 ∨ f = 100 ∨ (200 ≤ f ∧ f ≤ 308) ∨ (400 ≤ f ∧ f ≤ 401) ∨ (500 ≤ f ∧ f ≤ 504) ∨ f = 600 ∨ (700 ≤ f ∧ f ≤ 703) ∨ (800 ≤ f ∧ f ≤ 812)
theorem Ag.sub {φ ψ : Nat → Prop} (hA : Ag φ h h') (hp : ∀ f, ψ f → φ f) : Ag ψ h h' := ⟨hA.1, fun f a hf => hA.2 f a (hp f hf)⟩
theorem CC.fr (hC : CC h x E W r c s nd kn g f) (hA : Ag cbf h h') (e1 : h'.AR (E 100) = h.AR (E 100)) (e2 : h'.AR (E 301) = h.AR (E 301)) : CC h' x E W r c s nd kn g f := by
  obtain ⟨hX, hB, hQ, hK, i1, i2, i3, i4⟩ := hC
  have hx : ¬ h.K x = 0 := by rw [hX.1]; decide
  have hI : ∀ f, 809 ≤ f → f ≤ 812 → h'.I f x = h.I f x := fun f a1 a2 => (hA.2 f x (by unfold cbf; omega) hx).1
  refine ⟨hX.fr (hA.sub (fun f hf => by unfold stf at hf; unfold cbf; omega)), hB.fr (hA.sub (fun f hf => by unfold cbf; omega)) e1, hQ.fr (hA.sub (fun f hf => by unfold cbf; omega)) ?_ (fun b hb => ?_), hK.fr (hA.sub (fun f hf => by unfold cbf; omega)) e2, ?_, ?_, ?_, ?_⟩
  · rw [hX.2.2.2.2.2.2.2.1]; decide
  · obtain ⟨i, hi⟩ := List.mem_iff_getElem?.mp hb
    have h1 := (hB.1 i (List.getElem?_eq_some_iff.mp hi).1).1
    unfold ndB at h1
    rw [bat_of hi] at h1
    rw [h1]; decide
  · rw [hI 809 (by decide) (by decide)]; exact i1
  · rw [hI 810 (by decide) (by decide)]; exact i2
  · rw [hI 811 (by decide) (by decide)]; exact i3
  · rw [hI 812 (by decide) (by decide)]; exact i4
theorem CB.fr (hC : CB h x E W r c s nd kn g f) (hA : Ag cbf h h') (e1 : h'.AR (E 100) = h.AR (E 100)) (e2 : h'.AR (E 301) = h.AR (E 301)) : CB h' x E W r c s nd kn g f := ⟨hC.1.fr hA e1 e2, hC.2⟩
theorem CB.sb (hC : CB h x E W r c s nd kn g f) : SB W r s g f := ⟨hC.2.1, hC.2.2.1, hC.2.2.2.1, hC.2.2.2.2.2.2.2.2⟩
theorem CB.up (hC : CB h x E W r c s nd kn g f) (h1 : CC h' x E W r c s' nd' kn' g' f') (h2 : SB W r s' g' f') (h3 : f' ≤ 600) : CB h' x E W r c s' nd' kn' g' f' := ⟨h1, h2.1, h2.2.1, h2.2.2.1, hC.2.2.2.2.1, hC.2.2.2.2.2.1, hC.2.2.2.2.2.2.1, h3, h2.2.2.2⟩
theorem CB.bw (hC : CB h x E W r c s nd kn g f) : (Bw s.1).length ≤ f := by
  obtain ⟨⟨Q, hQ, -⟩, -⟩ := hC.1.2.2.1
  exact Bw_le hQ hC.2.2.2.1
/-- the class's side -/
def CL (h : Hp) (x : Nat) (E : Nat → Nat) (W r c : Nat) (s : St) (nd kn : Nat → Nat) (g f k n : Nat) (m : Mo) : Prop := CB h x E W r c s nd kn g f ∧ h.I 402 (E 807) = nI k ∧ (∀ j, j < W → h.AI (E 600) j = m.2 904 j) ∧ (∀ j, j < 16 → h.AI (E 806) j = m.2 922 j) ∧ (∀ j, j < 32 → h.AI (E 400) j = m.2 923 j ∧ h.AI (E 401) j = m.2 924 j) ∧ LoR h E W n m ∧ m.1 932 = nI n
/-- the reference's side -/
def ML (h : Hp) (t : Nat) (ρ A : Nat → Nat) (m : Mo) : Prop := MS h t ρ A ∧ (∀ a, 900 ≤ ρ a → ρ a ∈ mfs) ∧ (∀ f, 900 ≤ f → h.I f t = m.1 f) ∧ ∀ a, 900 ≤ ρ a → h.AI a = m.2 (ρ a)
def SO (h : Hp) (o sc sn : Nat) (SS : Nat → Int32) : Prop := (h.K o = 15 ∧ h.N o = 1) ∧ h.K sc = 20 ∧ h.N sc = sn ∧ h.AI sc = SS
def SE (ρ E : Nat → Nat) (sc : Nat) : Prop := ρ (E 600) < 900 ∧ ρ (E 806) < 900 ∧ ρ (E 400) < 900 ∧ ρ (E 401) < 900 ∧ ρ sc < 900
theorem mfs_k {g : Nat} (h : g ∈ mfs) : 900 ≤ g ∧ ¬ mknd g = 0 := by
  constructor
  · revert g; decide
  · unfold mknd; split <;> decide
theorem ML.eq (hM : ML h t ρ A m) : mput h t ρ m = h := by
  obtain ⟨-, -, h3, h4⟩ := hM
  refine Hp.ext7 rfl rfl ?_ rfl ?_ rfl rfl
  · funext f a
    show (if 900 ≤ f then (if a = t then m.1 f else h.I f a) else h.I f a) = h.I f a
    by_cases e : 900 ≤ f
    · rw [if_pos e]
      by_cases e2 : a = t
      · subst e2; rw [if_pos rfl, h3 f e]
      · rw [if_neg e2]
    · rw [if_neg e]
  · funext a i
    show (if 900 ≤ ρ a then m.2 (ρ a) i else h.AI a i) = h.AI a i
    by_cases e : 900 ≤ ρ a
    · rw [if_pos e, h4 a e]
    · rw [if_neg e]
theorem ML.lf (hM : ML h t ρ A m) (hF : Lf E h h') (hE : SE ρ E sc) : ML h' t ρ A m := by
  obtain ⟨⟨s1, s2, s3⟩, h2, h3, h4⟩ := hM
  have ht : ¬ h.K t = 0 := by rw [s1]; decide
  have hK : ∀ g ∈ mfs, ¬ h.K (A g) = 0 := fun g hg => by rw [(s3 g hg).2.2.1]; exact (mfs_k hg).2
  have hne : ∀ a e, 900 ≤ ρ a → ρ (E e) < 900 → ¬ a = E e := fun a e h1 h2 h3 => by rw [h3] at h1; omega
  refine ⟨⟨(hF.1 t ht).1.trans s1, s2, fun g hg => ?_⟩, h2, fun f hf => ((hF.2 f t ht hf).1).trans (h3 f hf), fun a ha => ?_⟩
  · obtain ⟨a1, a2, a3, a4⟩ := s3 g hg
    exact ⟨((hF.2 g t ht (mfs_k hg).1).2).trans a1, a2, ((hF.1 _ (hK g hg)).1).trans a3, ((hF.1 _ (hK g hg)).2.1).trans a4⟩
  · have hka : ¬ h.K a = 0 := by rw [s2 a ha]; exact hK _ (h2 a ha)
    rw [(hF.1 a hka).2.2 (hne a 600 ha hE.1) (hne a 806 ha hE.2.1) (hne a 400 ha hE.2.2.1) (hne a 401 ha hE.2.2.2.1)]
    exact h4 a ha
theorem ML.put (hM : ML h t ρ A m) (m' : Mo) : ML (mput h t ρ m') t ρ A m' := by
  refine ⟨hM.1.put m', hM.2.1, fun f hf => ?_, fun a ha => ?_⟩
  · show (if 900 ≤ f then (if t = t then m'.1 f else h.I f t) else h.I f t) = _
    rw [if_pos hf, if_pos rfl]
  · funext i
    show (if 900 ≤ ρ a then m'.2 (ρ a) i else h.AI a i) = _
    rw [if_pos ha]
theorem SO.lf (hS : SO h o sc sn SS) (hX : XS h x E W r c) (hF : Lf E h h') : SO h' o sc sn SS := by
  obtain ⟨⟨a1, a2⟩, a3, a4, a5⟩ := hS
  obtain ⟨-, -, -, -, xm, -, xf, -, x6, -⟩ := hX
  have k1 := hF.1 o (by rw [a1]; decide)
  have k2 := hF.1 sc (by rw [a3]; decide)
  have ne : ∀ e, h.K (E e) = 11 → ¬ sc = E e := fun e he h9 => by rw [← h9, a3] at he; cases he
  exact ⟨⟨k1.1.trans a1, k1.2.1.trans a2⟩, k2.1.trans a3, k2.2.1.trans a4, (k2.2.2 (ne 600 xm.2.2.1) (ne 806 x6) (ne 400 xf.2.2.1) (ne 401 xf.2.2.2.2.2.1)).trans a5⟩
theorem mput_low (h : Hp) (t : Nat) {ρ : Nat → Nat} (m : Mo) {a : Nat} (ha : ρ a < 900) : (mput h t ρ m).AI a = h.AI a := by
  funext i
  show (if 900 ≤ ρ a then m.2 (ρ a) i else h.AI a i) = h.AI a i
  rw [if_neg (by omega)]
theorem mput_lowI (h : Hp) (t : Nat) (ρ : Nat → Nat) (m : Mo) {f : Nat} (hf : f < 900) (a : Nat) : (mput h t ρ m).I f a = h.I f a := by
  show (if 900 ≤ f then _ else h.I f a) = h.I f a
  rw [if_neg (by omega)]
theorem SO.put (hS : SO h o sc sn SS) (hE : SE ρ E sc) (m' : Mo) : SO (mput h t ρ m') o sc sn SS := ⟨hS.1, hS.2.1, hS.2.2.1, (mput_low h t m' hE.2.2.2.2).trans hS.2.2.2⟩
theorem CB.put (hC : CB h x E W r c s nd kn g f) (t : Nat) (ρ : Nat → Nat) (m' : Mo) : CB (mput h t ρ m') x E W r c s nd kn g f :=
  hC.fr ⟨fun _ _ => ⟨rfl, rfl⟩, fun f a hf _ => ⟨mput_lowI h t ρ m' (by unfold cbf at hf; omega) a, rfl⟩⟩ rfl rfl
theorem LoR.put (hL : LoR h E W n m) (t : Nat) (ρ : Nat → Nat) (m' : Mo) : LoR (mput h t ρ m') E W n m := by
  obtain ⟨h1, h2, h3⟩ := hL
  refine ⟨h1, (mput_lowI h t ρ m' (by decide) _).trans h2, fun i hi => ?_⟩
  obtain ⟨q, a1, a2, a3, a4, a5, a6⟩ := h3 i hi
  exact ⟨q, a1, a2, (mput_lowI h t ρ m' (by decide) _).trans a3, (mput_lowI h t ρ m' (by decide) _).trans a4, (mput_lowI h t ρ m' (by decide) _).trans a5, by rw [mput_lowI h t ρ m' (by decide)]; exact a6⟩
theorem LoR.mo (hL : LoR h E W n m) (e : ∀ q, q ∈ [928, 929, 930, 931] → m'.2 q = m.2 q) : LoR h E W n m' := by
  obtain ⟨h1, h2, h3⟩ := hL
  refine ⟨h1, h2, fun i hi => ?_⟩
  rw [e 928 (by decide), e 929 (by decide), e 930 (by decide), e 931 (by decide)]
  exact h3 i hi
theorem LoR.fr (hL : LoR h E W n m) (hX : XS h x E W r c) (hK : ∀ a, ¬ h.K a = 0 → h'.K a = h.K a) (hr : h'.AR (E 504) = h.AR (E 504)) (hI : ∀ f a, f = 2 ∨ f = 3 ∨ f = 4 ∨ f = 7 ∨ f = 506 → ¬ h.K a = 0 → h'.I f a = h.I f a) : LoR h' E W n m := by
  obtain ⟨h1, h2, h3⟩ := hL
  have k8 : h.K (E 808) = 6 := hX.2.2.2.2.2.2.2.2.2.2.2.1.1
  refine ⟨h1, (hI 506 _ (by decide) (by rw [k8]; decide)).trans h2, fun i hi => ?_⟩
  obtain ⟨q, a1, a2, a3, a4, a5, a6⟩ := h3 i hi
  have hq : ¬ h.K q = 0 := by rw [a2]; decide
  exact ⟨q, by rw [hr]; exact a1, (hK q hq).trans a2, (hI 2 q (by decide) hq).trans a3, (hI 3 q (by decide) hq).trans a4, (hI 4 q (by decide) hq).trans a5, by rw [hI 7 q (by decide) hq]; exact a6⟩
def LW (h : Hp) (x t o sc sn : Nat) (SS : Nat → Int32) (E nd kn ρ A : Nat → Nat) (W r c : Nat) (s : St) (g f k n : Nat) (m : Mo) : Prop := CL h x E W r c s nd kn g f k n m ∧ ML h t ρ A m ∧ MR m W r c s g f k ∧ SO h o sc sn SS ∧ SE ρ E sc
/-- behind both calls: the class's side of the heap between them, the reference's new state -/
theorem LW.fin (hC : CL h1 x E W r c s nd kn g f k n m') (hM : ML h1 t ρ A m) (hR : MR m' W r c s g f k) (hS : SO h1 o sc sn SS) (hE : SE ρ E sc) : LW (mput h1 t ρ m') x t o sc sn SS E nd kn ρ A W r c s g f k n m' := by
  obtain ⟨c1, c2, c3, c4, c5, c6, c7⟩ := hC
  exact ⟨⟨c1.put t ρ m', (mput_lowI h1 t ρ m' (by decide) _).trans c2, fun j hj => by rw [mput_low h1 t m' hE.1]; exact c3 j hj, fun j hj => by rw [mput_low h1 t m' hE.2.1]; exact c4 j hj, fun j hj => by rw [mput_low h1 t m' hE.2.2.1, mput_low h1 t m' hE.2.2.2.1]; exact c5 j hj, c6.put t ρ m', c7⟩, hM.put m', hR, hS.put hE m', hE⟩
def LX (h : Hp) (x t o sc sn : Nat) (SS : Nat → Int32) (j : Nat) : Prop := ∃ E nd kn ρ A W r c s g f k n m, LW h x t o sc sn SS E nd kn ρ A W r c s g f k n m ∧ g ≤ j ∧ f ≤ j ∧ k ≤ j
end LWR
