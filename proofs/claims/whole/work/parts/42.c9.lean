/-! what stays when other fields change -/
def Ag (φ : Nat → Prop) (h h' : Hp) : Prop := (∀ a, ¬ h.K a = 0 → h'.K a = h.K a ∧ h'.N a = h.N a) ∧ ∀ f a, φ f → ¬ h.K a = 0 → h'.I f a = h.I f a ∧ h'.R f a = h.R f a
theorem Ag.rf (φ : Nat → Prop) (h : Hp) : Ag φ h h := ⟨fun _ _ => ⟨rfl, rfl⟩, fun _ _ _ _ => ⟨rfl, rfl⟩⟩
theorem Ag.trans {φ : Nat → Prop} {h h1 h2 : Hp} (a : Ag φ h h1) (b : Ag φ h1 h2) : Ag φ h h2 := by
  refine ⟨fun x hx => ?_, fun f x hf hx => ?_⟩
  · have a1 := a.1 x hx
    have b1 := b.1 x (by rw [a1.1]; exact hx)
    exact ⟨b1.1.trans a1.1, b1.2.trans a1.2⟩
  · have a1 := a.2 f x hf hx
    have b1 := b.2 f x hf (by rw [(a.1 x hx).1]; exact hx)
    exact ⟨b1.1.trans a1.1, b1.2.trans a1.2⟩
theorem Ag.up {φ ψ : Nat → Prop} {h h1 : Hp} (a : Ag φ h h1) (hp : ∀ f, ψ f → φ f) : Ag ψ h h1 := ⟨a.1, fun f x hf hx => a.2 f x (hp f hf) hx⟩
theorem Ag.sI {φ : Nat → Prop} (h : Hp) {f a : Nat} (v : Int32) (hf : ¬ φ f) : Ag φ h (h.sI f a v) := ⟨fun _ _ => ⟨rfl, rfl⟩, fun g x hg _ => ⟨by simp only [I_sI, up2, if_neg (show ¬ g = f from fun e => hf (by rw [← e]; exact hg))], rfl⟩⟩
theorem Ag.sR {φ : Nat → Prop} (h : Hp) {f a : Nat} (v : Option Nat) (hf : ¬ φ f) : Ag φ h (h.sR f a v) := ⟨fun _ _ => ⟨rfl, rfl⟩, fun g x hg _ => ⟨rfl, by simp only [R_sR, up2, if_neg (show ¬ g = f from fun e => hf (by rw [← e]; exact hg))]⟩⟩
theorem Ag.fc {φ : Nat → Prop} {h h' : Hp} (hF : Fc h h') (hp : ∀ f, φ f → ¬ ckf f) : Ag φ h h' := ⟨fun a ha => ⟨(hF.1 a ha).1, (hF.1 a ha).2.1⟩, fun f a hf ha => hF.2 f a (hp f hf) ha⟩
theorem Ag.nw {φ : Nat → Prop} (h : Hp) {q k n : Nat} (hq : h.K q = 0) : Ag φ h (h.nw q k n) := by
  have ne : ∀ x, ¬ h.K x = 0 → ¬ x = q := fun x hx e => hx (by rw [e]; exact hq)
  exact ⟨fun x hx => by simp [K_nw, N_nw, ne x hx], fun f x _ hx => by simp [I_nw, R_nw, ne x hx]⟩
/-- the class's own objects -/
def stf (f : Nat) : Prop := f = 100 ∨ (400 ≤ f ∧ f ≤ 401) ∨ (500 ≤ f ∧ f ≤ 504) ∨ f = 600 ∨ (800 ≤ f ∧ f ≤ 808)
def XS (h : Hp) (x : Nat) (E : Nat → Nat) (W r c : Nat) : Prop := h.K x = 9 ∧ (∀ f, f ∈ [800, 803, 804, 805, 806, 807, 808] → h.R f x = some (E f)) ∧ h.I 801 x = nI r ∧ h.I 802 x = nI c ∧ MeS h (E 800) (E 600) W ∧ BlS h (E 804) (E 100) ((W - 1) / 4) ∧ FaS h (E 807) (E 400) (E 401) ∧ h.K (E 805) = 8 ∧ h.K (E 806) = 11 ∧ h.N (E 806) = 16 ∧ h.K (E 803) = 4 ∧
  (h.K (E 808) = 6 ∧ h.R 500 (E 808) = some (E 804) ∧ h.R 501 (E 808) = some (E 800) ∧ h.R 502 (E 808) = some (E 806) ∧ h.R 503 (E 808) = some (E 503) ∧ h.K (E 503) = 13 ∧ h.N (E 503) = (W - 1) / 4 ∧ h.R 504 (E 808) = some (E 504) ∧ h.K (E 504) = 13 ∧ h.N (E 504) = (W - 1) / 4) ∧
  (¬ E 806 = E 600 ∧ ¬ E 400 = E 600 ∧ ¬ E 401 = E 600 ∧ ¬ E 806 = E 400 ∧ ¬ E 806 = E 401 ∧ ¬ E 400 = E 401) ∧ (¬ E 503 = E 100 ∧ ¬ E 504 = E 100 ∧ ¬ E 503 = E 504)
theorem XS.fr {h h' : Hp} {x : Nat} {E : Nat → Nat} {W r c : Nat} (hX : XS h x E W r c) (hA : Ag stf h h') : XS h' x E W r c := by
  obtain ⟨x1, x2, x3, x4, ⟨m1, m2, m3, m4⟩, ⟨b1, b2, b3, b4⟩, ⟨f1, f2, f3, f4, f5, f6, f7⟩, x5, x6, x7, x12, ⟨s1, s2, s3, s4, s5, s6, s7, s8, s9, s10⟩, x8, x9⟩ := hX
  have kk : ∀ a k, h.K a = k → ¬ k = 0 → h'.K a = k := fun a k e hk => (hA.1 a (by rw [e]; exact hk)).1.trans e
  have nn : ∀ a k n, h.K a = k → ¬ k = 0 → h.N a = n → h'.N a = n := fun a k n e hk en => (hA.1 a (by rw [e]; exact hk)).2.trans en
  have rr : ∀ f a k o, stf f → h.K a = k → ¬ k = 0 → h.R f a = o → h'.R f a = o := fun f a k o hf e hk eo => (hA.2 f a hf (by rw [e]; exact hk)).2.trans eo
  have ii : ∀ f a k o, stf f → h.K a = k → ¬ k = 0 → h.I f a = o → h'.I f a = o := fun f a k o hf e hk eo => (hA.2 f a hf (by rw [e]; exact hk)).1.trans eo
  refine ⟨kk _ _ x1 (by decide), fun f hf => ?_, ii _ _ _ _ (by simp [stf]) x1 (by decide) x3, ii _ _ _ _ (by simp [stf]) x1 (by decide) x4, ⟨kk _ _ m1 (by decide), rr _ _ _ _ (by simp [stf]) m1 (by decide) m2, kk _ _ m3 (by decide), nn _ _ _ m3 (by decide) m4⟩, ⟨kk _ _ b1 (by decide), rr _ _ _ _ (by simp [stf]) b1 (by decide) b2, kk _ _ b3 (by decide), nn _ _ _ b3 (by decide) b4⟩, ⟨kk _ _ f1 (by decide), rr _ _ _ _ (by simp [stf]) f1 (by decide) f2, kk _ _ f3 (by decide), nn _ _ _ f3 (by decide) f4, rr _ _ _ _ (by simp [stf]) f1 (by decide) f5, kk _ _ f6 (by decide), nn _ _ _ f6 (by decide) f7⟩, kk _ _ x5 (by decide), kk _ _ x6 (by decide), nn _ _ _ x6 (by decide) x7, kk _ _ x12 (by decide), ⟨kk _ _ s1 (by decide), rr _ _ _ _ (by simp [stf]) s1 (by decide) s2, rr _ _ _ _ (by simp [stf]) s1 (by decide) s3, rr _ _ _ _ (by simp [stf]) s1 (by decide) s4, rr _ _ _ _ (by simp [stf]) s1 (by decide) s5, kk _ _ s6 (by decide), nn _ _ _ s6 (by decide) s7, rr _ _ _ _ (by simp [stf]) s1 (by decide) s8, kk _ _ s9 (by decide), nn _ _ _ s9 (by decide) s10⟩, x8, x9⟩
  refine rr f _ _ _ ?_ x1 (by decide) (x2 f hf)
  simp only [List.mem_cons, List.not_mem_nil, or_false] at hf
  simp only [stf]
  omega
theorem NdR.fr {h h' : Hp} {q r : Nat} {b : Blk} (hn : NdR h q b r) (hA : Ag (fun f => f ≤ 5) h h') : NdR h' q b r := by
  obtain ⟨n1, n2, n3, n4, n5, n6, n7⟩ := hn
  have k0 : ¬ h.K q = 0 := by rw [n1]; decide
  have ii : ∀ f, f ≤ 5 → h'.I f q = h.I f q := fun f hf => (hA.2 f q hf k0).1
  exact ⟨(hA.1 q k0).1.trans n1, (ii 0 (by decide)).trans n2, (ii 1 (by decide)).trans n3, (ii 2 (by decide)).trans n4, (ii 3 (by decide)).trans n5, (ii 4 (by decide)).trans n6, (ii 5 (by decide)).trans n7⟩
theorem BkR.fr {h h' : Hp} {bu U r : Nat} {B : List Blk} {nd : Nat → Nat} (hB : BkR h bu U B r nd) (hA : Ag (fun f => f ≤ 5) h h') (hr : h'.AR bu = h.AR bu) : BkR h' bu U B r nd := ⟨fun i hi => (hB.1 i hi).fr hA, fun u hu => by rw [hr]; exact hB.2 u hu⟩
theorem Cn.fr {h h' : Hp} {kn : Nat → Nat} {l : Fl} {o : Option Nat} (hc : Cn h kn o l) (hA : Ag (fun f => 200 ≤ f ∧ f ≤ 308) h h') : Cn h' kn o l := by
  refine hc.tr (fun q hq hk => ?_)
  have k0 : ¬ h.K (kn q.1) = 0 := by rw [hk.1]; decide
  exact ⟨⟨(hA.1 _ k0).1.trans hk.1, (hA.2 200 _ (by decide) k0).1.trans hk.2.1, (hA.2 201 _ (by decide) k0).1.trans hk.2.2⟩, (hA.2 202 _ (by decide) k0).2⟩
theorem CkS.fr {h h' : Hp} {ch pi W : Nat} {kn : Nat → Nat} {s : St} (hC : CkS h ch pi W kn s) (hA : Ag (fun f => 200 ≤ f ∧ f ≤ 308) h h') (hr : h'.AR pi = h.AR pi) : CkS h' ch pi W kn s := by
  obtain ⟨⟨s1, s2, s3, s4, s5, s6, s7, s8⟩, hP, ⟨G, hG, hC⟩, r3, r4, r5, r6, r7, r8⟩ := hC
  have k1 : ¬ h.K ch = 0 := by rw [s1]; decide
  have k2 : ¬ h.K pi = 0 := by rw [s3]; decide
  have k3 : ¬ h.K (kn 0) = 0 := by rw [s6]; decide
  refine ⟨⟨(hA.1 _ k1).1.trans s1, (hA.2 301 _ (by decide) k1).2.trans s2, (hA.1 _ k2).1.trans s3, (hA.1 _ k2).2.trans s4, (hA.2 302 _ (by decide) k1).2.trans s5, (hA.1 _ k3).1.trans s6, (hA.2 200 _ (by decide) k3).1.trans s7, (hA.2 300 _ (by decide) k1).1.trans s8⟩, fun i hi => ?_, ⟨G, hG, ?_⟩, (hA.2 303 _ (by decide) k1).1.trans r3, (hA.2 304 _ (by decide) k1).1.trans r4, (hA.2 305 _ (by decide) k1).1.trans r5, (hA.2 306 _ (by decide) k1).1.trans r6, (hA.2 307 _ (by decide) k1).1.trans r7, (hA.2 308 _ (by decide) k1).1.trans r8⟩
  · rw [hr]; exact (hP i hi).fr hA
  · rw [(hA.2 202 _ (by decide) k3).2]; exact hC.fr hA
/-! THE QUEUE -/
def wtg (b : Blk) : Bool := decide (¬ b.2.2.2.2 = 0)
def Bw (B : List Blk) : List Blk := B.filter wtg
def Bl (B : List Blk) : List Blk := B.filter (fun b => !wtg b)
def szB (Q : List Blk) : Nat := (Q.map (fun b => b.2.1)).sum
def lnB (Q : List Blk) : Nat := (Q.map (fun b => b.2.2.1)).sum
def QS (B Q : List Blk) : Prop := Q.Pairwise (fun a b => a.2.2.2.2 < b.2.2.2.2) ∧ Q.Perm (Bw B)
def Qn (h : Hp) (nd : Nat → Nat) : Option Nat → List Blk → Prop
  | o, [] => o = none
  | o, b :: l => o = some (nd b.1) ∧ Qn h nd (h.R 8 (nd b.1)) l
def QuR (h : Hp) (qu : Nat) (B : List Blk) (nd : Nat → Nat) : Prop := (∃ Q, QS B Q ∧ Qn h nd (h.R 700 qu) Q ∧ h.R 701 qu = Q.getLast?.map (fun b => nd b.1) ∧ h.I 702 qu = nI Q.length ∧ h.I 703 qu = nI (szB Q)) ∧ ∀ b, b ∈ B → b.2.2.2.2 = 0 → h.R 8 (nd b.1) = none
theorem Qn.tr {h h' : Hp} {nd : Nat → Nat} : ∀ {l : List Blk} {o : Option Nat}, Qn h nd o l → (∀ b, b ∈ l → h'.R 8 (nd b.1) = h.R 8 (nd b.1)) → Qn h' nd o l
  | [], o, hc, _ => hc
  | b :: l, o, ⟨h1, h2⟩, hq => by
    refine ⟨h1, ?_⟩
    rw [hq b List.mem_cons_self]
    exact Qn.tr h2 (fun q hm => hq q (List.mem_cons_of_mem _ hm))
theorem QS.mem {B Q : List Blk} (hQ : QS B Q) (b : Blk) : b ∈ Q ↔ b ∈ B ∧ ¬ b.2.2.2.2 = 0 := by
  rw [hQ.2.mem_iff]; simp [Bw, wtg]
theorem QuR.fr {h h' : Hp} {qu : Nat} {B : List Blk} {nd : Nat → Nat} (hq : QuR h qu B nd) (hA : Ag (fun f => f = 8 ∨ (700 ≤ f ∧ f ≤ 703)) h h') (hk : ¬ h.K qu = 0) (hn : ∀ b, b ∈ B → ¬ h.K (nd b.1) = 0) : QuR h' qu B nd := by
  obtain ⟨⟨Q, q1, q2, q3, q4, q5⟩, q6⟩ := hq
  refine ⟨⟨Q, q1, ?_, (hA.2 701 _ (by decide) hk).2.trans q3, (hA.2 702 _ (by decide) hk).1.trans q4, (hA.2 703 _ (by decide) hk).1.trans q5⟩, fun b hb h0 => ?_⟩
  · rw [(hA.2 700 _ (by decide) hk).2]
    exact q2.tr (fun b hb => (hA.2 8 _ (by decide) (hn b ((q1.mem b).mp hb).1)).2)
  · rw [(hA.2 8 _ (by decide) (hn b hb)).2]; exact q6 b hb h0
set_option maxHeartbeats 1000000 in
theorem sLong_sp (B : List Blk) : ∀ k, (∀ b, sLong B k = some b → b < k ∧ ¬ (bat B b).2.2.2.2 = 0 ∧ ∀ j, j < k → ¬ (bat B j).2.2.2.2 = 0 → (bat B b).2.2.2.2 ≤ (bat B j).2.2.2.2) ∧ (sLong B k = none → ∀ j, j < k → (bat B j).2.2.2.2 = 0)
  | 0 => ⟨fun b h => (by cases h), fun _ j hj => by omega⟩
  | k + 1 => by
    obtain ⟨ih1, ih2⟩ := sLong_sp B k
    rw [sLong]
    by_cases c1 : (bat B k).2.2.2.2 = 0
    · rw [if_pos c1]
      refine ⟨fun b hb => ?_, fun hb j hj => ?_⟩
      · obtain ⟨a1, a2, a3⟩ := ih1 b hb
        refine ⟨by omega, a2, fun j hj h0 => ?_⟩
        by_cases hjk : j = k
        · subst hjk; exact absurd c1 h0
        · exact a3 j (by omega) h0
      · by_cases hjk : j = k
        · subst hjk; exact c1
        · exact ih2 hb j (by omega)
    · rw [if_neg c1]
      cases hb0 : sLong B k with
      | none =>
        refine ⟨fun b hb => ?_, fun hb => by cases hb⟩
        cases hb
        refine ⟨by omega, c1, fun j hj h0 => ?_⟩
        by_cases hjk : j = k
        · subst hjk; omega
        · exact absurd (ih2 hb0 j (by omega)) h0
      | some b0 =>
        obtain ⟨a1, a2, a3⟩ := ih1 b0 hb0
        simp only
        by_cases c2 : (bat B b0).2.2.2.2 ≤ (bat B k).2.2.2.2
        · rw [if_pos c2]
          refine ⟨fun b hb => ?_, fun hb => by cases hb⟩
          cases hb
          refine ⟨by omega, a2, fun j hj h0 => ?_⟩
          by_cases hjk : j = k
          · subst hjk; omega
          · exact a3 j (by omega) h0
        · rw [if_neg c2]
          refine ⟨fun b hb => ?_, fun hb => by cases hb⟩
          cases hb
          refine ⟨by omega, c1, fun j hj h0 => ?_⟩
          by_cases hjk : j = k
          · subst hjk; omega
          · have := a3 j (by omega) h0; omega
theorem bat_mem {B : List Blk} {i : Nat} (h : i < B.length) : bat B i ∈ B := List.mem_of_getElem? (bat_get h)
theorem mem_bat {B : List Blk} {b : Blk} (hb : b ∈ B) : ∃ i, i < B.length ∧ bat B i = b := by
  obtain ⟨i, hi⟩ := List.getElem?_of_mem hb
  exact ⟨i, (List.getElem?_eq_some_iff.mp hi).1, bat_of hi⟩
theorem sLong_nil {B : List Blk} (hQ : QS B []) : sLong B B.length = none := by
  cases hb : sLong B B.length with
  | none => rfl
  | some i =>
    obtain ⟨a1, a2, -⟩ := (sLong_sp B B.length).1 i hb
    have := (hQ.mem (bat B i)).mpr ⟨bat_mem a1, a2⟩
    cases this
theorem sLong_cons {B Q : List Blk} {b : Blk} (hQ : QS B (b :: Q)) : ∃ i, sLong B B.length = some i ∧ i < B.length ∧ bat B i = b := by
  obtain ⟨hb, h0⟩ := (hQ.mem b).mp List.mem_cons_self
  obtain ⟨j, hj, ej⟩ := mem_bat hb
  cases hs : sLong B B.length with
  | none => exact absurd ((sLong_sp B B.length).2 hs j hj) (by rw [ej]; exact h0)
  | some i =>
    obtain ⟨a1, a2, a3⟩ := (sLong_sp B B.length).1 i hs
    refine ⟨i, rfl, a1, ?_⟩
    have h1 := a3 j hj (by rw [ej]; exact h0)
    rw [ej] at h1
    have h2 := (hQ.mem (bat B i)).mpr ⟨bat_mem a1, a2⟩
    rcases List.mem_cons.mp h2 with h2 | h2
    · exact h2
    · have := (List.pairwise_cons.mp hQ.1).1 _ h2
      omega
section C9
variable {h : Hp}
def tkH (h : Hp) (qu z : Nat) : Hp := if h.R 8 z = none then ((((h.sR 700 qu (h.R 8 z)).sR 701 qu none).sR 8 z none).sI 702 qu (h.I 702 qu - 1)).sI 703 qu (h.I 703 qu - h.I 1 z) else (((h.sR 700 qu (h.R 8 z)).sR 8 z none).sI 702 qu (h.I 702 qu - 1)).sI 703 qu (h.I 703 qu - h.I 1 z)
theorem ct7_takeFirst {qu : Nat} (hk : h.K qu = 8) (hz : ∀ z, h.R 700 qu = some z → h.K z = 1) : CtR mX7_takeFirst 1 0 0 [va_rf (some qu)] h (fun o h' => (h.R 700 qu = none ∧ o = none ∧ h' = h) ∨ ∃ z, h.R 700 qu = some z ∧ o = some z ∧ h' = tkH h qu z) := by
  have e : ∀ z, (h.sR 700 qu (h.R 8 z)).R 700 qu = h.R 8 z := fun z => by simp [R_sR, up2]
  refine enX7_takeFirst (fun X C => sgX7_takeFirst_0 C (Nat.le_refl _) (Nat.le_refl _) hk hz (fun z h1 _ _ => hz z h1) (fun z h1 _ => hz z h1) (fun z h1 z1 h2 => ?_) (fun z h1 h2 => ?_) (fun h1 => Or.inl ⟨h1, rfl, rfl⟩))
  · rw [e] at h2
    refine Or.inr ⟨z, h1, rfl, ?_⟩
    unfold tkH
    rw [if_neg (by rw [h2]; simp)]
  · rw [e] at h2
    refine Or.inr ⟨z, h1, rfl, ?_⟩
    unfold tkH
    rw [if_pos h2]
def adH (h : Hp) (qu b : Nat) : Hp := match h.R 701 qu with
  | some z => (((h.sR 8 z (some b)).sR 701 qu (some b)).sI 702 qu (h.I 702 qu + 1)).sI 703 qu (h.I 703 qu + h.I 1 b)
  | none => (((h.sR 700 qu (some b)).sR 701 qu (some b)).sI 702 qu (h.I 702 qu + 1)).sI 703 qu (h.I 703 qu + h.I 1 b)
theorem ct7_add {qu b : Nat} (hk : h.K qu = 8) (hb : h.K b = 1) (hz : ∀ z, h.R 701 qu = some z → h.K z = 1) : CtV mX7_add 1 0 0 [va_rf (some qu), va_rf (some b)] h (fun h' => h' = adH h qu b) := by
  refine enX7_add (fun X C => sgX7_add_0 C (Nat.le_refl _) (Nat.le_refl _) hk hz hb (fun z h1 => ?_) (fun h1 => ?_))
  · unfold adH; rw [h1]
  · unfold adH; rw [h1]
set_option maxHeartbeats 1000000 in
theorem ct7_behindFirst {qu : Nat} {B Q : List Blk} {nd : Nat → Nat} (hk : h.K qu = 8) (hQ : Qn h nd (h.R 700 qu) Q) (hl : h.I 702 qu = nI Q.length) (hlb : Q.length < 2147483648) (hn : ∀ b, b ∈ Q → h.K (nd b.1) = 1) (x : Int32) : CtR mX7_behindFirst 1 0 0 [va_rf (some qu), .int x] h (fun o h' => h' = h ∧ ((o = none ∧ (x < 0 ∨ ¬ x < nI Q.length)) ∨ ∃ k b, x = nI k ∧ Q[k]? = some b ∧ o = some (nd b.1))) := by
  refine enX7_behindFirst (fun X C => sgX7_behindFirst_0 C (Nat.le_refl _) (Nat.le_refl _) hk (fun c => ⟨rfl, Or.inl ⟨rfl, Or.inl c⟩⟩) (fun c c' => ?_) (fun c c' => ⟨rfl, Or.inl ⟨rfl, Or.inr (by rw [← hl]; exact c')⟩⟩))
  obtain ⟨k, hkk, rfl⟩ := nI_of c
  rw [hl, nI_ltI hkk hlb] at c'
  have key : ∀ n i l o, i + n = k → Qn h nd o l → (∀ j, l[j]? = Q[i + j]?) → At X 0 0 21 [some (va_rf (some qu)), some (.int (nI k)), some (va_rf o), some (.int (nI i))] [] h := by
    intro n
    induction n with
    | zero =>
      intro i l o hi hc hj
      have hi : i = k := by omega
      subst hi
      refine sgX7_behindFirst_21 C (Nat.le_refl _) (Nat.le_refl _) (fun c => absurd (Int32.le_refl _) c) (fun _ => ⟨rfl, Or.inr ?_⟩) (fun c => absurd (Int32.le_refl _) c) (fun c => absurd (Int32.le_refl _) c)
      cases l with
      | nil =>
        have := hj 0
        rw [Nat.add_zero, List.getElem?_eq_getElem (l := Q) (i := i) (by omega)] at this
        simp at this
      | cons b l =>
        have := hj 0
        simp only [List.getElem?_cons_zero, Nat.add_zero] at this
        exact ⟨i, b, rfl, this.symm, hc.1⟩
    | succ n ih =>
      intro i l o hi hc hj
      cases l with
      | nil =>
        have := hj 0
        rw [Nat.add_zero, List.getElem?_eq_getElem (l := Q) (i := i) (by omega)] at this
        simp at this
      | cons b l =>
        have h0 := hj 0
        simp only [List.getElem?_cons_zero, Nat.add_zero] at h0
        obtain ⟨c1, c2⟩ := hc
        subst c1
        have hkb := hn b (List.mem_of_getElem? h0.symm)
        refine sgX7_behindFirst_21 C (Nat.le_refl _) (Nat.le_refl _) (fun _ z hz => by cases hz; exact hkb) (fun c => ?_) (fun _ e => by cases e) (fun _ z hz => ?_)
        · rw [nI_leI hkk (by omega)] at c; omega
        · cases hz
          rw [nI_1]
          refine ih (i + 1) l _ (by omega) c2 (fun j => ?_)
          have := hj (j + 1)
          rw [List.getElem?_cons_succ] at this
          rw [this]; congr 1; omega
  exact key k 0 Q _ (by omega) hQ (fun j => by rw [Nat.zero_add])
end C9
