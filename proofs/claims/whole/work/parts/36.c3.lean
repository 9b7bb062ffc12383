/-! THE CLASS's chains of free chunks: the node of the chunk at an address a is kn a; kn 0 is the front of the great ones -/
def Ck (h : Hp) (kn : Nat → Nat) (p : Nat × Nat) : Prop := h.K (kn p.1) = 3 ∧ h.I 200 (kn p.1) = nI p.1 ∧ h.I 201 (kn p.1) = nI p.2
def Cn (h : Hp) (kn : Nat → Nat) : Option Nat → Fl → Prop
  | o, [] => o = none
  | o, p :: l => o = some (kn p.1) ∧ Ck h kn p ∧ Cn h kn (h.R 202 (kn p.1)) l
theorem Cn.tr {h h' : Hp} {kn : Nat → Nat} : ∀ {l : Fl} {o : Option Nat}, Cn h kn o l → (∀ q, q ∈ l → Ck h kn q → Ck h' kn q ∧ h'.R 202 (kn q.1) = h.R 202 (kn q.1)) → Cn h' kn o l
  | [], o, hc, _ => hc
  | p :: l, o, ⟨h1, h2, h3⟩, hq => by
    obtain ⟨a1, a2⟩ := hq p List.mem_cons_self h2
    refine ⟨h1, a1, ?_⟩
    rw [a2]
    exact Cn.tr h3 (fun q hm => hq q (List.mem_cons_of_mem _ hm))
theorem Cn.ck {h : Hp} {kn : Nat → Nat} : ∀ {l : Fl} {o : Option Nat}, Cn h kn o l → ∀ q, q ∈ l → Ck h kn q
  | p :: l, o, ⟨_, h2, h3⟩, q, hq => by
    rcases List.mem_cons.mp hq with rfl | hq
    · exact h2
    · exact Cn.ck h3 q hq
theorem kn_ne {h : Hp} {kn : Nat → Nat} {x y : Nat} (hx : h.I 200 (kn x) = nI x) (hy : h.I 200 (kn y) = nI y) (h1 : x < 2147483648) (h2 : y < 2147483648) (hne : ¬ x = y) : ¬ kn x = kn y := fun e => by
  rw [e, hy] at hx
  exact hne ((nI_eq h2 h1).mp hx).symm
theorem Cn.sR {h : Hp} {kn : Nat → Nat} {l : Fl} {o : Option Nat} {y : Nat} {v : Option Nat} (hc : Cn h kn o l) (hy : h.I 200 (kn y) = nI y) (h2 : y < 2147483648) (hl : ∀ q, q ∈ l → ¬ q.1 = y ∧ q.1 < 2147483648) : Cn (h.sR 202 (kn y) v) kn o l := by
  refine hc.tr (fun q hq hk => ⟨hk, ?_⟩)
  have := kn_ne hk.2.1 hy (hl q hq).2 h2 (hl q hq).1
  simp [R_sR, up2, this]
theorem Cn.sI {h : Hp} {kn : Nat → Nat} {l : Fl} {o : Option Nat} {f a : Nat} {v : Int32} (hc : Cn h kn o l) (h1 : 201 < f) : Cn (h.sI f a v) kn o l := by
  refine hc.tr (fun q hq hk => ⟨⟨hk.1, ?_, ?_⟩, rfl⟩)
  · simp only [I_sI, up2, if_neg (show ¬ 200 = f by omega)]; exact hk.2.1
  · simp only [I_sI, up2, if_neg (show ¬ 201 = f by omega)]; exact hk.2.2
theorem Cn.kn {h : Hp} {kn : Nat → Nat} {l : Fl} {o : Option Nat} {a q0 : Nat} (hc : Cn h kn o l) (hl : ∀ q, q ∈ l → ¬ q.1 = a) : Cn h (up1 kn a q0) o l := by
  induction l generalizing o with
  | nil => exact hc
  | cons p l ih =>
    obtain ⟨h1, h2, h3⟩ := hc
    have e : up1 kn a q0 p.1 = kn p.1 := up1_n _ _ (hl p List.mem_cons_self)
    refine ⟨by rw [e]; exact h1, ?_, ?_⟩
    · unfold Ck; rw [e]; exact h2
    · rw [e]; exact ih h3 (fun q hq => hl q (List.mem_cons_of_mem _ hq))
def Asc : Nat → Fl → Prop
  | _, [] => True
  | x, p :: l => x < p.1 ∧ p.1 < 2147483648 ∧ Asc p.1 l
theorem Asc.mono {x y : Nat} (hxy : y ≤ x) : ∀ {l : Fl}, Asc x l → Asc y l
  | [], _ => trivial
  | p :: l, ⟨h1, h2, h3⟩ => ⟨by omega, h2, h3⟩
theorem Asc.mem : ∀ {l : Fl} {x : Nat}, Asc x l → ∀ q, q ∈ l → x < q.1 ∧ q.1 < 2147483648
  | p :: l, x, ⟨h1, h2, h3⟩, q, hq => by
    rcases List.mem_cons.mp hq with rfl | hq
    · exact ⟨h1, h2⟩
    · have := Asc.mem h3 q hq
      exact ⟨by omega, this.2⟩
theorem Asc.cut : ∀ {l1 : Fl} {p : Nat × Nat} {l2 : Fl} {x : Nat}, Asc x (l1 ++ p :: l2) → Asc x (l1 ++ l2)
  | [], p, l2, x, ⟨h1, h2, h3⟩ => Asc.mono (by omega) h3
  | q :: l1, p, l2, x, ⟨h1, h2, h3⟩ => ⟨h1, h2, Asc.cut h3⟩
theorem Asc.right : ∀ {l1 l2 : Fl} {x : Nat}, Asc x (l1 ++ l2) → Asc x l2
  | [], l2, x, h => h
  | q :: l1, l2, x, ⟨h1, h2, h3⟩ => Asc.mono (by omega) (Asc.right h3)
theorem Asc.lt : ∀ {l1 : Fl} {p : Nat × Nat} {l2 : Fl} {x : Nat}, Asc x (l1 ++ p :: l2) → (∀ q, q ∈ l1 → q.1 < p.1) ∧ Asc p.1 l2 ∧ x < p.1
  | [], p, l2, x, ⟨h1, h2, h3⟩ => ⟨fun q hq => by (cases hq), h3, h1⟩
  | q :: l1, p, l2, x, ⟨h1, h2, h3⟩ => by
    obtain ⟨a1, a2, a3⟩ := Asc.lt h3
    refine ⟨fun z hz => ?_, a2, by omega⟩
    rcases List.mem_cons.mp hz with rfl | hz
    · exact a3
    · exact a1 z hz
def ChS (h : Hp) (ch pi W : Nat) (kn : Nat → Nat) : Prop := h.K ch = 4 ∧ h.R 301 ch = some pi ∧ h.K pi = 14 ∧ h.N pi = 17 ∧ h.R 302 ch = some (kn 0) ∧ h.K (kn 0) = 3 ∧ h.I 200 (kn 0) = nI 0 ∧ h.I 300 ch = nI W
/-- which fields the work on chunks changes -/
def ckf (f : Nat) : Prop := f = 202 ∨ (303 ≤ f ∧ f ≤ 308)
def Fc (h h' : Hp) : Prop := (∀ a, ¬ h.K a = 0 → h'.K a = h.K a ∧ h'.N a = h.N a ∧ h'.AI a = h.AI a ∧ h'.AL a = h.AL a ∧ (¬ h.K a = 14 → h'.AR a = h.AR a)) ∧ ∀ f a, ¬ ckf f → ¬ h.K a = 0 → h'.I f a = h.I f a ∧ h'.R f a = h.R f a
theorem Fc.rf (h : Hp) : Fc h h := ⟨fun a _ => ⟨rfl, rfl, rfl, rfl, fun _ => rfl⟩, fun f a _ _ => ⟨rfl, rfl⟩⟩
theorem Fc.trans {h h1 h2 : Hp} (a : Fc h h1) (b : Fc h1 h2) : Fc h h2 := by
  refine ⟨fun x hx => ?_, fun f x hf hx => ?_⟩
  · obtain ⟨a1, a2, a3, a4, a5⟩ := a.1 x hx
    obtain ⟨b1, b2, b3, b4, b5⟩ := b.1 x (by rw [a1]; exact hx)
    exact ⟨b1.trans a1, b2.trans a2, b3.trans a3, b4.trans a4, fun hn => (b5 (by rw [a1]; exact hn)).trans (a5 hn)⟩
  · have a1 := a.2 f x hf hx
    have b1 := b.2 f x hf (by rw [(a.1 x hx).1]; exact hx)
    exact ⟨b1.1.trans a1.1, b1.2.trans a1.2⟩
/-- only links of the front, or of chunks of S, change -/
def Gf (S : Fl) (h h' : Hp) (kn : Nat → Nat) : Prop := Fc h h' ∧ (∀ a, ¬ h.K a = 0 → h'.AR a = h.AR a) ∧ ∀ y, h.K (kn y) = 3 → h.I 200 (kn y) = nI y → y < 2147483648 → ¬ y = 0 → (∀ p, p ∈ S → ¬ p.1 = y) → h'.R 202 (kn y) = h.R 202 (kn y)
theorem Gf.rf (S : Fl) (h : Hp) (kn : Nat → Nat) : Gf S h h kn := ⟨Fc.rf h, fun _ _ => rfl, fun _ _ _ _ _ _ => rfl⟩
theorem Gf.trans {S : Fl} {h h1 h2 : Hp} {kn : Nat → Nat} (a : Gf S h h1 kn) (b : Gf S h1 h2 kn) : Gf S h h2 kn := by
  refine ⟨a.1.trans b.1, fun x hx => (b.2.1 x (by rw [(a.1.1 x hx).1]; exact hx)).trans (a.2.1 x hx), fun y h3 h4 h5 h6 h7 => ?_⟩
  have k0 : ¬ h.K (kn y) = 0 := by rw [h3]; decide
  exact (b.2.2 y (by rw [(a.1.1 _ k0).1]; exact h3) (by rw [(a.1.2 200 _ (by simp [ckf]) k0).1]; exact h4) h5 h6 h7).trans (a.2.2 y h3 h4 h5 h6 h7)
theorem Gf.sR {S : Fl} (h : Hp) {kn : Nat → Nat} {y : Nat} (v : Option Nat) (hy : h.I 200 (kn y) = nI y) (h2 : y < 2147483648) (hs : y = 0 ∨ ∃ p, p ∈ S ∧ p.1 = y) : Gf S h (h.sR 202 (kn y) v) kn := by
  refine ⟨⟨fun a _ => ⟨rfl, rfl, rfl, rfl, fun _ => rfl⟩, fun f a hf _ => ⟨rfl, ?_⟩⟩, fun _ _ => rfl, fun z h3 h4 h5 h6 h7 => ?_⟩
  · simp only [R_sR, up2, if_neg (show ¬ f = 202 from fun e => hf (Or.inl e))]
  · have hzy : ¬ z = y := fun e => by
      rcases hs with rfl | ⟨p, hp, rfl⟩
      · exact h6 e
      · exact h7 p hp e.symm
    simp [R_sR, up2, kn_ne h4 hy h5 h2 hzy]
theorem Gf.sI (S : Fl) (h : Hp) (kn : Nat → Nat) {f a : Nat} (v : Int32) (hf : ckf f) : Gf S h (h.sI f a v) kn := by
  refine ⟨⟨fun a _ => ⟨rfl, rfl, rfl, rfl, fun _ => rfl⟩, fun g a hg _ => ⟨?_, rfl⟩⟩, fun _ _ => rfl, fun z _ _ _ _ _ => rfl⟩
  simp only [I_sI, up2, if_neg (show ¬ g = f from fun e => hg (by rw [e]; exact hf))]
theorem Gf.ck {S : Fl} {h h' : Hp} {kn : Nat → Nat} (hG : Gf S h h' kn) {p : Nat × Nat} (hk : Ck h kn p) : Ck h' kn p := by
  have k0 : ¬ h.K (kn p.1) = 0 := by rw [hk.1]; decide
  exact ⟨(hG.1.1 _ k0).1.trans hk.1, (hG.1.2 200 _ (by simp [ckf]) k0).1.trans hk.2.1, (hG.1.2 201 _ (by simp [ckf]) k0).1.trans hk.2.2⟩
theorem Gf.cn {S : Fl} {h h' : Hp} {kn : Nat → Nat} (hG : Gf S h h' kn) {l : Fl} {o : Option Nat} (hc : Cn h kn o l) (hl : ∀ q, q ∈ l → ¬ q.1 = 0 ∧ q.1 < 2147483648 ∧ ∀ p, p ∈ S → ¬ p.1 = q.1) : Cn h' kn o l :=
  hc.tr (fun q hq hk => ⟨hG.ck hk, hG.2.2 q.1 hk.1 hk.2.1 (hl q hq).2.1 (hl q hq).1 (hl q hq).2.2⟩)
theorem ChS.fc {h h' : Hp} {ch pi W : Nat} {kn : Nat → Nat} (hS : ChS h ch pi W kn) (hF : Fc h h') : ChS h' ch pi W kn := by
  obtain ⟨s1, s2, s3, s4, s5, s6, s7, s8⟩ := hS
  have k1 : ¬ h.K ch = 0 := by rw [s1]; decide
  have k2 : ¬ h.K pi = 0 := by rw [s3]; decide
  have k3 : ¬ h.K (kn 0) = 0 := by rw [s6]; decide
  exact ⟨(hF.1 _ k1).1.trans s1, (hF.2 301 _ (by simp [ckf]) k1).2.trans s2, (hF.1 _ k2).1.trans s3, (hF.1 _ k2).2.1.trans s4, (hF.2 302 _ (by simp [ckf]) k1).2.trans s5, (hF.1 _ k3).1.trans s6, (hF.2 200 _ (by simp [ckf]) k3).1.trans s7, (hF.2 300 _ (by simp [ckf]) k1).1.trans s8⟩
section C3
variable {h : Hp} {ch pi W : Nat} {kn : Nat → Nat}
theorem ct2_end {q : Nat} (hq : h.K q = 3) : CtI mX2_end 1 0 0 [va_rf (some q)] h (fun y h' => h' = h ∧ y = h.I 200 q + h.I 201 q) :=
  enX2_end (fun X C => sgX2_end_0 C (Nat.le_refl _) (Nat.le_refl _) hq ⟨rfl, rfl⟩)
theorem ct2_init {q : Nat} (hq : h.K q = 3) (x y : Int32) : CtV mX2_init 1 0 0 [va_rf (some q), .int x, .int y] h (fun h' => h' = (h.sI 200 q x).sI 201 q y) :=
  enX2_init (fun X C => sgX2_init_0 C (Nat.le_refl _) (Nat.le_refl _) (by decide) hq rfl)
def unl (h : Hp) (ch : Nat) (c b : Nat) : Hp := ((h.sR 202 c (h.R 202 b)).sI 305 ch (h.I 305 ch - 1)).sI 306 ch (h.I 306 ch - h.I 201 b)
set_option maxHeartbeats 1000000 in
theorem ct3_unlinkGreat (hS : ChS h ch pi W kn) {G1 G2 : Fl} {p : Nat × Nat} (hA : Asc 0 (G1 ++ p :: G2)) (hC : Cn h kn (h.R 202 (kn 0)) (G1 ++ p :: G2)) :
    CtV mX3_unlinkGreat 1 0 0 [va_rf (some ch), va_rf (some (kn p.1))] h (fun h' => ∃ y, (y = 0 ∨ ∃ q, q ∈ G1 ∧ q.1 = y) ∧ h.I 200 (kn y) = nI y ∧ h' = unl h ch (kn y) (kn p.1) ∧ Cn h' kn (h'.R 202 (kn 0)) (G1 ++ G2)) := by
  obtain ⟨s1, s2, s3, s4, s5, s6, s7, s8⟩ := id hS
  have hp := hC.ck p (by simp)
  refine enX3_unlinkGreat (fun X C => sgX3_unlinkGreat_0 C s1 ?_)
  rw [s5]
  have key : ∀ (l : Fl) (x : Nat), h.K (kn x) = 3 → h.I 200 (kn x) = nI x → x < 2147483648 → Asc x (l ++ p :: G2) → Cn h kn (h.R 202 (kn x)) (l ++ p :: G2) →
      (∀ y, (y = x ∨ ∃ q, q ∈ l ∧ q.1 = y) → h.I 200 (kn y) = nI y → Cn (unl h ch (kn y) (kn p.1)) kn ((unl h ch (kn y) (kn p.1)).R 202 (kn x)) (l ++ G2) → (y = 0 ∨ ∃ q, q ∈ G1 ∧ q.1 = y) ∧ Cn (unl h ch (kn y) (kn p.1)) kn ((unl h ch (kn y) (kn p.1)).R 202 (kn 0)) (G1 ++ G2)) →
      At X 0 0 5 [some (va_rf (some ch)), some (va_rf (some (kn p.1))), some (va_rf (some (kn x)))] [] h := by
    intro l
    induction l with
    | nil =>
      intro x k1 k2 k3 hA hC kk
      obtain ⟨c1, c2, c3⟩ := hC
      refine sgX3_unlinkGreat_5 C (Nat.le_refl _) (Nat.le_refl _) (fun z hz => by cases hz; exact k1) (fun z hz _ => by cases hz; exact k1) hp.1 (fun z hz _ => by cases hz; exact k1) s1 (fun c => by cases c) (fun z hz c => ?_) (fun z hz c => ?_)
      · cases hz; exact absurd c1 c
      · cases hz
        have hcn : Cn (unl h ch (kn x) (kn p.1)) kn ((unl h ch (kn x) (kn p.1)).R 202 (kn x)) ([] ++ G2) := by
          have e : (unl h ch (kn x) (kn p.1)).R 202 (kn x) = h.R 202 (kn p.1) := by simp [unl, R_sI, R_sR, up2]
          rw [e]
          refine ((Cn.sR c3 k2 k3 (fun q hq => ?_)).sI (by decide)).sI (by decide)
          have h1 := Asc.mem hA.2.2 q hq
          have h2 := hA.1
          exact ⟨by omega, h1.2⟩
        have := kk x (Or.inl rfl) k2 hcn
        exact ⟨x, this.1, k2, rfl, this.2⟩
    | cons g l ih =>
      intro x k1 k2 k3 hA hC kk
      obtain ⟨c1, c2, c3⟩ := hC
      obtain ⟨a1, a2, a3⟩ := hA
      have hgp : g.1 < p.1 := (Asc.lt a3).2.2
      have hp2 : p.1 < 2147483648 := (Asc.mem a3 p (by simp)).2
      have hne : ¬ kn g.1 = kn p.1 := kn_ne c2.2.1 hp.2.1 a2 hp2 (by omega)
      refine sgX3_unlinkGreat_5 C (Nat.le_refl _) (Nat.le_refl _) (fun z hz => by cases hz; exact k1) (fun z hz _ => by cases hz; exact k1) hp.1 (fun z hz _ => by cases hz; exact k1) s1 (fun c => by cases c) (fun z hz c => ?_) (fun z hz c => ?_)
      · cases hz
        rw [c1]
        refine ih g.1 c2.1 c2.2.1 a2 a3 c3 (fun y hy hI hcn => ?_)
        refine kk y ?_ hI ?_
        · rcases hy with rfl | ⟨q, hq, e⟩
          · exact Or.inr ⟨g, List.mem_cons_self, rfl⟩
          · exact Or.inr ⟨q, List.mem_cons_of_mem _ hq, e⟩
        · have hyx : ¬ x = y := by
            rcases hy with rfl | ⟨q, hq, e⟩
            · omega
            · have := (Asc.mem a3 q (List.mem_append_left _ hq)).1
              omega
          have hyl : y < 2147483648 := by
            rcases hy with rfl | ⟨q, hq, e⟩
            · exact a2
            · have := (Asc.mem a3 q (List.mem_append_left _ hq)).2
              omega
          have e : (unl h ch (kn y) (kn p.1)).R 202 (kn x) = some (kn g.1) := by
            simp only [unl, R_sI, R_sR, up2, if_true]
            rw [if_neg (kn_ne k2 hI k3 hyl hyx)]
            exact c1
          rw [e]
          refine ⟨rfl, ?_, hcn⟩
          exact ⟨c2.1, by simp only [unl, I_sI, I_sR, up2]; exact c2.2.1, by simp only [unl, I_sI, I_sR, up2]; exact c2.2.2⟩
      · cases hz
        rw [c1] at c
        exact absurd (Option.some.inj c) hne
  exact key G1 0 s6 s7 (by decide) hA hC (fun y hy hI hcn => ⟨hy, hcn⟩)
def lnk (h : Hp) (ch : Nat) (c b : Nat) : Hp := (((h.sR 202 b (h.R 202 c)).sR 202 c (some b)).sI 305 ch (h.I 305 ch + 1)).sI 306 ch (h.I 306 ch + h.I 201 b)
set_option maxHeartbeats 1000000 in
theorem ct3_linkGreat (hS : ChS h ch pi W kn) {G : Fl} {a n : Nat} (ha : a < 2147483648) (ha0 : 0 < a) (hA : Asc 0 G) (hC : Cn h kn (h.R 202 (kn 0)) G) (hn : ∀ q, q ∈ G → ¬ q.1 = a) (hk : Ck h kn (a, n)) :
    CtV mX3_linkGreat 1 0 0 [va_rf (some ch), va_rf (some (kn a))] h (fun h' => ∃ G1 G2 y, G = G1 ++ G2 ∧ (y = 0 ∨ ∃ q, q ∈ G1 ∧ q.1 = y) ∧ h.I 200 (kn y) = nI y ∧ h' = lnk h ch (kn y) (kn a) ∧ Asc 0 (G1 ++ (a, n) :: G2) ∧ Cn h' kn (h'.R 202 (kn 0)) (G1 ++ (a, n) :: G2)) := by
  obtain ⟨s1, s2, s3, s4, s5, s6, s7, s8⟩ := id hS
  refine enX3_linkGreat (fun X C => sgX3_linkGreat_0 C s1 s5 s6 ?_)
  have key : ∀ (l : Fl) (x : Nat), h.K (kn x) = 3 → h.I 200 (kn x) = nI x → x < a → Asc x l → Cn h kn (h.R 202 (kn x)) l → (∀ q, q ∈ l → ¬ q.1 = a) →
      (∀ y l1 l2, l = l1 ++ l2 → (y = x ∨ ∃ q, q ∈ l1 ∧ q.1 = y) → h.I 200 (kn y) = nI y → Asc x (l1 ++ (a, n) :: l2) → Cn (lnk h ch (kn y) (kn a)) kn ((lnk h ch (kn y) (kn a)).R 202 (kn x)) (l1 ++ (a, n) :: l2) → ∃ G1 G2, G = G1 ++ G2 ∧ (y = 0 ∨ ∃ q, q ∈ G1 ∧ q.1 = y) ∧ Asc 0 (G1 ++ (a, n) :: G2) ∧ Cn (lnk h ch (kn y) (kn a)) kn ((lnk h ch (kn y) (kn a)).R 202 (kn 0)) (G1 ++ (a, n) :: G2)) →
      At X 0 0 13 [some (va_rf (some ch)), some (va_rf (some (kn a))), some (va_rf (some (kn x))), some (va_rf (h.R 202 (kn x)))] [] h := by
    intro l
    have base : ∀ (l : Fl) (x : Nat), h.K (kn x) = 3 → h.I 200 (kn x) = nI x → x < a → Asc x l → Asc a l → Cn h kn (h.R 202 (kn x)) l → Asc x ([] ++ (a, n) :: l) ∧ Cn (lnk h ch (kn x) (kn a)) kn ((lnk h ch (kn x) (kn a)).R 202 (kn x)) ([] ++ (a, n) :: l) := by
      intro l x k1 k2 k3 hA hA2 hC
      refine ⟨⟨k3, ha, hA2⟩, ?_⟩
      have hne : ¬ kn a = kn x := kn_ne hk.2.1 k2 ha (by omega) (by omega)
      have e : (lnk h ch (kn x) (kn a)).R 202 (kn x) = some (kn a) := by simp [lnk, R_sI, R_sR, up2]
      have e2 : (lnk h ch (kn x) (kn a)).R 202 (kn a) = h.R 202 (kn x) := by simp [lnk, R_sI, R_sR, up2, hne]
      rw [e]
      refine ⟨rfl, ⟨hk.1, by simp only [lnk, I_sI, I_sR, up2]; exact hk.2.1, by simp only [lnk, I_sI, I_sR, up2]; exact hk.2.2⟩, ?_⟩
      rw [e2]
      refine (((hC.sR (y := a) hk.2.1 ha (fun q hq => ?_)).sR (y := x) k2 (by omega) (fun q hq => ?_)).sI (by decide)).sI (by decide)
      · have := Asc.mem hA2 q hq; exact ⟨by omega, this.2⟩
      · have := Asc.mem hA q hq; exact ⟨by omega, this.2⟩
    induction l with
    | nil =>
      intro x k1 k2 k3 hA hC hn kk
      have hC0 : h.R 202 (kn x) = none := hC
      refine sgX3_linkGreat_13 C (Nat.le_refl _) (Nat.le_refl _) k1 hk.1 s1 (fun z hz => by rw [hC0] at hz; cases hz) (fun z hz => by rw [hC0] at hz; cases hz) (fun c => ?_) (fun z hz => by rw [hC0] at hz; cases hz) (fun z hz => by rw [hC0] at hz; cases hz)
      obtain ⟨b1, b2⟩ := base [] x k1 k2 k3 trivial trivial hC
      obtain ⟨G1, G2, g1, g2, g3, g4⟩ := kk x [] [] rfl (Or.inl rfl) k2 b1 b2
      exact ⟨G1, G2, x, g1, g2, k2, rfl, g3, g4⟩
    | cons g l ih =>
      intro x k1 k2 k3 hA hC hn kk
      obtain ⟨c1, c2, c3⟩ := id hC
      obtain ⟨a1, a2, a3⟩ := id hA
      have hgn := hn g List.mem_cons_self
      have hle : h.I 200 (kn a) ≤ h.I 200 (kn g.1) ↔ a ≤ g.1 := by rw [hk.2.1, c2.2.1]; exact nI_leI ha a2
      refine sgX3_linkGreat_13 C (Nat.le_refl _) (Nat.le_refl _) k1 hk.1 s1 (fun z hz => by rw [c1] at hz; cases hz; exact c2.1) (fun z hz _ => by rw [c1] at hz; cases hz; exact c2.1) (fun c => by rw [c1] at c; cases c) (fun z hz c => ?_) (fun z hz c => ?_)
      · rw [c1] at hz; cases hz
        rw [hle] at c
        obtain ⟨b1, b2⟩ := base (g :: l) x k1 k2 k3 hA ⟨by omega, a2, a3⟩ hC
        obtain ⟨G1, G2, g1, g2, g3, g4⟩ := kk x [] (g :: l) rfl (Or.inl rfl) k2 b1 b2
        exact ⟨G1, G2, x, g1, g2, k2, rfl, g3, g4⟩
      · rw [c1] at hz; cases hz
        rw [hle] at c
        refine ih g.1 c2.1 c2.2.1 (by omega) a3 c3 (fun q hq => hn q (List.mem_cons_of_mem _ hq)) (fun y l1 l2 el hy hI hA3 hcn => ?_)
        have hyx : ¬ x = y ∧ y < 2147483648 := by
          rcases hy with rfl | ⟨q, hq, e⟩
          · exact ⟨by omega, a2⟩
          · have := Asc.mem a3 q (by rw [el]; exact List.mem_append_left _ hq)
            exact ⟨by omega, by omega⟩
        refine kk y (g :: l1) l2 (by rw [el]; rfl) ?_ hI ⟨a1, a2, hA3⟩ ?_
        · rcases hy with rfl | ⟨q, hq, e⟩
          · exact Or.inr ⟨g, List.mem_cons_self, rfl⟩
          · exact Or.inr ⟨q, List.mem_cons_of_mem _ hq, e⟩
        · have e : (lnk h ch (kn y) (kn a)).R 202 (kn x) = some (kn g.1) := by
            simp only [lnk, R_sI, R_sR, up2, if_true]
            rw [if_neg (kn_ne k2 hI (by omega) hyx.2 hyx.1), if_neg (kn_ne k2 hk.2.1 (by omega) ha (by omega))]
            exact c1
          rw [e]
          refine ⟨rfl, ?_, hcn⟩
          exact ⟨c2.1, by simp only [lnk, I_sI, I_sR, up2]; exact c2.2.1, by simp only [lnk, I_sI, I_sR, up2]; exact c2.2.2⟩
  refine key G 0 s6 s7 ha0 hA hC hn (fun y l1 l2 e hy hI hA3 hcn => ⟨l1, l2, e, hy, hA3, hcn⟩)
end C3
