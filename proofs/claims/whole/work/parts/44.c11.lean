/-! a block is set free -/
theorem sWt_sum (B : List Blk) : ∀ k, k ≤ B.length → sWt B k = szB (Bw (B.take k))
  | 0, _ => by simp [sWt, szB, Bw]
  | k + 1, hk => by
    have e : B.take (k + 1) = B.take k ++ [bat B k] := by
      rw [List.take_succ, bat_get (by omega)]
      rfl
    rw [sWt, sWt_sum B k (by omega), e]
    unfold Bw szB
    rw [List.filter_append, List.map_append, List.sum_append]
    congr 1
    by_cases h0 : (bat B k).2.2.2.2 = 0 <;> simp [wtg, h0]
theorem sWt_all (B : List Blk) : sWt B B.length = szB (Bw B) := by
  rw [sWt_sum B B.length (Nat.le_refl _), List.take_length]
theorem set_perm {α : Type} {l : List α} {i : Nat} {a : α} (hi : i < l.length) : (l.set i a).Perm (a :: l.eraseIdx i) := by
  have h9 : (l.set i a)[i]? = some a := List.getElem?_set_self hi
  have h8 := perm_erase h9
  have h7 : (l.set i a).eraseIdx i = l.eraseIdx i := by
    rw [List.eraseIdx_eq_take_drop_succ, List.eraseIdx_eq_take_drop_succ]
    simp [List.take_set, List.drop_set]
    rw [List.set_eq_of_length_le]
    rw [List.length_take]; omega
  rw [h7] at h8
  exact h8
def frB (b : Blk) (f : Nat) : Blk := (b.1, b.2.1, b.2.2.1, b.2.2.2.1, f)
theorem setT_perm {B : List Blk} {i f : Nat} (hi : i < B.length) : (setT B i f).Perm (frB (bat B i) f :: B.eraseIdx i) := set_perm hi
theorem erB_perm {B : List Blk} {i : Nat} (hi : i < B.length) : B.Perm (bat B i :: B.eraseIdx i) := perm_erase (bat_get hi)
theorem Qn.snoc {h h' : Hp} {nd : Nat → Nat} {b1 : Blk} : ∀ {l : List Blk} {o : Option Nat} {z : Blk}, Qn h nd o (l ++ [z]) → (∀ y, y ∈ l → h'.R 8 (nd y.1) = h.R 8 (nd y.1)) → h'.R 8 (nd z.1) = some (nd b1.1) → h'.R 8 (nd b1.1) = none → Qn h' nd o (l ++ [z] ++ [b1])
  | [], o, z, ⟨h1, h2⟩, _, hz, hb => ⟨h1, hz, hb⟩
  | y :: l, o, z, ⟨h1, h2⟩, hl, hz, hb => by
    refine ⟨h1, ?_⟩
    rw [hl y List.mem_cons_self]
    exact Qn.snoc h2 (fun q hq => hl q (List.mem_cons_of_mem _ hq)) hz hb
section C11
variable {h : Hp} {x : Nat} {E : Nat → Nat} {W r c : Nat} {s : St} {nd kn : Nat → Nat} {g f : Nat}
theorem adH_K {qu b : Nat} : (adH h qu b).K = h.K ∧ (adH h qu b).N = h.N ∧ (adH h qu b).AI = h.AI ∧ (adH h qu b).AR = h.AR ∧ (adH h qu b).AL = h.AL := by
  unfold adH
  split <;> exact ⟨rfl, rfl, rfl, rfl, rfl⟩
theorem adH_cf {mw bu qu b : Nat} : Cf mw bu h (adH h qu b) := by
  unfold adH
  split
  · exact (((Cf.sR _ _ (by simp [corf])).trans (Cf.sR _ _ (by simp [corf]))).trans (Cf.sI _ _ (by simp [corf]))).trans (Cf.sI _ _ (by simp [corf]))
  · exact (((Cf.sR _ _ (by simp [corf])).trans (Cf.sR _ _ (by simp [corf]))).trans (Cf.sI _ _ (by simp [corf]))).trans (Cf.sI _ _ (by simp [corf]))
theorem adH_ag {φ : Nat → Prop} {qu b : Nat} (hp : ∀ f, φ f → ¬ f = 8 ∧ (f < 700 ∨ 703 < f)) : Ag φ h (adH h qu b) := by
  have n8 : ¬ φ 8 := fun e => (hp 8 e).1 rfl
  have n7 : ∀ f, 700 ≤ f → f ≤ 703 → ¬ φ f := fun f h1 h2 e => by have := (hp f e).2; omega
  unfold adH
  split
  · exact (((Ag.sR _ _ n8).trans (Ag.sR _ _ (n7 _ (by decide) (by decide)))).trans (Ag.sI _ _ (n7 _ (by decide) (by decide)))).trans (Ag.sI _ _ (n7 _ (by decide) (by decide)))
  · exact (((Ag.sR _ _ (n7 _ (by decide) (by decide))).trans (Ag.sR _ _ (n7 _ (by decide) (by decide)))).trans (Ag.sI _ _ (n7 _ (by decide) (by decide)))).trans (Ag.sI _ _ (n7 _ (by decide) (by decide)))
/-- what a trim leaves -/
def tmPost (h : Hp) (x : Nat) (E : Nat → Nat) (W r c : Nat) (s1 : St) (k : Nat) (nd : Nat → Nat) (g f : Nat) (h' : Hp) : Prop := ∃ kn', CC h' x E W r c (sTrim c k s1) nd kn' g f ∧ Cf (E 600) (E 100) h h' ∧ h'.AI (E 600) = h.AI (E 600)
set_option maxHeartbeats 1000000 in
theorem ct8_putIntoQueue {mc ms : Nat} (hC : CC h x E W r c s nd kn g f) (hI : SInv W s) (hW : 1 ≤ W) (hc3 : c ≤ 3000) (hf6 : f ≤ 600) (hT : ∀ b, b ∈ s.1 → b.2.2.2.2 ≤ f) {i : Nat} (hi : i < s.1.length) (hl : (bat s.1 i).2.2.2.2 = 0) (hmc : (Bw s.1).length + 1 ≤ mc) (hms : 3 * ((Bw s.1).length + 1) ≤ ms) :
    CtV mX8_putIntoQueue 5 mc ms [va_rf (some x), va_rf (some (ndB nd s.1 i))] h (tmPost h x E W r c (setT s.1 i (f + 1), s.2) (s.1.length + 1) nd g (f + 1)) := by
  obtain ⟨B, F, top, hi', spl, jn, gone⟩ := s
  obtain ⟨hX, hB, ⟨⟨Q, q1, q2, q3, q4, q5⟩, q6⟩, hK, n9, n10, n11, n12⟩ := id hC
  simp only at hB q1 q6 n11 n12 hi hl hT hmc hms ⊢
  obtain ⟨x1, x2, x3, x4, xm, xb, xf, x5, x6, x7, x12, -, -, x9⟩ := id hX
  have hG : GB W B := hI.gb
  have hBm := (bk_iff hG).mp hB
  generalize hb : bat B i = b at hl
  have hbB : b ∈ B := by rw [← hb]; exact bat_mem hi
  have hnb := hBm.1 b hbB
  have hgb := hG.mem hbB
  have hW3 := hG.2.2
  have end_ : ndB nd B i = nd b.1 := by simp [ndB, hb]
  rw [end_]
  have kx : ¬ h.K x = 0 := by rw [x1]; decide
  have kq : ¬ h.K (E 805) = 0 := by rw [x5]; decide
  have kb : ¬ h.K (nd b.1) = 0 := by rw [hnb.1]; decide
  have xb1 : ¬ x = nd b.1 := fun e => by rw [e, hnb.1] at x1; cases x1
  refine enX8_putIntoQueue (fun X C => sgX8_putIntoQueue_0 C hnb.1 x1 ?_)
  rw [x2 805 (by decide), hnb.2.2.2.2.1, n10, n12, nI_1]
  generalize hh1 : ((h.sI 5 (nd b.1) 0).sI 810 x (nI (f + 1))).sI 812 x (nI (lnB (Bl B)) - nI b.2.2.1) = h1
  have h1r : h1.K = h.K ∧ h1.N = h.N ∧ h1.R = h.R ∧ h1.AI = h.AI ∧ h1.AR = h.AR ∧ h1.AL = h.AL := by subst hh1; exact ⟨rfl, rfl, rfl, rfl, rfl, rfl⟩
  have h1I : ∀ f a, ¬ f = 5 → ¬ f = 810 → ¬ f = 812 → h1.I f a = h.I f a := fun f a f1 f2 f3 => by subst hh1; simp [I_sI, up2, f1, f2, f3]
  have hA1 : Ag (fun f => ¬ f = 5 ∧ ¬ f = 810 ∧ ¬ f = 812) h h1 := ⟨fun a _ => ⟨by rw [h1r.1], by rw [h1r.2.1]⟩, fun f a hf _ => ⟨h1I f a hf.1 hf.2.1 hf.2.2, by rw [h1r.2.2.1]⟩⟩
  have hcf1 : Cf (E 600) (E 100) h h1 := by
    subst hh1
    exact ((Cf.sI _ _ (by simp [corf])).trans (Cf.sI _ _ (by simp [corf]))).trans (Cf.sI _ _ (by simp [corf]))
  have k1b : h1.K (nd b.1) = 1 := by rw [h1r.1]; exact hnb.1
  have hlast : ∀ z, h.R 701 (E 805) = some z → ∃ y l, Q = l ++ [y] ∧ z = nd y.1 := fun z hz => by
    rw [q3] at hz
    cases hql : Q.getLast? with
    | none => rw [hql] at hz; cases hz
    | some y =>
      rw [hql] at hz
      cases hz
      have hne : Q ≠ [] := by intro e; subst e; cases hql
      refine ⟨y, Q.dropLast, ?_, rfl⟩
      have := List.dropLast_concat_getLast hne
      rw [List.getLast?_eq_some_getLast hne] at hql
      cases hql
      exact this.symm
  have hz1 : ∀ z, h1.R 701 (E 805) = some z → h1.K z = 1 := fun z hz => by
    rw [h1r.2.2.1] at hz
    obtain ⟨y, l, e1, rfl⟩ := hlast z hz
    rw [h1r.1]
    exact (hBm.1 y ((q1.mem y).mp (by rw [e1]; simp)).1).1
  refine clX8_putIntoQueue_33 C (ct7_add (by rw [h1r.1]; exact x5) k1b hz1) (by rw [h1r.1]; exact x5) (by decide) (by omega) (by omega) (Nat.le_of_ble_eq_true rfl) (fun h2 e2 => ?_)
  -- the state behind the queue
  have h2r := @adH_K h1 (E 805) (nd b.1)
  rw [← e2] at h2r
  have hA2 : Ag (fun f => (¬ f = 5 ∧ ¬ f = 810 ∧ ¬ f = 812) ∧ (¬ f = 8 ∧ (f < 700 ∨ 703 < f))) h h2 := (hA1.up (fun f hf => hf.1)).trans (by subst e2; exact adH_ag (fun f hf => hf.2))
  have hA12 : Ag (fun f => ¬ f = 8 ∧ (f < 700 ∨ 703 < f)) h1 h2 := by subst e2; exact adH_ag (fun f hf => hf)
  have hcf2 : Cf (E 600) (E 100) h h2 := hcf1.trans (by subst e2; exact adH_cf)
  have hX2 : XS h2 x E W r c := hX.fr (hA2.up (fun f hf => by simp only [stf] at hf; omega))
  have k1x : ¬ h1.K x = 0 := by rw [h1r.1]; exact kx
  have hmemT : ∀ y, y ∈ setT B i (f + 1) ↔ y = frB b (f + 1) ∨ (y ∈ B ∧ ¬ y = b) := fun y => by
    have hp1 := setT_perm (f := f + 1) hi
    rw [hb] at hp1
    have hp2 := erB_perm hi
    rw [hb] at hp2
    have hnd := hp2.nodup_iff.mp hG.nodup
    rw [List.nodup_cons] at hnd
    rw [hp1.mem_iff, List.mem_cons, hp2.mem_iff, List.mem_cons]
    constructor
    · rintro (hy | hy)
      · exact Or.inl hy
      · exact Or.inr ⟨Or.inr hy, fun e => hnd.1 (by rw [← e]; exact hy)⟩
    · rintro (hy | ⟨hy | hy, hy2⟩)
      · exact Or.inl hy
      · exact absurd hy hy2
      · exact Or.inr hy
  have hI1 : SInv W (setT B i (f + 1), F, top, hi', spl, jn, gone) := by
    refine ⟨?_, hI.2⟩
    show Geo (chB (setT B i (f + 1)) ++ F) top
    rw [setT_ch hi]; exact hI.1
  have hG1 : GB W (setT B i (f + 1)) := hI1.gb
  have nn : ∀ y, y ∈ B → ¬ y = b → ¬ nd y.1 = nd b.1 := fun y hy hyb => by
    have hyg := hG.mem hy
    exact nd_ne (hBm.1 y hy) hnb (by omega) (by omega) (fun e => hyb (hG.addr hy hbB e))
  have hbQ : ∀ y, y ∈ Q → y ∈ B ∧ ¬ y = b := fun y hy => ⟨((q1.mem y).mp hy).1, fun e => ((q1.mem y).mp hy).2 (by rw [e]; exact hl)⟩
  have h1N : ∀ y, y ∈ B → ¬ y = b → NdR h1 (nd y.1) y r := fun y hy hyb => by
    obtain ⟨a1, a2, a3, a4, a5, a6, a7⟩ := hBm.1 y hy
    refine ⟨by rw [h1r.1]; exact a1, by rw [h1I _ _ (by decide) (by decide) (by decide)]; exact a2, by rw [h1I _ _ (by decide) (by decide) (by decide)]; exact a3, by rw [h1I _ _ (by decide) (by decide) (by decide)]; exact a4, by rw [h1I _ _ (by decide) (by decide) (by decide)]; exact a5, by rw [h1I _ _ (by decide) (by decide) (by decide)]; exact a6, ?_⟩
    subst hh1
    simp only [I_sI, up2, Nat.reduceEqDiff, if_false, if_true, if_neg (nn y hy hyb)]
    exact a7
  have h1b : NdR h1 (nd b.1) (frB b (f + 1)) r := by
    obtain ⟨a1, a2, a3, a4, a5, a6, a7⟩ := hnb
    refine ⟨k1b, by rw [h1I _ _ (by decide) (by decide) (by decide)]; exact a2, by rw [h1I _ _ (by decide) (by decide) (by decide)]; exact a3, by rw [h1I _ _ (by decide) (by decide) (by decide)]; exact a4, by rw [h1I _ _ (by decide) (by decide) (by decide)]; exact a5, by rw [h1I _ _ (by decide) (by decide) (by decide)]; exact a6, ?_⟩
    subst hh1
    simp [I_sI, up2, frB]
  have hB2 : BkR h2 (E 100) ((W - 1) / 4) (setT B i (f + 1)) r nd := by
    rw [bk_iff hG1]
    refine ⟨fun y hy => ?_, fun u hu q => ?_⟩
    · rcases (hmemT y).mp hy with rfl | ⟨hy1, hy2⟩
      · exact h1b.fr (hA12.up (fun f hf => by omega))
      · exact (h1N y hy1 hy2).fr (hA12.up (fun f hf => by omega))
    · rw [h2r.2.2.2.1, h1r.2.2.2.2.1, hBm.2 u hu q]
      constructor
      · rintro ⟨y, hy, y1, y2, y3⟩
        by_cases hyb : y = b
        · subst hyb
          exact ⟨frB y (f + 1), (hmemT _).mpr (Or.inl rfl), y1, y2, y3⟩
        · exact ⟨y, (hmemT y).mpr (Or.inr ⟨hy, hyb⟩), y1, y2, y3⟩
      · rintro ⟨y, hy, y1, y2, y3⟩
        rcases (hmemT y).mp hy with rfl | ⟨hy1, hy2⟩
        · exact ⟨b, hbB, y1, y2, y3⟩
        · exact ⟨y, hy1, y1, y2, y3⟩
  have r8b : h.R 8 (nd b.1) = none := q6 b hbB hl
  have hwb : wtg b = false := by simp [wtg, hl]
  have hwf : wtg (frB b (f + 1)) = true := by simp [wtg, frB]
  have pB := erB_perm hi
  rw [hb] at pB
  have pT := setT_perm (f := f + 1) hi
  rw [hb] at pT
  have pw1 : (Bw B).Perm (Bw (B.eraseIdx i)) := by
    have := pB.filter wtg
    rw [List.filter_cons, hwb] at this
    simpa [Bw] using this
  have pw2 : (Bw (setT B i (f + 1))).Perm (frB b (f + 1) :: Bw (B.eraseIdx i)) := by
    have := pT.filter wtg
    rw [List.filter_cons, hwf] at this
    simpa [Bw] using this
  have pl1 : (Bl B).Perm (b :: Bl (B.eraseIdx i)) := by
    have := pB.filter (fun b => !wtg b)
    rw [List.filter_cons, hwb] at this
    simpa [Bl] using this
  have pl2 : (Bl (setT B i (f + 1))).Perm (Bl (B.eraseIdx i)) := by
    have := pT.filter (fun b => !wtg b)
    rw [List.filter_cons, hwf] at this
    simpa [Bl] using this
  have hQ2 : QuR h2 (E 805) (setT B i (f + 1)) nd := by
    have hQS : QS (setT B i (f + 1)) (Q ++ [frB b (f + 1)]) := by
      refine ⟨?_, ?_⟩
      · rw [List.pairwise_append]
        refine ⟨q1.1, List.pairwise_singleton _ _, fun a ha y hy => ?_⟩
        simp at hy; subst hy
        have := hT a (hbQ a ha).1
        simp only [frB]; omega
      · refine (List.perm_append_singleton _ _).trans ?_
        exact ((q1.2.trans pw1).cons _).trans pw2.symm
    have e1702 : h1.I 702 (E 805) = nI Q.length := by rw [h1I _ _ (by decide) (by decide) (by decide)]; exact q4
    have e1703 : h1.I 703 (E 805) = nI (szB Q) := by rw [h1I _ _ (by decide) (by decide) (by decide)]; exact q5
    have e11 : h1.I 1 (nd b.1) = nI b.2.1 := by rw [h1I _ _ (by decide) (by decide) (by decide)]; exact hnb.2.2.1
    have esz : szB (Q ++ [frB b (f + 1)]) = szB Q + b.2.1 := by simp [szB, frB]
    cases h7 : h.R 701 (E 805) with
    | none =>
      have hQ0 : Q = [] := by
        cases Q with
        | nil => rfl
        | cons a Q => rw [q3] at h7; simp at h7
      subst hQ0
      have e3 : h2 = (((h1.sR 700 (E 805) (some (nd b.1))).sR 701 (E 805) (some (nd b.1))).sI 702 (E 805) (h1.I 702 (E 805) + 1)).sI 703 (E 805) (h1.I 703 (E 805) + h1.I 1 (nd b.1)) := by
        rw [e2]; unfold adH; rw [h1r.2.2.1, h7]
      have r8 : ∀ y, h2.R 8 y = h.R 8 y := fun y => by rw [e3]; simp [R_sI, R_sR, up2, h1r.2.2.1]
      refine ⟨⟨[] ++ [frB b (f + 1)], hQS, ?_, ?_, ?_, ?_⟩, fun y hy h0 => ?_⟩
      · refine ⟨?_, ?_⟩
        · rw [e3]; simp [R_sI, R_sR, up2, frB]
        · show h2.R 8 (nd b.1) = none
          rw [r8]; exact r8b
      · rw [e3]; simp [R_sI, R_sR, up2, frB]
      · rw [e3]; simp only [I_sI, I_sR, up2, Nat.reduceEqDiff, if_false, if_true]; rw [e1702, nI_1]; rfl
      · rw [e3]; simp only [I_sI, I_sR, up2, Nat.reduceEqDiff, if_false, if_true]; rw [e1703, e11, nI_add, esz]
      · rw [r8]
        rcases (hmemT y).mp hy with rfl | ⟨hy1, hy2⟩
        · simp [frB] at h0
        · exact q6 y hy1 h0
    | some z =>
      obtain ⟨y0, l, e4, e5⟩ := hlast z h7
      subst e4; subst e5
      have hy0 := hbQ y0 (by simp)
      have e3 : h2 = (((h1.sR 8 (nd y0.1) (some (nd b.1))).sR 701 (E 805) (some (nd b.1))).sI 702 (E 805) (h1.I 702 (E 805) + 1)).sI 703 (E 805) (h1.I 703 (E 805) + h1.I 1 (nd b.1)) := by
        rw [e2]; unfold adH; rw [h1r.2.2.1, h7]
      have r8 : ∀ y, h2.R 8 y = if y = nd y0.1 then some (nd b.1) else h.R 8 y := fun y => by
        rw [e3]; by_cases hy : y = nd y0.1 <;> simp [R_sI, R_sR, up2, h1r.2.2.1, hy]
      have nn0 : ∀ y, y ∈ B → ¬ y = y0 → ¬ nd y.1 = nd y0.1 := fun y hy hyb => by
        have hyg := hG.mem hy
        have hyg0 := hG.mem hy0.1
        exact nd_ne (hBm.1 y hy) (hBm.1 y0 hy0.1) (by omega) (by omega) (fun e => hyb (hG.addr hy hy0.1 e))
      refine ⟨⟨(l ++ [y0]) ++ [frB b (f + 1)], hQS, ?_, ?_, ?_, ?_⟩, fun y hy h0 => ?_⟩
      · have e7 : h2.R 700 (E 805) = h.R 700 (E 805) := by rw [e3]; simp [R_sI, R_sR, up2, h1r.2.2.1]
        rw [e7]
        refine Qn.snoc q2 (fun y hy => ?_) ?_ ?_
        · rw [r8, if_neg (nn0 y (hbQ y (by simp [hy])).1 (fun e => ?_))]
          have hp := (List.pairwise_append.mp q1.1).2.2 y hy y0 (by simp)
          rw [e] at hp; omega
        · rw [r8, if_pos rfl]; rfl
        · show h2.R 8 (nd b.1) = none
          rw [r8, if_neg (fun e => nn y0 hy0.1 hy0.2 e.symm)]; exact r8b
      · rw [e3]; simp [R_sI, R_sR, up2, frB]
      · rw [e3]; simp only [I_sI, I_sR, up2, Nat.reduceEqDiff, if_false, if_true]; rw [e1702, nI_1]; simp
      · rw [e3]; simp only [I_sI, I_sR, up2, Nat.reduceEqDiff, if_false, if_true]; rw [e1703, e11, nI_add, esz]
      · rcases (hmemT y).mp hy with rfl | ⟨hy1, hy2⟩
        · simp [frB] at h0
        · rw [r8, if_neg (nn0 y hy1 (fun e => ((q1.mem y0).mp (by simp)).2 (by rw [← e]; exact h0)))]
          exact q6 y hy1 h0
  have hK2 : CkS h2 (E 803) (E 301) W kn (setT B i (f + 1), F, top, hi', spl, jn, gone) := CkS.fr (s := (setT B i (f + 1), F, top, hi', spl, jn, gone)) hK (hA2.up (fun f hf => by omega)) (by rw [h2r.2.2.2.1, h1r.2.2.2.2.1])
  have hC2 : CC h2 x E W r c (setT B i (f + 1), F, top, hi', spl, jn, gone) nd kn g (f + 1) := by
    refine ⟨hX2, hB2, hQ2, hK2, ?_, ?_, ?_, ?_⟩
    · rw [(hA2.2 809 x (by decide) kx).1]; exact n9
    · rw [(hA12.2 810 x (by decide) k1x).1]; subst hh1; simp [I_sI, up2]
    · rw [(hA2.2 811 x (by decide) kx).1]; exact n11
    · rw [(hA12.2 812 x (by decide) k1x).1]
      have : h1.I 812 x = nI (lnB (Bl B)) - nI b.2.2.1 := by subst hh1; simp [I_sI, up2]
      rw [this]
      have e1 := lnB_perm pl1
      have e5 := lnB_perm pl2
      have e6 : lnB (b :: Bl (B.eraseIdx i)) = b.2.2.1 + lnB (Bl (B.eraseIdx i)) := by simp [lnB]
      rw [pk_sub (by omega)]
      congr 1
      show lnB (Bl B) - b.2.2.1 = lnB (Bl (setT B i (f + 1)))
      omega
  have hAI2 : h2.AI (E 600) = h.AI (E 600) := by rw [h2r.2.2.1, h1r.2.2.2.1]
  have hbwl : (Bw (setT B i (f + 1))).length = (Bw B).length + 1 := by
    rw [pw2.length_eq, List.length_cons, pw1.length_eq]
  -- the trim
  have loop : ∀ (k : Nat) (s2 : St) (kn2 : Nat → Nat) (h3 : Hp) (cells slots : Nat), s2.1.length < k → CC h3 x E W r c s2 nd kn2 g (f + 1) → SInv W s2 → Cf (E 600) (E 100) h h3 → h3.AI (E 600) = h.AI (E 600) → cells + (Bw s2.1).length ≤ mc → slots + 3 * (Bw s2.1).length ≤ ms → sTrim c (B.length + 1) (setT B i (f + 1), F, top, hi', spl, jn, gone) = sTrim c k s2 →
      At X cells slots 44 [some (va_rf (some x)), some (va_rf (some (nd b.1))), some (.int (nI (Bw s2.1).length))] [] h3 := by
    intro k
    induction k with
    | zero => intro s2 kn2 h3 cells slots hk; omega
    | succ k ih =>
      intro s2 kn2 h3 cells slots hk hC3 hI3 hcf3 hAI3 hmc3 hms3 htr
      rw [show sTrim c (k + 1) s2 = (if sWt s2.1 s2.1.length ≤ c then s2 else (match sGo s2 with | none => s2 | some s' => sTrim c k s')) from rfl] at htr
      obtain ⟨y1, y2, ⟨⟨Q3, p1, p2, p3, p4, p5⟩, p6⟩, y4, y5, y6, y7, y8⟩ := id hC3
      obtain ⟨z1, z2, z3, z4, -, -, -, z5, -⟩ := id y1
      have hszQ : szB Q3 = sWt s2.1 s2.1.length := by rw [sWt_all, szB_perm p1.2]
      have hw := sWt_bd hI3
      have hle : h3.I 703 (E 805) ≤ h3.I 802 x ↔ sWt s2.1 s2.1.length ≤ c := by
        rw [p5, z4, hszQ, nI_leI (by omega) (by omega)]
      refine sgX8_putIntoQueue_44 C (by omega) (by omega) z1 (z2 805 (by decide)) z5 (fun c1 => ?_) (fun c1 c2 => ?_) (fun c1 c2 => ?_)
      · rw [hle] at c1
        rw [if_pos c1] at htr
        exact ⟨kn2, by rw [htr]; exact hC3, hcf3, hAI3⟩
      · exfalso
        rw [hle] at c1
        have hbl := hI3.len
        have hlw : (Bw s2.1).length ≤ s2.1.length := List.length_filter_le _ _
        have h0 : (Bw s2.1).length = 0 := by
          rw [show (0 : Int32) = nI 0 from rfl, nI_leI (by omega) (by omega)] at c2
          omega
        have : Bw s2.1 = [] := List.length_eq_zero_iff.mp h0
        rw [sWt_all, this] at c1
        simp [szB] at c1
      · rw [hle] at c1
        rw [if_neg c1] at htr
        have hne : ¬ (Bw s2.1).length = 0 := fun e => c2 (by rw [e]; decide)
        refine clX8_putIntoQueue_63 C (ct8_letLongestGo hC3 hI3 hW) z1 (by decide) (by omega) (by omega) (Nat.le_of_ble_eq_true rfl) (fun h4 hp => ?_)
        rcases hp with ⟨g0, g1⟩ | ⟨s4, kn4, g0, g1, g2, g3⟩
        · exfalso
          have hl0 : sLong s2.1 s2.1.length = none := by
            unfold sGo at g0
            cases hq : sLong s2.1 s2.1.length with
            | none => rfl
            | some q => rw [hq] at g0; cases g0
          have := sLong_none hl0
          omega
        · rw [g0] at htr
          have hg := geo_go hI3 g0
          refine sgX8_putIntoQueue_66 C ?_
          have hbw4 : (Bw s4.1).length + 1 = (Bw s2.1).length := by
            unfold sGo at g0
            cases hq : sLong s2.1 s2.1.length with
            | none => rw [hq] at g0; cases g0
            | some q =>
              rw [hq] at g0
              cases g0
              obtain ⟨a1, a2, -⟩ := (sLong_sp s2.1 s2.1.length).1 q hq
              have := (Bw_drop a1).length_eq
              rw [show wtg (bat s2.1 q) = true by simp [wtg, a2], if_pos rfl, List.length_cons] at this
              exact this.symm
          have e9 : nI (Bw s2.1).length + (-1) = nI (Bw s4.1).length := by
            rw [← hbw4]; exact pk_m1 _
          rw [e9]
          exact ih s4 kn4 h4 (cells + 1) (slots + 3) (by omega) g1 hg.1 (hcf3.trans g2) (g3.trans hAI3) (by omega) (by omega) htr
  obtain ⟨⟨Q4, p1, p2, p3, p4, p5⟩, p6⟩ := id hQ2
  refine sgX8_putIntoQueue_36 C hX2.1 (hX2.2.1 805 (by decide)) hX2.2.2.2.2.2.2.2.1 ?_
  rw [p4, p1.2.length_eq]
  exact loop (B.length + 1) _ kn h2 0 0 (by simp [setT_len]) hC2 hI1 hcf2 hAI2 (by rw [hbwl]; omega) (by rw [hbwl]; omega) rfl
end C11
