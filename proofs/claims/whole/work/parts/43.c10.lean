/-! blocks, queue and chunks together: one goes -/
theorem GB.addr {W : Nat} {B : List Blk} (hG : GB W B) {a b : Blk} (ha : a ∈ B) (hb : b ∈ B) (e : a.1 = b.1) : a = b := by
  obtain ⟨i, hi, rfl⟩ := mem_bat ha
  obtain ⟨j, hj, rfl⟩ := mem_bat hb
  by_cases hij : i = j
  · rw [hij]
  · have h1 := hG.2.1 i j hi hj hij
    have h2 := hG.1 i hi
    have h3 := hG.1 j hj
    simp only [dj] at h1
    omega
theorem GB.mem {W : Nat} {B : List Blk} (hG : GB W B) {b : Blk} (hb : b ∈ B) : 1 ≤ b.1 ∧ b.1 % 4 = 1 ∧ b.2.1 % 4 = 0 ∧ 4 ≤ b.2.1 ∧ b.1 + b.2.1 ≤ W := by
  obtain ⟨i, hi, rfl⟩ := mem_bat hb
  exact hG.1 i hi
theorem GB.two {W : Nat} {B : List Blk} (hG : GB W B) {a b : Blk} (ha : a ∈ B) (hb : b ∈ B) : a = b ∨ dj (a.1, a.2.1) (b.1, b.2.1) := by
  obtain ⟨i, hi, rfl⟩ := mem_bat ha
  obtain ⟨j, hj, rfl⟩ := mem_bat hb
  by_cases hij : i = j
  · exact Or.inl (by rw [hij])
  · exact Or.inr (hG.2.1 i j hi hj hij)
theorem GB.nodup {W : Nat} {B : List Blk} (hG : GB W B) : B.Nodup := by
  unfold List.Nodup
  rw [List.pairwise_iff_getElem]
  intro i j hi hj hij e
  have h1 := hG.2.1 i j hi hj (by omega)
  have h2 := hG.1 i hi
  have e1 : bat B i = B[i] := bat_of (List.getElem?_eq_getElem hi)
  have e2 : bat B j = B[j] := bat_of (List.getElem?_eq_getElem hj)
  rw [e1, e2, e] at h1
  rw [e1, e] at h2
  simp only [dj] at h1
  omega
set_option maxHeartbeats 1000000 in
/-- the same, by the blocks themselves -/
theorem bk_iff {h : Hp} {bu W r : Nat} {B : List Blk} {nd : Nat → Nat} (hG : GB W B) : BkR h bu ((W - 1) / 4) B r nd ↔ (∀ b, b ∈ B → NdR h (nd b.1) b r) ∧ ∀ u, u < (W - 1) / 4 → ∀ q, h.AR bu u = some q ↔ ∃ b, b ∈ B ∧ b.1 ≤ 4 * u + 1 ∧ 4 * u + 1 < b.1 + b.2.1 ∧ q = nd b.1 := by
  have h3 := hG.2.2
  have key : ∀ u, u < (W - 1) / 4 → ∀ q, (bIx B (nI (4 * u + 1))).map (ndB nd B) = some q ↔ ∃ b, b ∈ B ∧ b.1 ≤ 4 * u + 1 ∧ 4 * u + 1 < b.1 + b.2.1 ∧ q = nd b.1 := by
    intro u hu q
    constructor
    · intro hq
      cases hb : bIx B (nI (4 * u + 1)) with
      | none => rw [hb] at hq; cases hq
      | some i =>
        rw [hb] at hq
        cases hq
        obtain ⟨h1, h2⟩ := (bIx_some hG (by omega)).mp hb
        exact ⟨bat B i, bat_mem h1, h2.1, h2.2, rfl⟩
    · rintro ⟨b, hb, h1, h2, rfl⟩
      obtain ⟨i, hi, rfl⟩ := mem_bat hb
      rw [(bIx_some hG (by omega)).mpr ⟨hi, h1, h2⟩]
      rfl
  constructor
  · rintro ⟨a1, a2⟩
    refine ⟨fun b hb => ?_, fun u hu q => ?_⟩
    · obtain ⟨i, hi, rfl⟩ := mem_bat hb
      exact a1 i hi
    · rw [a2 u hu]; exact key u hu q
  · rintro ⟨a1, a2⟩
    refine ⟨fun i hi => a1 _ (bat_mem hi), fun u hu => ?_⟩
    apply opt_ext
    intro q
    rw [a2 u hu q, key u hu q]
theorem nd_ne {h : Hp} {nd : Nat → Nat} {r : Nat} {a b : Blk} (ha : NdR h (nd a.1) a r) (hb : NdR h (nd b.1) b r) (h1 : a.1 < 2147483648) (h2 : b.1 < 2147483648) (hne : ¬ a.1 = b.1) : ¬ nd a.1 = nd b.1 := fun e => by
  have h3 := ha.2.1
  rw [e, hb.2.1, nI_eq h2 h1] at h3
  exact hne h3.symm
def corf (f : Nat) : Prop := ckf f ∨ f = 5 ∨ f = 8 ∨ (700 ≤ f ∧ f ≤ 703) ∨ (809 ≤ f ∧ f ≤ 812)
/-- what the work on blocks leaves alone -/
def Cf (mw bu : Nat) (h h' : Hp) : Prop := (∀ a, ¬ h.K a = 0 → h'.K a = h.K a ∧ h'.N a = h.N a ∧ h'.AL a = h.AL a ∧ (¬ a = mw → h'.AI a = h.AI a) ∧ (¬ a = bu → ¬ h.K a = 14 → h'.AR a = h.AR a)) ∧ ∀ f a, ¬ corf f → ¬ h.K a = 0 → h'.I f a = h.I f a ∧ h'.R f a = h.R f a
theorem Cf.rf (mw bu : Nat) (h : Hp) : Cf mw bu h h := ⟨fun _ _ => ⟨rfl, rfl, rfl, fun _ => rfl, fun _ _ => rfl⟩, fun _ _ _ _ => ⟨rfl, rfl⟩⟩
theorem Cf.trans {mw bu : Nat} {h h1 h2 : Hp} (a : Cf mw bu h h1) (b : Cf mw bu h1 h2) : Cf mw bu h h2 := by
  refine ⟨fun x hx => ?_, fun f x hf hx => ?_⟩
  · obtain ⟨a1, a2, a3, a4, a5⟩ := a.1 x hx
    obtain ⟨b1, b2, b3, b4, b5⟩ := b.1 x (by rw [a1]; exact hx)
    exact ⟨b1.trans a1, b2.trans a2, b3.trans a3, fun hn => (b4 hn).trans (a4 hn), fun hn h14 => (b5 hn (by rw [a1]; exact h14)).trans (a5 hn h14)⟩
  · have a1 := a.2 f x hf hx
    have b1 := b.2 f x hf (by rw [(a.1 x hx).1]; exact hx)
    exact ⟨b1.1.trans a1.1, b1.2.trans a1.2⟩
theorem Cf.fc {mw bu : Nat} {h h' : Hp} (hF : Fc h h') : Cf mw bu h h' := ⟨fun a ha => ⟨(hF.1 a ha).1, (hF.1 a ha).2.1, (hF.1 a ha).2.2.2.1, fun _ => (hF.1 a ha).2.2.1, fun _ h14 => (hF.1 a ha).2.2.2.2 h14⟩, fun f a hf ha => hF.2 f a (fun e => hf (Or.inl e)) ha⟩
theorem Cf.ag {φ : Nat → Prop} {mw bu : Nat} {h h' : Hp} (hF : Cf mw bu h h') (hp : ∀ f, φ f → ¬ corf f) : Ag φ h h' := ⟨fun a ha => ⟨(hF.1 a ha).1, (hF.1 a ha).2.1⟩, fun f a hf ha => hF.2 f a (hp f hf) ha⟩
theorem Cf.sI {mw bu : Nat} (h : Hp) {f a : Nat} (v : Int32) (hf : corf f) : Cf mw bu h (h.sI f a v) := ⟨fun _ _ => ⟨rfl, rfl, rfl, fun _ => rfl, fun _ _ => rfl⟩, fun g x hg _ => ⟨by simp only [I_sI, up2, if_neg (show ¬ g = f from fun e => hg (by rw [e]; exact hf))], rfl⟩⟩
theorem Cf.sR {mw bu : Nat} (h : Hp) {f a : Nat} (v : Option Nat) (hf : corf f) : Cf mw bu h (h.sR f a v) := ⟨fun _ _ => ⟨rfl, rfl, rfl, fun _ => rfl, fun _ _ => rfl⟩, fun g x hg _ => ⟨rfl, by simp only [R_sR, up2, if_neg (show ¬ g = f from fun e => hg (by rw [e]; exact hf))]⟩⟩
theorem Cf.wAR {mw bu : Nat} (h : Hp) (F : Nat → Option Nat) : Cf mw bu h (h.wAR bu F) := ⟨fun a _ => ⟨rfl, rfl, rfl, fun _ => rfl, fun hn _ => by simp [AR_wAR, hn]⟩, fun _ _ _ _ => ⟨rfl, rfl⟩⟩
theorem Cf.wAI {mw bu : Nat} (h : Hp) (F : Nat → Int32) : Cf mw bu h (h.wAI mw F) := ⟨fun a _ => ⟨rfl, rfl, rfl, fun hn => by simp [AI_wAI, hn], fun _ _ => rfl⟩, fun _ _ _ _ => ⟨rfl, rfl⟩⟩
def CC (h : Hp) (x : Nat) (E : Nat → Nat) (W r c : Nat) (s : St) (nd kn : Nat → Nat) (g f : Nat) : Prop := XS h x E W r c ∧ BkR h (E 100) ((W - 1) / 4) s.1 r nd ∧ QuR h (E 805) s.1 nd ∧ CkS h (E 803) (E 301) W kn s ∧ h.I 809 x = nI g ∧ h.I 810 x = nI f ∧ h.I 811 x = s.2.2.2.2.2.2 ∧ h.I 812 x = nI (lnB (Bl s.1))
section TK
variable {h : Hp} {qu z : Nat}
theorem tkH_K : (tkH h qu z).K = h.K ∧ (tkH h qu z).N = h.N ∧ (tkH h qu z).AI = h.AI ∧ (tkH h qu z).AR = h.AR ∧ (tkH h qu z).AL = h.AL := by
  unfold tkH
  split <;> exact ⟨rfl, rfl, rfl, rfl, rfl⟩
theorem tkH_8 (y : Nat) : (tkH h qu z).R 8 y = if y = z then none else h.R 8 y := by
  unfold tkH
  split
  · by_cases hy : y = z <;> simp [R_sI, R_sR, up2, hy]
  · by_cases hy : y = z <;> simp [R_sI, R_sR, up2, hy]
theorem tkH_700 : (tkH h qu z).R 700 qu = h.R 8 z := by
  unfold tkH
  split <;> simp [R_sI, R_sR, up2]
theorem tkH_701 : (tkH h qu z).R 701 qu = if h.R 8 z = none then none else h.R 701 qu := by
  unfold tkH
  split <;> simp [R_sI, R_sR, up2]
theorem tkH_702 : (tkH h qu z).I 702 qu = h.I 702 qu - 1 ∧ (tkH h qu z).I 703 qu = h.I 703 qu - h.I 1 z := by
  unfold tkH
  split <;> simp [I_sI, I_sR, up2]
theorem tkH_cf {mw bu : Nat} : Cf mw bu h (tkH h qu z) := by
  unfold tkH
  split
  · exact ((((Cf.sR _ _ (by simp [corf])).trans (Cf.sR _ _ (by simp [corf]))).trans (Cf.sR _ _ (by simp [corf]))).trans (Cf.sI _ _ (by simp [corf]))).trans (Cf.sI _ _ (by simp [corf]))
  · exact (((Cf.sR _ _ (by simp [corf])).trans (Cf.sR _ _ (by simp [corf]))).trans (Cf.sI _ _ (by simp [corf]))).trans (Cf.sI _ _ (by simp [corf]))
theorem tkH_ag {φ : Nat → Prop} (hp : ∀ f, φ f → ¬ f = 8 ∧ (f < 700 ∨ 703 < f)) : Ag φ h (tkH h qu z) := by
  have n8 : ¬ φ 8 := fun e => (hp 8 e).1 rfl
  have n7 : ∀ f, 700 ≤ f → f ≤ 703 → ¬ φ f := fun f h1 h2 e => by have := (hp f e).2; omega
  unfold tkH
  split
  · exact ((((Ag.sR _ _ (n7 _ (by decide) (by decide))).trans (Ag.sR _ _ (n7 _ (by decide) (by decide)))).trans (Ag.sR _ _ n8)).trans (Ag.sI _ _ (n7 _ (by decide) (by decide)))).trans (Ag.sI _ _ (n7 _ (by decide) (by decide)))
  · exact (((Ag.sR _ _ (n7 _ (by decide) (by decide))).trans (Ag.sR _ _ n8)).trans (Ag.sI _ _ (n7 _ (by decide) (by decide)))).trans (Ag.sI _ _ (n7 _ (by decide) (by decide)))
end TK
theorem Bw_drop {B : List Blk} {i : Nat} (hi : i < B.length) : (Bw B).Perm (if wtg (bat B i) then bat B i :: Bw (sDrop B i) else Bw (sDrop B i)) := by
  have := (sDrop_perm hi).filter wtg
  unfold Bw
  rw [List.filter_cons] at this
  exact this
theorem Bl_drop {B : List Blk} {i : Nat} (hi : i < B.length) : (Bl B).Perm (if wtg (bat B i) then Bl (sDrop B i) else bat B i :: Bl (sDrop B i)) := by
  have := (sDrop_perm hi).filter (fun b => !wtg b)
  unfold Bl
  rw [List.filter_cons] at this
  by_cases hw : wtg (bat B i) = true
  · simp only [hw, if_true, Bool.not_true, Bool.false_eq_true, if_false] at this ⊢; exact this
  · simp only [hw, if_false] at this ⊢
    simpa using this
theorem lnB_perm {P Q : List Blk} (h : P.Perm Q) : lnB P = lnB Q := (h.map (fun b : Blk => b.2.2.1)).sum_nat
theorem szB_perm {P Q : List Blk} (h : P.Perm Q) : szB P = szB Q := (h.map (fun b : Blk => b.2.1)).sum_nat
section C10
variable {h : Hp} {x : Nat} {E : Nat → Nat} {W r c : Nat} {s : St} {nd kn : Nat → Nat} {g f : Nat}
theorem CC.pi13 (hC : CC h x E W r c s nd kn g f) : ¬ E 301 = E 100 := fun e => by
  have h1 := hC.1.2.2.2.2.2.1.2.2.1
  have h2 := hC.2.2.2.1.1.2.2.1
  rw [e, h1] at h2; cases h2
set_option maxHeartbeats 1000000 in
theorem ct8_letLongestGo (hC : CC h x E W r c s nd kn g f) (hI : SInv W s) (hW : 1 ≤ W) :
    CtV mX8_letLongestGo 4 1 3 [va_rf (some x)] h (fun h' => (sGo s = none ∧ h' = h) ∨ ∃ s' kn', sGo s = some s' ∧ CC h' x E W r c s' nd kn' g f ∧ Cf (E 600) (E 100) h h' ∧ h'.AI (E 600) = h.AI (E 600)) := by
  obtain ⟨B, F, top, hi, spl, jn, gone⟩ := s
  obtain ⟨hX, hB, ⟨⟨Q, q1, q2, q3, q4, q5⟩, q6⟩, hK, n9, n10, n11, n12⟩ := id hC
  simp only at hB q1 q6 n11 n12
  obtain ⟨x1, x2, x3, x4, xm, xb, xf, x5, x6, x7, x12, -, -, x9⟩ := id hX
  have hG : GB W B := hI.gb
  have h3 := hG.2.2
  have hBm := (bk_iff hG).mp hB
  refine enX8_letLongestGo (fun X C => sgX8_letLongestGo_0 C x1 ?_)
  rw [x2 805 (by decide)]
  have hz : ∀ z, h.R 700 (E 805) = some z → h.K z = 1 := fun z hz => by
    cases Q with
    | nil => rw [show h.R 700 (E 805) = none from q2] at hz; cases hz
    | cons b Q =>
      rw [q2.1] at hz; cases hz
      exact (hBm.1 b ((q1.mem b).mp List.mem_cons_self).1).1
  refine clX8_letLongestGo_4 C (ct7_takeFirst x5 hz) x5 (by decide) (Nat.zero_le _) (Nat.zero_le _) (Nat.le_of_ble_eq_true rfl) (fun o h1 hp => ?_)
  rcases hp with ⟨e1, e2, e3⟩ | ⟨z, e1, e2, e3⟩
  · subst e2; subst e3
    have hQ : Q = [] := by
      cases Q with
      | nil => rfl
      | cons b Q => rw [q2.1] at e1; cases e1
    subst hQ
    refine sgX8_letLongestGo_7 C (by decide) (by decide) x1 (fun z hz => by cases hz) (fun _ => Or.inl ⟨?_, rfl⟩)
    simp [sGo, sLong_nil q1]
  · cases Q with
    | nil => rw [show h.R 700 (E 805) = none from q2] at e1; cases e1
    | cons b Q =>
    obtain ⟨q21, q22⟩ := q2
    rw [q21] at e1; cases e1
    obtain ⟨i, hs1, hs2, hs3⟩ := sLong_cons q1
    have hbB : b ∈ B := by rw [← hs3]; exact bat_mem hs2
    have hb0 : ¬ b.2.2.2.2 = 0 := ((q1.mem b).mp List.mem_cons_self).2
    have hnb := hBm.1 b hbB
    have hgb := hG.mem hbB
    have hperm := sDrop_perm hs2
    rw [hs3] at hperm
    have hnd := hperm.nodup_iff.mp hG.nodup
    rw [List.nodup_cons] at hnd
    have hmem : ∀ y, y ∈ sDrop B i ↔ y ∈ B ∧ ¬ y = b := fun y => by
      rw [hperm.mem_iff, List.mem_cons]
      constructor
      · intro hy; exact ⟨Or.inr hy, fun e => hnd.1 (by rw [← e]; exact hy)⟩
      · rintro ⟨hy | hy, hy2⟩
        · exact absurd hy hy2
        · exact hy
    have hgo : sGo (B, F, top, hi, spl, jn, gone) = some (sDrop B i, (sRel F top jn b.1 b.2.1).1, (sRel F top jn b.1 b.2.1).2.1, hi, spl, (sRel F top jn b.1 b.2.1).2.2, gone + 1) := by
      simp [sGo, hs1, hs3]
    have hI' := (geo_go hI hgo).1
    have hG' : GB W (sDrop B i) := hI'.gb
    subst e2
    -- the heap after the queue, with one more gone
    have kx : ¬ h.K x = 0 := by rw [x1]; decide
    have kq : ¬ h.K (E 805) = 0 := by rw [x5]; decide
    have hck1 := @tkH_K h (E 805) (nd b.1)
    have hA1 : Ag (fun f => ¬ f = 8 ∧ (f < 700 ∨ 703 < f)) h h1 := by subst e3; exact tkH_ag (fun f hf => hf)
    have hA2 : Ag (fun f => ¬ f = 8 ∧ (f < 700 ∨ 703 < f) ∧ ¬ f = 811) h (h1.sI 811 x (h1.I 811 x + 1)) := (hA1.up (fun f hf => ⟨hf.1, hf.2.1⟩)).trans (Ag.sI _ _ (fun hf => hf.2.2 rfl))
    have hcf2 : Cf (E 600) (E 100) h (h1.sI 811 x (h1.I 811 x + 1)) := by
      refine Cf.trans ?_ (Cf.sI _ _ (by simp [corf]))
      subst e3; exact tkH_cf
    refine sgX8_letLongestGo_7 C (by decide) (by decide) ((hA1.1 x kx).1.trans x1) (fun z hz => ?_) (fun e => by cases e)
    cases hz
    have e811 : h1.I 811 x = gone := (hA1.2 811 x (by decide) kx).1.trans n11
    have r804 : h1.R 804 x = some (E 804) := (hA1.2 804 x (by decide) kx).2.trans (x2 804 (by decide))
    rw [r804]
    generalize hh2 : h1.sI 811 x (h1.I 811 x + 1) = h2 at hA2 hcf2 ⊢
    have h2r : h2.K = h.K ∧ h2.N = h.N ∧ h2.AI = h.AI ∧ h2.AR = h.AR ∧ h2.AL = h.AL := by
      subst hh2; subst e3; exact hck1
    have hX2 : XS h2 x E W r c := hX.fr (hA2.up (fun f hf => by simp only [stf] at hf; omega))
    have hnb2 : NdR h2 (nd b.1) b r := hnb.fr (hA2.up (fun f hf => by omega))
    have ea : h2.I 0 (nd b.1) = nI (4 * ((b.1 - 1) / 4) + 1) := by rw [hnb2.2.1]; congr 1; omega
    have en : h2.I 1 (nd b.1) = nI (4 * (b.2.1 / 4)) := by rw [hnb2.2.2.1]; congr 1; omega
    refine clX8_letLongestGo_28 C (ct1_remove hX2.2.2.2.2.2.1 (by omega) hnb2.1 ea en (by omega)) hX2.2.2.2.2.2.1.1 (by decide) (Nat.zero_le _) (Nat.zero_le _) (Nat.le_of_ble_eq_true rfl) (fun h3' e4 => ?_)
    have hA3 : Ag (fun f => ¬ f = 8 ∧ (f < 700 ∨ 703 < f) ∧ ¬ f = 811) h h3' := hA2.trans (by subst e4; exact ⟨fun _ _ => ⟨rfl, rfl⟩, fun _ _ _ _ => ⟨rfl, rfl⟩⟩)
    have hcf3 : Cf (E 600) (E 100) h h3' := hcf2.trans (by subst e4; exact Cf.wAR _ _)
    have hX3 : XS h3' x E W r c := hX.fr (hA3.up (fun f hf => by simp only [stf] at hf; omega))
    have hnb3 : NdR h3' (nd b.1) b r := hnb.fr (hA3.up (fun f hf => by omega))
    have eAR : ∀ u, h3'.AR (E 100) u = if (b.1 - 1) / 4 ≤ u ∧ u < (b.1 - 1) / 4 + b.2.1 / 4 then none else h.AR (E 100) u := fun u => by
      subst e4
      rw [AR_wAR]
      simp only [if_true]
      rw [h2r.2.2.2.1]
    have ePI : h3'.AR (E 301) = h.AR (E 301) := by
      subst e4
      rw [AR_wAR]
      simp only [if_neg hC.pi13]
      rw [h2r.2.2.2.1]
    have eAI : h3'.AI = h.AI := by subst e4; exact h2r.2.2.1
    have hB3 : BkR h3' (E 100) ((W - 1) / 4) (sDrop B i) r nd := by
      rw [bk_iff hG']
      refine ⟨fun y hy => (hBm.1 y ((hmem y).mp hy).1).fr (hA3.up (fun f hf => by omega)), fun u hu q => ?_⟩
      rw [eAR u]
      constructor
      · intro hq
        split at hq
        · cases hq
        · rename_i hno
          obtain ⟨y, hy, y1, y2, y3⟩ := (hBm.2 u hu q).mp hq
          refine ⟨y, (hmem y).mpr ⟨hy, fun e => ?_⟩, y1, y2, y3⟩
          subst e
          apply hno
          omega
      · rintro ⟨y, hy, y1, y2, y3⟩
        obtain ⟨hyB, hyb⟩ := (hmem y).mp hy
        have hyg := hG.mem hyB
        rw [if_neg (fun hno => by
          rcases hG.two hyB hbB with e | e
          · exact hyb e
          · simp only [dj] at e; omega)]
        exact (hBm.2 u hu q).mpr ⟨y, hyB, y1, y2, y3⟩
    have hwb : wtg b = true := by simp [wtg, hb0]
    have hQ3 : QuR h3' (E 805) (sDrop B i) nd := by
      have r8 : ∀ y, h3'.R 8 y = if y = nd b.1 then none else h.R 8 y := fun y => by
        subst e4; subst hh2; subst e3
        rw [R_wAR, R_sI]
        exact tkH_8 y
      have nQ : ∀ y, y ∈ Q → y ∈ B ∧ ¬ y = b := fun y hy => by
        refine ⟨((q1.mem y).mp (List.mem_cons_of_mem _ hy)).1, fun e => ?_⟩
        have := (List.pairwise_cons.mp q1.1).1 y hy
        rw [e] at this; omega
      have nn : ∀ y, y ∈ B → ¬ y = b → ¬ nd y.1 = nd b.1 := fun y hy hyb => by
        have hyg := hG.mem hy
        exact nd_ne (hBm.1 y hy) hnb (by omega) (by omega) (fun e => hyb (hG.addr hy hbB e))
      have r700 : h3'.R 700 (E 805) = h.R 8 (nd b.1) := by
        subst e4; subst hh2; subst e3
        rw [R_wAR, R_sI]
        exact tkH_700
      have r701 : h3'.R 701 (E 805) = if h.R 8 (nd b.1) = none then none else h.R 701 (E 805) := by
        subst e4; subst hh2; subst e3
        rw [R_wAR, R_sI]
        exact tkH_701
      have i702 : h3'.I 702 (E 805) = h.I 702 (E 805) - 1 ∧ h3'.I 703 (E 805) = h.I 703 (E 805) - h.I 1 (nd b.1) := by
        subst e4; subst hh2; subst e3
        rw [I_wAR, I_sI]
        simp only [up2, Nat.reduceEqDiff, if_false]
        exact tkH_702
      refine ⟨⟨Q, ⟨(List.pairwise_cons.mp q1.1).2, ?_⟩, ?_, ?_, ?_, ?_⟩, fun y hy h0 => ?_⟩
      · have := Bw_drop hs2
        rw [hs3, hwb, if_pos rfl] at this
        exact (q1.2.trans this).cons_inv
      · rw [r700]
        refine q22.tr (fun y hy => ?_)
        rw [r8, if_neg (nn y (nQ y hy).1 (nQ y hy).2)]
      · rw [r701]
        cases Q with
        | nil => rw [show h.R 8 (nd b.1) = none from q22]; rfl
        | cons y Q =>
          rw [q22.1, if_neg (by simp), q3]
          simp
      · rw [i702.1, q4]
        exact nI_pred _
      · rw [i702.2, q5, hnb.2.2.1, pk_sub (by simp [szB])]
        congr 1
        simp only [szB, List.map_cons, List.sum_cons]
        omega
      · obtain ⟨y1, y2⟩ := (hmem y).mp hy
        rw [r8, if_neg (nn y y1 y2)]
        exact q6 y y1 h0
    have hK3 : CkS h3' (E 803) (E 301) W kn (sDrop B i, F, top, hi, spl, jn, gone) := CkS.fr (s := (sDrop B i, F, top, hi, spl, jn, gone)) hK (hA3.up (fun f hf => by omega)) ePI
    have hgeo : Geo ((b.1, b.2.1) :: (chB (sDrop B i) ++ F)) top := by
      refine hI.1.perm ?_
      have := (hperm.map (fun b : Blk => (b.1, b.2.1))).append_right F
      exact this
    refine sgX8_letLongestGo_31 C hX3.1 hnb3.1 ?_
    rw [hnb3.2.1, hnb3.2.2.1, hX3.2.1 803 (by decide)]
    have ht3 : top ≤ 3000 := by have := hI.2; simp only at this; omega
    refine clX8_letLongestGo_43 C (ct3_release hK3 hgeo ht3) hX3.2.2.2.2.2.2.2.2.2.2.1 (by decide) (Nat.le_refl _) (Nat.le_refl _) (Nat.le_of_ble_eq_true rfl) (fun h4 ⟨kn', hK4, hF4⟩ => ?_)
    refine sgX8_letLongestGo_46 C (by decide) (by decide) (Or.inr ⟨_, kn', hgo, ⟨?_, ?_, ?_, hK4, ?_, ?_, ?_, ?_⟩, hcf3.trans (Cf.fc hF4), ?_⟩)
    · exact hX3.fr (Ag.fc hF4 (fun f hf => by simp only [stf] at hf; simp only [ckf]; omega))
    · refine hB3.fr (Ag.fc hF4 (fun f hf => by simp only [ckf]; omega)) ?_
      exact (hF4.1 _ (by rw [hX3.2.2.2.2.2.1.2.2.1]; decide)).2.2.2.2 (by rw [hX3.2.2.2.2.2.1.2.2.1]; decide)
    · refine hQ3.fr (Ag.fc hF4 (fun f hf => by simp only [ckf]; omega)) (by rw [hX3.2.2.2.2.2.2.2.1]; decide) (fun y hy => ?_)
      rw [((bk_iff hG').mp hB3).1 y hy |>.1]; decide
    all_goals have kx3 : ¬ h3'.K x = 0 := by rw [hX3.1]; decide
    · rw [(hF4.2 809 x (by simp [ckf]) kx3).1, (hA3.2 809 x (by decide) kx).1]; exact n9
    · rw [(hF4.2 810 x (by simp [ckf]) kx3).1, (hA3.2 810 x (by decide) kx).1]; exact n10
    · rw [(hF4.2 811 x (by simp [ckf]) kx3).1]
      have : h3'.I 811 x = h1.I 811 x + 1 := by
        subst e4; subst hh2
        simp [I_wAR, I_sI, up2]
      rw [this, e811]
    · rw [(hF4.2 812 x (by simp [ckf]) kx3).1, (hA3.2 812 x (by decide) kx).1, n12]
      have := Bl_drop hs2
      rw [hs3, hwb, if_pos rfl] at this
      rw [lnB_perm this]
    · rw [(hF4.1 _ (by rw [hX3.2.2.2.2.1.2.2.1]; decide)).2.2.1, eAI]
end C10
