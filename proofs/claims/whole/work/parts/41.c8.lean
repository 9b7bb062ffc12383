/-! FIND -/
section C8
variable {h : Hp} {ch pi W : Nat} {kn : Nat → Nat}
set_option maxHeartbeats 1000000 in
theorem CkF.take {F : Fl} {top hi : Nat} {sp jn : Int32} {f k : Nat} (hR : CkF h ch pi W kn F top hi sp jn) (hF : FG F) (hf : f < F.length) (hk : (gat F f).2 = 4 * k) (hk17 : k < 17) (hl : ∀ j, f < j → j < F.length → ¬ (gat F j).2 = 4 * k) : CkF (popH h ch pi k (kn (gat F f).1)) ch pi W kn (F.eraseIdx f) top hi sp jn ∧ Fc h (popH h ch pi k (kn (gat F f).1)) := by
  obtain ⟨hS, hP, ⟨G, hG, hC⟩, r3, r4, r5, r6, r7, r8⟩ := hR
  obtain ⟨s1, s2, s3, s4, s5, s6, s7, s8⟩ := id hS
  have hpl := pile_last hf hk hl
  have hck := (hP k hk17)
  rw [hpl] at hck
  obtain ⟨c1, c2, c3⟩ := hck
  have hfc : Fc h (popH h ch pi k (kn (gat F f).1)) := by
    refine ⟨fun x hx => ⟨rfl, rfl, rfl, rfl, fun h14 => ?_⟩, fun g x hg hx => ?_⟩
    · have : ¬ x = pi := fun e => h14 (by rw [e]; exact s3)
      funext i
      simp [popH, AR_sI, AR_sAR, up2, this]
    · have x3 : ¬ g = 305 := fun e => hg (Or.inr (by omega))
      have x4 : ¬ g = 306 := fun e => hg (Or.inr (by omega))
      simp only [popH, I_sI, I_sAR, R_sI, R_sAR, up2, if_neg x3, if_neg x4]
      exact ⟨trivial, trivial⟩
  have tr : ∀ o l, Cn h kn o l → Cn (popH h ch pi k (kn (gat F f).1)) kn o l := by
    intro o l hc
    have : Cn (h.sAR pi k (h.R 202 (kn (gat F f).1))) kn o l := hc.tr (fun q hq hk => ⟨hk, rfl⟩)
    exact (this.sI (by decide)).sI (by decide)
  refine ⟨⟨hS.fc hfc, fun i hi => ?_, ⟨G, hG.small hF hf (by omega), tr _ _ hC⟩, ?_, ?_, ?_, ?_, ?_, ?_⟩, hfc⟩
  · by_cases hik : i = k
    · subst hik
      have : (popH h ch pi i (kn (gat F f).1)).AR pi i = h.R 202 (kn (gat F f).1) := by simp [popH, AR_sI, AR_sAR, up2]
      rw [this]
      exact tr _ _ c3
    · have : (popH h ch pi k (kn (gat F f).1)).AR pi i = h.AR pi i := by simp [popH, AR_sI, AR_sAR, up2, hik]
      rw [this, pile_erase hf (by omega)]
      exact tr _ _ (hP i hi)
  · simp only [popH, I_sI, I_sAR, up2, Nat.reduceEqDiff, if_false]; exact r3
  · simp only [popH, I_sI, I_sAR, up2, Nat.reduceEqDiff, if_false]; exact r4
  · simp only [popH, I_sI, I_sAR, up2, Nat.reduceEqDiff, if_false, if_true]; rw [er_len hf, r5]
  · simp only [popH, I_sI, I_sAR, up2, Nat.reduceEqDiff, if_false, if_true]; rw [er_szs hf, r6, c2.2.2]
  · simp only [popH, I_sI, I_sAR, up2, Nat.reduceEqDiff, if_false]; exact r7
  · simp only [popH, I_sI, I_sAR, up2, Nat.reduceEqDiff, if_false]; exact r8
set_option maxHeartbeats 1000000 in
theorem CkF.takeG {F G1 G2 : Fl} {top hi : Nat} {sp jn : Int32} {f y : Nat} (hR : CkF h ch pi W kn F top hi sp jn) (hF : FG F) (hf : f < F.length) (hG : Grt F (G1 ++ gat F f :: G2)) (hy : y = 0 ∨ ∃ q, q ∈ G1 ∧ q.1 = y) (hyI : h.I 200 (kn y) = nI y) (hkf : Ck h kn (gat F f)) (hC : Cn (unl h ch (kn y) (kn (gat F f).1)) kn ((unl h ch (kn y) (kn (gat F f).1)).R 202 (kn 0)) (G1 ++ G2)) : CkF (unl h ch (kn y) (kn (gat F f).1)) ch pi W kn (F.eraseIdx f) top hi sp jn ∧ Fc h (unl h ch (kn y) (kn (gat F f).1)) := by
  obtain ⟨hS, hP, -, r3, r4, r5, r6, r7, r8⟩ := hR
  have hgF : ∀ q, q ∈ G1 → q ∈ F ∧ 64 < q.2 := fun q hq => (hG.2 q).mp (List.mem_append_left _ hq)
  have h64 : 64 < (gat F f).2 := ((hG.2 _).mp (by simp)).2
  have hyl : y < 2147483648 := by
    rcases hy with rfl | ⟨q, hq, rfl⟩
    · decide
    · have := hF.1 q (hgF q hq).1; omega
  have hGf : Gf G1 h (unl h ch (kn y) (kn (gat F f).1)) kn := ((Gf.sR h _ hyI hyl hy).trans (Gf.sI G1 _ kn _ (Or.inr (by omega)))).trans (Gf.sI G1 _ kn _ (Or.inr (by omega)))
  refine ⟨⟨hS.fc hGf.1, fun i hi => ?_, ⟨G1 ++ G2, hG.erase hF hf rfl, hC⟩, ?_, ?_, ?_, ?_, ?_, ?_⟩, hGf.1⟩
  · have : (unl h ch (kn y) (kn (gat F f).1)).AR pi i = h.AR pi i := rfl
    rw [this, pile_erase hf (by omega)]
    refine hGf.cn (hP i hi) (fun q hq => ?_)
    obtain ⟨x1, x2⟩ := mem_pile.mp hq
    have x3 := hF.1 q x1
    refine ⟨by omega, by omega, fun g hg e => ?_⟩
    obtain ⟨y1, y2⟩ := hgF g hg
    have := hF.addr y1 x1 e
    subst this; omega
  · simp only [unl, I_sI, I_sR, up2, Nat.reduceEqDiff, if_false]; exact r3
  · simp only [unl, I_sI, I_sR, up2, Nat.reduceEqDiff, if_false]; exact r4
  · simp only [unl, I_sI, I_sR, up2, Nat.reduceEqDiff, if_false, if_true]; rw [er_len hf, r5]
  · simp only [unl, I_sI, I_sR, up2, Nat.reduceEqDiff, if_false, if_true]; rw [er_szs hf, r6, hkf.2.2]
  · simp only [unl, I_sI, I_sR, up2, Nat.reduceEqDiff, if_false]; exact r7
  · simp only [unl, I_sI, I_sR, up2, Nat.reduceEqDiff, if_false]; exact r8
def CkS (h : Hp) (ch pi W : Nat) (kn : Nat → Nat) (s : St) : Prop := CkF h ch pi W kn s.2.1 s.2.2.1 s.2.2.2.1 s.2.2.2.2.1 s.2.2.2.2.2.1
set_option maxHeartbeats 1000000 in
theorem ct3_find {s : St} {c : Nat} (hR : CkS h ch pi W kn s) (hI : SInv W s) (hc4 : 4 ≤ c) (hc : c ≤ 4000) (h4 : c % 4 = 0) :
    CtI mX3_find 4 1 3 [va_rf (some ch), .int (nI c)] h (fun y h' => y = oI (sFind W s c).1 ∧ ∃ kn', CkS h' ch pi W kn' (sFind W s c).2 ∧ Fc h h') := by
  obtain ⟨B, F, top, hi, spl, jn, gone⟩ := s
  have hR : CkF h ch pi W kn F top hi spl jn := hR
  obtain ⟨hg0, hI1, hI2, hI3⟩ := id hI
  simp only at hg0 hI1 hI2
  have hF : FG F := FG.of hg0 (by omega)
  obtain ⟨hS, hP, ⟨G, hG, hC⟩, r3, r4, r5, r6, r7, r8⟩ := id hR
  obtain ⟨s1, s2, s3, s4, s5, s6, s7, s8⟩ := id hS
  refine enX3_find (fun X C => sgX3_find_0 C ?_)
  -- a chunk is taken: what follows
  have went : ∀ (f : Nat) (h1 : Hp), f < F.length → c ≤ (gat F f).2 → sFits F c = some f → CkF h1 ch pi W kn (F.eraseIdx f) top hi spl jn → Fc h h1 → Ck h kn (gat F f) →
      (¬ nI (gat F f).2 ≤ nI c → At X 0 0 57 [some (va_rf (some ch)), some (.int (nI c)), some (va_rf (some (kn (gat F f).1)))] [.int (nI (gat F f).2 - nI c), .int (nI (gat F f).1 + nI c), va_rf (some ch)] (h1.sI 307 ch (h1.I 307 ch + 1))) ∧
      (nI (gat F f).2 ≤ nI c → nI (gat F f).1 = oI (sFind W (B, F, top, hi, spl, jn, gone) c).1 ∧ ∃ kn', CkS h1 ch pi W kn' (sFind W (B, F, top, hi, spl, jn, gone) c).2 ∧ Fc h h1) := by
    intro f h1 hf hcf hsf hR1 hFc hck
    have hpm := hF.1 _ (FG.gat_mem hf)
    constructor
    · intro c1
      rw [nI_leI (by omega) (by omega)] at c1
      rw [pk_sub (by omega), nI_add]
      have hp := gat_get hf
      have hperm : (chB B ++ F).Perm (((gat F f).1, (gat F f).2) :: (chB B ++ F.eraseIdx f)) := ((perm_erase hp).append_left _).trans List.perm_middle
      have hg2 := hg0.perm hperm
      have hg3 := hg2.split hc4 (by omega) h4
      have hg4 : Geo (((gat F f).1 + c, (gat F f).2 - c) :: (((gat F f).1, c) :: chB B ++ F.eraseIdx f)) top := hg3.perm (List.Perm.swap _ _ _)
      generalize hh2 : h1.sI 307 ch (h1.I 307 ch + 1) = h2
      have hF12 : Fc h1 h2 := by
        subst hh2
        exact (Gf.sI [] h1 kn _ (Or.inr (by omega))).1
      have hR2 : CkF h2 ch pi W kn (F.eraseIdx f) top hi (spl + 1) jn := by
        obtain ⟨t0, t1, ⟨G', t2, t9⟩, t3, t4, t5, t6, t7, t8⟩ := hR1
        subst hh2
        refine ⟨t0.fc hF12, fun i hi => (t1 i hi).sI (by decide), ⟨G', t2, t9.sI (by decide)⟩, ?_, ?_, ?_, ?_, ?_, ?_⟩
        · simp only [I_sI, up2, Nat.reduceEqDiff, if_false]; exact t3
        · simp only [I_sI, up2, Nat.reduceEqDiff, if_false]; exact t4
        · simp only [I_sI, up2, Nat.reduceEqDiff, if_false]; exact t5
        · simp only [I_sI, up2, Nat.reduceEqDiff, if_false]; exact t6
        · simp only [I_sI, up2, if_true]; rw [t7]
        · simp only [I_sI, up2, Nat.reduceEqDiff, if_false]; exact t8
      refine clX3_find_57 C (ct3_release hR2 hg4 (by omega)) hR2.1.1 (by decide) (by decide) (by decide) (Nat.le_of_ble_eq_true rfl) (fun h3 ⟨kn', hR3, hF3⟩ => ?_)
      have hF0 : Fc h h3 := (hFc.trans hF12).trans hF3
      have k0 : ¬ h.K (kn (gat F f).1) = 0 := by rw [hck.1]; decide
      refine sgX3_find_60 C (by decide) (by decide) ((hF0.1 _ k0).1.trans hck.1) ?_
      have er : sFind W (B, F, top, hi, spl, jn, gone) c = (some (gat F f).1, (B, (sRel (F.eraseIdx f) top jn ((gat F f).1 + c) ((gat F f).2 - c)).1, (sRel (F.eraseIdx f) top jn ((gat F f).1 + c) ((gat F f).2 - c)).2.1, hi, spl + 1, (sRel (F.eraseIdx f) top jn ((gat F f).1 + c) ((gat F f).2 - c)).2.2, gone)) := by
        simp [sFind, hsf, c1]
      rw [er]
      refine ⟨?_, kn', hR3, hF0⟩
      rw [(hF0.2 200 _ (by simp [ckf]) k0).1, hck.2.1]
      rfl
    · intro c1
      rw [nI_leI (by omega) (by omega)] at c1
      have er : sFind W (B, F, top, hi, spl, jn, gone) c = (some (gat F f).1, (B, F.eraseIdx f, top, hi, spl, jn, gone)) := by
        simp [sFind, hsf, c1]
      rw [er]
      exact ⟨rfl, kn, hR1, hFc⟩
  refine clX3_find_2 C (ct3_takeFromPiles hS (P := pile F) hP hc) s1 (by decide) (Nat.zero_le _) (Nat.zero_le _) (Nat.le_of_ble_eq_true rfl) (fun o h1 hp => ?_)
  rcases hp with ⟨e1, e2, e3⟩ | ⟨k, p, l, e1, e2, e3, e4, e5, e6⟩
  · subst e1; subst e2
    have hbs : bestS F c F.length = none := by
      cases hb : bestS F c F.length with
      | none => rfl
      | some b =>
        exfalso
        obtain ⟨x1, x2, x3, -⟩ := (bestS_sp F c F.length).1 b hb
        have hm := FG.gat_mem x1
        have h5 := hF.1 _ hm
        have hmp : gat F b ∈ pile F ((gat F b).2 / 4) := mem_pile.mpr ⟨hm, by omega⟩
        rw [e3 ((gat F b).2 / 4) (by omega) (by omega)] at hmp
        cases hmp
    have hsf0 : sFits F c = bestG F c F.length := by simp [sFits, hbs]
    refine sgX3_find_5 C (by decide) (by decide) (fun z hz => by cases hz) (fun z hz => by cases hz) s1 (fun z hz => by cases hz) (fun z hz => by cases hz) (fun z hz => by cases hz) (fun _ => ?_)
    have hGz : ∀ q, q ∈ G → q.2 < 2147483648 := fun q hq => by
      have := hF.1 q ((hG.2 q).mp hq).1; omega
    refine clX3_find_12 C (ct3_takeGreat hS hG.1 hC hGz hc) s1 (by decide) (Nat.zero_le _) (Nat.zero_le _) (Nat.le_of_ble_eq_true rfl) (fun o h2 hp => ?_)
    rcases hp with ⟨e1, e2, e4⟩ | ⟨G1, p, G2, y, e1, e2, e4, e5, e6, e7, e8⟩
    · subst e1; subst e2
      have hbg : bestG F c F.length = none := by
        cases hb : bestG F c F.length with
        | none => rfl
        | some b =>
          exfalso
          obtain ⟨x1, x2, x3, -⟩ := (bestG_sp F c F.length).1 b hb
          have := e4 _ ((hG.2 _).mpr ⟨FG.gat_mem x1, x3⟩)
          omega
      rw [hbg] at hsf0
      refine sgX3_find_15 C (by decide) (by decide) (fun z hz => by cases hz) (fun z hz => by cases hz) s1 (fun z hz => by cases hz) (fun z hz => by cases hz) (fun z hz => by cases hz) (fun _ => ?_)
      refine clX3_find_22 C (ct3_takeFromTop hS r3 r4 hc hI3 (by omega) (by omega)) s1 (by decide) (Nat.zero_le _) (Nat.zero_le _) (Nat.le_of_ble_eq_true rfl) (fun y h3 hp => ?_)
      refine sgX3_find_25 C (by decide) (by decide) ?_
      rcases hp with ⟨f1, f2, f3⟩ | ⟨f1, f2, f3⟩
      · have er : sFind W (B, F, top, hi, spl, jn, gone) c = (some top, (B, F, top + c, (if top + c ≤ hi then hi else top + c), spl, jn, gone)) := by simp [sFind, hsf0, f1]
        rw [er]
        have hfc : Fc h2 h3 := by
          subst f3
          exact ((Gf.sI [] h2 kn _ (Or.inr (by omega))).trans (Gf.sI [] _ kn _ (Or.inr (by omega)))).1
        refine ⟨f2, kn, ⟨hS.fc hfc, fun i hi => ?_, ⟨G, hG, ?_⟩, ?_, ?_, ?_, ?_, ?_, ?_⟩, hfc⟩
        all_goals subst f3
        · exact ((hP i hi).sI (by decide)).sI (by decide)
        · exact (hC.sI (by decide)).sI (by decide)
        · simp [I_sI, up2]
        · simp [I_sI, up2]
        · simp only [I_sI, up2, Nat.reduceEqDiff, if_false]; exact r5
        · simp only [I_sI, up2, Nat.reduceEqDiff, if_false]; exact r6
        · simp only [I_sI, up2, Nat.reduceEqDiff, if_false]; exact r7
        · simp only [I_sI, up2, Nat.reduceEqDiff, if_false]; exact r8
      · have er : sFind W (B, F, top, hi, spl, jn, gone) c = (none, (B, F, top, hi, spl, jn, gone)) := by simp [sFind, hsf0, f1]
        rw [er]
        subst f3
        exact ⟨f2, kn, hR, Fc.rf _⟩
    · -- the best great one
      have hpG : p ∈ G := by rw [e1]; simp
      obtain ⟨hpF, h64⟩ := (hG.2 p).mp hpG
      obtain ⟨T1, T2, t1, t2, t3, t4⟩ := e2
      have hbg : ∃ b, bestG F c F.length = some b ∧ gat F b = p := by
        cases hb : bestG F c F.length with
        | none =>
          exfalso
          obtain ⟨i, hi2, hip⟩ := mem_gat hpF
          exact (bestG_sp F c F.length).2 hb i hi2 (by rw [hip]; exact ⟨t2, h64⟩)
        | some b =>
          refine ⟨b, rfl, ?_⟩
          obtain ⟨x1, x2, x3, x4⟩ := (bestG_sp F c F.length).1 b hb
          obtain ⟨i, hi2, hip⟩ := mem_gat hpF
          have x5 := x4 i hi2 (by rw [hip]; exact t2) (by rw [hip]; exact h64)
          rw [hip] at x5
          have hqG : gat F b ∈ G := (hG.2 _).mpr ⟨FG.gat_mem x1, x3⟩
          have hA := hG.1
          rw [t1] at hqG hA
          rcases List.mem_append.mp hqG with hq | hq
          · have := t3 _ hq; omega
          · rcases List.mem_cons.mp hq with hq | hq
            · exact hq
            · have := t4 _ hq
              have h9 := (Asc.mem (Asc.lt hA).2.1 _ hq).1
              omega
      obtain ⟨b, hb1, hb2⟩ := hbg
      rw [hb1] at hsf0
      obtain ⟨x1, x2, x3, -⟩ := (bestG_sp F c F.length).1 b hb1
      subst hb2
      have hck := hC.ck _ hpG
      have htk := CkF.takeG hR hF x1 (by rw [← e1]; exact hG) e5 e6 hck (by rw [← e7]; exact e8)
      rw [← e7] at htk
      have hw := went b h2 x1 x2 hsf0 htk.1 htk.2 hck
      subst e4
      have kk : h2.K (kn (gat F b).1) = 3 := (htk.2.1 _ (by rw [hck.1]; decide)).1.trans hck.1
      have k200 : h2.I 200 (kn (gat F b).1) = nI (gat F b).1 := (htk.2.2 200 _ (by simp [ckf]) (by rw [hck.1]; decide)).1.trans hck.2.1
      have k201 : h2.I 201 (kn (gat F b).1) = nI (gat F b).2 := (htk.2.2 201 _ (by simp [ckf]) (by rw [hck.1]; decide)).1.trans hck.2.2
      refine sgX3_find_15 C (by decide) (by decide) (fun z hz => by cases hz; exact kk) (fun z hz _ => by cases hz; exact kk) htk.1.1.1 (fun z hz _ => by cases hz; exact kk) (fun z hz cc => ?_) (fun z hz cc => ?_) (fun e => by cases e)
      · cases hz
        rw [k201] at cc; rw [k200]
        exact hw.2 cc
      · cases hz
        rw [k201] at cc ⊢; rw [k200]
        exact hw.1 cc
  · -- from a pile
    have hpm : p ∈ pile F k := by rw [e4]; simp
    obtain ⟨hpF, hp4⟩ := mem_pile.mp hpm
    have hpb := hF.1 p hpF
    have hbs : ∃ b, bestS F c F.length = some b ∧ gat F b = p := by
      cases hb : bestS F c F.length with
      | none =>
        exfalso
        obtain ⟨i, hi2, hip⟩ := mem_gat hpF
        exact (bestS_sp F c F.length).2 hb i hi2 (by rw [hip]; omega)
      | some b =>
        refine ⟨b, rfl, ?_⟩
        obtain ⟨x1, x2, x3, x4⟩ := (bestS_sp F c F.length).1 b hb
        obtain ⟨i, hi2, hip⟩ := mem_gat hpF
        have x5 := x4 i hi2 (by rw [hip]; omega) (by rw [hip]; omega)
        rw [hip] at x5
        have hbm := FG.gat_mem x1
        have hbb := hF.1 _ hbm
        have hbk : (gat F b).2 = 4 * k := by
          by_cases hlt : (gat F b).2 / 4 < k
          · exfalso
            have hmp : gat F b ∈ pile F ((gat F b).2 / 4) := mem_pile.mpr ⟨hbm, by omega⟩
            rw [e3 _ (by omega) hlt] at hmp
            cases hmp
          · omega
        have hpl := pile_last x1 hbk (fun j hj1 hj2 e => by
          have := x4 j hj2 (by omega) (by omega)
          omega)
        rw [e4] at hpl
        exact (List.cons.inj hpl).1.symm
    obtain ⟨b, hb1, hb2⟩ := hbs
    have hsf0 : sFits F c = some b := by simp [sFits, hb1]
    obtain ⟨x1, x2, x3, x4⟩ := (bestS_sp F c F.length).1 b hb1
    subst hb2
    have hck := (hP k e2).ck _ hpm
    have htk := CkF.take hR hF x1 hp4 e2 (fun j hj1 hj2 e => by
      have := x4 j hj2 (by omega) (by omega)
      omega)
    rw [← e6] at htk
    have hw := went b h1 x1 x2 hsf0 htk.1 htk.2 hck
    subst e5
    have kk : h1.K (kn (gat F b).1) = 3 := (htk.2.1 _ (by rw [hck.1]; decide)).1.trans hck.1
    have k200 : h1.I 200 (kn (gat F b).1) = nI (gat F b).1 := (htk.2.2 200 _ (by simp [ckf]) (by rw [hck.1]; decide)).1.trans hck.2.1
    have k201 : h1.I 201 (kn (gat F b).1) = nI (gat F b).2 := (htk.2.2 201 _ (by simp [ckf]) (by rw [hck.1]; decide)).1.trans hck.2.2
    refine sgX3_find_5 C (by decide) (by decide) (fun z hz => by cases hz; exact kk) (fun z hz _ => by cases hz; exact kk) htk.1.1.1 (fun z hz _ => by cases hz; exact kk) (fun z hz cc => ?_) (fun z hz cc => ?_) (fun e => by cases e)
    · cases hz
      rw [k201] at cc; rw [k200]
      exact hw.2 cc
    · cases hz
      rw [k201] at cc ⊢; rw [k200]
      exact hw.1 cc
end C8
