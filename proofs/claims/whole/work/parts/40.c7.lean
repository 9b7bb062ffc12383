/-! RELEASE and FIND: class and reference -/
set_option maxHeartbeats 1000000 in
theorem relL_sp {F G : Fl} (hF : FG F) (hG : Grt F G) {a n : Nat} (j : Int32) {lo : Option (Nat × Nat)} (hlo : LO G a lo) : (lo = none ∧ sRelL F j a n = (F, a, n, j)) ∨ ∃ p i, lo = some p ∧ i < F.length ∧ gat F i = p ∧ sRelL F j a n = (F.eraseIdx i, p.1, n + p.2, j + 1) := by
  unfold sRelL
  cases hf : fnd (gbs F a true) F.length 0 with
  | none =>
    left
    refine ⟨?_, rfl⟩
    cases lo with
    | none => rfl
    | some p =>
      exfalso
      obtain ⟨h1, h2⟩ := (hG.2 p).mp hlo.1
      obtain ⟨i, hi, hp⟩ := mem_gat h1
      have := fnd_none hf i (Nat.zero_le _) (by omega)
      rw [gbs_is (gat_get hi), hp] at this
      have h3 : p.1 + p.2 = a := hlo.2
      simp [h2, h3] at this
  | some i =>
    right
    obtain ⟨-, hi, h3, -⟩ := fnd_some hf
    obtain ⟨p, hp, h64, hpa⟩ := gbs_some h3
    simp only [if_true] at hpa
    have hi : i < F.length := by omega
    have hpF : p ∈ F := List.mem_of_getElem? hp
    have hpG : p ∈ G := (hG.2 p).mpr ⟨hpF, h64⟩
    cases lo with
    | none => exact absurd hpa (hlo p hpG)
    | some q =>
      have hqF := ((hG.2 q).mp hlo.1).1
      have hqa : q.1 + q.2 = a := hlo.2
      have : q = p := by
        rcases hF.one hqF hpF with e | e
        · exact e
        · have h1 := hF.1 p hpF
          have h2 := hF.1 q hqF
          simp only [dj] at e; omega
      subst this
      exact ⟨q, i, rfl, hi, getD_of hp, by simp only [getD_of hp]⟩
set_option maxHeartbeats 1000000 in
theorem relR_sp {F G : Fl} (hF : FG F) (hG : ∀ p, p ∈ G → p ∈ F ∧ 64 < p.2) (hG2 : ∀ p, p ∈ F → 64 < p.2 → p ∈ G) {a n b : Nat} {j : Int32} {ro : Option (Nat × Nat)} (hb : a + n = b) (hro : RO G b ro) : (ro = none ∧ sRelR (F, a, n, j) = (F, a, n, j)) ∨ ∃ p i, ro = some p ∧ i < F.length ∧ gat F i = p ∧ sRelR (F, a, n, j) = (F.eraseIdx i, a, n + p.2, j + 1) := by
  unfold sRelR
  simp only [hb]
  cases hf : fnd (gbs F b false) F.length 0 with
  | none =>
    left
    refine ⟨?_, rfl⟩
    cases ro with
    | none => rfl
    | some p =>
      exfalso
      obtain ⟨h1, h2⟩ := hG p hro.1
      obtain ⟨i, hi, hp⟩ := mem_gat h1
      have := fnd_none hf i (Nat.zero_le _) (by omega)
      rw [gbs_is (gat_get hi), hp] at this
      have h3 : p.1 = b := hro.2
      simp [h2, h3] at this
  | some i =>
    right
    obtain ⟨-, hi, h3, -⟩ := fnd_some hf
    obtain ⟨p, hp, h64, hpa⟩ := gbs_some h3
    simp only [Bool.false_eq_true, if_false, Nat.add_zero] at hpa
    have hi : i < F.length := by omega
    have hpF : p ∈ F := List.mem_of_getElem? hp
    have hpG : p ∈ G := hG2 p hpF h64
    cases ro with
    | none => exact absurd hpa (hro p hpG)
    | some q =>
      have hqF := (hG q hro.1).1
      have hqa : q.1 = b := hro.2
      have : q = p := hF.addr hqF hpF (by omega)
      subst this
      exact ⟨q, i, rfl, hi, getD_of hp, by simp only [getD_of hp]⟩
theorem er_len {F : Fl} {i : Nat} (hi : i < F.length) : nI (F.eraseIdx i).length = nI F.length - 1 := by
  rw [List.length_eraseIdx_of_lt hi]
  exact (pk_sub (a := F.length) (b := 1) (by omega)).symm
theorem er_szs {F : Fl} {i : Nat} (hi : i < F.length) : nI (szs (F.eraseIdx i)) = nI (szs F) - nI (gat F i).2 := by
  have := szs_erase hi
  rw [pk_sub (by omega)]
  congr 1; omega
set_option maxHeartbeats 1000000 in
/-- what is left of the free chunks when the neighbours are taken -/
theorem rel_sp {F G : Fl} (hF : FG F) (hG : Grt F G) {a n : Nat} (hn : 1 ≤ n) (j : Int32) {lo ro : Option (Nat × Nat)} (hlo : LO G a lo) (hro : RO G (a + n) ro) :
    ∃ Fr n', sRelR (sRelL F j a n) = (Fr, frO a lo, n', j + kc lo + kc ro) ∧ frO a lo + n' = toO (a + n) ro ∧ n ≤ n' ∧ (∀ x, x ∈ Fr ↔ x ∈ F ∧ ¬ lo = some x ∧ ¬ ro = some x) ∧ (∀ k, k < 17 → pile Fr k = pile F k) ∧ nI Fr.length = nI F.length - kc lo - kc ro ∧ nI (szs Fr) = nI (szs F) - kz lo - kz ro := by
  -- first the left one
  have left : ∃ F1 n1, sRelL F j a n = (F1, frO a lo, n1, j + kc lo) ∧ frO a lo + n1 = a + n ∧ n ≤ n1 ∧ FG F1 ∧ (∀ x, x ∈ F1 ↔ x ∈ F ∧ ¬ lo = some x) ∧ (∀ k, k < 17 → pile F1 k = pile F k) ∧ nI F1.length = nI F.length - kc lo ∧ nI (szs F1) = nI (szs F) - kz lo := by
    rcases relL_sp hF hG j (n := n) hlo with ⟨rfl, e⟩ | ⟨p, i, rfl, hi, hp, e⟩
    · exact ⟨F, n, by rw [e]; simp [frO, kc], rfl, Nat.le_refl _, hF, fun x => by simp, fun k _ => rfl, by simp [kc], by simp [kz]⟩
    · have h64 := ((hG.2 p).mp hlo.1).2
      have h3 : p.1 + p.2 = a := hlo.2
      refine ⟨F.eraseIdx i, n + p.2, by rw [e]; simp [frO, kc], by simp only [frO]; omega, by omega, hF.erase i, fun x => ?_, fun k hk => ?_, ?_, ?_⟩
      · rw [hF.mem_erase hi, hp]
        constructor
        · rintro ⟨x1, x2⟩; exact ⟨x1, fun e => by cases e; exact x2 rfl⟩
        · rintro ⟨x1, x2⟩; exact ⟨x1, fun e => x2 (by rw [e])⟩
      · exact pile_erase hi (by rw [hp]; omega)
      · rw [er_len hi]; rfl
      · rw [er_szs hi, hp]; rfl
  obtain ⟨F1, n1, e1, e2, e3, hF1, m1, p1, l1, z1⟩ := left
  -- then the right one, among those that are left
  have hroF : ∀ p, ro = some p → p ∈ F1 ∧ 64 < p.2 ∧ p.1 = a + n := fun p hp => by
    subst hp
    obtain ⟨x1, x2⟩ := (hG.2 p).mp hro.1
    have x3 : p.1 = a + n := hro.2
    refine ⟨(m1 p).mpr ⟨x1, fun e => ?_⟩, x2, x3⟩
    subst e
    have : p.1 + p.2 = a := hlo.2
    omega
  have hro1 : RO (F1.filter (fun p => decide (64 < p.2))) (a + n) ro := by
    cases ro with
    | none =>
      intro p hp
      simp only [List.mem_filter, decide_eq_true_eq] at hp
      exact hro p ((hG.2 p).mpr ⟨((m1 p).mp hp.1).1, hp.2⟩)
    | some p =>
      obtain ⟨x1, x2, x3⟩ := hroF p rfl
      exact ⟨by simp [x1, x2], x3⟩
  rw [e1]
  rcases relR_sp (j := j + kc lo) hF1 (G := F1.filter (fun p => decide (64 < p.2))) (fun p hp => by simpa using hp) (fun p hp h => by simp [hp, h]) e2 hro1 with ⟨rfl, e⟩ | ⟨p, i, rfl, hi, hp, e⟩
  · refine ⟨F1, n1, by rw [e]; simp [kc], by simp only [toO]; exact e2, e3, fun x => ?_, p1, ?_, ?_⟩
    · rw [m1 x]; simp
    · rw [l1]; simp [kc]
    · rw [z1]; simp [kz]
  · obtain ⟨x1, x2, x3⟩ := hroF p rfl
    refine ⟨F1.eraseIdx i, n1 + p.2, by rw [e]; simp [kc], by simp only [toO]; omega, by omega, fun x => ?_, fun k hk => ?_, ?_, ?_⟩
    · rw [hF1.mem_erase hi, hp, m1 x]
      constructor
      · rintro ⟨⟨y1, y2⟩, y3⟩; exact ⟨y1, y2, fun e => by cases e; exact y3 rfl⟩
      · rintro ⟨y1, y2, y3⟩; exact ⟨⟨y1, y2⟩, fun e => y3 (by rw [e])⟩
    · rw [pile_erase hi (by rw [hp]; omega), p1 k hk]
    · rw [er_len hi, l1]; simp [kc]
    · rw [er_szs hi, z1, hp]; simp [kz]
section C7
variable {h : Hp} {ch pi W : Nat} {kn : Nat → Nat} {F : Fl} {top hi : Nat} {sp jn : Int32}
theorem FGD {G : Fl} (hF : FG F) (hG : Grt F G) : GD G := ⟨fun q hq => by
    have := hF.1 q ((hG.2 q).mp hq).1
    omega, fun q q' hq hq' => hF.one ((hG.2 q).mp hq).1 ((hG.2 q').mp hq').1⟩
set_option maxHeartbeats 1000000 in
theorem ct3_release (hR : CkF h ch pi W kn F top hi sp jn) {D : Fl} {a n : Nat} (hGeo : Geo ((a, n) :: (D ++ F)) top) (ht : top ≤ 3000) :
    CtV mX3_release 3 1 3 [va_rf (some ch), .int (nI a), .int (nI n)] h (fun h' => ∃ kn', CkF h' ch pi W kn' (sRel F top jn a n).1 (sRel F top jn a n).2.1 hi sp (sRel F top jn a n).2.2 ∧ Fc h h') := by
  obtain ⟨hS, hP, ⟨G, hG, hC⟩, r3, r4, r5, r6, r7, r8⟩ := id hR
  obtain ⟨s1, s2, s3, s4, s5, s6, s7, s8⟩ := id hS
  obtain ⟨b1, b2, b3, b4, b5⟩ := hGeo.1 (a, n) List.mem_cons_self
  simp only at b1 b2 b3 b4 b5
  have hF : FG F := FG.of (D := (a, n) :: D) hGeo ht
  have hdF : ∀ q, q ∈ F → dj (a, n) q := fun q hq => (List.pairwise_cons.mp hGeo.2.1).1 q (List.mem_append_right _ hq)
  have hna : ∀ q, q ∈ F → ¬ q.1 = a := fun q hq e => by
    have h1 := hdF q hq
    have h2 := hF.1 q hq
    simp only [dj] at h1; omega
  refine enX3_release (fun X C => sgX3_release_0 C (fun c => ?_) (fun c => ?_))
  · rw [show (64 : Int32) = nI 64 from rfl, nI_leI (by omega) (by omega)] at c
    refine nwX3_release_16 C (by decide) (by decide) (fun q hq => ?_)
    refine sgX3_release_19 C ?_
    refine clX3_release_22 C (ct2_init (h := h.nw q 3 0) (q := q) (by simp [K_nw]) _ _) (by decide) (by decide) (by decide) (Nat.le_of_ble_eq_true rfl) (fun h1 e1 => ?_)
    have ne : ∀ x, ¬ h.K x = 0 → ¬ x = q := fun x hx e => hx (by rw [e]; exact hq)
    have h1K : ∀ x, ¬ h.K x = 0 → h1.K x = h.K x ∧ h1.N x = h.N x ∧ h1.AI x = h.AI x ∧ h1.AL x = h.AL x ∧ h1.AR x = h.AR x := fun x hx => by subst e1; simp [K_sI, N_sI, AI_sI, AL_sI, AR_sI, K_nw, N_nw, AI_nw, AL_nw, AR_nw, ne x hx]
    have h1I : ∀ f x, ¬ h.K x = 0 → h1.I f x = h.I f x ∧ h1.R f x = h.R f x := fun f x hx => by
      subst e1
      simp [I_sI, R_sI, I_nw, R_nw, up2, ne x hx]
    have hF1 : Fc h h1 := ⟨fun x hx => ⟨(h1K x hx).1, (h1K x hx).2.1, (h1K x hx).2.2.1, (h1K x hx).2.2.2.1, fun _ => (h1K x hx).2.2.2.2⟩, fun f x _ hx => h1I f x hx⟩
    have hkq : h1.K q = 3 ∧ h1.I 200 q = nI a ∧ h1.I 201 q = nI n := by subst e1; simp [K_sI, K_nw, I_sI, I_nw, up2]
    have hn4 : n = 4 * (n / 4) := by omega
    refine clX3_release_25 C (ct3_putOnPile (hS.fc hF1) hkq.1 (n := n / 4) (by rw [hkq.2.2, ← hn4]) (by omega) (by omega)) (hS.fc hF1).1 (by decide) (by decide) (by decide) (Nat.le_of_ble_eq_true rfl) (fun h2 e2 => ?_)
    refine sgX3_release_28 C (by decide) (by decide) ?_
    have k0 : ¬ h.K ch = 0 := by rw [s1]; decide
    have kp : ¬ h.K pi = 0 := by rw [s3]; decide
    have hF2 : Fc h h2 := by
      refine hF1.trans ?_
      subst e2
      refine ⟨fun x hx => ⟨rfl, rfl, rfl, rfl, fun h14 => ?_⟩, fun f x hf hx => ?_⟩
      · have : ¬ x = pi := fun e => h14 (by rw [e, (h1K pi kp).1]; exact s3)
        funext i
        simp [putH, AR_sI, AR_sAR, AR_sR, up2, this]
      · have x1 : ¬ f = 202 := fun e => hf (Or.inl e)
        have x3 : ¬ f = 305 := fun e => hf (Or.inr (by omega))
        have x4 : ¬ f = 306 := fun e => hf (Or.inr (by omega))
        simp only [putH, I_sI, I_sAR, I_sR, R_sI, R_sAR, R_sR, up2, if_neg x1, if_neg x3, if_neg x4]
        exact ⟨trivial, trivial⟩
    have tr : ∀ o l, (∀ p, p ∈ l → p ∈ F) → Cn h kn o l → Cn h2 (up1 kn a q) o l := by
      intro o l hl hc
      refine (hc.tr (fun p hp hk => ?_)).kn (fun p hp => hna p (hl p hp))
      have kk : ¬ h.K (kn p.1) = 0 := by rw [hk.1]; decide
      refine ⟨⟨(hF2.1 _ kk).1.trans hk.1, (hF2.2 200 _ (by simp [ckf]) kk).1.trans hk.2.1, (hF2.2 201 _ (by simp [ckf]) kk).1.trans hk.2.2⟩, ?_⟩
      subst e2
      simp only [putH, R_sI, R_sAR, R_sR, up2, if_true, if_neg (ne _ kk)]
      exact (h1I 202 _ kk).2
    have e64 : sRel F top jn a n = (F ++ [(a, n)], top, jn) := by simp [sRel, c]
    rw [e64]
    have h0a : up1 kn a q 0 = kn 0 := up1_n _ _ (by omega)
    have haq : up1 kn a q a = q := up1_s _ _ _
    refine ⟨up1 kn a q, ⟨?_, fun i hi => ?_, ⟨G, hG.big c, ?_⟩, ?_, ?_, ?_, ?_, ?_, ?_⟩, hF2⟩
    · have := hS.fc hF2
      unfold ChS
      rw [h0a]
      exact this
    · rw [pile_app]
      have eAR : h2.AR pi i = if i = n / 4 then some q else h.AR pi i := by
        subst e2
        simp only [putH, AR_sI, AR_sAR, AR_sR, up2, if_true]
        rw [(h1K pi kp).2.2.2.2]
      by_cases hin : n = 4 * i
      · have hin2 : i = n / 4 := by omega
        rw [if_pos hin, eAR, if_pos hin2]
        refine ⟨by rw [haq], ?_, ?_⟩
        · unfold Ck
          simp only [haq]
          subst e2
          simp only [putH, K_sI, K_sAR, K_sR, I_sI, I_sAR, I_sR, up2, Nat.reduceEqDiff, if_false]
          exact hkq
        · simp only [haq]
          have : h2.R 202 q = h.AR pi i := by
            subst e2
            simp only [putH, R_sI, R_sAR, R_sR, up2, if_true]
            rw [(h1K pi kp).2.2.2.2, ← hin2]
          rw [this]
          exact tr _ _ (fun p hp => (mem_pile.mp hp).1) (hP i hi)
      · rw [if_neg hin, eAR, if_neg (by omega)]
        exact tr _ _ (fun p hp => (mem_pile.mp hp).1) (hP i hi)
    · rw [h0a]
      have kk : ¬ h.K (kn 0) = 0 := by rw [s6]; decide
      have : h2.R 202 (kn 0) = h.R 202 (kn 0) := by
        subst e2
        simp only [putH, R_sI, R_sAR, R_sR, up2, if_true, if_neg (ne _ kk)]
        exact (h1I 202 _ kk).2
      rw [this]
      exact tr _ _ (fun p hp => ((hG.2 p).mp hp).1) hC
    · subst e2; simp only [putH, I_sI, I_sAR, I_sR, up2, Nat.reduceEqDiff, if_false]; rw [(h1I 303 ch k0).1]; exact r3
    · subst e2; simp only [putH, I_sI, I_sAR, I_sR, up2, Nat.reduceEqDiff, if_false]; rw [(h1I 304 ch k0).1]; exact r4
    · subst e2; simp only [putH, I_sI, I_sAR, I_sR, up2, Nat.reduceEqDiff, if_false, if_true]; rw [(h1I 305 ch k0).1, r5, nI_1]; simp
    · subst e2; simp only [putH, I_sI, I_sAR, I_sR, up2, Nat.reduceEqDiff, if_false, if_true]; rw [(h1I 306 ch k0).1, r6, hkq.2.2, nI_add, szs_app]
    · subst e2; simp only [putH, I_sI, I_sAR, I_sR, up2, Nat.reduceEqDiff, if_false]; rw [(h1I 307 ch k0).1]; exact r7
    · subst e2; simp only [putH, I_sI, I_sAR, I_sR, up2, Nat.reduceEqDiff, if_false]; rw [(h1I 308 ch k0).1]; exact r8
  · rw [show (64 : Int32) = nI 64 from rfl, nI_leI (by omega) (by omega)] at c
    refine clX3_release_9 C (ct3_releaseGreat hS hG.1 hC (FGD hF hG) r3 ht b1 b4 (by omega) (fun q hq => hdF q ((hG.2 q).mp hq).1)) s1 (by decide) (by decide) (by decide) (Nat.le_of_ble_eq_true rfl) (fun h2 hp => ?_)
    refine sgX3_release_12 C (by decide) (by decide) ?_
    obtain ⟨lo, ro, hlo, hro, hGf, ⟨G', hAG, hcase⟩, q8, q4, q7⟩ := hp
    obtain ⟨Fr, n', e1, e2, e3, m1, p1, l1, z1⟩ := rel_sp hF hG (by omega : 1 ≤ n) jn hlo hro
    have hfr : 1 ≤ frO a lo := by
      cases lo with
      | none => exact b1
      | some p =>
        have := hF.1 p ((hG.2 p).mp hlo.1).1
        simp only [frO]; omega
    have pl : ∀ i, i < 17 → ∀ p, p ∈ pile F i → ¬ p.1 = 0 ∧ p.1 < 2147483648 ∧ (∀ g, g ∈ G → ¬ g.1 = p.1) ∧ ¬ p.1 = frO a lo := by
      intro i hi p hp
      obtain ⟨x1, x2⟩ := mem_pile.mp hp
      have x3 := hF.1 p x1
      have x4 : ∀ g, g ∈ G → ¬ g.1 = p.1 := fun g hg e => by
        obtain ⟨y1, y2⟩ := (hG.2 g).mp hg
        have := hF.addr y1 x1 e
        subst this; omega
      refine ⟨by omega, by omega, x4, ?_⟩
      cases lo with
      | none => exact hna p x1
      | some g => exact fun e => x4 g hlo.1 e.symm
    have hpi : h2.AR pi = h.AR pi := hGf.2.1 pi (by rw [s3]; decide)
    have esr : sRel F top jn a n = if frO a lo + n' = top then (Fr, frO a lo, jn + kc lo + kc ro) else (Fr ++ [(frO a lo, n')], top, jn + kc lo + kc ro) := by
      unfold sRel
      rw [if_neg c, e1]
    rw [esr, e2]
    have hSh := hS.fc hGf.1
    rcases hcase with ⟨c1, c2, c3, c4, c5, c6⟩ | ⟨c1, c2, ⟨q0, c3, c7⟩, c4, c5, c6⟩
    · rw [if_pos c1]
      refine ⟨kn, ⟨hSh, fun i hi => ?_, ⟨G', ⟨hAG, fun p => ?_⟩, c3⟩, c4, q4.trans r4, ?_, ?_, q7.trans r7, by rw [q8, r8]⟩, hGf.1⟩
      · rw [hpi, p1 i hi]
        exact hGf.cn (hP i hi) (fun q hq => ⟨(pl i hi q hq).1, (pl i hi q hq).2.1, (pl i hi q hq).2.2.1⟩)
      · rw [c2 p, m1 p, hG.2 p]
        constructor
        · rintro ⟨⟨x1, x2⟩, x3⟩; exact ⟨⟨x1, x3⟩, x2⟩
        · rintro ⟨⟨x1, x3⟩, x2⟩; exact ⟨⟨x1, x2⟩, x3⟩
      · rw [c5, r5, l1]
      · rw [c6, r6, z1]
    · rw [if_neg c1]
      have e9 : toO (a + n) ro - frO a lo = n' := by omega
      rw [e9] at c2 c6
      have h0a : up1 kn (frO a lo) q0 0 = kn 0 := up1_n _ _ (by omega)
      refine ⟨up1 kn (frO a lo) q0, ⟨?_, fun i hi => ?_, ⟨G', ⟨hAG, fun p => ?_⟩, by rw [h0a]; exact c7⟩, ?_, q4.trans r4, ?_, ?_, q7.trans r7, by rw [q8, r8]⟩, hGf.1⟩
      · unfold ChS
        rw [h0a]
        exact hSh
      · rw [hpi, pile_app, if_neg (by simp only; omega), p1 i hi]
        exact (hGf.cn (hP i hi) (fun q hq => ⟨(pl i hi q hq).1, (pl i hi q hq).2.1, (pl i hi q hq).2.2.1⟩)).kn (fun q hq => (pl i hi q hq).2.2.2)
      · rw [c2 p, List.mem_append, m1 p, hG.2 p]
        constructor
        · rintro (x | ⟨⟨x1, x2⟩, x3⟩)
          · subst x; exact ⟨Or.inr (by simp), by simp only; omega⟩
          · exact ⟨Or.inl ⟨x1, x3⟩, x2⟩
        · rintro ⟨⟨x1, x3⟩ | x, x2⟩
          · exact Or.inr ⟨⟨x1, x2⟩, x3⟩
          · simp at x; exact Or.inl x
      · exact c4.trans r3
      · rw [c5, r5, ← l1]; simp [nI_1]
      · rw [c6, r6, ← z1, nI_add, szs_app]
end C7
