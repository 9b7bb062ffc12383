/-! a new object of the class: its parts -/
theorem near_nat {a b : Nat} (hab : a ≤ b) (hb : b < 2147483648) (v : Int32) : ∃ w, nearN v (nI a) (nI b) = nI w ∧ a ≤ w ∧ w ≤ b := by
  unfold nearN
  by_cases h1 : v < nI a
  · rw [if_pos h1]; exact ⟨a, rfl, Nat.le_refl _, hab⟩
  · rw [if_neg h1]
    by_cases h2 : nI b < v
    · rw [if_pos h2]; exact ⟨b, rfl, hab, Nat.le_refl _⟩
    · rw [if_neg h2]
      have h0 : ¬ v < 0 := fun hv => h1 (Int32.lt_of_lt_of_le hv (Int32.not_lt.mp (nI_pos (by omega))))
      obtain ⟨j, hj, rfl⟩ := nI_of h0
      rw [nI_ltI hj (by omega)] at h1
      rw [nI_ltI hb hj] at h2
      exact ⟨j, rfl, by omega, by omega⟩
/-- all that was is as it was, but for the fields of t -/
def Nf (t : Nat) (h h' : Hp) : Prop := (∀ a, ¬ h.K a = 0 → h'.K a = h.K a ∧ h'.N a = h.N a ∧ h'.AI a = h.AI a ∧ h'.AR a = h.AR a ∧ h'.AL a = h.AL a) ∧ ∀ f a, ¬ h.K a = 0 → ¬ a = t → h'.I f a = h.I f a ∧ h'.R f a = h.R f a
theorem Nf.rf (t : Nat) (h : Hp) : Nf t h h := ⟨fun _ _ => ⟨rfl, rfl, rfl, rfl, rfl⟩, fun _ _ _ _ => ⟨rfl, rfl⟩⟩
theorem Nf.trans {t : Nat} {h h1 h2 : Hp} (a : Nf t h h1) (b : Nf t h1 h2) : Nf t h h2 := by
  refine ⟨fun x hx => ?_, fun f x hx ht => ?_⟩
  · obtain ⟨a1, a2, a3, a4, a5⟩ := a.1 x hx
    obtain ⟨b1, b2, b3, b4, b5⟩ := b.1 x (by rw [a1]; exact hx)
    exact ⟨b1.trans a1, b2.trans a2, b3.trans a3, b4.trans a4, b5.trans a5⟩
  · have a1 := a.2 f x hx ht
    have b1 := b.2 f x (by rw [(a.1 x hx).1]; exact hx) ht
    exact ⟨b1.1.trans a1.1, b1.2.trans a1.2⟩
theorem Nf.nw (t : Nat) (h : Hp) {q k n : Nat} (hq : h.K q = 0) : Nf t h (h.nw q k n) := by
  have ne : ∀ x, ¬ h.K x = 0 → ¬ x = q := fun x hx e => hx (by rw [e]; exact hq)
  exact ⟨fun x hx => by simp [K_nw, N_nw, AI_nw, AR_nw, AL_nw, ne x hx], fun f x hx _ => by simp [I_nw, R_nw, ne x hx]⟩
theorem Nf.sR (t : Nat) (h : Hp) {f : Nat} (v : Option Nat) : Nf t h (h.sR f t v) := ⟨fun _ _ => ⟨rfl, rfl, rfl, rfl, rfl⟩, fun g a _ ha => ⟨rfl, by simp [R_sR, up2, ha]⟩⟩
theorem Nf.sI (t : Nat) (h : Hp) {f : Nat} (v : Int32) : Nf t h (h.sI f t v) := ⟨fun _ _ => ⟨rfl, rfl, rfl, rfl, rfl⟩, fun g a _ ha => ⟨by simp [I_sI, up2, ha], rfl⟩⟩
theorem Nf.old {t q : Nat} {h h' : Hp} (hN : Nf q h h') (hq : h.K q = 0) : Nf t h h' := ⟨hN.1, fun f a ha _ => hN.2 f a ha (fun e => ha (by rw [e]; exact hq))⟩
section C20
variable {h : Hp}
set_option maxHeartbeats 1000000 in
theorem ct8_nearest {v : Int32} {a b : Nat} (hab : a ≤ b) (hb : b < 2147483648) : CtI mX8_nearest 2 0 0 [.int v, .int (nI a), .int (nI b)] h (fun y h' => h' = h ∧ y = nearN v (nI a) (nI b)) := by
  refine enX8_nearest (fun X C => sgX8_nearest_0 C ?_)
  refine clX8_nearest_3 C (ctJ_min (nI b) v) (by decide) (Nat.zero_le _) (Nat.zero_le _) (Nat.le_of_ble_eq_true rfl) (fun y h' ⟨e1, e2⟩ => ?_)
  subst e1
  refine clX8_nearest_6 C (ctJ_max (nI a) y) (by decide) (Nat.zero_le _) (Nat.zero_le _) (Nat.le_of_ble_eq_true rfl) (fun z h2 ⟨e1, e3⟩ => ?_)
  subst e1
  refine sgX8_nearest_9 C (by decide) (by decide) ⟨rfl, ?_⟩
  rw [e3, e2]
  unfold nearN
  have ha' : (nI a).toInt = a := nI_toInt (by omega)
  have hb' : (nI b).toInt = b := nI_toInt (by omega)
  simp only [Int32.lt_iff_toInt_lt, ha', hb']
  by_cases h1 : v.toInt < a
  · rw [if_pos h1]
    have h2 : v.toInt < (b : Int) := by omega
    rw [if_pos h2, if_neg (by omega)]
  · rw [if_neg h1]
    by_cases h2 : (b : Int) < v.toInt
    · rw [if_pos h2, if_neg (show ¬ v.toInt < (b : Int) by omega), hb']
      by_cases h3 : (a : Int) < b
      · rw [if_pos h3]
      · rw [if_neg h3]
        have : a = b := by omega
        rw [this]
    · rw [if_neg h2]
      by_cases h4 : v.toInt < (b : Int)
      · rw [if_pos h4]
        by_cases h3 : (a : Int) < v.toInt
        · rw [if_pos h3]
        · rw [if_neg h3]
          apply Int32.toInt_inj.mp
          rw [ha']; omega
      · rw [if_neg h4, hb']
        have e : v = nI b := by
          apply Int32.toInt_inj.mp
          rw [hb']; omega
        by_cases h3 : (a : Int) < b
        · rw [if_pos h3, e]
        · rw [if_neg h3, e]
          have : a = b := by omega
          rw [this]
theorem ct6_init {t W : Nat} (ht : h.K t = 7) (hW : W ≤ 3000) : CtV mX6_init 2 1 W [va_rf (some t), .int (nI W)] h (fun h' => ∃ q, h.K q = 0 ∧ MeS h' t q W ∧ (∀ i, h'.AI q i = 0) ∧ Nf t h h') := by
  have hcl : (nI W).toNatClampNeg = W := nI_clamp (by omega)
  refine enX6_init (fun X C => sgX6_init_0 C (by decide) ?_)
  refine nwX6_init_6 C (nI_pos (by omega)) (by rw [hcl]; omega) (by decide) (by rw [hcl]; omega) (fun q hq => ?_)
  rw [hcl]
  have htq : ¬ t = q := fun e => by rw [e, hq] at ht; cases ht
  refine sgX6_init_8 C (by decide) (by omega) (by simp [K_nw, htq, ht]) ⟨q, hq, ⟨?_, ?_, ?_, ?_⟩, fun i => ?_, (Nf.nw t h hq).trans (Nf.sR t _ _)⟩
  · simp [K_sR, K_nw, htq, ht]
  · simp [R_sR, up2]
  · simp [K_sR, K_nw]
  · simp [N_sR, N_nw]
  · simp [AI_sR, AI_nw]
theorem ct1_init {t U : Nat} (ht : h.K t = 2) (hU : U ≤ 3000) : CtV mX1_init 2 1 U [va_rf (some t), .int (nI U)] h (fun h' => ∃ q, h.K q = 0 ∧ BlS h' t q U ∧ (∀ i, h'.AR q i = none) ∧ Nf t h h') := by
  have hcl : (nI U).toNatClampNeg = U := nI_clamp (by omega)
  refine enX1_init (fun X C => sgX1_init_0 C (by decide) ?_)
  refine nwX1_init_6 C (nI_pos (by omega)) (by rw [hcl]; omega) (by decide) (by rw [hcl]; omega) (fun q hq => ?_)
  rw [hcl]
  have htq : ¬ t = q := fun e => by rw [e, hq] at ht; cases ht
  refine sgX1_init_9 C (by decide) (by omega) (by simp [K_nw, htq, ht]) ⟨q, hq, ⟨?_, ?_, ?_, ?_⟩, fun i => ?_, (Nf.nw t h hq).trans (Nf.sR t _ _)⟩
  · simp [K_sR, K_nw, htq, ht]
  · simp [R_sR, up2]
  · simp [K_sR, K_nw]
  · simp [N_sR, N_nw]
  · simp [AR_sR, AR_nw]
theorem ct7_init {t : Nat} : CtV mX7_init 2 0 0 [va_rf (some t)] h (fun h' => h' = h) := enX7_init (fun X C => sgX7_init_0 C (Nat.le_refl _) (Nat.le_refl _) (by decide) rfl)
set_option maxHeartbeats 1000000 in
theorem ct4_init {t : Nat} (ht : h.K t = 5) : CtV mX4_init 2 2 64 [va_rf (some t)] h (fun h' => ∃ q1 q2, h.K q1 = 0 ∧ h.K q2 = 0 ∧ ¬ q1 = q2 ∧ FaS h' t q1 q2 ∧ (∀ i, h'.AI q1 i = 0 ∧ h'.AI q2 i = 0) ∧ h'.I 402 t = h.I 402 t ∧ Nf t h h') := by
  refine enX4_init (fun X C => sgX4_init_0 C (by decide) ?_)
  refine nwX4_init_7 C (by decide) (by decide) (by decide) (by decide) (fun q1 hq1 => ?_)
  have htq : ¬ t = q1 := fun e => by rw [e, hq1] at ht; cases ht
  refine sgX4_init_9 C (by simp [K_nw, htq, ht]) ?_
  refine nwX4_init_15 C (by decide) (by decide) (by decide) (by decide) (fun q2 hq2 => ?_)
  have hq12 : ¬ q2 = q1 := fun e => by rw [e] at hq2; simp [K_sR, K_nw] at hq2
  have hq20 : h.K q2 = 0 := by simpa [K_sR, K_nw, hq12] using hq2
  have htq2 : ¬ t = q2 := fun e => by rw [e, hq20] at ht; cases ht
  refine sgX4_init_17 C (by decide) (by decide) (by simp [K_nw, K_sR, htq, htq2, ht]) ⟨q1, q2, hq1, hq20, fun e => hq12 e.symm, ⟨?_, ?_, ?_, ?_, ?_, ?_, ?_⟩, fun i => ?_, ?_, (((Nf.nw t h hq1).trans (Nf.sR t _ _)).trans (Nf.nw t _ hq2)).trans (Nf.sR t _ _)⟩
  · simp [K_sR, K_nw, htq, htq2, ht]
  · simp [R_sR, R_nw, up2, htq2]
  · simp [K_sR, K_nw, fun e => hq12 (Eq.symm e)]
  · simp [N_sR, N_nw, fun e => hq12 (Eq.symm e)]
  · simp [R_sR, up2]
  · simp [K_sR, K_nw]
  · simp [N_sR, N_nw]
  · simp [AI_sR, AI_nw]
  · simp [I_sR, I_nw, htq, htq2]
set_option maxHeartbeats 1000000 in
theorem ct3_init {t W : Nat} (ht : h.K t = 4) (hz : ∀ f, 305 ≤ f → f ≤ 308 → h.I f t = 0) : CtV mX3_init 2 2 20 [va_rf (some t), .int (nI W)] h (fun h' => ∃ pi gf, h.K pi = 0 ∧ h.K gf = 0 ∧ ChS h' t pi W (fun _ => gf) ∧ (∀ i, h'.AR pi i = none) ∧ h'.R 202 gf = none ∧ h'.I 303 t = 1 ∧ h'.I 304 t = 1 ∧ (∀ f, 305 ≤ f → f ≤ 308 → h'.I f t = 0) ∧ Nf t h h') := by
  refine enX3_init (fun X C => sgX3_init_0 C (by decide) ht ?_)
  generalize hh1 : h.sI 300 t (nI W) = h1
  have h1K : h1.K = h.K := by subst hh1; rfl
  have N01 : Nf t h h1 := by subst hh1; exact Nf.sI t h _
  refine nwX3_init_12 C (by decide) (by decide) (by decide) (by decide) (fun pi hpi => ?_)
  have ht1 : h1.K t = 4 := by rw [h1K]; exact ht
  have htp : ¬ t = pi := fun e => by rw [e, hpi] at ht1; cases ht1
  have hpi0 : h.K pi = 0 := by rw [← h1K]; exact hpi
  refine sgX3_init_15 C (by simp [K_nw, htp, ht1]) ?_
  generalize hh2 : (h1.nw pi 14 ((17 : Int32).toNatClampNeg)).sR 301 t (some pi) = h2
  have N12 : Nf t h1 h2 := by subst hh2; exact (Nf.nw t h1 hpi).trans (Nf.sR t _ _)
  have p2 : h2.K pi = 14 ∧ h2.N pi = 17 ∧ (∀ i, h2.AR pi i = none) ∧ h2.R 301 t = some pi ∧ h2.K t = 4 := by
    subst hh2
    refine ⟨by simp [K_sR, K_nw], by simp [N_sR, N_nw], fun i => by simp [AR_sR, AR_nw], by simp [R_sR, up2], by simp [K_sR, K_nw, htp, ht1]⟩
  have i2 : ∀ f, h2.I f t = h1.I f t := fun f => by subst hh2; simp [I_sR, I_nw, htp]
  refine nwX3_init_19 C (by decide) (by decide) (fun gf hgf => ?_)
  have htg : ¬ t = gf := fun e => by rw [e, hgf] at p2; exact absurd p2.2.2.2.2 (by decide)
  have hpg : ¬ pi = gf := fun e => by rw [e, hgf] at p2; exact absurd p2.1 (by decide)
  have hgf0 : h.K gf = 0 := by
    by_cases h0 : h.K gf = 0
    · exact h0
    · have := ((N01.trans N12).1 gf h0).1
      rw [hgf] at this
      exact this.symm
  refine sgX3_init_22 C ?_
  refine clX3_init_25 C (ct2_init (h := h2.nw gf 3 0) (q := gf) (by simp [K_nw]) _ _) (by decide) (by decide) (by decide) (Nat.le_of_ble_eq_true rfl) (fun h3 e3 => ?_)
  have N23 : Nf t h2 h3 := by
    have a : Nf gf h2 h3 := by subst e3; exact ((Nf.nw gf h2 hgf).trans (Nf.sI gf _ _)).trans (Nf.sI gf _ _)
    exact a.old hgf
  have q3 : h3.K gf = 3 ∧ h3.I 200 gf = nI 0 ∧ h3.R 202 gf = none := by
    subst e3
    refine ⟨by simp [K_sI, K_nw], by simp [I_sI, I_nw, up2]; rfl, by simp [R_sI, R_nw]⟩
  have kt2 : ¬ h2.K t = 0 := by rw [p2.2.2.2.2]; decide
  have i3 : ∀ f, h3.I f t = h2.I f t ∧ h3.R f t = h2.R f t := fun f => by
    subst e3
    simp [I_sI, I_nw, R_sI, R_nw, up2, htg]
  have k3 : h3.K t = 4 := (N23.1 t kt2).1.trans p2.2.2.2.2
  refine sgX3_init_28 C (by decide) (by decide) k3 k3 ⟨pi, gf, hpi0, hgf0, ⟨k3, ?_, ?_, ?_, ?_, q3.1, ?_, ?_⟩, fun i => ?_, ?_, ?_, ?_, fun f f1 f2 => ?_, (((N01.trans N12).trans N23).trans (Nf.sR t _ _)).trans ((Nf.sI t _ _).trans (Nf.sI t _ _))⟩
  · simp only [R_sI, R_sR, up2, Nat.reduceEqDiff, if_false]; rw [(i3 301).2]; exact p2.2.2.2.1
  · show h3.K pi = 14
    rw [(N23.1 pi (by rw [p2.1]; decide)).1]; exact p2.1
  · show h3.N pi = 17
    rw [(N23.1 pi (by rw [p2.1]; decide)).2.1]; exact p2.2.1
  · simp [R_sI, R_sR, up2]
  · simp only [I_sI, I_sR, up2, Nat.reduceEqDiff, if_false]; exact q3.2.1
  · simp only [I_sI, I_sR, up2, Nat.reduceEqDiff, if_false]
    rw [(i3 300).1, i2 300]
    subst hh1
    simp [I_sI, up2]
  · show h3.AR pi i = none
    rw [(N23.1 pi (by rw [p2.1]; decide)).2.2.2.1]; exact p2.2.2.1 i
  · simp only [R_sI, R_sR, up2, Nat.reduceEqDiff, if_false]; exact q3.2.2
  · simp [I_sI, up2]
  · simp [I_sI, up2]
  · simp only [I_sI, I_sR, up2, if_neg (show ¬ f = 303 by omega), if_neg (show ¬ f = 304 by omega)]
    rw [(i3 f).1, i2 f]
    subst hh1
    simp only [I_sI, up2, if_neg (show ¬ f = 300 by omega)]
    exact hz f f1 f2
set_option maxHeartbeats 1000000 in
theorem ct5_init {t bl bu U me ro : Nat} (ht : h.K t = 6) (hb : BlS h bl bu U) (hU : U ≤ 3000) : CtV mX5_init 2 2 (2 * U) [va_rf (some t), va_rf (some bl), va_rf (some me), va_rf (some ro)] h (fun h' => ∃ rc lo, h.K rc = 0 ∧ h.K lo = 0 ∧ ¬ rc = lo ∧ (h'.K t = 6 ∧ h'.R 500 t = some bl ∧ h'.R 501 t = some me ∧ h'.R 502 t = some ro ∧ h'.R 503 t = some rc ∧ h'.K rc = 13 ∧ h'.N rc = U ∧ h'.R 504 t = some lo ∧ h'.K lo = 13 ∧ h'.N lo = U) ∧ h'.I 506 t = h.I 506 t ∧ Nf t h h') := by
  have hcl : (nI U).toNatClampNeg = U := nI_clamp (by omega)
  refine enX5_init (fun X C => sgX5_init_0 C (by decide) ht hb.1 hb.2.1 hb.2.2.1 ?_)
  rw [hb.2.2.2]
  generalize hh1 : ((h.sR 500 t (some bl)).sR 501 t (some me)).sR 502 t (some ro) = h1
  have N01 : Nf t h h1 := by subst hh1; exact ((Nf.sR t _ _).trans (Nf.sR t _ _)).trans (Nf.sR t _ _)
  have k1 : h1.K = h.K ∧ h1.I = h.I := by subst hh1; exact ⟨rfl, rfl⟩
  have r1 : h1.R 500 t = some bl ∧ h1.R 501 t = some me ∧ h1.R 502 t = some ro := by subst hh1; simp [R_sR, up2]
  have kt1 : h1.K t = 6 := by rw [k1.1]; exact ht
  refine nwX5_init_25 C (nI_pos (by omega)) (by rw [hcl]; omega) (by decide) (by rw [hcl]; omega) (fun rc hrc => ?_)
  rw [hcl]
  have htr : ¬ t = rc := fun e => by rw [e, hrc] at kt1; cases kt1
  have htb : ¬ bl = t := fun e => by have := hb.1; rw [e, ht] at this; cases this
  have kbl1 : ¬ h1.K bl = 0 := by rw [k1.1, hb.1]; decide
  have kbu1 : ¬ h1.K bu = 0 := by rw [k1.1, hb.2.2.1]; decide
  have kbl : ¬ h.K bl = 0 := by rw [hb.1]; decide
  have kbu : ¬ h.K bu = 0 := by rw [hb.2.2.1]; decide
  have N12 : Nf t h1 (h1.nw rc 13 U) := Nf.nw t h1 hrc
  have hrc0 : h.K rc = 0 := by rw [← k1.1]; exact hrc
  refine sgX5_init_28 C (by simp [K_nw, htr, kt1]) ((N12.1 bl kbl1).1.trans (by rw [k1.1]; exact hb.1)) ((N12.2 100 bl kbl1 htb).2.trans ((N01.2 100 bl kbl htb).2.trans hb.2.1)) ((N12.1 bu kbu1).1.trans (by rw [k1.1]; exact hb.2.2.1)) ?_
  have eN : (h1.nw rc 13 U).N bu = U := (N12.1 bu kbu1).2.1.trans ((N01.1 bu kbu).2.1.trans hb.2.2.2)
  rw [eN]
  generalize hh2 : (h1.nw rc 13 U).sR 503 t (some rc) = h2
  have N13 : Nf t h1 h2 := by subst hh2; exact N12.trans (Nf.sR t _ _)
  have p2 : h2.K rc = 13 ∧ h2.N rc = U ∧ h2.R 503 t = some rc ∧ h2.R 500 t = some bl ∧ h2.R 501 t = some me ∧ h2.R 502 t = some ro ∧ h2.K t = 6 ∧ h2.I 506 t = h.I 506 t := by
    subst hh2
    refine ⟨by simp [K_sR, K_nw], by simp [N_sR, N_nw], by simp [R_sR, up2], ?_, ?_, ?_, by simp [K_sR, K_nw, htr, kt1], ?_⟩
    · simp only [R_sR, R_nw, up2, Nat.reduceEqDiff, if_false, if_neg htr]; exact r1.1
    · simp only [R_sR, R_nw, up2, Nat.reduceEqDiff, if_false, if_neg htr]; exact r1.2.1
    · simp only [R_sR, R_nw, up2, Nat.reduceEqDiff, if_false, if_neg htr]; exact r1.2.2
    · simp only [I_sR, I_nw, if_neg htr]; rw [k1.2]
  refine nwX5_init_37 C (nI_pos (by omega)) (by rw [hcl]; omega) (by decide) (by rw [hcl]; omega) (fun lo hlo => ?_)
  rw [hcl]
  have htl : ¬ t = lo := fun e => by rw [e, hlo] at p2; exact absurd p2.2.2.2.2.2.2.1 (by decide)
  have hrl : ¬ rc = lo := fun e => by rw [e, hlo] at p2; exact absurd p2.1 (by decide)
  have hlo0 : h.K lo = 0 := by
    by_cases h0 : h.K lo = 0
    · exact h0
    · have := ((N01.trans N13).1 lo h0).1
      rw [hlo] at this
      exact this.symm
  refine sgX5_init_40 C (by decide) (by omega) (by simp [K_nw, htl, p2]) ⟨rc, lo, hrc0, hlo0, hrl, ⟨?_, ?_, ?_, ?_, ?_, ?_, ?_, ?_, ?_, ?_⟩, ?_, ((N01.trans N13).trans (Nf.nw t _ hlo)).trans (Nf.sR t _ _)⟩
  · simp [K_sR, K_nw, htl, p2]
  · simp only [R_sR, R_nw, up2, Nat.reduceEqDiff, if_false, if_neg htl]; exact p2.2.2.2.1
  · simp only [R_sR, R_nw, up2, Nat.reduceEqDiff, if_false, if_neg htl]; exact p2.2.2.2.2.1
  · simp only [R_sR, R_nw, up2, Nat.reduceEqDiff, if_false, if_neg htl]; exact p2.2.2.2.2.2.1
  · simp only [R_sR, R_nw, up2, Nat.reduceEqDiff, if_false, if_neg htl]; exact p2.2.2.1
  · simp [K_sR, K_nw, hrl, p2]
  · simp [N_sR, N_nw, hrl, p2]
  · simp [R_sR, up2]
  · simp [K_sR, K_nw]
  · simp [N_sR, N_nw]
  · simp only [I_sR, I_nw, if_neg htl]; exact p2.2.2.2.2.2.2.2
end C20
