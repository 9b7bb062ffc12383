/-! a block is given -/
section C12
variable {h : Hp} {ch pi W : Nat} {kn : Nat → Nat}
set_option maxHeartbeats 1000000 in
theorem ct3_find0 {s : St} {c : Nat} (hR : CkS h ch pi W kn s) (hI : SInv W s) (hc4 : 4 ≤ c) (hc : c ≤ 4000) (h4 : c % 4 = 0) (hn : (sFind W s c).1 = none) :
    CtI mX3_find 4 0 0 [va_rf (some ch), .int (nI c)] h (fun y h' => y = -1 ∧ h' = h) := by
  obtain ⟨B, F, top, hi, spl, jn, gone⟩ := s
  have hR : CkF h ch pi W kn F top hi spl jn := hR
  obtain ⟨hg0, hI1, hI2, hI3⟩ := id hI
  simp only at hg0 hI1 hI2
  have hF : FG F := FG.of hg0 (by omega)
  obtain ⟨hS, hP, ⟨G, hG, hC⟩, r3, r4, r5, r6, r7, r8⟩ := id hR
  obtain ⟨s1, s2, s3, s4, s5, s6, s7, s8⟩ := id hS
  have hsf : sFits F c = none ∧ ¬ c ≤ W - top := by
    unfold sFind at hn
    simp only at hn
    cases hq : sFits F c with
    | none =>
      rw [hq] at hn
      simp only at hn
      split at hn
      · cases hn
      · rename_i hno; exact ⟨rfl, hno⟩
    | some q =>
      rw [hq] at hn
      simp only at hn
      split at hn <;> cases hn
  have hbs : bestS F c F.length = none := by
    have := hsf.1
    unfold sFits at this
    cases hq : bestS F c F.length with
    | none => rfl
    | some q => rw [hq] at this; cases this
  have hbg : bestG F c F.length = none := by
    have := hsf.1
    unfold sFits at this
    rw [hbs] at this
    exact this
  refine enX3_find (fun X C => sgX3_find_0 C ?_)
  refine clX3_find_2 C (ct3_takeFromPiles hS (P := pile F) hP hc) s1 (by decide) (Nat.zero_le _) (Nat.zero_le _) (Nat.le_of_ble_eq_true rfl) (fun o h1 hp => ?_)
  rcases hp with ⟨e1, e2, e3⟩ | ⟨k, p, l, e1, e2, e3, e4, e5, e6⟩
  · subst e1; subst e2
    refine sgX3_find_5 C (by decide) (by decide) (fun z hz => by cases hz) (fun z hz => by cases hz) s1 (fun z hz => by cases hz) (fun z hz => by cases hz) (fun z hz => by cases hz) (fun _ => ?_)
    have hGz : ∀ q, q ∈ G → q.2 < 2147483648 := fun q hq => by
      have := hF.1 q ((hG.2 q).mp hq).1; omega
    refine clX3_find_12 C (ct3_takeGreat hS hG.1 hC hGz hc) s1 (by decide) (Nat.zero_le _) (Nat.zero_le _) (Nat.le_of_ble_eq_true rfl) (fun o h2 hp => ?_)
    rcases hp with ⟨e1, e2, e4⟩ | ⟨G1, p, G2, y, e1, e2, e4, e5, e6, e7, e8⟩
    · subst e1; subst e2
      refine sgX3_find_15 C (by decide) (by decide) (fun z hz => by cases hz) (fun z hz => by cases hz) s1 (fun z hz => by cases hz) (fun z hz => by cases hz) (fun z hz => by cases hz) (fun _ => ?_)
      refine clX3_find_22 C (ct3_takeFromTop hS r3 r4 hc hI3 (by omega) (by omega)) s1 (by decide) (Nat.zero_le _) (Nat.zero_le _) (Nat.le_of_ble_eq_true rfl) (fun y h3 hp => ?_)
      refine sgX3_find_25 C (by decide) (by decide) ?_
      rcases hp with ⟨f1, f2, f3⟩ | ⟨f1, f2, f3⟩
      · exact absurd f1 hsf.2
      · exact ⟨f2, f3⟩
    · exfalso
      obtain ⟨T1, T2, t1, t2, -⟩ := e2
      obtain ⟨hpF, h64⟩ := (hG.2 p).mp (by rw [e1]; simp)
      obtain ⟨i, hi2, hip⟩ := mem_gat hpF
      exact (bestG_sp F c F.length).2 hbg i hi2 (by rw [hip]; exact ⟨t2, h64⟩)
  · exfalso
    have hpm : p ∈ pile F k := by rw [e4]; simp
    obtain ⟨hpF, hp4⟩ := mem_pile.mp hpm
    obtain ⟨i, hi2, hip⟩ := mem_gat hpF
    exact (bestS_sp F c F.length).2 hbs i hi2 (by rw [hip]; omega)
end C12
theorem sFind_big {W : Nat} {s : St} {c : Nat} (hI : SInv W s) (hc : W < c) : sFind W s c = (none, s) := by
  obtain ⟨B, F, top, hi, spl, jn, gone⟩ := s
  have hfb := hI.1.1
  have hI2 := hI.2
  simp only at hfb hI2
  have hf : sFits F c = none := by
    cases hq : sFits F c with
    | none => rfl
    | some q =>
      exfalso
      obtain ⟨h1, h2⟩ := sFits_ge hq
      have := hfb (gat F q) (List.mem_append_right _ (FG.gat_mem h1))
      omega
  simp only [sFind, hf]
  rw [if_neg (by omega)]
theorem sLoop_big {W c c' : Nat} (hc : W < c) (hc' : W < c') : ∀ (k : Nat) (s : St), SInv W s → sLoop W c k s = sLoop W c' k s
  | 0, s, _ => rfl
  | k + 1, s, hI => by
    rw [sLoop, sLoop]
    cases hg : sGo s with
    | none => rfl
    | some s1 =>
      have hI1 := (geo_go hI hg).1
      simp only
      rw [sFind_big hI1 hc, sFind_big hI1 hc']
      exact sLoop_big hc hc' k s1 hI1
/-- the size that the class asks for -/
def cC (W N r : Nat) : Nat := ((if N ≤ W then N else W) + 2 * r + 3) / 4 * 4
theorem cC_4 {W N r : Nat} (hW : W ≤ 3000) (hr : 1 ≤ r ∧ r ≤ 8) (hN : 1 ≤ N) (h1 : 1 ≤ W) : 4 ≤ cC W N r ∧ cC W N r ≤ 4000 ∧ cC W N r % 4 = 0 := by
  unfold cC
  split <;> omega
theorem cC_eq {W N r : Nat} (hW : W ≤ 3000) (hr : 1 ≤ r ∧ r ≤ 8) (h : N ≤ W) : cC W N r = cN N r := by
  unfold cC cN
  rw [if_pos h, if_pos (by omega)]
theorem seek_eq {W N r : Nat} {s : St} (hI : SInv W s) (hr : 1 ≤ r ∧ r ≤ 8) : sSeek W (cC W N r) s = sSeek W (cN N r) s := by
  have hW := hI.2.2.2
  by_cases h : N ≤ W
  · rw [cC_eq hW hr h]
  · have h1 : W < cC W N r := by unfold cC; rw [if_neg h]; omega
    have h2 : W < cN N r := by unfold cN; split <;> omega
    unfold sSeek
    rw [sFind_big hI h1, sFind_big hI h2]
    exact sLoop_big h1 h2 _ s hI
section C12b
variable {h : Hp} {x : Nat} {E : Nat → Nat} {W r c : Nat} {s : St} {nd kn : Nat → Nat} {g f : Nat}
theorem ct8_needed (hX : XS h x E W r c) (hW : W ≤ 3000) (hr : 1 ≤ r ∧ r ≤ 8) {N : Nat} (hN : N < 2147483648) : CtI mX8_needed 2 0 0 [va_rf (some x), .int (nI N)] h (fun y h' => h' = h ∧ y = nI (cC W N r)) := by
  obtain ⟨x1, x2, x3, x4, ⟨m1, m2, m3, m4⟩, -⟩ := hX
  refine enX8_needed (fun X C => sgX8_needed_0 C x1 (x2 800 (by decide)) m1 m2 m3 ?_)
  rw [m4]
  refine clX8_needed_9 C (ctJ_min (nI N) (nI W)) (by decide) (Nat.zero_le _) (Nat.zero_le _) (Nat.le_of_ble_eq_true rfl) (fun y h' ⟨e1, e2⟩ => ?_)
  subst e1
  have e3 : y = nI (if N ≤ W then N else W) := by
    rw [e2]
    by_cases hc : N ≤ W
    · rw [if_pos hc, if_neg (by rw [nI_ltI (by omega) hN]; omega)]
    · rw [if_neg hc, if_pos (by rw [nI_ltI (by omega) hN]; omega)]
  subst e3
  refine sgX8_needed_12 C (Nat.le_refl _) (Nat.le_refl _) x1 ⟨rfl, ?_⟩
  rw [x3, show (2 : Int32) = nI 2 from rfl, pk_mul, nI_add, show (4 : Int32) = nI 4 from rfl, nI_add, show (1 : Int32) = nI 1 from rfl, pk_sub (by omega), pk_div (by split <;> omega) (by decide) (by decide), pk_mul]
  unfold cC
  congr 1
theorem CC.find {h1 : Hp} {s' : St} {kn' : Nat → Nat} (hC : CC h x E W r c s nd kn g f) (hG : GB W s.1) (hF : Fc h h1) (hK : CkS h1 (E 803) (E 301) W kn' s') (e1 : s'.1 = s.1) (e2 : s'.2.2.2.2.2.2 = s.2.2.2.2.2.2) : CC h1 x E W r c s' nd kn' g f := by
  obtain ⟨hX, hB, hQ, -, n9, n10, n11, n12⟩ := hC
  have kx : ¬ h.K x = 0 := by rw [hX.1]; decide
  refine ⟨hX.fr (Ag.fc hF (fun f hf => by simp only [stf] at hf; simp only [ckf]; omega)), ?_, ?_, hK, (hF.2 809 x (by simp [ckf]) kx).1.trans n9, (hF.2 810 x (by simp [ckf]) kx).1.trans n10, ?_, ?_⟩
  · rw [e1]
    refine hB.fr (Ag.fc hF (fun f hf => by simp only [ckf]; omega)) ?_
    exact (hF.1 _ (by rw [hX.2.2.2.2.2.1.2.2.1]; decide)).2.2.2.2 (by rw [hX.2.2.2.2.2.1.2.2.1]; decide)
  · rw [e1]
    refine hQ.fr (Ag.fc hF (fun f hf => by simp only [ckf]; omega)) (by rw [hX.2.2.2.2.2.2.2.1]; decide) (fun y hy => ?_)
    rw [(((bk_iff hG).mp hB).1 y hy).1]; decide
  · rw [(hF.2 811 x (by simp [ckf]) kx).1, e2]; exact n11
  · rw [(hF.2 812 x (by simp [ckf]) kx).1, e1]; exact n12
def gvC (h : Hp) (x : Nat) (E : Nat → Nat) (W r c : Nat) (s : St) (nd : Nat → Nat) (g f N : Nat) (o : Option Nat) (h' : Hp) : Prop :=
  (∃ s' kn', sSeek W (cN N r) s = (none, s') ∧ o = none ∧ CC h' x E W r c s' nd kn' g f ∧ Cf (E 600) (E 100) h h' ∧ h'.AI (E 600) = h.AI (E 600)) ∨
  (∃ a s' q kn', sSeek W (cN N r) s = (some a, s') ∧ o = some q ∧ SInv W (s'.1 ++ [(a, cN N r, N, g, 0)], s'.2) ∧ a + r + N ≤ W ∧ N + 2 * r ≤ cN N r ∧ CC h' x E W r c (s'.1 ++ [(a, cN N r, N, g, 0)], s'.2) (up1 nd a q) kn' (g + 1) f ∧ Cf (E 600) (E 100) h h' ∧ h'.AI (E 600) = fun i => if a + r ≤ i ∧ i < a + r + N then 0 else h.AI (E 600) i)
set_option maxHeartbeats 1000000 in
theorem ct8_give {mc ms : Nat} (hC : CC h x E W r c s nd kn g f) (hI : SInv W s) (hW : 1 ≤ W) (hr : 1 ≤ r ∧ r ≤ 8) {N : Nat} (hN : 1 ≤ N ∧ N < 2147483648) (hmc : (Bw s.1).length + 2 ≤ mc) (hms : 3 * (Bw s.1).length + 12 ≤ ms) :
    CtR mX8_give 5 mc ms [va_rf (some x), .int (nI N)] h (gvC h x E W r c s nd g f N) := by
  have hW3 := hI.2.2.2
  obtain ⟨c4, c40, c44⟩ := cC_4 (W := W) (N := N) (r := r) hW3 hr hN.1 hW
  have hsk := seek_eq (N := N) hI hr
  obtain ⟨x1, x2, -⟩ := id hC.1
  refine enX8_give (fun X C => sgX8_give_0 C ?_)
  refine clX8_give_2 C (ct8_needed hC.1 hW3 hr hN.2) x1 (by decide) (Nat.zero_le _) (Nat.zero_le _) (Nat.le_of_ble_eq_true rfl) (fun y h' ⟨e1, e2⟩ => ?_)
  subst e1; subst e2
  refine sgX8_give_5 C x1 ?_
  rw [x2 803 (by decide)]
  -- what follows a place
  have fill : ∀ (a : Nat) (s1 : St) (kn1 : Nat → Nat) (h1 : Hp) (cells slots : Nat) (l4 : Int32), sSeek W (cC W N r) s = (some a, s1) → CC h1 x E W r c s1 nd kn1 g f → GB W s1.1 → Cf (E 600) (E 100) h' h1 → h1.AI (E 600) = h'.AI (E 600) → cells + 1 ≤ mc → slots + 9 ≤ ms →
      At X cells slots 60 [some (va_rf (some x)), some (.int (nI N)), some (.int (nI (cC W N r))), some (.int (nI a)), some (.int l4)] [] h1 := by
    intro a s1 kn1 h1 cells slots l4 hsk1 hC1 hG1 hcf1 hAI1 hmc1 hms1
    have hfn := (sSeek_ok c44 c4 hI hsk1).2 a rfl
    obtain ⟨hgeo, ht1, ht2⟩ := hfn
    obtain ⟨a1, a2, a3, a4, a5⟩ := hgeo.1 (a, cC W N r) List.mem_cons_self
    simp only at a1 a2 a3 a4 a5
    have hNW : N ≤ W := by
      by_cases hh : N ≤ W
      · exact hh
      · exfalso
        have : W < cC W N r := by unfold cC; rw [if_neg hh]; omega
        omega
    have hceq := cC_eq hW3 hr hNW
    have hNc : N + 2 * r ≤ cC W N r := by unfold cC; rw [if_pos hNW]; omega
    obtain ⟨hX1, hB1, hQ1, hK1, n9, n10, n11, n12⟩ := id hC1
    obtain ⟨y1, y2, y3, y4, ym, yb, yf, y5, y6, y7, y12, -, -, y9⟩ := id hX1
    have hBm := (bk_iff hG1).mp hB1
    refine nwX8_give_60 C hmc1 hms1 (fun q hq => ?_)
    have ne : ∀ z, ¬ h1.K z = 0 → ¬ z = q := fun z hz e => hz (by rw [e]; exact hq)
    have k1x : ¬ h1.K x = 0 := by rw [y1]; decide
    have nxq := ne x k1x
    have knx : (h1.nw q 1 0).K x = 9 := by simp [K_nw, nxq, y1]
    refine sgX8_give_63 C knx ?_
    have e809 : (h1.nw q 1 0).I 809 x = nI g := by simp [I_nw, nxq, n9]
    have e801 : (h1.nw q 1 0).I 801 x = nI r := by simp [I_nw, nxq, y3]
    rw [e809, e801, nI_add]
    refine clX8_give_77 C (ct0_init (h := h1.nw q 1 0) (q := q) (by simp [K_nw]) _ _ _ _ _) (by decide) hmc1 hms1 (Nat.le_of_ble_eq_true rfl) (fun h2 e2 => ?_)
    have h2old : ∀ z, ¬ h1.K z = 0 → h2.K z = h1.K z ∧ h2.N z = h1.N z ∧ h2.AI z = h1.AI z ∧ h2.AR z = h1.AR z ∧ h2.AL z = h1.AL z ∧ ∀ f, h2.I f z = h1.I f z ∧ h2.R f z = h1.R f z := fun z hz => by
      have := ne z hz
      subst e2
      refine ⟨by simp [K_sI, K_nw, this], by simp [N_sI, N_nw, this], by simp [AI_sI, AI_nw, this], by simp [AR_sI, AR_nw, this], by simp [AL_sI, AL_nw, this], fun f => ⟨by simp [I_sI, I_nw, up2, this], by simp [R_sI, R_nw, this]⟩⟩
    have h2q : h2.K q = 1 ∧ h2.I 0 q = nI a ∧ h2.I 1 q = nI (cC W N r) ∧ h2.I 2 q = nI (a + r) ∧ h2.I 3 q = nI N ∧ h2.I 4 q = nI g ∧ h2.I 5 q = 1 ∧ h2.R 8 q = none := by
      subst e2
      simp [K_sI, K_nw, I_sI, R_sI, R_nw, up2]
    have hx2 := h2old x k1x
    refine sgX8_give_80 C (hx2.1.trans y1) h2q.1 ?_
    rw [h2q.2.2.2.1, (hx2.2.2.2.2.2 800).2, y2 800 (by decide), (hx2.2.2.2.2.2 809).1, (hx2.2.2.2.2.2 812).1, n9, n12, nI_1, nI_add]
    generalize hh3 : (h2.sI 809 x (nI (g + 1))).sI 812 x (nI (lnB (Bl s1.1) + N)) = h3
    have h3r : h3.K = h2.K ∧ h3.N = h2.N ∧ h3.R = h2.R ∧ h3.AI = h2.AI ∧ h3.AR = h2.AR ∧ h3.AL = h2.AL := by subst hh3; exact ⟨rfl, rfl, rfl, rfl, rfl, rfl⟩
    have h3I : ∀ f z, ¬ f = 809 → ¬ f = 812 → h3.I f z = h2.I f z := fun f z f1 f2 => by subst hh3; simp [I_sI, up2, f1, f2]
    have A13 : Ag (fun f => ¬ f = 809 ∧ ¬ f = 812) h1 h3 := ⟨fun z hz => by rw [h3r.1, h3r.2.1]; exact ⟨(h2old z hz).1, (h2old z hz).2.1⟩, fun f z hf hz => by rw [h3I f z hf.1 hf.2, h3r.2.2.1]; exact (h2old z hz).2.2.2.2.2 f⟩
    have hX3 : XS h3 x E W r c := hX1.fr (A13.up (fun f hf => by simp only [stf] at hf; omega))
    refine clX8_give_112 C (ct6_clear hX3.2.2.2.2.1 (by omega) (a := a + r) (N := N) (by omega)) hX3.2.2.2.2.1.1 (by decide) (by omega) (by omega) (Nat.le_of_ble_eq_true rfl) (fun h4 e4 => ?_)
    have hX4 : XS h4 x E W r c := hX3.fr (by subst e4; exact ⟨fun _ _ => ⟨rfl, rfl⟩, fun _ _ _ _ => ⟨rfl, rfl⟩⟩)
    refine sgX8_give_115 C hX4.1 ?_
    rw [hX4.2.1 804 (by decide)]
    have e40 : h4.I 0 q = nI (4 * ((a - 1) / 4) + 1) := by
      subst e4
      rw [I_wAI, h3I 0 q (by decide) (by decide), h2q.2.1]; congr 1; omega
    have e41 : h4.I 1 q = nI (4 * (cC W N r / 4)) := by
      subst e4
      rw [I_wAI, h3I 1 q (by decide) (by decide), h2q.2.2.1]; congr 1; omega
    have k4q : h4.K q = 1 := by subst e4; rw [K_wAI, h3r.1]; exact h2q.1
    refine clX8_give_121 C (ct1_enter hX4.2.2.2.2.2.1 (by omega) k4q e40 e41 (by omega)) hX4.2.2.2.2.2.1.1 (by decide) (by omega) (by omega) (Nat.le_of_ble_eq_true rfl) (fun h5 e5 => ?_)
    refine sgX8_give_124 C (by omega) (by omega) (Or.inr ⟨a, s1, q, kn1, by rw [← hsk]; exact hsk1, rfl, ?_⟩)
    rw [← hceq]
    have hI5 : SInv W (s1.1 ++ [(a, cC W N r, N, g, 0)], s1.2) := by
      refine ⟨?_, ht1, ht2, hW3⟩
      show Geo (chB (s1.1 ++ [(a, cC W N r, N, g, 0)]) ++ s1.2.1) s1.2.2.1
      refine hgeo.perm ?_
      have : chB (s1.1 ++ [(a, cC W N r, N, g, 0)]) = chB s1.1 ++ [(a, cC W N r)] := by simp [chB]
      rw [this, List.append_assoc]
      exact List.perm_middle.symm
    have hG5 : GB W (s1.1 ++ [(a, cC W N r, N, g, 0)]) := hI5.gb
    have h5r : h5.K = h2.K ∧ h5.N = h2.N ∧ h5.R = h2.R ∧ h5.AL = h2.AL ∧ ∀ f z, ¬ f = 809 → ¬ f = 812 → h5.I f z = h2.I f z := by
      subst e5; subst e4
      exact ⟨h3r.1, h3r.2.1, h3r.2.2.1, h3r.2.2.2.2.2, h3I⟩
    have A15 : Ag (fun f => ¬ f = 809 ∧ ¬ f = 812) h1 h5 := A13.trans (by subst e5; subst e4; exact ⟨fun _ _ => ⟨rfl, rfl⟩, fun _ _ _ _ => ⟨rfl, rfl⟩⟩)
    have e5AR : ∀ u, h5.AR (E 100) u = if (a - 1) / 4 ≤ u ∧ u < (a - 1) / 4 + cC W N r / 4 then some q else h1.AR (E 100) u := fun u => by
      subst e5; subst e4
      rw [AR_wAR]
      simp only [if_true, AR_wAI]
      rw [h3r.2.2.2.2.1, (h2old (E 100) (by rw [yb.2.2.1]; decide)).2.2.2.1]
    have e5PI : h5.AR (E 301) = h1.AR (E 301) := by
      subst e5; subst e4
      rw [AR_wAR]
      simp only [if_neg hC1.pi13, AR_wAI]
      rw [h3r.2.2.2.2.1, (h2old (E 301) (by rw [hK1.1.2.2.1]; decide)).2.2.2.1]
    have e5AI : h5.AI (E 600) = fun i => if a + r ≤ i ∧ i < a + r + N then 0 else h'.AI (E 600) i := by
      subst e5; subst e4
      rw [AI_wAR, AI_wAI]
      simp only [if_true]
      rw [h3r.2.2.2.1, (h2old (E 600) (by rw [ym.2.2.1]; decide)).2.2.1, hAI1]
    have hcf5 : Cf (E 600) (E 100) h1 h5 := by
      refine ⟨fun z hz => ?_, fun f z hf hz => ?_⟩
      · obtain ⟨o1, o2, o3, o4, o5, o6⟩ := h2old z hz
        refine ⟨by rw [h5r.1]; exact o1, by rw [h5r.2.1]; exact o2, by rw [h5r.2.2.2.1]; exact o5, fun hn => ?_, fun hn h14 => ?_⟩
        · subst e5; subst e4
          rw [AI_wAR, AI_wAI]
          simp only [if_neg hn]
          rw [h3r.2.2.2.1]; exact o3
        · subst e5; subst e4
          rw [AR_wAR]
          simp only [if_neg hn, AR_wAI]
          rw [h3r.2.2.2.2.1]; exact o4
      · have f1 : ¬ f = 809 := fun e => hf (by simp [corf, e])
        have f2 : ¬ f = 812 := fun e => hf (by simp [corf, e])
        exact A15.2 f z ⟨f1, f2⟩ hz
    have hna : ∀ y, y ∈ s1.1 → ¬ y.1 = a := fun y hy e => by
      obtain ⟨j, hj, rfl⟩ := mem_bat hy
      have hd : dj (a, cC W N r) ((bat s1.1 j).1, (bat s1.1 j).2.1) := (List.pairwise_cons.mp hgeo.2.1).1 _ (List.mem_append_left _ (List.mem_of_getElem? (chB_get hj)))
      have hyg := hG1.1 j hj
      simp only [dj] at hd
      omega
    have ndo : ∀ y, y ∈ s1.1 → up1 nd a q y.1 = nd y.1 := fun y hy => up1_n _ _ (hna y hy)
    have nda : up1 nd a q a = q := up1_s _ _ _
    refine ⟨hI5, by omega, by omega, ⟨hX1.fr (A15.up (fun f hf => by simp only [stf] at hf; omega)), ?_, ?_, ?_, ?_, ?_, ?_, ?_⟩, hcf1.trans hcf5, e5AI⟩
    · rw [bk_iff hG5]
      refine ⟨fun y hy => ?_, fun u hu z => ?_⟩
      · rcases List.mem_append.mp hy with hy | hy
        · rw [ndo y hy]
          exact (hBm.1 y hy).fr (A15.up (fun f hf => by omega))
        · simp at hy
          subst hy
          show NdR h5 (up1 nd a q a) _ r
          rw [nda]
          obtain ⟨v1, v2, v3, v4, v5, v6, v7, v8⟩ := h2q
          have hI5q := fun f f1 f2 => h5r.2.2.2.2 f q f1 f2
          exact ⟨by rw [h5r.1]; exact v1, by rw [hI5q 0 (by decide) (by decide)]; exact v2, by rw [hI5q 1 (by decide) (by decide)]; exact v3, by rw [hI5q 2 (by decide) (by decide)]; exact v4, by rw [hI5q 3 (by decide) (by decide)]; exact v5, by rw [hI5q 4 (by decide) (by decide)]; exact v6, by rw [hI5q 5 (by decide) (by decide)]; exact v7⟩
      · rw [e5AR u]
        constructor
        · intro hz
          split at hz
          · rename_i hin
            cases hz
            exact ⟨(a, cC W N r, N, g, 0), by simp, by simp only; omega, by simp only; omega, nda.symm⟩
          · obtain ⟨y, hy, z1, z2, z3⟩ := (hBm.2 u hu z).mp hz
            exact ⟨y, List.mem_append_left _ hy, z1, z2, by rw [ndo y hy]; exact z3⟩
        · rintro ⟨y, hy, z1, z2, z3⟩
          rcases List.mem_append.mp hy with hy | hy
          · have hd : dj (a, cC W N r) (y.1, y.2.1) := by
              obtain ⟨j, hj, rfl⟩ := mem_bat hy
              exact (List.pairwise_cons.mp hgeo.2.1).1 _ (List.mem_append_left _ (List.mem_of_getElem? (chB_get hj)))
            have hyg := hG1.mem hy
            rw [if_neg (by simp only [dj] at hd; omega)]
            exact (hBm.2 u hu z).mpr ⟨y, hy, z1, z2, by rw [← ndo y hy]; exact z3⟩
          · simp at hy
            subst hy
            simp only at z1 z2 z3
            rw [if_pos (by omega), z3, nda]
    · obtain ⟨⟨Q, p1, p2, p3, p4, p5⟩, p6⟩ := hQ1
      have kq : ¬ h1.K (E 805) = 0 := by rw [y5]; decide
      have hQB : ∀ y, y ∈ Q → y ∈ s1.1 := fun y hy => ((p1.mem y).mp hy).1
      have r8 : ∀ y, y ∈ s1.1 → h5.R 8 (nd y.1) = h1.R 8 (nd y.1) := fun y hy => (A15.2 8 _ (by decide) (by rw [(hBm.1 y hy).1]; decide)).2
      have qn : ∀ (l : List Blk) (o : Option Nat), (∀ y, y ∈ l → y ∈ s1.1) → Qn h1 nd o l → Qn h5 (up1 nd a q) o l := by
        intro l
        induction l with
        | nil => intro o _ hc; exact hc
        | cons y l ih =>
          intro o hl hc
          have hy := hl y List.mem_cons_self
          refine ⟨by rw [ndo y hy]; exact hc.1, ?_⟩
          rw [ndo y hy, r8 y hy]
          exact ih _ (fun z hz => hl z (List.mem_cons_of_mem _ hz)) hc.2
      refine ⟨⟨Q, ⟨p1.1, ?_⟩, ?_, ?_, (A15.2 702 _ (by decide) kq).1.trans p4, (A15.2 703 _ (by decide) kq).1.trans p5⟩, fun y hy h0 => ?_⟩
      · have : Bw (s1.1 ++ [(a, cC W N r, N, g, 0)]) = Bw s1.1 := by simp [Bw, List.filter_append, wtg]
        show Q.Perm (Bw (s1.1 ++ [(a, cC W N r, N, g, 0)]))
        rw [this]; exact p1.2
      · rw [(A15.2 700 _ (by decide) kq).2]
        exact qn Q _ hQB p2
      · rw [(A15.2 701 _ (by decide) kq).2, p3]
        cases hql : Q.getLast? with
        | none => rfl
        | some y =>
          have hy := hQB y (List.mem_of_getLast? hql)
          simp only [Option.map_some]
          rw [ndo y hy]
      · rcases List.mem_append.mp hy with hy | hy
        · rw [ndo y hy, r8 y hy]; exact p6 y hy h0
        · simp at hy
          subst hy
          show h5.R 8 (up1 nd a q a) = none
          rw [nda, h5r.2.2.1]; exact h2q.2.2.2.2.2.2.2
    · exact CkS.fr (s := (s1.1 ++ [(a, cC W N r, N, g, 0)], s1.2)) hK1 (A15.up (fun f hf => by omega)) e5PI
    · subst e5; subst e4; subst hh3; simp [I_wAR, I_wAI, I_sI, up2]
    · rw [(A15.2 810 x (by decide) k1x).1]; exact n10
    · rw [(A15.2 811 x (by decide) k1x).1]; exact n11
    · have : Bl (s1.1 ++ [(a, cC W N r, N, g, 0)]) = Bl s1.1 ++ [(a, cC W N r, N, g, 0)] := by simp [Bl, List.filter_append, wtg]
      show h5.I 812 x = nI (lnB (Bl (s1.1 ++ [(a, cC W N r, N, g, 0)])))
      rw [this]
      have e9 : lnB (Bl s1.1 ++ [(a, cC W N r, N, g, 0)]) = lnB (Bl s1.1) + N := by simp [lnB]
      rw [e9]
      subst e5; subst e4; subst hh3; simp [I_wAR, I_wAI, I_sI, up2]
  -- the walk through the queue
  have loop : ∀ (k : Nat) (s2 : St) (kn2 : Nat → Nat) (h3 : Hp) (cells slots : Nat), s2.1.length < k → CC h3 x E W r c s2 nd kn2 g f → SInv W s2 → Cf (E 600) (E 100) h' h3 → h3.AI (E 600) = h'.AI (E 600) → cells + (Bw s2.1).length + 2 ≤ mc → slots + 3 * (Bw s2.1).length + 12 ≤ ms → sSeek W (cC W N r) s = sLoop W (cC W N r) k s2 →
      At X cells slots 24 [some (va_rf (some x)), some (.int (nI N)), some (.int (nI (cC W N r))), some (.int (-1)), some (.int (nI (Bw s2.1).length))] [] h3 := by
    intro k
    induction k with
    | zero => intro s2 kn2 h3 cells slots hk; omega
    | succ k ih =>
      intro s2 kn2 h3 cells slots hk hC3 hI3 hcf3 hAI3 hmc3 hms3 htr
      rw [sLoop] at htr
      have hbl := hI3.len
      have hlw : (Bw s2.1).length ≤ s2.1.length := List.length_filter_le _ _
      have z1 := hC3.1.1
      refine sgX8_give_24 C (by omega) (by omega) (fun c1 => absurd rfl c1) (fun c1 => absurd rfl c1) (fun _ _ c1 => absurd rfl c1) (fun _ c2 _ => ?_) (fun _ c2 => ?_)
      · have h0 : (Bw s2.1).length = 0 := by
          rw [show (0 : Int32) = nI 0 from rfl, nI_leI (by omega) (by omega)] at c2
          omega
        have hgo : sGo s2 = none := by
          cases hq : sGo s2 with
          | none => rfl
          | some s4 =>
            exfalso
            unfold sGo at hq
            cases hq2 : sLong s2.1 s2.1.length with
            | none => rw [hq2] at hq; cases hq
            | some i =>
              obtain ⟨a1, a2, -⟩ := (sLong_sp s2.1 s2.1.length).1 i hq2
              have : bat s2.1 i ∈ Bw s2.1 := by simp [Bw, wtg, bat_mem a1, a2]
              have := List.length_pos_of_mem this
              omega
        rw [hgo] at htr
        exact Or.inl ⟨s2, kn2, by rw [← hsk, htr], rfl, hC3, hcf3, hAI3⟩
      · refine clX8_give_35 C (ct8_letLongestGo hC3 hI3 hW) z1 (by decide) (by omega) (by omega) (Nat.le_of_ble_eq_true rfl) (fun h4 hp => ?_)
        rcases hp with ⟨g0, g1⟩ | ⟨s4, kn4, g0, g1, g2, g3⟩
        · exfalso
          have hl0 : sLong s2.1 s2.1.length = none := by
            unfold sGo at g0
            cases hq : sLong s2.1 s2.1.length with
            | none => rfl
            | some q => rw [hq] at g0; cases g0
          have hnil : Bw s2.1 = [] := by
            unfold Bw
            rw [List.filter_eq_nil_iff]
            intro b hb
            obtain ⟨i, hi, rfl⟩ := mem_bat hb
            have := (sLong_sp s2.1 s2.1.length).2 hl0 i hi
            simp [wtg, this]
          apply c2
          rw [hnil]; decide
        · rw [g0] at htr
          simp only at htr
          have hg := geo_go hI3 g0
          have hbw4 : (Bw s4.1).length + 1 = (Bw s2.1).length := by
            unfold sGo at g0
            cases hq : sLong s2.1 s2.1.length with
            | none => rw [hq] at g0; cases g0
            | some q =>
              rw [hq] at g0
              cases g0
              obtain ⟨a1, a2, -⟩ := (sLong_sp s2.1 s2.1.length).1 q hq
              have := (Bw_drop a1).length_eq
              rw [show wtg (bat s2.1 q) = true by simp [wtg, a2], if_pos rfl, List.length_cons] at this
              exact this.symm
          have e9 : nI (Bw s2.1).length + (-1) = nI (Bw s4.1).length := by
            rw [← hbw4]; exact pk_m1 _
          refine sgX8_give_38 C g1.1.1 ?_
          rw [g1.1.2.1 803 (by decide)]
          cases hf : sFind W s4 (cC W N r) with
          | mk o s5 =>
            rw [hf] at htr
            cases o with
            | some a =>
              simp only at htr
              have hgf := geo_find hg.1 c44 c4 hf
              refine clX8_give_43 C (ct3_find g1.2.2.2.1 hg.1 c4 c40 c44) g1.2.2.2.1.1.1 (by decide) (by omega) (by omega) (Nat.le_of_ble_eq_true rfl) (fun y h5 ⟨e1, kn5, e2, e3⟩ => ?_)
              rw [hf] at e1 e2
              have e1 : y = nI a := e1
              subst e1
              refine sgX8_give_46 C ?_
              have hGs4 : GB W s4.1 := hg.1.gb
              have haW : a < 2147483648 := by
                have := (hgf.1).1 (a, cC W N r) List.mem_cons_self
                have h9 := hgf.2.2
                simp only at this
                omega
              refine sgX8_give_24 C (by omega) (by omega) (fun _ _ => ?_) (fun c1 c3 => absurd c3 c1) (fun c1 => absurd c1 (nI_m1 haW)) (fun c1 => absurd c1 (nI_m1 haW)) (fun c1 => absurd c1 (nI_m1 haW))
              exact fill a s5 kn5 h5 _ _ _ htr (CC.find g1 hGs4 e3 e2 hgf.2.1 hgf.2.2.2.2) (by rw [hgf.2.1]; exact hGs4) ((hcf3.trans g2).trans (Cf.fc e3)) (((e3.1 _ (by rw [g1.1.2.2.2.2.1.2.2.1]; decide)).2.2.1).trans (g3.trans hAI3)) (by omega) (by omega)
            | none =>
              simp only at htr
              have := geo_find0 hf
              subst this
              refine clX8_give_43 C (ct3_find0 g1.2.2.2.1 hg.1 c4 c40 c44 (by rw [hf])) g1.2.2.2.1.1.1 (by decide) (by omega) (by omega) (Nat.le_of_ble_eq_true rfl) (fun y h5 ⟨e1, e2⟩ => ?_)
              subst e1; subst e2
              refine sgX8_give_46 C ?_
              rw [e9]
              exact ih s5 kn4 h5 _ _ (by omega) g1 hg.1 (hcf3.trans g2) (g3.trans hAI3) (by omega) (by omega) htr
  have hG0 : GB W s.1 := hI.gb
  have hseek : sSeek W (cC W N r) s = _ := rfl
  unfold sSeek at hseek
  have q702 : ∀ h3 s3 kn3, CC h3 x E W r c s3 nd kn3 g f → h3.I 702 (E 805) = nI (Bw s3.1).length := fun h3 s3 kn3 hC3 => by
    obtain ⟨⟨Q, p1, p2, p3, p4, p5⟩, p6⟩ := hC3.2.2.1
    rw [p4, p1.2.length_eq]
  cases hf : sFind W s (cC W N r) with
  | mk o s5 =>
    rw [hf] at hseek
    cases o with
    | some a =>
      have hgf := geo_find hI c44 c4 hf
      refine clX8_give_11 C (ct3_find hC.2.2.2.1 hI c4 c40 c44) hC.2.2.2.1.1.1 (by decide) (by omega) (by omega) (Nat.le_of_ble_eq_true rfl) (fun y h5 ⟨e1, kn5, e2, e3⟩ => ?_)
      rw [hf] at e1 e2
      have e1 : y = nI a := e1
      subst e1
      have hC5 := CC.find hC hG0 e3 e2 hgf.2.1 hgf.2.2.2.2
      refine sgX8_give_14 C hC5.1.1 (hC5.1.2.1 805 (by decide)) hC5.1.2.2.2.2.2.2.2.1 ?_
      have haW : a < 2147483648 := by
        have := (hgf.1).1 (a, cC W N r) List.mem_cons_self
        have h9 := hgf.2.2
        simp only at this
        omega
      refine sgX8_give_24 C (by omega) (by omega) (fun _ _ => ?_) (fun c1 c3 => absurd c3 c1) (fun c1 => absurd c1 (nI_m1 haW)) (fun c1 => absurd c1 (nI_m1 haW)) (fun c1 => absurd c1 (nI_m1 haW))
      refine fill a s5 kn5 h5 _ _ _ (by unfold sSeek; rw [hf]) hC5 (by rw [hgf.2.1]; exact hG0) (Cf.fc e3) ((e3.1 _ (by rw [hC.1.2.2.2.2.1.2.2.1]; decide)).2.2.1) (by omega) (by omega)
    | none =>
      have := geo_find0 hf
      subst this
      refine clX8_give_11 C (ct3_find0 hC.2.2.2.1 hI c4 c40 c44 (by rw [hf])) hC.2.2.2.1.1.1 (by decide) (by omega) (by omega) (Nat.le_of_ble_eq_true rfl) (fun y h5 ⟨e1, e2⟩ => ?_)
      subst e1; subst e2
      refine sgX8_give_14 C x1 (x2 805 (by decide)) hC.1.2.2.2.2.2.2.2.1 ?_
      rw [q702 _ _ _ hC]
      exact loop (s5.1.length + 1) s5 kn h5 _ _ (by omega) hC hI (Cf.rf _ _ _) rfl (by omega) (by omega) (by unfold sSeek; rw [hf])
end C12b
