/-! a new object of the class -/
def Nx (x lo : Nat) (h h' : Hp) : Prop := Nf x h h' ∧ ∀ f, (f < lo ∨ 808 < f) → h'.I f x = h.I f x ∧ h'.R f x = h.R f x
theorem Nx.trans {x lo : Nat} {h h1 h2 : Hp} (a : Nx x lo h h1) (b : Nx x lo h1 h2) : Nx x lo h h2 := ⟨a.1.trans b.1, fun f hf => ⟨(b.2 f hf).1.trans (a.2 f hf).1, (b.2 f hf).2.trans (a.2 f hf).2⟩⟩
theorem Nx.dn {x lo lo' : Nat} {h h1 : Hp} (a : Nx x lo h h1) (hl : lo' ≤ lo) : Nx x lo' h h1 := ⟨a.1, fun f hf => a.2 f (by omega)⟩
theorem Nx.of {x t lo : Nat} {h h1 : Hp} (a : Nf t h h1) (hx : ¬ h.K x = 0) (ht : ¬ x = t) (ht0 : h.K t = 0 ∨ True) (hn : ∀ f b, ¬ h.K b = 0 → ¬ b = x → ¬ b = t ∨ (h1.I f b = h.I f b ∧ h1.R f b = h.R f b)) : Nx x lo h h1 := ⟨⟨a.1, fun f b hb hbx => (hn f b hb hbx).elim (fun hbt => a.2 f b hb hbt) id⟩, fun f _ => a.2 f x hx ht⟩
section C21
variable {h : Hp}
/-- a fresh part: allocated, then built -/
theorem Nx.part {x t k lo : Nat} {h h2 : Hp} (hx : ¬ h.K x = 0) (hq : h.K t = 0) (a : Nf t (h.nw t k 0) h2) : Nx x lo h h2 := by
  have ne : ∀ z, ¬ h.K z = 0 → ¬ z = t := fun z hz e => hz (by rw [e]; exact hq)
  have b : Nf t h h2 := (Nf.nw t h hq).trans a
  exact ⟨b.old hq, fun f _ => b.2 f x hx (ne x hx)⟩
theorem Nx.set {x lo f : Nat} (h : Hp) (v : Option Nat) (hf : lo ≤ f) (hf8 : f ≤ 808) : Nx x lo h (h.sR f x v) := ⟨Nf.sR x h v, fun g hg => ⟨rfl, by simp only [R_sR, up2, if_neg (show ¬ g = f by omega)]⟩⟩
theorem Nx.setI {x lo f : Nat} (h : Hp) (v : Int32) (hf : lo ≤ f) (hf8 : f ≤ 808) : Nx x lo h (h.sI f x v) := ⟨Nf.sI x h v, fun g hg => ⟨by simp only [I_sI, up2, if_neg (show ¬ g = f by omega)], rfl⟩⟩
def iniP (h : Hp) (x : Nat) (x1 x2 x3 : Int32) (h' : Hp) : Prop := ∃ E kn W r c, nI W = nearN x1 64 3000 ∧ nI r = nearN x2 1 8 ∧ nI c = nearN x3 0 3000 ∧ (64 ≤ W ∧ W ≤ 3000) ∧ (1 ≤ r ∧ r ≤ 8) ∧ c ≤ 3000 ∧ CC h' x E W r c ([], [], 1, 1, 0, 0, 0) (fun _ => 0) kn 0 0 ∧ (∀ i, h'.AI (E 600) i = 0 ∧ h'.AI (E 806) i = 0 ∧ h'.AI (E 400) i = 0 ∧ h'.AI (E 401) i = 0) ∧ h'.I 402 (E 807) = 0 ∧ h'.I 506 (E 808) = 0 ∧ Nf x h h' ∧ (h.K (E 600) = 0 ∧ h.K (E 806) = 0 ∧ h.K (E 400) = 0 ∧ h.K (E 401) = 0)
set_option maxHeartbeats 1000000 in
theorem ct8_init {x : Nat} (hx : h.K x = 9) (hz : ∀ f, 809 ≤ f → f ≤ 812 → h.I f x = 0) (x1 x2 x3 : Int32) : CtV mX8_init 3 20 16000 [va_rf (some x), .int x1, .int x2, .int x3] h (iniP h x x1 x2 x3) := by
  obtain ⟨W, eW, hW1, hW2⟩ := near_nat (a := 64) (b := 3000) (by decide) (by decide) x1
  obtain ⟨r, er, hr1, hr2⟩ := near_nat (a := 1) (b := 8) (by decide) (by decide) x2
  obtain ⟨c, ec, hc1, hc2⟩ := near_nat (a := 0) (b := 3000) (by decide) (by decide) x3
  have eU : (nI W - 1) / 4 = nI ((W - 1) / 4) := by
    rw [show nI W - 1 = nI (W - 1) from pk_sub (a := W) (b := 1) (by omega)]
    exact pk_div (a := W - 1) (d := 4) (by omega) (by decide) (by decide)
  have kx : ¬ h.K x = 0 := by rw [hx]; decide
  have e16 : (16 : Int32).toNatClampNeg = 16 := by decide
  refine enX8_init (fun X C => sgX8_init_0 C (by decide) ?_)
  refine clX8_init_10 C (ct8_nearest (a := 64) (b := 3000) (by decide) (by decide)) (by decide) (by decide) (by decide) (Nat.le_of_ble_eq_true rfl) (fun y h' ⟨e1, e2⟩ => ?_)
  subst e1
  rw [eW] at e2; subst e2
  refine sgX8_init_13 C ?_
  -- the memory
  refine nwX8_init_16 C (by decide) (by decide) (fun me hme => ?_)
  refine sgX8_init_19 C ?_
  refine clX8_init_22 C (ct6_init (h := h'.nw me 7 0) (t := me) (by simp [K_nw]) hW2) (by decide) (by decide) (by omega) (Nat.le_of_ble_eq_true rfl) (fun h1 ⟨mw, m0, mS, mz, mN⟩ => ?_)
  have X01 : Nx x 800 h' h1 := Nx.part kx hme mN
  have kx1 : h1.K x = 9 := (X01.1.1 x kx).1.trans hx
  have mw0 : h'.K mw = 0 := by
    by_cases e : mw = me
    · rw [e]; exact hme
    · simpa [K_nw, e] using m0
  refine sgX8_init_25 C kx1 ?_
  have X12 : Nx x 800 h1 (h1.sR 800 x (some me)) := Nx.set h1 _ (by decide) (by decide)
  refine clX8_init_33 C (ct8_nearest (a := 1) (b := 8) (by decide) (by decide)) (by decide) (by omega) (by omega) (Nat.le_of_ble_eq_true rfl) (fun y h2 ⟨e1, e2⟩ => ?_)
  rw [er] at e2; subst e2
  rw [← e1] at X12
  have r800 : h2.R 800 x = some me := by rw [e1]; simp [R_sR, up2]
  have kx2 : h2.K x = 9 := by rw [e1]; exact kx1
  have mS2 : MeS h2 me mw W := by
    obtain ⟨a1, a2, a3, a4⟩ := mS
    have : ¬ me = x := fun e => by rw [e, kx1] at a1; cases a1
    rw [e1]
    exact ⟨a1, by simp only [R_sR, up2, if_neg this, ite_self]; exact a2, a3, a4⟩
  have mz2 : ∀ i, h2.AI mw i = 0 := fun i => by rw [e1]; exact mz i
  clear e1
  refine sgX8_init_36 C kx2 ?_
  have X23 : Nx x 801 h2 (h2.sI 801 x (nI r)) := Nx.setI h2 _ (by decide) (by decide)
  refine clX8_init_45 C (ct8_nearest (a := 0) (b := 3000) (by decide) (by decide)) (by decide) (by omega) (by omega) (Nat.le_of_ble_eq_true rfl) (fun y h3 ⟨e1, e2⟩ => ?_)
  rw [ec] at e2; subst e2
  rw [← e1] at X23
  have i801 : h3.I 801 x = nI r := by rw [e1]; simp [I_sI, up2]
  have kx3 : h3.K x = 9 := by rw [e1]; exact kx2
  clear e1
  refine sgX8_init_48 C kx3 ?_
  have X34 : Nx x 802 h3 (h3.sI 802 x (nI c)) := Nx.setI h3 _ (by decide) (by decide)
  generalize hh4 : h3.sI 802 x (nI c) = h4 at X34 ⊢
  have i802 : h4.I 802 x = nI c := by subst hh4; simp [I_sI, up2]
  have kx4 : h4.K x = 9 := by subst hh4; exact kx3
  clear hh4
  -- the chunks
  refine nwX8_init_52 C (by omega) (by omega) (fun ch hch => ?_)
  refine sgX8_init_55 C ?_
  refine clX8_init_58 C (ct3_init (h := h4.nw ch 4 0) (t := ch) (W := W) (by simp [K_nw]) (fun f _ _ => by simp [I_nw])) (by decide) (by omega) (by omega) (Nat.le_of_ble_eq_true rfl) (fun h5 ⟨pi, gf, c1, c2, cS, cz, cr, c303, c304, cf, cN⟩ => ?_)
  have X45 : Nx x 803 h4 h5 := Nx.part (by rw [kx4]; decide) hch cN
  have kx5 : h5.K x = 9 := (X45.1.1 x (by rw [kx4]; decide)).1.trans kx4
  refine sgX8_init_61 C kx5 ?_
  have X56 : Nx x 803 h5 (h5.sR 803 x (some ch)) := Nx.set h5 _ (by decide) (by decide)
  generalize hh6 : h5.sR 803 x (some ch) = h6 at X56 ⊢
  have r803 : h6.R 803 x = some ch := by subst hh6; simp [R_sR, up2]
  have kx6 : h6.K x = 9 := by subst hh6; exact kx5
  -- the blocks
  refine nwX8_init_65 C (by omega) (by omega) (fun bl hbl => ?_)
  refine sgX8_init_68 C ?_
  rw [eU]
  refine clX8_init_75 C (ct1_init (h := h6.nw bl 2 0) (t := bl) (U := (W - 1) / 4) (by simp [K_nw]) (by omega)) (by decide) (by omega) (by omega) (Nat.le_of_ble_eq_true rfl) (fun h7 ⟨bu, b0, bS, bz, bN⟩ => ?_)
  have X67 : Nx x 804 h6 h7 := Nx.part (by rw [kx6]; decide) hbl bN
  have kx7 : h7.K x = 9 := (X67.1.1 x (by rw [kx6]; decide)).1.trans kx6
  refine sgX8_init_78 C kx7 ?_
  have X78 : Nx x 804 h7 (h7.sR 804 x (some bl)) := Nx.set h7 _ (by decide) (by decide)
  generalize hh8 : h7.sR 804 x (some bl) = h8 at X78 ⊢
  have r804 : h8.R 804 x = some bl := by subst hh8; simp [R_sR, up2]
  have kx8 : h8.K x = 9 := by subst hh8; exact kx7
  -- the queue
  refine nwX8_init_82 C (by omega) (by omega) (fun qu hqu => ?_)
  refine sgX8_init_85 C ?_
  refine clX8_init_86 C (ct7_init (h := h8.nw qu 8 0) (t := qu)) (by decide) (by omega) (by omega) (Nat.le_of_ble_eq_true rfl) (fun h9 e9 => ?_)
  have X89 : Nx x 805 h8 h9 := Nx.part (by rw [kx8]; decide) hqu (by rw [e9]; exact Nf.rf _ _)
  have qS : h9.K qu = 8 ∧ h9.R 700 qu = none ∧ h9.R 701 qu = none ∧ h9.I 702 qu = 0 ∧ h9.I 703 qu = 0 := by rw [e9]; simp [K_nw, R_nw, I_nw]
  clear e9
  have kx9 : h9.K x = 9 := (X89.1.1 x (by rw [kx8]; decide)).1.trans kx8
  refine sgX8_init_89 C kx9 ?_
  have X9a : Nx x 805 h9 (h9.sR 805 x (some qu)) := Nx.set h9 _ (by decide) (by decide)
  generalize hha : h9.sR 805 x (some qu) = ha at X9a ⊢
  have r805 : ha.R 805 x = some qu := by subst hha; simp [R_sR, up2]
  have kxa : ha.K x = 9 := by subst hha; exact kx9
  -- the roots
  refine nwX8_init_95 C (by decide) (by decide) (by omega) (by omega) (fun ro hro => ?_)
  have Xab : Nx x 806 ha (ha.nw ro 11 ((16 : Int32).toNatClampNeg)) := by
    have b : Nf ro ha (ha.nw ro 11 ((16 : Int32).toNatClampNeg)) := Nf.nw ro ha hro
    exact ⟨b.old hro, fun f _ => b.2 f x (by rw [kxa]; decide) (fun e => by rw [e, hro] at kxa; cases kxa)⟩
  generalize hhb : ha.nw ro 11 ((16 : Int32).toNatClampNeg) = hb at Xab ⊢
  have rS : hb.K ro = 11 ∧ hb.N ro = 16 ∧ ∀ i, hb.AI ro i = 0 := by subst hhb; exact ⟨by simp [K_nw], by simp [N_nw], fun i => by simp [AI_nw]⟩
  have kxb : hb.K x = 9 := (Xab.1.1 x (by rw [kxa]; decide)).1.trans kxa
  refine sgX8_init_97 C kxb ?_
  have Xbc : Nx x 806 hb (hb.sR 806 x (some ro)) := Nx.set hb _ (by decide) (by decide)
  generalize hhc : hb.sR 806 x (some ro) = hc at Xbc ⊢
  have r806 : hc.R 806 x = some ro := by subst hhc; simp [R_sR, up2]
  have kxc : hc.K x = 9 := by subst hhc; exact kxb
  -- the faults
  refine nwX8_init_101 C (by omega) (by omega) (fun fa hfa => ?_)
  refine sgX8_init_104 C ?_
  refine clX8_init_105 C (ct4_init (h := hc.nw fa 5 0) (t := fa) (by simp [K_nw])) (by decide) (by omega) (by omega) (Nat.le_of_ble_eq_true rfl) (fun hd ⟨fk, fd, f1, f2, f3, fS, fz, f402, fN⟩ => ?_)
  have Xcd : Nx x 807 hc hd := Nx.part (by rw [kxc]; decide) hfa fN
  have f402' : hd.I 402 fa = 0 := by rw [f402]; simp [I_nw]
  have kxd : hd.K x = 9 := (Xcd.1.1 x (by rw [kxc]; decide)).1.trans kxc
  refine sgX8_init_108 C kxd ?_
  have Xde : Nx x 807 hd (hd.sR 807 x (some fa)) := Nx.set hd _ (by decide) (by decide)
  generalize hhe : hd.sR 807 x (some fa) = he at Xde ⊢
  have r807 : he.R 807 x = some fa := by subst hhe; simp [R_sR, up2]
  have kxe : he.K x = 9 := by subst hhe; exact kxd
  -- the search
  refine nwX8_init_112 C (by omega) (by omega) (fun se hse => ?_)
  have nse : ∀ z, ¬ he.K z = 0 → ¬ z = se := fun z hz e => hz (by rw [e]; exact hse)
  have kxe0 : ¬ he.K x = 0 := by rw [kxe]; decide
  have xse := nse x kxe0
  -- what stands before it
  have Xce : Nx x 807 hc he := Xcd.trans Xde
  have Xae : Nx x 806 ha he := (Xab.trans Xbc).trans (Xce.dn (by decide))
  have X8e : Nx x 805 h8 he := (X89.trans X9a).trans (Xae.dn (by decide))
  have X6e : Nx x 804 h6 he := (X67.trans X78).trans (X8e.dn (by decide))
  have X4e : Nx x 803 h4 he := (X45.trans X56).trans (X6e.dn (by decide))
  have X2e : Nx x 801 h2 he := X23.trans ((X34.dn (by decide)).trans (X4e.dn (by decide)))
  have X0e : Nx x 800 h' he := (X01.trans X12).trans (X2e.dn (by decide))
  have e800 : he.R 800 x = some me := (X2e.2 800 (by decide)).2.trans r800
  have e804 : he.R 804 x = some bl := (X8e.2 804 (by decide)).2.trans r804
  have e806 : he.R 806 x = some ro := (Xce.2 806 (by decide)).2.trans r806
  have kbl7 : ¬ h7.K bl = 0 := by rw [bS.1]; decide
  have kbu7 : ¬ h7.K bu = 0 := by rw [bS.2.2.1]; decide
  have X7e : Nx x 804 h7 he := X78.trans (X8e.dn (by decide))
  have blx : ¬ bl = x := fun e => by have := bS.1; rw [e, kx7] at this; cases this
  have bSe : BlS he bl bu ((W - 1) / 4) := ⟨(X7e.1.1 bl kbl7).1.trans bS.1, (X7e.1.2 100 bl kbl7 blx).2.trans bS.2.1, (X7e.1.1 bu kbu7).1.trans bS.2.2.1, (X7e.1.1 bu kbu7).2.1.trans bS.2.2.2⟩
  refine sgX8_init_115 C (by simp [K_nw, xse, kxe]) ?_
  have en : (he.nw se 6 0).R 806 x = some ro ∧ (he.nw se 6 0).R 800 x = some me ∧ (he.nw se 6 0).R 804 x = some bl := by simp [R_nw, xse, e800, e804, e806]
  rw [en.1, en.2.1, en.2.2]
  have kble : ¬ he.K bl = 0 := by rw [bSe.1]; decide
  have kbue : ¬ he.K bu = 0 := by rw [bSe.2.2.1]; decide
  have bSn : BlS (he.nw se 6 0) bl bu ((W - 1) / 4) := by
    obtain ⟨a1, a2, a3, a4⟩ := bSe
    exact ⟨by simp [K_nw, nse bl kble, a1], by simp [R_nw, nse bl kble, a2], by simp [K_nw, nse bu kbue, a3], by simp [N_nw, nse bu kbue, a4]⟩
  refine clX8_init_128 C (ct5_init (h := he.nw se 6 0) (t := se) (me := me) (ro := ro) (by simp [K_nw]) bSn (by omega)) (by decide) (by omega) (by omega) (Nat.le_of_ble_eq_true rfl) (fun hf ⟨rc, lo, g1, g2, g3, gS, g506, gN⟩ => ?_)
  have Xef : Nx x 808 he hf := Nx.part kxe0 hse gN
  have g506' : hf.I 506 se = 0 := by rw [g506]; simp [I_nw]
  have kxf : hf.K x = 9 := (Xef.1.1 x kxe0).1.trans kxe
  refine sgX8_init_131 C (by omega) (by omega) kxf ?_
  have Xfg : Nx x 808 hf (hf.sR 808 x (some se)) := Nx.set hf _ (by decide) (by decide)
  generalize hhg : hf.sR 808 x (some se) = hg at Xfg ⊢
  have r808 : hg.R 808 x = some se := by subst hhg; simp [R_sR, up2]
  have kxg : hg.K x = 9 := by subst hhg; exact kxf
  -- frames to the end
  have Xeg : Nx x 808 he hg := Xef.trans Xfg
  have Xcg : Nx x 807 hc hg := Xce.trans (Xeg.dn (by decide))
  have Xag : Nx x 806 ha hg := Xae.trans (Xeg.dn (by decide))
  have X8g : Nx x 805 h8 hg := X8e.trans (Xeg.dn (by decide))
  have X6g : Nx x 804 h6 hg := X6e.trans (Xeg.dn (by decide))
  have X4g : Nx x 803 h4 hg := X4e.trans (Xeg.dn (by decide))
  have X2g : Nx x 801 h2 hg := X2e.trans (Xeg.dn (by decide))
  have X0g : Nx x 800 h' hg := X0e.trans (Xeg.dn (by decide))
  have X3g : Nx x 802 h3 hg := X34.trans (X4g.dn (by decide))
  have X5g : Nx x 803 h5 hg := X56.trans (X6g.dn (by decide))
  have X7g : Nx x 804 h7 hg := X78.trans (X8g.dn (by decide))
  have X9g : Nx x 805 h9 hg := X9a.trans (Xag.dn (by decide))
  have Xbg : Nx x 806 hb hg := Xbc.trans (Xcg.dn (by decide))
  have Xdg : Nx x 807 hd hg := Xde.trans (Xeg.dn (by decide))
  have nk : ∀ (k : Hp) (a j : Nat), k.K a = j → ¬ j = 0 → ¬ k.K a = 0 := fun k a j e hj => by rw [e]; exact hj
  have nx9 : ∀ (k : Hp) (a j : Nat), k.K x = 9 → k.K a = j → ¬ j = 9 → ¬ a = x := fun k a j e1 e2 hj e => by rw [e, e1] at e2; exact hj e2.symm
  have X24 : Nx x 801 h2 h4 := X23.trans (X34.dn (by decide))
  have X2a : Nx x 801 h2 ha := X24.trans (((X45.trans X56).dn (by decide)).trans (((X67.trans X78).dn (by decide)).trans ((X89.trans X9a).dn (by decide))))
  have X0a : Nx x 800 h' ha := (X01.trans X12).trans (X2a.dn (by decide))
  have X2c : Nx x 801 h2 hc := X2a.trans ((Xab.trans Xbc).dn (by decide))
  have X0c : Nx x 800 h' hc := (X01.trans X12).trans (X2c.dn (by decide))
  have kmw2 := nk h2 mw 11 mS2.2.2.1 (by decide)
  have kmwa : ¬ ha.K mw = 0 := by rw [(X2a.1.1 mw kmw2).1]; exact kmw2
  have kmwc : ¬ hc.K mw = 0 := by rw [(X2c.1.1 mw kmw2).1]; exact kmw2
  have krob := nk hb ro 11 rS.1 (by decide)
  have kroc : ¬ hc.K ro = 0 := by rw [(Xbc.1.1 ro krob).1]; exact krob
  have fr : ∀ q, (hc.nw fa 5 0).K q = 0 → hc.K q = 0 := fun q hq => by
    by_cases e : q = fa
    · rw [e]; exact hfa
    · simpa [K_nw, e] using hq
  have fr2 : ∀ q, (he.nw se 6 0).K q = 0 → he.K q = 0 := fun q hq => by
    by_cases e : q = se
    · rw [e]; exact hse
    · simpa [K_nw, e] using hq
  have back : ∀ (k : Hp) (q : Nat), Nx x 800 h' k → k.K q = 0 → h'.K q = 0 := fun k q hN hq => by
    by_cases h0 : h'.K q = 0
    · exact h0
    · rw [(hN.1.1 q h0).1] at hq; exact hq
  have z1 : ¬ ro = mw := fun e => kmwa (by rw [← e]; exact hro)
  have z2 : ¬ fk = mw := fun e => kmwc (by rw [← e]; exact fr fk f1)
  have z3 : ¬ fd = mw := fun e => kmwc (by rw [← e]; exact fr fd f2)
  have z4 : ¬ ro = fk := fun e => kroc (by rw [e]; exact fr fk f1)
  have z5 : ¬ ro = fd := fun e => kroc (by rw [e]; exact fr fd f2)
  have z6 : ¬ rc = bu := fun e => kbue (by rw [← e]; exact fr2 rc g1)
  have z7 : ¬ lo = bu := fun e => kbue (by rw [← e]; exact fr2 lo g2)
  have w1 : h'.K ro = 0 := back ha ro X0a hro
  have w2 : h'.K fk = 0 := back hc fk X0c (fr fk f1)
  have w3 : h'.K fd = 0 := back hc fd X0c (fr fd f2)
  -- the facts at the end
  have tk : ∀ (k : Hp) (lo' : Nat) (a j : Nat), Nx x lo' k hg → k.K a = j → ¬ j = 0 → hg.K a = j := fun k lo' a j hN e hj => (hN.1.1 a (nk k a j e hj)).1.trans e
  have mSg : MeS hg me mw W := by
    obtain ⟨a1, a2, a3, a4⟩ := mS2
    exact ⟨tk _ _ _ _ X2g a1 (by decide), (X2g.1.2 600 me (nk _ _ _ a1 (by decide)) (nx9 _ _ _ kx2 a1 (by decide))).2.trans a2, tk _ _ _ _ X2g a3 (by decide), (X2g.1.1 mw (nk _ _ _ a3 (by decide))).2.1.trans a4⟩
  have bSg : BlS hg bl bu ((W - 1) / 4) := by
    obtain ⟨a1, a2, a3, a4⟩ := bS
    exact ⟨tk _ _ _ _ X7g a1 (by decide), (X7g.1.2 100 bl (nk _ _ _ a1 (by decide)) (nx9 _ _ _ kx7 a1 (by decide))).2.trans a2, tk _ _ _ _ X7g a3 (by decide), (X7g.1.1 bu (nk _ _ _ a3 (by decide))).2.1.trans a4⟩
  have fSg : FaS hg fa fk fd := by
    obtain ⟨a1, a2, a3, a4, a5, a6, a7⟩ := fS
    have k1 := nk _ _ _ a1 (by decide)
    have k2 := nx9 _ _ _ kxd a1 (by decide)
    exact ⟨tk _ _ _ _ Xdg a1 (by decide), (Xdg.1.2 400 fa k1 k2).2.trans a2, tk _ _ _ _ Xdg a3 (by decide), (Xdg.1.1 fk (nk _ _ _ a3 (by decide))).2.1.trans a4, (Xdg.1.2 401 fa k1 k2).2.trans a5, tk _ _ _ _ Xdg a6 (by decide), (Xdg.1.1 fd (nk _ _ _ a6 (by decide))).2.1.trans a7⟩
  have gSg : hg.K se = 6 ∧ hg.R 500 se = some bl ∧ hg.R 501 se = some me ∧ hg.R 502 se = some ro ∧ hg.R 503 se = some rc ∧ hg.K rc = 13 ∧ hg.N rc = (W - 1) / 4 ∧ hg.R 504 se = some lo ∧ hg.K lo = 13 ∧ hg.N lo = (W - 1) / 4 := by
    obtain ⟨a1, a2, a3, a4, a5, a6, a7, a8, a9, a10⟩ := gS
    have k1 := nk _ _ _ a1 (by decide)
    have k2 := nx9 _ _ _ kxf a1 (by decide)
    exact ⟨tk _ _ _ _ Xfg a1 (by decide), (Xfg.1.2 500 se k1 k2).2.trans a2, (Xfg.1.2 501 se k1 k2).2.trans a3, (Xfg.1.2 502 se k1 k2).2.trans a4, (Xfg.1.2 503 se k1 k2).2.trans a5, tk _ _ _ _ Xfg a6 (by decide), (Xfg.1.1 rc (nk _ _ _ a6 (by decide))).2.1.trans a7, (Xfg.1.2 504 se k1 k2).2.trans a8, tk _ _ _ _ Xfg a9 (by decide), (Xfg.1.1 lo (nk _ _ _ a9 (by decide))).2.1.trans a10⟩
  have kq9 := nk _ _ _ qS.1 (by decide)
  have nq9 := nx9 _ _ _ kx9 qS.1 (by decide)
  have kch := nk _ _ _ cS.1 (by decide)
  have nch := nx9 _ _ _ kx5 cS.1 (by decide)
  have kpi := nk _ _ _ cS.2.2.1 (by decide)
  have kgf : ¬ h5.K gf = 0 := nk _ _ _ cS.2.2.2.2.2.1 (by decide)
  have ngf : ¬ gf = x := nx9 _ _ _ kx5 cS.2.2.2.2.2.1 (by decide)
  have cSg : ChS hg ch pi W (fun _ => gf) := by
    obtain ⟨a1, a2, a3, a4, a5, a6, a7, a8⟩ := cS
    exact ⟨tk _ _ _ _ X5g a1 (by decide), (X5g.1.2 301 ch kch nch).2.trans a2, tk _ _ _ _ X5g a3 (by decide), (X5g.1.1 pi kpi).2.1.trans a4, (X5g.1.2 302 ch kch nch).2.trans a5, tk _ _ _ _ X5g a6 (by decide), (X5g.1.2 200 gf kgf ngf).1.trans a7, (X5g.1.2 300 ch kch nch).1.trans a8⟩
  have fld : hg.R 800 x = some me ∧ hg.R 803 x = some ch ∧ hg.R 804 x = some bl ∧ hg.R 805 x = some qu ∧ hg.R 806 x = some ro ∧ hg.R 807 x = some fa := ⟨(X2g.2 800 (by decide)).2.trans r800, (X6g.2 803 (by decide)).2.trans r803, (X8g.2 804 (by decide)).2.trans r804, (Xag.2 805 (by decide)).2.trans r805, (Xcg.2 806 (by decide)).2.trans r806, (Xeg.2 807 (by decide)).2.trans r807⟩
  obtain ⟨E, E1, E2, E3, E4, E5, E6, E7, E8, E9, E10, E11, E12, E13, E14⟩ : ∃ E : Nat → Nat, E 800 = me ∧ E 803 = ch ∧ E 804 = bl ∧ E 805 = qu ∧ E 806 = ro ∧ E 807 = fa ∧ E 808 = se ∧ E 600 = mw ∧ E 301 = pi ∧ E 100 = bu ∧ E 400 = fk ∧ E 401 = fd ∧ E 503 = rc ∧ E 504 = lo := ⟨fun f => if f = 800 then me else if f = 803 then ch else if f = 804 then bl else if f = 805 then qu else if f = 806 then ro else if f = 807 then fa else if f = 808 then se else if f = 600 then mw else if f = 301 then pi else if f = 100 then bu else if f = 400 then fk else if f = 401 then fd else if f = 503 then rc else lo, by simp⟩
  have zero : ∀ f, 809 ≤ f → f ≤ 812 → hg.I f x = 0 := fun f h1 h2 => (X0g.2 f (by omega)).1.trans (hz f h1 h2)
  refine ⟨E, fun _ => gf, W, r, c, eW.symm, er.symm, ec.symm, ⟨hW1, hW2⟩, ⟨hr1, hr2⟩, hc2, ⟨⟨kxg, fun f hf => ?_, (X3g.2 801 (by decide)).1.trans i801, (X4g.2 802 (by decide)).1.trans i802, ?_, ?_, ?_, ?_, ?_, ?_, ?_, ?_, ?_, ?_⟩, ⟨fun i hi => (by simp at hi), fun u hu => ?_⟩, ⟨⟨[], ⟨List.Pairwise.nil, by simp [Bw]⟩, ?_, ?_, ?_, ?_⟩, fun b hb => by simp at hb⟩, ⟨?_, fun i hi => ?_, ⟨[], ⟨trivial, fun p => by simp⟩, ?_⟩, ?_, ?_, ?_, ?_, ?_, ?_⟩, zero 809 (by decide) (by decide), zero 810 (by decide) (by decide), zero 811 (by decide) (by decide), zero 812 (by decide) (by decide)⟩, fun i => ⟨?_, ?_, ?_, ?_⟩, ?_, ?_, X0g.1, ?_, ?_, ?_, ?_⟩
  · simp only [List.mem_cons, List.not_mem_nil, or_false] at hf
    rcases hf with rfl | rfl | rfl | rfl | rfl | rfl | rfl
    · rw [E1]; exact fld.1
    · rw [E2]; exact fld.2.1
    · rw [E3]; exact fld.2.2.1
    · rw [E4]; exact fld.2.2.2.1
    · rw [E5]; exact fld.2.2.2.2.1
    · rw [E6]; exact fld.2.2.2.2.2
    · rw [E7]; exact r808
  · rw [E1, E8]; exact mSg
  · rw [E3, E10]; exact bSg
  · rw [E6, E11, E12]; exact fSg
  · rw [E4]; exact tk _ _ _ _ X9g qS.1 (by decide)
  · rw [E5]; exact tk _ _ _ _ Xbg rS.1 (by decide)
  · rw [E5]; exact (Xbg.1.1 ro krob).2.1.trans rS.2.1
  · rw [E2]; exact cSg.1
  · rw [E7, E3, E1, E5, E13, E14]; exact gSg
  · rw [E5, E8, E11, E12]; exact ⟨z1, z2, z3, z4, z5, f3⟩
  · rw [E13, E10, E14]; exact ⟨z6, z7, g3⟩
  · rw [E10, (X7g.1.1 bu kbu7).2.2.2.1, bz u]; rfl
  · rw [E4]; exact (X9g.1.2 700 qu kq9 nq9).2.trans qS.2.1
  · rw [E4]; exact (X9g.1.2 701 qu kq9 nq9).2.trans qS.2.2.1
  · rw [E4]; exact (X9g.1.2 702 qu kq9 nq9).1.trans qS.2.2.2.1
  · rw [E4]; exact (X9g.1.2 703 qu kq9 nq9).1.trans qS.2.2.2.2
  · rw [E2, E9]; exact cSg
  · rw [E9, (X5g.1.1 pi kpi).2.2.2.1]; exact cz i
  · exact (X5g.1.2 202 gf kgf ngf).2.trans cr
  · rw [E2]; exact (X5g.1.2 303 ch kch nch).1.trans c303
  · rw [E2]; exact (X5g.1.2 304 ch kch nch).1.trans c304
  · rw [E2]; exact (X5g.1.2 305 ch kch nch).1.trans (cf 305 (by decide) (by decide))
  · rw [E2]; exact (X5g.1.2 306 ch kch nch).1.trans (cf 306 (by decide) (by decide))
  · rw [E2]; exact (X5g.1.2 307 ch kch nch).1.trans (cf 307 (by decide) (by decide))
  · rw [E2]; exact (X5g.1.2 308 ch kch nch).1.trans (cf 308 (by decide) (by decide))
  · rw [E8, (X2g.1.1 mw kmw2).2.2.1]; exact mz2 i
  · rw [E5, (Xbg.1.1 ro krob).2.2.1]; exact rS.2.2 i
  · rw [E11, (Xdg.1.1 fk (nk _ _ _ fS.2.2.1 (by decide))).2.2.1]; exact (fz i).1
  · rw [E12, (Xdg.1.1 fd (nk _ _ _ fS.2.2.2.2.2.1 (by decide))).2.2.1]; exact (fz i).2
  · rw [E6]; exact (Xdg.1.2 402 fa (nk _ _ _ fS.1 (by decide)) (nx9 _ _ _ kxd fS.1 (by decide))).1.trans f402'
  · rw [E7]; exact (Xfg.1.2 506 se (nk _ _ _ gS.1 (by decide)) (nx9 _ _ _ kxf gS.1 (by decide))).1.trans g506'
  · rw [E8]; exact mw0
  · rw [E5]; exact w1
  · rw [E11]; exact w2
  · rw [E12]; exact w3
end C21
