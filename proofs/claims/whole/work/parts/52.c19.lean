/-! THE CLASS's public methods: alloc, free, resize -/
section C19
variable {h : Hp} {x : Nat} {E : Nat → Nat} {W r c : Nat} {s : St} {nd kn : Nat → Nat} {g f k : Nat}
def alC (h : Hp) (x : Nat) (E : Nat → Nat) (W r c : Nat) (s : St) (nd : Nat → Nat) (g f N : Nat) (z : Int32) (h' : Hp) : Prop :=
  (∃ s' kn', sSeek W (cN N r) s = (none, s') ∧ z = 0 ∧ CC h' x E W r c s' nd kn' g f ∧ Cf (E 600) (E 100) h h' ∧ h'.AI (E 600) = h.AI (E 600)) ∨
  (∃ a s' q kn', sSeek W (cN N r) s = (some a, s') ∧ z = nI (a + r) ∧ SInv W (s'.1 ++ [(a, cN N r, N, g, 0)], s'.2) ∧ a + r + N ≤ W ∧ N + 2 * r ≤ cN N r ∧ CC h' x E W r c (s'.1 ++ [(a, cN N r, N, g, 0)], s'.2) (up1 nd a q) kn' (g + 1) f ∧ Cf (E 600) (E 100) h h' ∧ h'.AI (E 600) = fun i => if a + r ≤ i ∧ i < a + r + N then 0 else h.AI (E 600) i)
theorem new_nd {h' : Hp} {s' : St} {a q N : Nat} {kn' : Nat → Nat} (hI : SInv W (s'.1 ++ [(a, cN N r, N, g, 0)], s'.2)) (hC : CC h' x E W r c (s'.1 ++ [(a, cN N r, N, g, 0)], s'.2) (up1 nd a q) kn' (g + 1) f) : NdR h' q (a, cN N r, N, g, 0) r := by
  have := ((bk_iff hI.gb).mp hC.2.1).1 (a, cN N r, N, g, 0) (by simp)
  simp only [up1_s] at this
  exact this
theorem ct8_alloc {mc ms : Nat} (hC : CB h x E W r c s nd kn g f) (hmc : (Bw s.1).length + 2 ≤ mc) (hms : 3 * (Bw s.1).length + 12 ≤ ms) (y : Int32) : CtI mX8_alloc 6 mc ms [va_rf (some x), .int y] h (fun z h' => (¬ 1 ≤ y ∧ z = 0 ∧ h' = h) ∨ ∃ N, y = nI N ∧ 1 ≤ N ∧ N < 2147483648 ∧ alC h x E W r c s nd g f N z h') := by
  obtain ⟨hCC, hI, hBW, hT, hr, hc, hW, hf, -⟩ := id hC
  have x1 := hCC.1.1
  refine enX8_alloc (fun X C => sgX8_alloc_0 C (Nat.zero_le _) (Nat.zero_le _) (fun c1 => ?_) (fun c1 => Or.inl ⟨c1, rfl, rfl⟩))
  obtain ⟨N, rfl, h1, h2⟩ := posN c1
  refine clX8_alloc_9 C (ct8_give hCC hI (by omega) hr ⟨h1, h2⟩ hmc hms) x1 (by decide) (by omega) (by omega) (Nat.le_of_ble_eq_true rfl) (fun o h' hp => ?_)
  rcases hp with ⟨s', kn', e1, e2, e3, e4, e5⟩ | ⟨a, s', q, kn', e1, e2, e3, e4, e5, e6, e7, e8⟩
  · subst e2
    exact sgX8_alloc_12 C (by omega) (by omega) (fun z hz => by cases hz) (fun z hz => by cases hz) (fun _ => Or.inr ⟨N, rfl, h1, h2, Or.inl ⟨s', kn', e1, rfl, e3, e4, e5⟩⟩)
  · subst e2
    have hn := new_nd e3 e6
    refine sgX8_alloc_12 C (by omega) (by omega) (fun z hz => by cases hz; exact hn.1) (fun z hz => Or.inr ⟨N, rfl, h1, h2, Or.inr ⟨a, s', q, kn', e1, ?_, e3, e4, e5, e6, e7, e8⟩⟩) (fun e => by cases e)
    cases hz
    exact hn.2.2.2.1
set_option maxHeartbeats 1000000 in
theorem ct8_free {mc ms : Nat} (hC : CB h x E W r c s nd kn g f) (hk : h.I 402 (E 807) = nI k) (hk6 : k < 2147483647) (hmc : (Bw s.1).length + 1 ≤ mc) (hms : 3 * ((Bw s.1).length + 1) ≤ ms) (y : Int32) : CtI mX8_free 6 mc ms [va_rf (some x), .int y] h (fun z h' => (lvIx s.1 r y = none ∧ z = knd s.1 r y ∧ h' = fltH h E k (knd s.1 r y) y) ∨ ∃ b, lvIx s.1 r y = some b ∧ z = 0 ∧ tmPost h x E W r c (setT s.1 b (f + 1), s.2) (s.1.length + 1) nd g (f + 1) h') := by
  obtain ⟨hCC, hI, hBW, hT, hr, hc, hW, hf, -⟩ := id hC
  obtain ⟨hX, hB, -⟩ := id hCC
  obtain ⟨x1, x2, x3, x4, xm, xb, xf, -⟩ := id hX
  refine enX8_free (fun X C => sgX8_free_0 C x1 ?_)
  rw [x2 804 (by decide)]
  refine clX8_free_5 C (ct1_liveStartingAt xb hB hI.gb rfl (by omega) hBW y) xb.1 (by decide) (by omega) (by omega) (Nat.le_of_ble_eq_true rfl) (fun o h' ⟨e1, e2⟩ => ?_)
  subst e1
  cases hq : lvIx s.1 r y with
  | none =>
    rw [hq] at e2
    subst e2
    refine sgX8_free_8 C (fun z hz => by cases hz) (fun _ => ?_)
    refine clX8_free_15 C (ct8_keepStartFault hC hk hk6 y) x1 (by decide) (by omega) (by omega) (Nat.le_of_ble_eq_true rfl) (fun z h2 ⟨e3, e4⟩ => ?_)
    exact sgX8_free_18 C (by omega) (by omega) (Or.inl ⟨hq, e3, e4⟩)
  | some b =>
    rw [hq] at e2
    subst e2
    obtain ⟨hb1, hb2, hb3⟩ := lvIx_lt hq
    refine sgX8_free_8 C (fun z hz => ?_) (fun e => by cases e)
    cases hz
    refine clX8_free_21 C (ct8_putIntoQueue hCC hI (by omega) hc hf hT hb1 hb3 hmc hms) x1 (by decide) (by omega) (by omega) (Nat.le_of_ble_eq_true rfl) (fun h2 e3 => ?_)
    exact sgX8_free_24 C (by omega) (by omega) (Or.inr ⟨b, hq, rfl, e3⟩)
def rzC (h : Hp) (x : Nat) (E : Nat → Nat) (W r c : Nat) (s : St) (nd : Nat → Nat) (g f k : Nat) (y w : Int32) (z : Int32) (h' : Hp) : Prop :=
  (¬ 1 ≤ w ∧ z = 0 ∧ h' = h) ∨
  (1 ≤ w ∧ lvIx s.1 r y = none ∧ z = -(knd s.1 r y) ∧ h' = fltH h E k (knd s.1 r y) y) ∨
  (∃ N b, w = nI N ∧ 1 ≤ N ∧ N < 2147483648 ∧ lvIx s.1 r y = some b ∧
    ((∃ s' kn', sSeek W (cN N r) s = (none, s') ∧ z = 0 ∧ CC h' x E W r c s' nd kn' g f ∧ Cf (E 600) (E 100) h h' ∧ h'.AI (E 600) = h.AI (E 600)) ∨
     (∃ a s' q, sSeek W (cN N r) s = (some a, s') ∧ z = nI (a + r) ∧ SInv W (s'.1 ++ [(a, cN N r, N, g, 0)], s'.2) ∧ N + 2 * r ≤ cN N r ∧
        (∀ b2, b2 < s'.1.length + 1 → bat (s'.1 ++ [(a, cN N r, N, g, 0)]) b2 = bat s.1 b → ∃ kn', CC h' x E W r c (sTrim c (s'.1.length + 2) (setT (s'.1 ++ [(a, cN N r, N, g, 0)]) b2 (f + 1), s'.2)) (up1 nd a q) kn' (g + 1) (f + 1)) ∧
        Cf (E 600) (E 100) h h' ∧ (∀ j, j < W → h'.AI (E 600) j = if a + r ≤ j ∧ j < a + r + N then (if j < a + r + (bat s.1 b).2.2.1 then h.AI (E 600) ((bat s.1 b).1 + r + (j - (a + r))) else 0) else h.AI (E 600) j))))
theorem Bw_seek {c' : Nat} {s' : St} {o : Option Nat} (h : sSeek W c' s = (o, s')) (hI : SInv W s) (hI' : s'.1.Nodup) : (Bw s'.1).length ≤ (Bw s.1).length := by
  have h1 := (sSeek_B h).2
  exact List.Nodup.length_le_of_subset (hI'.sublist List.filter_sublist) (fun b hb => by
    simp only [Bw, List.mem_filter] at hb ⊢
    exact ⟨h1 b hb.1, hb.2⟩)
set_option maxHeartbeats 1000000 in
theorem ct8_resize {mc ms : Nat} (hC : CB h x E W r c s nd kn g f) (hk : h.I 402 (E 807) = nI k) (hk6 : k < 2147483647) (hg6 : g ≤ 600) (hmc : 2 * (Bw s.1).length + 3 ≤ mc) (hms : 6 * (Bw s.1).length + 15 ≤ ms) (y w : Int32) : CtI mX8_resize 6 mc ms [va_rf (some x), .int y, .int w] h (rzC h x E W r c s nd g f k y w) := by
  obtain ⟨hCC, hI, hBW, hT, hr, hc, hW, hf, -⟩ := id hC
  obtain ⟨hX, hB, -⟩ := id hCC
  obtain ⟨x1, x2, x3, x4, xm, xb, xf, -⟩ := id hX
  have hG := hI.gb
  have hW3 := hG.2.2
  refine enX8_resize (fun X C => sgX8_resize_0 C (Nat.zero_le _) (Nat.zero_le _) x1 (fun c1 => ?_) (fun c1 => Or.inl ⟨c1, rfl, rfl⟩))
  rw [x2 804 (by decide)]
  refine clX8_resize_12 C (ct1_liveStartingAt xb hB hG rfl (by omega) hBW y) xb.1 (by decide) (by omega) (by omega) (Nat.le_of_ble_eq_true rfl) (fun o h' ⟨e1, e2⟩ => ?_)
  subst e1
  cases hq : lvIx s.1 r y with
  | none =>
    rw [hq] at e2
    subst e2
    refine sgX8_resize_15 C (fun z hz => by cases hz) (fun _ => ?_)
    refine clX8_resize_22 C (ct8_keepStartFault hC hk hk6 y) x1 (by decide) (by omega) (by omega) (Nat.le_of_ble_eq_true rfl) (fun z h2 ⟨e3, e4⟩ => ?_)
    exact sgX8_resize_25 C (by omega) (by omega) (Or.inr (Or.inl ⟨c1, hq, by rw [e3], e4⟩))
  | some b =>
    rw [hq] at e2
    subst e2
    obtain ⟨hb1, hb2, hb3⟩ := lvIx_lt hq
    obtain ⟨N, rfl, hN1, hN2⟩ := posN c1
    have hnb := hB.1 b hb1
    have hgb := hG.1 b hb1
    have hbw := bw_at hBW hb1
    have kb : ¬ h'.K (ndB nd s.1 b) = 0 := by rw [hnb.1]; decide
    have kx : ¬ h'.K x = 0 := by rw [x1]; decide
    refine sgX8_resize_15 C (fun z hz => ?_) (fun e => by cases e)
    cases hz
    refine clX8_resize_29 C (ct8_give (mc := (Bw s.1).length + 2) (ms := 3 * (Bw s.1).length + 12) hCC hI (by omega) hr ⟨hN1, hN2⟩ (Nat.le_refl _) (Nat.le_refl _)) x1 (by decide) (by omega) (by omega) (Nat.le_of_ble_eq_true rfl) (fun o h1 hp => ?_)
    rcases hp with ⟨s', kn', e1, e2, e3, e4, e5⟩ | ⟨a, s', q, kn', e1, e2, e3, e4, e5, e6, e7, e8⟩
    · subst e2
      exact sgX8_resize_32 C (by omega) (by omega) ((e4.1 x kx).1.trans x1) ((e4.1 _ kb).1.trans hnb.1) (fun z hz => by cases hz) (fun z hz => by cases hz) (fun _ => Or.inr (Or.inr ⟨N, b, rfl, hN1, hN2, hq, Or.inl ⟨s', kn', e1, rfl, e3, e4, e5⟩⟩))
    · subst e2
      have hn := new_nd e3 e6
      have kb1 : h1.K (ndB nd s.1 b) = 1 := (e7.1 _ kb).1.trans hnb.1
      have i2 : h1.I 2 (ndB nd s.1 b) = nI ((bat s.1 b).1 + r) := (e7.2 2 _ (by simp [corf, ckf]) kb).1.trans hnb.2.2.2.1
      have i3 : h1.I 3 (ndB nd s.1 b) = nI (bat s.1 b).2.2.1 := (e7.2 3 _ (by simp [corf, ckf]) kb).1.trans hnb.2.2.2.2.1
      refine sgX8_resize_32 C (by omega) (by omega) ((e7.1 x kx).1.trans x1) kb1 (fun z hz => by cases hz; exact hn.1) (fun z hz => ?_) (fun e => by cases e)
      cases hz
      rw [hn.2.2.2.2.1, hn.2.2.2.1, i2, i3, e6.1.2.1 800 (by decide)]
      simp only
      refine clX8_resize_63 C (ctJ_min (nI (bat s.1 b).2.2.1) (nI N)) (by decide) (by omega) (by omega) (Nat.le_of_ble_eq_true rfl) (fun z h2 ⟨f1, f2⟩ => ?_)
      subst f1
      obtain ⟨mn, em, hm1, hm2, hm3, hm4⟩ : ∃ mn, z = nI mn ∧ 1 ≤ mn ∧ mn ≤ N ∧ mn ≤ (bat s.1 b).2.2.1 ∧ (mn = N ∨ mn = (bat s.1 b).2.2.1) := by
        by_cases hlt : nI N < nI (bat s.1 b).2.2.1
        · refine ⟨N, by rw [f2, if_pos hlt], hN1, Nat.le_refl _, ?_, Or.inl rfl⟩
          rw [nI_ltI hN2 (by omega)] at hlt; omega
        · refine ⟨(bat s.1 b).2.2.1, by rw [f2, if_neg hlt], by omega, ?_, Nat.le_refl _, Or.inr rfl⟩
          rw [nI_ltI hN2 (by omega)] at hlt; omega
      subst em
      refine clX8_resize_66 C (ct6_move e6.1.2.2.2.2.1 (by omega) hm1 (a := (bat s.1 b).1 + r) (b := a + r) (by omega) (by omega)) e6.1.2.2.2.2.1.1 (by decide) (by omega) (by omega) (Nat.le_of_ble_eq_true rfl) (fun h3 f3 => ?_)
      refine sgX8_resize_69 C ?_
      -- the blocks after
      have hbB : bat s.1 b ∈ s'.1 := (sSeek_B e1).1 _ (bat_mem hb1) hb3
      have hG1 : GB W (s'.1 ++ [(a, cN N r, N, g, 0)]) := e3.gb
      obtain ⟨b2, hb2l, hb2e⟩ := mem_bat (B := s'.1 ++ [(a, cN N r, N, g, 0)]) (List.mem_append_left _ hbB)
      have hna : ¬ (bat s.1 b).1 = a := fun e => by
        have h9 := hG1.addr (List.mem_append_left _ hbB) (List.mem_append_right _ (List.mem_singleton.mpr rfl)) (a := bat s.1 b) (b := (a, cN N r, N, g, 0)) e
        have hnd := hG1.nodup
        rw [List.nodup_append] at hnd
        exact hnd.2.2 _ hbB _ (List.mem_singleton.mpr rfl) h9
      have end2 : ndB (up1 nd a q) (s'.1 ++ [(a, cN N r, N, g, 0)]) b2 = ndB nd s.1 b := by
        unfold ndB
        rw [hb2e, up1_n _ _ hna]
      have hA3 : ∀ φ, Ag φ h2 h3 := fun φ => by subst f3; exact ⟨fun _ _ => ⟨rfl, rfl⟩, fun _ _ _ _ => ⟨rfl, rfl⟩⟩
      have hAR3 : h3.AR = h2.AR := by subst f3; rfl
      have hC3 : CC h3 x E W r c (s'.1 ++ [(a, cN N r, N, g, 0)], s'.2) (up1 nd a q) kn' (g + 1) f := by
        obtain ⟨y1, y2, y3, y4, y5, y6, y7, y8⟩ := id e6
        refine ⟨y1.fr (hA3 _), y2.fr (hA3 _) (by rw [hAR3]), y3.fr (hA3 _) (by rw [y1.2.2.2.2.2.2.2.1]; decide) (fun b' hb' => ?_), CkS.fr y4 (hA3 _) (by rw [hAR3]), ?_, ?_, ?_, ?_⟩
        · rw [(((bk_iff hG1).mp y2).1 b' hb').1]; decide
        all_goals (subst f3; assumption)
      have hBw : (Bw (s'.1 ++ [(a, cN N r, N, g, 0)])).length ≤ (Bw s.1).length := by
        have e9 : Bw (s'.1 ++ [(a, cN N r, N, g, 0)]) = Bw s'.1 := by simp [Bw, List.filter_append, wtg]
        rw [e9]
        refine Bw_seek e1 hI ?_
        have hnd := hG1.nodup
        rw [List.nodup_append] at hnd
        exact hnd.1
      have hT1 : ∀ b', b' ∈ s'.1 ++ [(a, cN N r, N, g, 0)] → b'.2.2.2.2 ≤ f := fun b' hb' => by
        rcases List.mem_append.mp hb' with hb' | hb'
        · exact hT b' ((sSeek_B e1).2 b' hb')
        · simp at hb'; subst hb'; simp
      have hput := ct8_putIntoQueue (mc := (Bw s.1).length + 1) (ms := 3 * ((Bw s.1).length + 1)) hC3 e3 (by omega) hc hf hT1 hb2l (by rw [hb2e]; exact hb3) (by simp only; omega) (by simp only; omega)
      rw [show ndB (up1 nd a q) (s'.1 ++ [(a, cN N r, N, g, 0)], s'.2).1 b2 = ndB nd s.1 b from end2] at hput
      refine clX8_resize_71 C hput hC3.1.1 (by decide) (by omega) (by omega) (Nat.le_of_ble_eq_true rfl) (fun h4 ⟨kn4, g1, g2, g3⟩ => ?_)
      have hcf34 : Cf (E 600) (E 100) h2 h3 := by subst f3; exact Cf.wAI _ _
      have kq3 : ¬ h3.K q = 0 := by
        have : h3.K q = h2.K q := by subst f3; rfl
        rw [this, hn.1]; decide
      have kq4 : h4.K q = 1 := by
        rw [(g2.1 q kq3).1]
        have : h3.K q = h2.K q := by subst f3; rfl
        rw [this]; exact hn.1
      refine sgX8_resize_74 C (by omega) (by omega) kq4 (Or.inr (Or.inr ⟨N, b, rfl, hN1, hN2, hq, Or.inr ⟨a, s', q, e1, ?_, e3, e5, fun b2' hb2l' hb2e' => ⟨kn4, ?_⟩, (e7.trans hcf34).trans g2, fun j hj => ?_⟩⟩))
      · rw [(g2.2 2 q (by simp [corf, ckf]) kq3).1]
        have : h3.I 2 q = h2.I 2 q := by subst f3; rfl
        rw [this]; exact hn.2.2.2.1
      · have hlen1 : (s'.1 ++ [(a, cN N r, N, g, 0)]).length = s'.1.length + 1 := by simp
        have : b2' = b2 := by
          by_cases e : b2' = b2
          · exact e
          · exfalso
            have hd := hG1.2.1 b2' b2 (by omega) hb2l e
            rw [hb2e', hb2e] at hd
            simp only [dj] at hd
            omega
        subst this
        have e9 : (s'.1 ++ [(a, cN N r, N, g, 0)], s'.2).1.length + 1 = s'.1.length + 2 := by simp
        rw [e9] at g1
        exact g1
      · rw [g3]
        subst f3
        rw [AI_wAI]
        simp only [if_true]
        rw [e8]
        -- the old block's words lie elsewhere
        have hd : dj ((bat s.1 b).1, (bat s.1 b).2.1) (a, cN N r) := by
          have hm1 : bat s.1 b ∈ s'.1 ++ [(a, cN N r, N, g, 0)] := List.mem_append_left _ hbB
          rcases hG1.two hm1 (List.mem_append_right _ (List.mem_singleton.mpr rfl)) (b := (a, cN N r, N, g, 0)) with e | e
          · exact absurd (by rw [e]) hna
          · exact e
        simp only [dj] at hd
        by_cases hin : a + r ≤ j ∧ j < a + r + mn
        · rw [pk_cpy_in hin.1 hin.2, if_neg (by omega), if_pos (by omega), if_pos (by omega)]
        · rw [pk_cpy_out (by omega)]
          by_cases hin2 : a + r ≤ j ∧ j < a + r + N
          · rw [if_pos hin2, if_pos hin2, if_neg (by omega)]
          · rw [if_neg hin2, if_neg hin2]
end C19
