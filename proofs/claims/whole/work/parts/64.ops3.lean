section OPS3
variable {h h1 h2 : Hp} {x t o sc sn j : Nat} {SS : Nat → Int32} {E nd kn nd' kn' ρ A : Nat → Nat} {W r c g f k n g' f' k' n' : Nat} {s s' : St} {m m' : Mo} {z : Int32}
set_option maxHeartbeats 1000000 in
theorem op_alloc (hL : LW h x t o sc sn SS E nd kn ρ A W r c s g f k n m) (hj : g ≤ j ∧ f ≤ j ∧ k ≤ j) (h5 : j ≤ 599) {y : Int32} (hz : (¬ 1 ≤ y ∧ z = 0 ∧ h1 = h) ∨ ∃ N, y = nI N ∧ 1 ≤ N ∧ N < 2147483648 ∧ alC h x E W r c s nd g f N z h1) : OpE mX9_alloc 5 [.int y] x t o sc sn SS j z h1 := by
  have hC1 := hL.1.1
  have hr1 := hC1.2.2.2.2.1
  have one : ∀ N, 1 ≤ N → N < 2147483648 → 1 ≤ nI N := fun N a1 a2 => by
    rw [Int32.le_iff_toInt_le, nI_toInt (by omega)]
    have q1 : (1 : Int32).toInt = 1 := rfl
    omega
  rcases hz with ⟨hn, e1, rfl⟩ | ⟨N, rfl, hN1, hN2, hz⟩
  · refine OpE.same hL hj (ct9_alloc hL.2.1.1 m hL.2.2.1 (hL.bd hj (by omega)) y) (fun y' h2 hy => ?_)
    rcases hy with ⟨-, e2, e3⟩ | ⟨N, rfl, a1, a2, -⟩
    · exact ⟨e1.trans e2.symm, e3⟩
    · exact absurd (one N a1 a2) hn
  · have hc4 := cN_4 N r hr1.1
    have hF : Lf E h h1 := by
      rcases hz with ⟨s', kn', -, -, -, e4, -⟩ | ⟨a, s', q, kn', -, -, -, -, -, -, e4, -⟩ <;> exact Lf.cf e4
    refine OpE.of hL hj hF (ct9_alloc (h := h1) (hL.2.1.lf hF hL.2.2.2.2).1 m hL.2.2.1 (hL.bd hj (by omega)) (nI N)) (fun y' h2 hy => ?_)
    rcases hy with ⟨e2, -⟩ | ⟨N', e0, a1, a2, hp⟩
    · exact absurd (one N hN1 hN2) e2
    cases (nI_eq hN2 a2).mp e0
    have hCt := hL.1.sm (th0_same m) (by decide) (by decide)
    rcases hz with ⟨s1, kn1, q1, q2, q3, q4, q5⟩ | ⟨a, s1, q, kn1, q1, q2, q3, q4, q5, q6, q7, q8⟩
    · rcases hp with ⟨s2, m2, d1, d2, d3, d4, d5⟩ | ⟨a', s2, m2, d1, -⟩
      · cases (Prod.mk.inj (q1.symm.trans d1)).2
        refine ⟨q2.trans d2.symm, m2, nd, kn1, s1, g, f, k, n, d3, hCt.cf q4 (hC1.up q3 (hC1.sb.seek0 ⟨hc4.2.2, hc4.1⟩ q1) hC1.2.2.2.2.2.2.2.1) (fun i hi => ?_) d5 (by decide) (by decide), hL.2.2.1.th.chg d4 (d5.1 900 (by decide)) (d5.1 901 (by decide)) (d5.1 902 (by decide)) ((d5.1 916 (by decide)).trans hL.2.2.1.th.2.2.2.2.1) ((d5.1 917 (by decide)).trans hL.2.2.1.th.2.2.2.2.2.1) (d5.1 921 (by decide)), by omega, by omega, by omega⟩
        rw [q5, d5.2 904 (by decide)]
        exact hL.1.2.2.1 i hi
      · rw [q1] at d1; cases d1
    · rcases hp with ⟨s2, m2, d1, -⟩ | ⟨a', s2, m2, d1, d2, d3, d4, d5, d6, d7⟩
      · rw [q1] at d1; cases d1
      · rw [q1] at d1
        cases d1
        refine ⟨q2.trans d2.symm, m2, up1 nd a q, kn1, _, g + 1, f, k, n, d3, hCt.cf q7 (hC1.up q6 (hC1.sb.new q1 q3 hN1 q5) hC1.2.2.2.2.2.2.2.1) (fun i hi => ?_) d7 (by decide) (by decide), hL.2.2.1.th.chg d4 (d7.1 900 (by decide)) (d7.1 901 (by decide)) (d7.1 902 (by decide)) d5 ((d7.1 917 (by decide)).trans hL.2.2.1.th.2.2.2.2.2.1) (d7.1 921 (by decide)), by omega, by omega, by omega⟩
        rw [q8, d6 i]
        show (if a + r ≤ i ∧ i < a + r + N then 0 else h.AI (E 600) i) = if a + r ≤ i ∧ i < a + r + N then 0 else m.2 904 i
        rw [hL.1.2.2.1 i hi]
theorem op_free (hL : LW h x t o sc sn SS E nd kn ρ A W r c s g f k n m) (hj : g ≤ j ∧ f ≤ j ∧ k ≤ j) (h5 : j ≤ 599) {y : Int32} (hz : (lvIx s.1 r y = none ∧ z = knd s.1 r y ∧ h1 = fltH h E k (knd s.1 r y) y) ∨ ∃ b, lvIx s.1 r y = some b ∧ z = 0 ∧ tmPost h x E W r c (setT s.1 b (f + 1), s.2) (s.1.length + 1) nd g (f + 1) h1) : OpE mX9_free 5 [.int y] x t o sc sn SS j z h1 := by
  have hC1 := hL.1.1
  rcases hz with ⟨hq, e1, rfl⟩ | ⟨b, hq, e1, kn1, q3, q4, q5⟩
  · refine OpE.of hL hj (Lf.flt k _ _) (ct9_free (h := fltH h E k (knd s.1 r y) y) (hL.2.1.lf (Lf.flt k _ _) hL.2.2.2.2).1 m hL.2.2.1 (hL.bd hj (by omega)) y) (fun y' h2 hy => ?_)
    rcases hy with ⟨-, e2, e3⟩ | ⟨b, m', hq', -⟩
    · exact ⟨e1.trans e2.symm, _, nd, kn, s, g, f, k + 1, n, e3, hL.1.flt _ _, hL.2.2.1.fl2 _ _, by omega, by omega, by omega⟩
    · rw [hq] at hq'; cases hq'
  · obtain ⟨hb1, hb2, hb3⟩ := lvIx_lt hq
    refine OpE.of hL hj (Lf.cf q4) (ct9_free (h := h1) (hL.2.1.lf (Lf.cf q4) hL.2.2.2.2).1 m hL.2.2.1 (hL.bd hj (by omega)) y) (fun y' h2 hy => ?_)
    rcases hy with ⟨hq', -⟩ | ⟨b', m2, hq', e2, d3, d4, d5, d6⟩
    · rw [hq] at hq'; cases hq'
    cases Option.some.inj (hq.symm.trans hq')
    have hCt := hL.1.sm (th0_same m) (by decide) (by decide)
    refine ⟨e1.trans e2.symm, m2, nd, kn1, _, g, f + 1, k, n, d3, hCt.cf q4 (hC1.up q3 (SB.trim _ (hC1.sb.free hb1 hb3)) (by omega)) (fun i hi => ?_) d6 (by decide) (by decide), hL.2.2.1.th.chg d4 (d6.1 900 (by decide)) (d6.1 901 (by decide)) (d6.1 902 (by decide)) ((d6.1 916 (by decide)).trans hL.2.2.1.th.2.2.2.2.1) d5 (d6.1 921 (by decide)), by omega, by omega, by omega⟩
    rw [q5, d6.2 904 (by decide)]
    exact hL.1.2.2.1 i hi
set_option maxHeartbeats 1000000 in
theorem op_resize (hL : LW h x t o sc sn SS E nd kn ρ A W r c s g f k n m) (hj : g ≤ j ∧ f ≤ j ∧ k ≤ j) (h5 : j ≤ 599) {y w : Int32} (hz : rzC h x E W r c s nd g f k y w z h1) : OpE mX9_resize 5 [.int y, .int w] x t o sc sn SS j z h1 := by
  have hC1 := hL.1.1
  have hr1 := hC1.2.2.2.2.1
  have hBW := hC1.2.2.1
  have one : ∀ N, 1 ≤ N → N < 2147483648 → 1 ≤ nI N := fun N a1 a2 => by
    rw [Int32.le_iff_toInt_le, nI_toInt (by omega)]
    have q1 : (1 : Int32).toInt = 1 := rfl
    omega
  rcases hz with ⟨hn, e1, rfl⟩ | ⟨h1w, hq, e1, rfl⟩ | ⟨N, b, rfl, hN1, hN2, hq, hz⟩
  · refine OpE.same hL hj (ct9_resize hL.2.1.1 m hL.2.2.1 (hL.bd hj (by omega)) hBW y w) (fun y' h2 hy => ?_)
    rcases hy with ⟨-, e2, e3⟩ | ⟨h1w, -⟩ | ⟨N, b, rfl, a1, a2, -⟩
    · exact ⟨e1.trans e2.symm, e3⟩
    · exact absurd h1w hn
    · exact absurd (one N a1 a2) hn
  · refine OpE.of hL hj (Lf.flt k _ _) (ct9_resize (h := fltH h E k (knd s.1 r y) y) (hL.2.1.lf (Lf.flt k _ _) hL.2.2.2.2).1 m hL.2.2.1 (hL.bd hj (by omega)) hBW y w) (fun y' h2 hy => ?_)
    rcases hy with ⟨hn, -⟩ | ⟨-, -, e2, e3⟩ | ⟨N, b, rfl, a1, a2, hq', -⟩
    · exact absurd h1w hn
    · exact ⟨e1.trans e2.symm, _, nd, kn, s, g, f, k + 1, n, e3, hL.1.flt _ _, hL.2.2.1.fl2 _ _, by omega, by omega, by omega⟩
    · rw [hq] at hq'; cases hq'
  · have hc4 := cN_4 N r hr1.1
    have hF : Lf E h h1 := by
      rcases hz with ⟨s', kn', -, -, -, e4, -⟩ | ⟨a, s', q, -, -, -, -, -, e4, -⟩ <;> exact Lf.cf e4
    refine OpE.of hL hj hF (ct9_resize (h := h1) (hL.2.1.lf hF hL.2.2.2.2).1 m hL.2.2.1 (hL.bd hj (by omega)) hBW y (nI N)) (fun y' h2 hy => ?_)
    rcases hy with ⟨hn, -⟩ | ⟨-, hq', -⟩ | ⟨N', b', e0, a1, a2, hq', hp⟩
    · exact absurd (one N hN1 hN2) hn
    · rw [hq] at hq'; cases hq'
    cases (nI_eq hN2 a2).mp e0
    cases Option.some.inj (hq.symm.trans hq')
    obtain ⟨hb1, hb2, hb3⟩ := lvIx_lt hq
    have hCt := hL.1.sm (th0_same m) (by decide) (by decide)
    rcases hz with ⟨s1, kn1, q1, q2, q3, q4, q5⟩ | ⟨a, s1, q, q1, q2, q3, q5, q6, q7, q8⟩
    · rcases hp with ⟨s2, m2, d1, d2, d3, d4, d5⟩ | ⟨a', s2, b2, m2, d1, -⟩
      · cases (Prod.mk.inj (q1.symm.trans d1)).2
        refine ⟨q2.trans d2.symm, m2, nd, kn1, s1, g, f, k, n, d3, hCt.cf q4 (hC1.up q3 (hC1.sb.seek0 ⟨hc4.2.2, hc4.1⟩ q1) hC1.2.2.2.2.2.2.2.1) (fun i hi => ?_) d5 (by decide) (by decide), hL.2.2.1.th.chg d4 (d5.1 900 (by decide)) (d5.1 901 (by decide)) (d5.1 902 (by decide)) ((d5.1 916 (by decide)).trans hL.2.2.1.th.2.2.2.2.1) ((d5.1 917 (by decide)).trans hL.2.2.1.th.2.2.2.2.2.1) (d5.1 921 (by decide)), by omega, by omega, by omega⟩
        rw [q5, d5.2 904 (by decide)]
        exact hL.1.2.2.1 i hi
      · rw [q1] at d1; cases d1
    · rcases hp with ⟨s2, m2, d1, -⟩ | ⟨a', s2, b2, m2, d1, d2, d3, hb2l, hb2e, -, d4, d5, d6, d7, d8⟩
      · rw [q1] at d1; cases d1
      · rw [q1] at d1
        cases d1
        obtain ⟨kn1, q9⟩ := q6 b2 hb2l hb2e
        have hsb := hC1.sb.new q1 q3 hN1 q5
        have hl2 : b2 < (s1.1 ++ [(a, cN N r, N, g, 0)]).length := by simpa using hb2l
        refine ⟨q2.trans d2.symm, m2, up1 nd a q, kn1, _, g + 1, f + 1, k, n, d3, hCt.cf q7 (hC1.up q9 (SB.trim _ (hsb.free hl2 (by rw [hb2e]; exact hb3))) (by omega)) (fun i hi => ?_) d8 (by decide) (by decide), hL.2.2.1.th.chg d4 (d8.1 900 (by decide)) (d8.1 901 (by decide)) (d8.1 902 (by decide)) d5 d6 (d8.1 921 (by decide)), by omega, by omega, by omega⟩
        rw [q8 i hi, d7 i, hL.1.2.2.1 i hi]
        by_cases e : a + r ≤ i ∧ i < a + r + N
        · rw [if_pos e, if_pos e]
          by_cases e2 : i < a + r + (bat s.1 b).2.2.1
          · rw [if_pos e2, if_pos e2]
            have hgb := hC1.2.1.gb.1 b hb1
            have hbw := bw_at hBW hb1
            exact hL.1.2.2.1 _ (by omega)
          · rw [if_neg e2, if_neg e2]
        · rw [if_neg e, if_neg e]
/-- describe and fault: what each side says -/
def OpT (M9 : MD) (d9 : Nat) (av : List Value) (x t o sc sn : Nat) (SS : Nat → Int32) (j : Nat) (z : Int32) (h1 : Hp) : Prop := h1.K t = 10 ∧ SO h1 o sc sn SS ∧ ∃ p9, CtI M9 d9 0 0 (va_rf (some t) :: av) h1 p9 ∧ ∀ y h2, p9 y h2 → h2.K t = 10 ∧ SO h2 o sc sn SS ∧ h2.AL = h1.AL ∧ ∃ p10, CtI mX9_thrown 1 0 0 [va_rf (some t)] h2 p10 ∧ ∀ u h3, p10 u h3 → h3 = h2 ∧ u = z ∧ (z = 0 → h1.AL o 0 = y.toInt64) ∧ LX h3 x t o sc sn SS (j + 1)
theorem OpT.of {M9 : MD} {d9 : Nat} {av : List Value} {p9 : Int32 → Hp → Prop} (hL : LW h x t o sc sn SS E nd kn ρ A W r c s g f k n m) (hj : g ≤ j ∧ f ≤ j ∧ k ≤ j) (hF : Lf E h h1) (hC : CL h1 x E W r c s nd kn g f k n m) (hct : CtI M9 d9 0 0 (va_rf (some t) :: av) (mput h1 t ρ m) p9)
    (hp : ∀ y h2, p9 y h2 → ∃ m', h2 = mput h1 t ρ m' ∧ m'.1 903 = z ∧ (z = 0 → h1.AL o 0 = y.toInt64) ∧ Msame [903] [] m m') : OpT M9 d9 av x t o sc sn SS j z h1 := by
  obtain ⟨hC0, hM, hR, hS, hE⟩ := hL
  have hM1 := hM.lf hF hE
  have hS1 : SO h1 o sc sn SS := hS.lf hC0.1.1.1 hF
  refine ⟨hM1.1.1, hS1, p9, ?_, fun y h2 hy => ?_⟩
  · rw [hM1.eq] at hct; exact hct
  · obtain ⟨m', rfl, e2, e3, e4⟩ := hp y h2 hy
    have hf := LW.fin (hC.sm e4 (by decide) (by decide)) hM1 (hR.same e4 (by decide) (by decide)) hS1 hE
    refine ⟨hM1.1.1, hf.2.2.2.1, rfl, _, ct9_thrown m' hM1.1, fun u h3 ⟨b1, b2⟩ => ⟨b1, b2.trans e2, e3, ?_⟩⟩
    rw [b1]
    exact ⟨E, nd, kn, ρ, A, W, r, c, s, g, f, k, n, m', hf, by omega, by omega, by omega⟩
end OPS3
