section OPS2
variable {h h1 h2 : Hp} {x t o sc sn j : Nat} {SS : Nat → Int32} {E nd kn nd' kn' ρ A : Nat → Nat} {W r c g f k n g' f' k' n' : Nat} {s s' : St} {m m' : Mo} {z : Int32}
theorem CL.wmem (hC : CL h x E W r c s nd kn g f k n m) {F : Nat → Int32} (hF : ∀ j, j < W → F j = m'.2 904 j) (hm : Msame [903] [904, 925] m m') : CL (h.wAI (E 600) F) x E W r c s nd kn g f k n m' := by
  obtain ⟨c1, c2, c3, c4, c5, c6, c7⟩ := hC
  have hX := c1.1.1
  obtain ⟨n1, n2, n3, n4, n5, n6⟩ := hX.2.2.2.2.2.2.2.2.2.2.2.2.1
  have eA : ∀ a, ¬ a = E 600 → (h.wAI (E 600) F).AI a = h.AI a := fun a e => by simp only [AI_wAI, if_neg e]
  refine ⟨c1.fr ⟨fun _ _ => ⟨rfl, rfl⟩, fun q a hq _ => ⟨rfl, rfl⟩⟩ rfl rfl, c2, fun j hj => ?_, fun j hj => ?_, fun j hj => ?_, (c6.fr hX (h' := h.wAI (E 600) F) (fun _ _ => rfl) rfl (fun _ _ _ _ => rfl)).mo (fun q hq => hm.2 q (fun e => ?_)), (hm.1 932 (by decide)).trans c7⟩
  · simp only [AI_wAI, if_pos]; exact hF j hj
  · rw [eA _ n1, hm.2 922 (by decide)]; exact c4 j hj
  · rw [eA _ n2, eA _ n3, hm.2 923 (by decide), hm.2 924 (by decide)]; exact c5 j hj
  · simp only [List.mem_cons, List.not_mem_nil, or_false] at hq e
    omega
theorem Msame.th {Is Rs : List Nat} (hm : Msame Is Rs (th0 m) m') : Msame (903 :: Is) Rs m m' := ⟨fun q hq => (hm.1 q (fun e => hq (List.mem_cons_of_mem _ e))).trans ((th0_same m).1 q (fun e => hq (by rw [List.mem_singleton.mp e]; exact List.mem_cons_self))), fun q hq => (hm.2 q hq).trans rfl⟩
set_option maxHeartbeats 1000000 in
theorem op_copy (hL : LW h x t o sc sn SS E nd kn ρ A W r c s g f k n m) (hj : g ≤ j ∧ f ≤ j ∧ k ≤ j) (h5 : j ≤ 600) {y w v : Int32} (hz : ((v < 0 ∨ ¬ v ≤ 3000) ∧ z = -1 ∧ h1 = h) ∨
    (∃ N i, v = nI N ∧ N ≤ 3000 ∧ cpB s.1 r y w N = some i ∧ z = -2 - nI i ∧ h1 = fltH h E k (sortB s.1 r (cpA y w N i)) (cpA y w N i)) ∨
    (∃ N, v = nI N ∧ N ≤ 3000 ∧ cpB s.1 r y w N = none ∧ z = v ∧ ((N = 0 ∧ h1 = h) ∨ ∃ a b, 1 ≤ N ∧ y = nI a ∧ w = nI b ∧ a + N ≤ W ∧ b + N ≤ W ∧ h1 = h.wAI (E 600) (va_cpy (h.AI (E 600)) (h.AI (E 600)) a b N)))) : OpE mX9_copy 3 [.int y, .int w, .int v] x t o sc sn SS j z h1 := by
  have hW3 : W ≤ 3000 := hL.1.1.2.1.2.2.2
  have no : ∀ i : Nat, i ≤ 3000 → ¬ (nI i < 0 ∨ ¬ nI i ≤ 3000) := fun i hi => by
    have e0 : (nI i).toInt = i := nI_toInt (by omega)
    have q0 : (0 : Int32).toInt = 0 := rfl
    have q1 : (3000 : Int32).toInt = 3000 := rfl
    rw [Int32.lt_iff_toInt_lt, Int32.le_iff_toInt_le]
    omega
  have uq : ∀ N N' : Nat, N ≤ 3000 → N' ≤ 3000 → nI N = nI N' → N = N' := fun N N' a1 a2 e => (nI_eq (by omega) (by omega)).mp e
  rcases hz with ⟨hn, e1, rfl⟩ | ⟨N, i, rfl, hN, hb, e1, rfl⟩ | ⟨N, rfl, hN, hb, e1, hh⟩
  · refine OpE.same hL hj (ct9_copy hL.2.1.1 m hL.2.2.1 (hL.bd hj h5) y w v) (fun y' h2 hy => ?_)
    rcases hy with ⟨-, e2, e3⟩ | ⟨N, i, rfl, hN, -⟩ | ⟨N, m', rfl, hN, -⟩
    · exact ⟨e1.trans e2.symm, e3⟩
    · exact absurd hn (no N hN)
    · exact absurd hn (no N hN)
  · refine OpE.of hL hj (Lf.flt k _ _) (ct9_copy (h := fltH h E k (sortB s.1 r (cpA y w N i)) (cpA y w N i)) (hL.2.1.lf (Lf.flt k _ _) hL.2.2.2.2).1 m hL.2.2.1 (hL.bd hj h5) y w (nI N)) (fun y' h2 hy => ?_)
    rcases hy with ⟨e2, -⟩ | ⟨N', i', e0, hN', hb', e2, e3⟩ | ⟨N', m', e0, hN', hb', -⟩
    · exact absurd e2 (no N hN)
    · cases uq _ _ hN hN' e0
      cases Option.some.inj (hb.symm.trans hb')
      exact ⟨e1.trans e2.symm, _, nd, kn, s, g, f, k + 1, n, e3, hL.1.flt _ _, hL.2.2.1.fl2 _ _, by omega, by omega, by omega⟩
    · cases uq _ _ hN hN' e0
      rw [hb] at hb'; cases hb'
  · have done : ∀ (F : Nat → Int32), h1 = h.wAI (E 600) F → (∀ j, j < W → F j = va_cpy (m.2 904) (m.2 904) y.toNatClampNeg w.toNatClampNeg N j) → OpE mX9_copy 3 [.int y, .int w, .int (nI N)] x t o sc sn SS j z h1 := by
      intro F e0 hF
      subst e0
      refine OpE.of hL hj (Lf.wmem F) (ct9_copy (h := h.wAI (E 600) F) (hL.2.1.lf (Lf.wmem F) hL.2.2.2.2).1 m hL.2.2.1 (hL.bd hj h5) y w (nI N)) (fun y' h2 hy => ?_)
      rcases hy with ⟨e2, -⟩ | ⟨N', i', e0, hN', hb', -⟩ | ⟨N', m', e0, hN', hb', e2, e3, e4, e5⟩
      · exact absurd e2 (no N hN)
      · cases uq _ _ hN hN' e0
        rw [hb] at hb'; cases hb'
      · cases uq _ _ hN hN' e0
        exact ⟨e1.trans e2.symm, m', nd, kn, s, g, f, k, n, e3, hL.1.wmem (fun j hj => by rw [e4]; exact hF j hj) e5.th, hL.2.2.1.same e5.th (by decide) (by decide), by omega, by omega, by omega⟩
    rcases hh with ⟨rfl, e0⟩ | ⟨a, b, hN1, rfl, rfl, ha, hb2, e0⟩
    · refine done (h.AI (E 600)) ?_ (fun j hj => ?_)
      · rw [e0]
        refine Hp.ext7 rfl rfl rfl rfl ?_ rfl rfl
        funext a
        rw [AI_wAI]
        show h.AI a = if a = E 600 then h.AI (E 600) else h.AI a
        by_cases e : a = E 600
        · rw [if_pos e, e]
        · rw [if_neg e]
      · rw [va_cpy, if_neg (by omega)]; exact hL.1.2.2.1 j hj
    · refine done _ e0 (fun j hj => ?_)
      rw [nI_clamp (by omega), nI_clamp (by omega), va_cpy, va_cpy]
      by_cases e : b ≤ j ∧ j < b + N
      · rw [if_pos e, if_pos e]; exact hL.1.2.2.1 _ (by omega)
      · rw [if_neg e, if_neg e]; exact hL.1.2.2.1 j hj
theorem CC.pi14 (hC : CC h x E W r c s nd kn g f) : h.K (E 301) = 14 := hC.2.2.2.1.1.2.2.1
set_option maxHeartbeats 1000000 in
theorem op_leakScan (hL : LW h x t o sc sn SS E nd kn ρ A W r c s g f k n m) (hj : g ≤ j ∧ f ≤ j ∧ k ≤ j) (hz : runP h E W r s.1 nd (m.2 904) (m.2 922) z h1) : OpE mX9_leakScan 5 [] x t o sc sn SS j z h1 := by
  obtain ⟨L, e1, e2, e3, e4, e5, e6⟩ := hz
  obtain ⟨c1, c2, c3, c4, c5, c6, c7⟩ := hL.1
  have hX := c1.1.1
  have hG := c1.2.1.gb
  have k13 := hX.2.2.2.2.2.2.2.2.2.2.2.1
  have nn := hX.2.2.2.2.2.2.2.2.2.2.2.2.2
  have hB := hL.2.2.1.1.1
  refine OpE.of hL hj (Lf.sr e3) (ct9_leakScan (h := h1) (hL.2.1.lf (Lf.sr e3) hL.2.2.2.2).1 m hB hL.2.2.1.2.2.1 c1.2.2.1 (fun i i' hi hi' e => ?_)) (fun y h2 hy => ?_)
  · have h9 := hG.addr (bat_mem hi) (bat_mem hi') e
    have hnd := hG.nodup
    exact (List.getElem?_inj hi hnd).mp (by rw [bat_get hi, bat_get hi', h9])
  · obtain ⟨m', L', d1, d2, d3, d4, d5, d6, d7⟩ := hy
    have hLL : L = L' := lost_uniq e2.1 d6.1 (fun q => (e2.2 q).trans (d6.2 q).symm)
    subst hLL
    refine ⟨e1.trans d2.symm, m', nd, kn, s, g, f, k, L.length, d1, ⟨c1.fr (e3.ag (fun q hq => by unfold cbf at hq; unfold srf; omega)) (e3.2.2.2.2.2.1 _ (fun e => nn.1 e.symm) (fun e => nn.2.1 e.symm)) (e3.2.2.2.2.2.1 _ (fun e => ?_) (fun e => ?_)), ?_, fun j hj => ?_, fun j hj => ?_, fun j hj => ?_, ⟨e5, e4, fun i hi => ?_⟩, d4⟩, hL.2.2.1.same d5 (by decide) (by decide), by omega, by omega, by omega⟩
    · have := c1.1.pi14; rw [e, k13.2.2.2.2.2.1] at this; cases this
    · have := c1.1.pi14; rw [e, k13.2.2.2.2.2.2.2.2.1] at this; cases this
    · rw [e3.2.2.2.2.2.2 402 (by unfold srf; omega)]; exact c2
    · rw [e3.2.2.2.1, d5.2 904 (by decide)]; exact c3 j hj
    · rw [e3.2.2.2.1, d5.2 922 (by decide)]; exact c4 j hj
    · rw [e3.2.2.2.1, d5.2 923 (by decide), d5.2 924 (by decide)]; exact c5 j hj
    · obtain ⟨q, hq⟩ : ∃ q, L[i]? = some q := ⟨_, List.getElem?_eq_getElem hi⟩
      obtain ⟨a1, a2⟩ := e6 i q hq
      obtain ⟨b1, b2, b3, b4, b5⟩ := d7 i q hq
      have hql : q < s.1.length := ((e2.2 q).mp (List.mem_of_getElem? hq)).1
      have hN := c1.1.2.1.1 q hql
      have eI : ∀ f, f = 2 ∨ f = 3 ∨ f = 4 → h1.I f = h.I f := fun f hf => e3.2.2.2.2.2.2 f (by unfold srf; omega)
      exact ⟨_, a1, by rw [e3.1]; exact hN.1, by rw [eI 2 (by decide), b1]; exact hN.2.2.2.1, by rw [eI 3 (by decide), b2]; exact hN.2.2.2.2.1, by rw [eI 4 (by decide), b3]; exact hN.2.2.2.2.2.1, a2.trans b5.symm⟩
theorem MR.chg (hR : MR m W r c s g f k) (hs : SRel m' s') (e0 : m'.1 900 = m.1 900) (e1 : m'.1 901 = m.1 901) (e2 : m'.1 902 = m.1 902) (eg : m'.1 916 = nI g') (ef : m'.1 917 = nI f') (ek : m'.1 921 = m.1 921) : MR m' W r c s' g' f' k :=
  ⟨hs, e0.trans hR.2.1, e1.trans hR.2.2.1, e2.trans hR.2.2.2.1, eg, ef, ek.trans hR.2.2.2.2.2.2⟩
theorem CL.cf {Is Rs : List Nat} (hC : CL h x E W r c s nd kn g f k n m) (hF : Cf (E 600) (E 100) h h1) (hB : CB h1 x E W r c s' nd' kn' g' f') (hM : ∀ j, j < W → h1.AI (E 600) j = m'.2 904 j) (hm : Msame Is Rs m m') (i1 : 932 ∉ Is) (i2 : ∀ q, q ∈ [922, 923, 924, 928, 929, 930, 931] → q ∉ Rs) : CL h1 x E W r c s' nd' kn' g' f' k n m' := by
  obtain ⟨c1, c2, c3, c4, c5, c6, c7⟩ := hC
  have hX := c1.1.1
  obtain ⟨-, -, -, -, xm, -, xf, -, x6, -⟩ := id hX
  have k13 := hX.2.2.2.2.2.2.2.2.2.2.2.1
  have nn := hX.2.2.2.2.2.2.2.2.2.2.2.2.2
  obtain ⟨n1, n2, n3, n4, n5, n6⟩ := hX.2.2.2.2.2.2.2.2.2.2.2.2.1
  have kz : ∀ a v, h.K a = v + 1 → ¬ h.K a = 0 := fun a v e => by omega
  refine ⟨hB, ?_, hM, fun j hj => ?_, fun j hj => ?_, (c6.fr hX (h' := h1) (fun a ha => (hF.1 a ha).1) ((hF.1 _ (kz _ 12 k13.2.2.2.2.2.2.2.2.1)).2.2.2.2 nn.2.1 (by rw [k13.2.2.2.2.2.2.2.2.1]; decide)) (fun q a hq ha => (hF.2 q a (by unfold corf ckf; omega) ha).1)).mo (fun q hq => hm.2 q (i2 q (by simp at hq ⊢; omega))), (hm.1 932 i1).trans c7⟩
  · rw [(hF.2 402 _ (by unfold corf ckf; omega) (kz _ 4 xf.1)).1]; exact c2
  · rw [(hF.1 _ (kz _ 10 x6)).2.2.2.1 n1, hm.2 922 (i2 922 (by decide))]; exact c4 j hj
  · rw [(hF.1 _ (kz _ 10 xf.2.2.1)).2.2.2.1 n2, (hF.1 _ (kz _ 10 xf.2.2.2.2.2.1)).2.2.2.1 n3, hm.2 923 (i2 923 (by decide)), hm.2 924 (i2 924 (by decide))]; exact c5 j hj
end OPS2
