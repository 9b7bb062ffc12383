/-! EACH CALL of the law: the class's answer is the reference's -/
section OPS
variable {h h1 h2 : Hp} {x t o sc sn j : Nat} {SS : Nat → Int32} {E nd kn nd' kn' ρ A : Nat → Nat} {W r c g f k n g' f' k' n' : Nat} {s s' : St} {m m' : Mo} {z : Int32}
def OpE (M9 : MD) (d9 : Nat) (av : List Value) (x t o sc sn : Nat) (SS : Nat → Int32) (j : Nat) (z : Int32) (h1 : Hp) : Prop := h1.K t = 10 ∧ SO h1 o sc sn SS ∧ ∃ p9, CtI M9 d9 0 0 (va_rf (some t) :: av) h1 p9 ∧ ∀ y h2, p9 y h2 → z = y ∧ LX h2 x t o sc sn SS (j + 1)
theorem CL.mo (hC : CL h x E W r c s nd kn g f k n m) (e : ∀ q, q ∈ [904, 922, 923, 924, 928, 929, 930, 931] → m'.2 q = m.2 q) (e1 : m'.1 932 = m.1 932) : CL h x E W r c s nd kn g f k n m' := by
  obtain ⟨c1, c2, c3, c4, c5, c6, c7⟩ := hC
  refine ⟨c1, c2, ?_, ?_, ?_, c6.mo (fun q hq => e q (by simp at hq ⊢; omega)), e1.trans c7⟩
  · rw [e 904 (by decide)]; exact c3
  · rw [e 922 (by decide)]; exact c4
  · rw [e 923 (by decide), e 924 (by decide)]; exact c5
theorem CL.sm {Is Rs : List Nat} (hC : CL h x E W r c s nd kn g f k n m) (hm : Msame Is Rs m m') (h1 : 932 ∉ Is) (h2 : ∀ q, q ∈ [904, 922, 923, 924, 928, 929, 930, 931] → q ∉ Rs) : CL h x E W r c s nd kn g f k n m' := hC.mo (fun q hq => hm.2 q (h2 q hq)) (hm.1 932 h1)
theorem OpE.of {M9 : MD} {d9 : Nat} {av : List Value} {p9 : Int32 → Hp → Prop} (hL : LW h x t o sc sn SS E nd kn ρ A W r c s g f k n m) (hj : g ≤ j ∧ f ≤ j ∧ k ≤ j) (hF : Lf E h h1) (hct : CtI M9 d9 0 0 (va_rf (some t) :: av) (mput h1 t ρ m) p9)
    (hp : ∀ y h2, p9 y h2 → z = y ∧ ∃ m' nd' kn' s' g' f' k' n', h2 = mput h1 t ρ m' ∧ CL h1 x E W r c s' nd' kn' g' f' k' n' m' ∧ MR m' W r c s' g' f' k' ∧ g' ≤ g + 1 ∧ f' ≤ f + 1 ∧ k' ≤ k + 1) : OpE M9 d9 av x t o sc sn SS j z h1 := by
  obtain ⟨hC, hM, hR, hS, hE⟩ := hL
  have hM1 := hM.lf hF hE
  have hS1 := hS.lf hC.1.1.1 hF
  refine ⟨hM1.1.1, hS1, p9, ?_, fun y h2 hy => ?_⟩
  · rw [hM1.eq] at hct; exact hct
  · obtain ⟨e, m', nd', kn', s', g', f', k', n', rfl, e2, e3, e4, e5, e6⟩ := hp y h2 hy
    exact ⟨e, E, nd', kn', ρ, A, W, r, c, s', g', f', k', n', m', LW.fin e2 hM1 e3 hS1 hE, by omega, by omega, by omega⟩
theorem OpE.same {M9 : MD} {d9 : Nat} {av : List Value} {p9 : Int32 → Hp → Prop} (hL : LW h x t o sc sn SS E nd kn ρ A W r c s g f k n m) (hj : g ≤ j ∧ f ≤ j ∧ k ≤ j) (hct : CtI M9 d9 0 0 (va_rf (some t) :: av) (mput h t ρ m) p9)
    (hp : ∀ y h2, p9 y h2 → z = y ∧ h2 = mput h t ρ (th0 m)) : OpE M9 d9 av x t o sc sn SS j z h :=
  OpE.of hL hj (Lf.rf E h) hct (fun y h2 hy => ⟨(hp y h2 hy).1, th0 m, nd, kn, s, g, f, k, n, (hp y h2 hy).2, hL.1.sm (th0_same m) (by decide) (by decide), hL.2.2.1.th, Nat.le_succ _, Nat.le_succ _, Nat.le_succ _⟩)
theorem LW.bd (hL : LW h x t o sc sn SS E nd kn ρ A W r c s g f k n m) (hj : g ≤ j ∧ f ≤ j ∧ k ≤ j) (h5 : j ≤ 600) : Bd W r c s g f k := ⟨hL.1.1.2.1, hL.1.1.2.2.2.2.1, hL.1.1.2.2.2.2.2.1, by omega, by omega, by omega⟩
set_option maxHeartbeats 1000000 in
/-- a fault is kept -/
theorem CL.flt (hC : CL h x E W r c s nd kn g f k n m) (v y : Int32) : CL (fltH h E k v y) x E W r c s nd kn g f (k + 1) n (flt (th0 m) k v y) := by
  obtain ⟨c1, c2, c3, c4, c5, c6, c7⟩ := hC
  have hX := c1.1.1
  obtain ⟨n1, n2, n3, n4, n5, n6⟩ := hX.2.2.2.2.2.2.2.2.2.2.2.2.1
  have eI : ∀ q a, ¬ q = 402 → (fltH h E k v y).I q a = h.I q a := fun q a hq => by simp only [fltH, I_sI, I_sAI, up2, if_neg hq]
  have eA : ∀ a, ¬ a = E 400 → ¬ a = E 401 → (fltH h E k v y).AI a = h.AI a := fun a e3 e4 => by
    funext i
    simp only [fltH, AI_sI, AI_sAI, up2, if_neg e3, if_neg e4]
  refine ⟨c1.fr ⟨fun _ _ => ⟨rfl, rfl⟩, fun q a hq _ => ⟨eI q a (by unfold cbf at hq; omega), rfl⟩⟩ rfl rfl, ?_, fun j hj => ?_, fun j hj => ?_, fun j hj => ⟨?_, ?_⟩, ?_, ?_⟩
  · simp only [fltH, I_sI, up2_s]
  · rw [eA _ (fun e => n2 e.symm) (fun e => n3 e.symm), c3 j hj]
    show m.2 904 j = up2 (up2 m.2 923 (k % 32) v) 924 (k % 32) y 904 j
    rw [up2_f _ _ (by decide), up2_f _ _ (by decide)]
  · rw [eA _ n4 n5, c4 j hj]
    show m.2 922 j = up2 (up2 m.2 923 (k % 32) v) 924 (k % 32) y 922 j
    rw [up2_f _ _ (by decide), up2_f _ _ (by decide)]
  · show ((h.sAI (E 400) (k % 32) v).sAI (E 401) (k % 32) y).AI (E 400) j = up2 (up2 m.2 923 (k % 32) v) 924 (k % 32) y 923 j
    rw [up2_f _ _ (by decide), AI_sAI, up2_f _ _ n6, AI_sAI]
    by_cases e : j = k % 32
    · subst e; rw [up2_s, up2_s]
    · rw [up2_a _ _ e, up2_a _ _ e]; exact (c5 j hj).1
  · show ((h.sAI (E 400) (k % 32) v).sAI (E 401) (k % 32) y).AI (E 401) j = up2 (up2 m.2 923 (k % 32) v) 924 (k % 32) y 924 j
    rw [AI_sAI]
    by_cases e : j = k % 32
    · subst e; rw [up2_s, up2_s]
    · rw [up2_a _ _ e, up2_a _ _ e, AI_sAI, up2_f _ _ (fun e => n6 e.symm), up2_f _ _ (by decide)]; exact (c5 j hj).2
  · refine (c6.fr hX (h' := fltH h E k v y) (fun _ _ => rfl) rfl (fun q a hq _ => eI q a (by omega))).mo (fun q hq => ?_)
    funext i
    show up2 (up2 m.2 923 (k % 32) v) 924 (k % 32) y q i = m.2 q i
    simp only [List.mem_cons, List.not_mem_nil, or_false] at hq
    rw [up2_f _ _ (by omega), up2_f _ _ (by omega)]
  · show up1 (up1 m.1 903 0) 921 (nI (k + 1)) 932 = nI n
    rw [up1_n _ _ (by decide), up1_n _ _ (by decide)]; exact c7
theorem MR.fl2 (hR : MR m W r c s g f k) (v y : Int32) : MR (flt (th0 m) k v y) W r c s g f (k + 1) := by
  obtain ⟨a1, a2, a3, a4, a5, a6, a7⟩ := hR.th
  have hm : Msame [921] [923, 924] (th0 m) (flt (th0 m) k v y) := ⟨fun q hq => up1_n _ _ (by simpa using hq), fun q hq => by
    funext i
    show up2 (up2 m.2 923 (k % 32) v) 924 (k % 32) y q i = m.2 q i
    simp only [List.mem_cons, List.not_mem_nil, or_false] at hq
    rw [up2_f _ _ (by omega), up2_f _ _ (by omega)]⟩
  refine ⟨a1.same hm (by decide) (by decide), ?_, ?_, ?_, ?_, ?_, (show up1 (th0 m).1 921 (nI (k + 1)) 921 = nI (k + 1) from up1_s _ _ _)⟩
  · rw [hm.1 _ (by decide)]; exact a2
  · rw [hm.1 _ (by decide)]; exact a3
  · rw [hm.1 _ (by decide)]; exact a4
  · rw [hm.1 _ (by decide)]; exact a5
  · rw [hm.1 _ (by decide)]; exact a6
theorem op_load (hL : LW h x t o sc sn SS E nd kn ρ A W r c s g f k n m) (hj : g ≤ j ∧ f ≤ j ∧ k ≤ j) (h5 : j ≤ 600) {y : Int32} (hz : (sortB s.1 r y = 0 ∧ (∃ j, y = nI j ∧ j < W ∧ z = h.AI (E 600) j) ∧ h1 = h) ∨ (¬ sortB s.1 r y = 0 ∧ z = 0 ∧ h1 = fltH h E k (sortB s.1 r y) y)) : OpE mX9_load 3 [.int y] x t o sc sn SS j z h1 := by
  have hW3 : W ≤ 3000 := hL.1.1.2.1.2.2.2
  rcases hz with ⟨e1, ⟨i, rfl, hi, e2⟩, rfl⟩ | ⟨e1, e2, rfl⟩
  · refine OpE.same hL hj (ct9_load hL.2.1.1 m hL.2.2.1 (hL.bd hj h5) _) (fun y h2 hy => ?_)
    rcases hy with ⟨-, e3, e4⟩ | ⟨e3, -⟩
    · refine ⟨?_, e4⟩
      rw [e2, e3, nI_clamp (by omega)]; exact hL.1.2.2.1 i hi
    · exact absurd e1 e3
  · refine OpE.of hL hj (Lf.flt k _ _) (ct9_load (h := fltH h E k (sortB s.1 r y) y) (hL.2.1.lf (Lf.flt k _ _) hL.2.2.2.2).1 m hL.2.2.1 (hL.bd hj h5) _) (fun y h2 hy => ?_)
    rcases hy with ⟨e3, -⟩ | ⟨-, e3, e4⟩
    · exact absurd e3 e1
    · exact ⟨e2.trans e3.symm, _, nd, kn, s, g, f, k + 1, n, e4, hL.1.flt _ _, hL.2.2.1.fl2 _ _, by omega, by omega, by omega⟩
set_option maxHeartbeats 1000000 in
theorem CL.mem (hC : CL h x E W r c s nd kn g f k n m) {i : Nat} (w : Int32) : CL (h.sAI (E 600) i w) x E W r c s nd kn g f k n ((th0 m).1, up2 m.2 904 i w) := by
  obtain ⟨c1, c2, c3, c4, c5, c6, c7⟩ := hC
  have hX := c1.1.1
  obtain ⟨n1, n2, n3, n4, n5, n6⟩ := hX.2.2.2.2.2.2.2.2.2.2.2.2.1
  have eA : ∀ a, ¬ a = E 600 → (h.sAI (E 600) i w).AI a = h.AI a := fun a e => by funext q; rw [AI_sAI, up2_f _ _ e]
  have e2 : ∀ q, ¬ q = 904 → up2 m.2 904 i w q = m.2 q := fun q hq => by funext a; rw [up2_f _ _ hq]
  refine ⟨c1.fr ⟨fun _ _ => ⟨rfl, rfl⟩, fun q a hq _ => ⟨rfl, rfl⟩⟩ rfl rfl, c2, fun j hj => ?_, fun j hj => ?_, fun j hj => ?_, (c6.fr hX (h' := h.sAI (E 600) i w) (fun _ _ => rfl) rfl (fun _ _ _ _ => rfl)).mo (fun q hq => ?_), (show up1 m.1 903 0 932 = nI n by rw [up1_n _ _ (by decide)]; exact c7)⟩
  · rw [AI_sAI]
    show _ = up2 m.2 904 i w 904 j
    by_cases e : j = i
    · subst e; rw [up2_s, up2_s]
    · rw [up2_a _ _ e, up2_a _ _ e]; exact c3 j hj
  · rw [eA _ n1]
    show _ = up2 m.2 904 i w 922 j
    rw [e2 922 (by decide)]; exact c4 j hj
  · rw [eA _ n2, eA _ n3]
    show _ = up2 m.2 904 i w 923 j ∧ _ = up2 m.2 904 i w 924 j
    rw [e2 923 (by decide), e2 924 (by decide)]; exact c5 j hj
  · simp only [List.mem_cons, List.not_mem_nil, or_false] at hq
    exact e2 q (by omega)
theorem op_store (hL : LW h x t o sc sn SS E nd kn ρ A W r c s g f k n m) (hj : g ≤ j ∧ f ≤ j ∧ k ≤ j) (h5 : j ≤ 600) {y w : Int32} (hz : z = sortB s.1 r y ∧ ((sortB s.1 r y = 0 ∧ ∃ j, y = nI j ∧ j < W ∧ h1 = h.sAI (E 600) j w) ∨ (¬ sortB s.1 r y = 0 ∧ h1 = fltH h E k (sortB s.1 r y) y))) : OpE mX9_store 3 [.int y, .int w] x t o sc sn SS j z h1 := by
  have hW3 : W ≤ 3000 := hL.1.1.2.1.2.2.2
  obtain ⟨ez, ⟨e1, i, rfl, hi, rfl⟩ | ⟨e1, rfl⟩⟩ := hz
  · refine OpE.of hL hj (Lf.mem i w) (ct9_store (h := h.sAI (E 600) i w) (hL.2.1.lf (Lf.mem i w) hL.2.2.2.2).1 m hL.2.2.1 (hL.bd hj h5) _ w) (fun y h2 hy => ?_)
    obtain ⟨e2, ⟨-, e3⟩ | ⟨e3, -⟩⟩ := hy
    · rw [nI_clamp (by omega)] at e3
      exact ⟨ez.trans e2.symm, _, nd, kn, s, g, f, k, n, e3, hL.1.mem w, hL.2.2.1.same (Is := [903]) (Rs := [904]) ⟨fun q hq => up1_n _ _ (by simpa using hq), fun q hq => by funext a; exact up2_f _ _ (by simpa using hq)⟩ (by decide) (by decide), by omega, by omega, by omega⟩
    · exact absurd e1 e3
  · refine OpE.of hL hj (Lf.flt k _ _) (ct9_store (h := fltH h E k (sortB s.1 r y) y) (hL.2.1.lf (Lf.flt k _ _) hL.2.2.2.2).1 m hL.2.2.1 (hL.bd hj h5) _ w) (fun y h2 hy => ?_)
    obtain ⟨e2, ⟨e3, -⟩ | ⟨-, e3⟩⟩ := hy
    · exact absurd e3 e1
    · exact ⟨ez.trans e2.symm, _, nd, kn, s, g, f, k + 1, n, e3, hL.1.flt _ _, hL.2.2.1.fl2 _ _, by omega, by omega, by omega⟩
theorem op_check (hL : LW h x t o sc sn SS E nd kn ρ A W r c s g f k n m) (hj : g ≤ j ∧ f ≤ j ∧ k ≤ j) {y : Int32} (hz : z = sortB s.1 r y ∧ h1 = h) : OpE mX9_check 3 [.int y] x t o sc sn SS j z h1 := by
  obtain ⟨e1, rfl⟩ := hz
  exact OpE.same hL hj (ct9_check hL.2.1.1 m hL.2.2.1 _) (fun y h2 ⟨e2, e3⟩ => ⟨e1.trans e2.symm, e3⟩)
theorem op_sizeOf (hL : LW h x t o sc sn SS E nd kn ρ A W r c s g f k n m) (hj : g ≤ j ∧ f ≤ j ∧ k ≤ j) {y : Int32} (hz : h1 = h ∧ z = match lvIx s.1 r y with | none => -1 | some b => nI (bat s.1 b).2.2.1) : OpE mX9_sizeOf 4 [.int y] x t o sc sn SS j z h1 := by
  obtain ⟨rfl, e1⟩ := hz
  exact OpE.same hL hj (ct9_sizeOf hL.2.1.1 m hL.2.2.1 _) (fun y h2 ⟨e2, e3⟩ => ⟨e1.trans e3.symm, e2⟩)
set_option maxHeartbeats 1000000 in
theorem CL.root (hC : CL h x E W r c s nd kn g f k n m) {i : Nat} (w : Int32) : CL (h.sAI (E 806) i w) x E W r c s nd kn g f k n ((th0 m).1, up2 m.2 922 i w) := by
  obtain ⟨c1, c2, c3, c4, c5, c6, c7⟩ := hC
  have hX := c1.1.1
  obtain ⟨n1, n2, n3, n4, n5, n6⟩ := hX.2.2.2.2.2.2.2.2.2.2.2.2.1
  have eA : ∀ a, ¬ a = E 806 → (h.sAI (E 806) i w).AI a = h.AI a := fun a e => by funext q; rw [AI_sAI, up2_f _ _ e]
  have e2 : ∀ q, ¬ q = 922 → up2 m.2 922 i w q = m.2 q := fun q hq => by funext a; rw [up2_f _ _ hq]
  refine ⟨c1.fr ⟨fun _ _ => ⟨rfl, rfl⟩, fun q a hq _ => ⟨rfl, rfl⟩⟩ rfl rfl, c2, fun j hj => ?_, fun j hj => ?_, fun j hj => ?_, (c6.fr hX (h' := h.sAI (E 806) i w) (fun _ _ => rfl) rfl (fun _ _ _ _ => rfl)).mo (fun q hq => ?_), (show up1 m.1 903 0 932 = nI n by rw [up1_n _ _ (by decide)]; exact c7)⟩
  · rw [eA _ (fun e => n1 e.symm)]
    show _ = up2 m.2 922 i w 904 j
    rw [e2 904 (by decide)]; exact c3 j hj
  · rw [AI_sAI]
    show _ = up2 m.2 922 i w 922 j
    by_cases e : j = i
    · subst e; rw [up2_s, up2_s]
    · rw [up2_a _ _ e, up2_a _ _ e]; exact c4 j hj
  · rw [eA _ (fun e => n4 e.symm), eA _ (fun e => n5 e.symm)]
    show _ = up2 m.2 922 i w 923 j ∧ _ = up2 m.2 922 i w 924 j
    rw [e2 923 (by decide), e2 924 (by decide)]; exact c5 j hj
  · simp only [List.mem_cons, List.not_mem_nil, or_false] at hq
    exact e2 q (by omega)
theorem op_setRoot (hL : LW h x t o sc sn SS E nd kn ρ A W r c s g f k n m) (hj : g ≤ j ∧ f ≤ j ∧ k ≤ j) {y w : Int32} (hz : (∃ j, y = nI j ∧ j < 16 ∧ z = 1 ∧ h1 = h.sAI (E 806) j w) ∨ ((y < 0 ∨ ¬ y < 16) ∧ z = 0 ∧ h1 = h)) : OpE mX9_setRoot 1 [.int y, .int w] x t o sc sn SS j z h1 := by
  have no : ∀ i : Nat, i < 16 → ¬ (nI i < 0 ∨ ¬ nI i < 16) := fun i hi => by
    have e0 : (nI i).toInt = i := nI_toInt (by omega)
    have q0 : (0 : Int32).toInt = 0 := rfl
    have q1 : (16 : Int32).toInt = 16 := rfl
    rw [Int32.lt_iff_toInt_lt, Int32.lt_iff_toInt_lt]
    omega
  rcases hz with ⟨i, rfl, hi, e1, rfl⟩ | ⟨hn, e1, rfl⟩
  · refine OpE.of hL hj (Lf.root i w) (ct9_setRoot (h := h.sAI (E 806) i w) (hL.2.1.lf (Lf.root i w) hL.2.2.2.2).1 m _ w) (fun y h2 hy => ?_)
    rcases hy with ⟨i2, e2, hi2, e3, e4⟩ | ⟨e2, -⟩
    · cases (nI_eq (by omega) (by omega)).mp e2
      exact ⟨e1.trans e3.symm, _, nd, kn, s, g, f, k, n, e4, hL.1.root w, hL.2.2.1.same (Is := [903]) (Rs := [922]) ⟨fun q hq => up1_n _ _ (by simpa using hq), fun q hq => by funext a; exact up2_f _ _ (by simpa using hq)⟩ (by decide) (by decide), by omega, by omega, by omega⟩
    · exact absurd e2 (no i hi)
  · refine OpE.same hL hj (ct9_setRoot hL.2.1.1 m _ w) (fun y h2 hy => ?_)
    rcases hy with ⟨i2, rfl, hi2, -⟩ | ⟨-, e3, e4⟩
    · exact absurd hn (no i2 hi2)
    · exact ⟨e1.trans e3.symm, e4⟩
theorem op_leak (hL : LW h x t o sc sn SS E nd kn ρ A W r c s g f k n m) (hj : g ≤ j ∧ f ≤ j ∧ k ≤ j) {y w : Int32} (hz : h1 = h ∧ z = lkM m n y w) : OpE mX9_leak 1 [.int y, .int w] x t o sc sn SS j z h1 := by
  obtain ⟨rfl, e1⟩ := hz
  have hW3 : W ≤ 3000 := hL.1.1.2.1.2.2.2
  have h9 := hL.1.2.2.2.2.2.1.1
  exact OpE.same hL hj (ct9_leak hL.2.1.1 m hL.1.2.2.2.2.2.2 (by omega) y w) (fun y h2 ⟨e2, e3⟩ => ⟨e1.trans e3.symm, e2⟩)
theorem op_pointers (hL : LW h x t o sc sn SS E nd kn ρ A W r c s g f k n m) (hj : g ≤ j ∧ f ≤ j ∧ k ≤ j) (hz : h1 = h ∧ z = nI (cR s.1 r (m.2 922) 16 + cP s.1 r (m.2 904) s.1.length)) : OpE mX9_pointers 4 [] x t o sc sn SS j z h1 := by
  obtain ⟨rfl, e1⟩ := hz
  exact OpE.same hL hj (ct9_pointers hL.2.1.1 m hL.2.2.1.1.1 hL.2.2.1.2.2.1 hL.1.1.2.2.1) (fun y h2 ⟨e2, e3⟩ => ⟨e1.trans e3.symm, e2⟩)
theorem op_count (hL : LW h x t o sc sn SS E nd kn ρ A W r c s g f k n m) (hj : g ≤ j ∧ f ≤ j ∧ k ≤ j) {y : Int32} (hz : h1 = h ∧ z = cntM m s y) : OpE mX9_count 3 [.int y] x t o sc sn SS j z h1 := by
  obtain ⟨rfl, e1⟩ := hz
  exact OpE.same hL hj (ct9_count hL.2.1.1 m hL.2.2.1.1 y) (fun y h2 ⟨e2, e3⟩ => ⟨e1.trans e3.symm, e2⟩)
theorem op_freeMany (hL : LW h x t o sc sn SS E nd kn ρ A W r c s g f k n m) (hj : g ≤ j ∧ f ≤ j ∧ k ≤ j) {y : Int32} (hz : h1 = h ∧ z = nI (nOf s.2.1 y s.2.1.length)) : OpE mX9_freeMany 1 [.int y] x t o sc sn SS j z h1 := by
  obtain ⟨rfl, e1⟩ := hz
  exact OpE.same hL hj (ct9_freeMany hL.2.1.1 m hL.2.2.1.1.2.1 y) (fun y h2 ⟨e2, e3⟩ => ⟨e1.trans e3.symm, e2⟩)
theorem op_freeAt (hL : LW h x t o sc sn SS E nd kn ρ A W r c s g f k n m) (hj : g ≤ j ∧ f ≤ j ∧ k ≤ j) {y w : Int32} (hz : h1 = h ∧ z = fAtM s.2.1 y w) : OpE mX9_freeAt 1 [.int y, .int w] x t o sc sn SS j z h1 := by
  obtain ⟨rfl, e1⟩ := hz
  exact OpE.same hL hj (ct9_freeAt hL.2.1.1 m hL.2.2.1.1.2.1 y w) (fun y h2 ⟨e2, e3⟩ => ⟨e1.trans e3.symm, e2⟩)
theorem op_waiting (hL : LW h x t o sc sn SS E nd kn ρ A W r c s g f k n m) (hj : g ≤ j ∧ f ≤ j ∧ k ≤ j) {y : Int32} (hz : h1 = h ∧ z = match wtIx s.1 y with | none => -1 | some b => nI ((bat s.1 b).1 + r)) : OpE mX9_waiting 2 [.int y] x t o sc sn SS j z h1 := by
  obtain ⟨rfl, e1⟩ := hz
  exact OpE.same hL hj (ct9_waiting hL.2.1.1 m hL.2.2.1.1.1 hL.2.2.1.2.2.1 y) (fun y h2 ⟨e2, e3⟩ => ⟨e1.trans e3.symm, e2⟩)
end OPS
