/-! THE CLASS: its smallest methods -/
def Hp.wAI (h : Hp) (a : Nat) (F : Nat → Int32) : Hp := (h.1, h.2.1, h.2.2.1, h.2.2.2.1, (fun b => if b = a then F else h.2.2.2.2.1 b), h.2.2.2.2.2)
def Hp.wAR (h : Hp) (a : Nat) (F : Nat → Option Nat) : Hp := (h.1, h.2.1, h.2.2.1, h.2.2.2.1, h.2.2.2.2.1, (fun b => if b = a then F else h.2.2.2.2.2.1 b), h.2.2.2.2.2.2)
theorem AI_wAI (h : Hp) (a : Nat) (F : Nat → Int32) : (h.wAI a F).AI = fun b => if b = a then F else h.AI b := rfl
theorem AR_wAR (h : Hp) (a : Nat) (F : Nat → Option Nat) : (h.wAR a F).AR = fun b => if b = a then F else h.AR b := rfl
theorem K_wAI (h : Hp) (a : Nat) (F : Nat → Int32) : (h.wAI a F).K = h.K := rfl
theorem K_wAR (h : Hp) (a : Nat) (F : Nat → Option Nat) : (h.wAR a F).K = h.K := rfl
theorem N_wAI (h : Hp) (a : Nat) (F : Nat → Int32) : (h.wAI a F).N = h.N := rfl
theorem N_wAR (h : Hp) (a : Nat) (F : Nat → Option Nat) : (h.wAR a F).N = h.N := rfl
theorem I_wAI (h : Hp) (a : Nat) (F : Nat → Int32) : (h.wAI a F).I = h.I := rfl
theorem I_wAR (h : Hp) (a : Nat) (F : Nat → Option Nat) : (h.wAR a F).I = h.I := rfl
theorem R_wAI (h : Hp) (a : Nat) (F : Nat → Int32) : (h.wAI a F).R = h.R := rfl
theorem R_wAR (h : Hp) (a : Nat) (F : Nat → Option Nat) : (h.wAR a F).R = h.R := rfl
theorem AR_wAI (h : Hp) (a : Nat) (F : Nat → Int32) : (h.wAI a F).AR = h.AR := rfl
theorem AI_wAR (h : Hp) (a : Nat) (F : Nat → Option Nat) : (h.wAR a F).AI = h.AI := rfl
theorem AL_wAI (h : Hp) (a : Nat) (F : Nat → Int32) : (h.wAI a F).AL = h.AL := rfl
theorem AL_wAR (h : Hp) (a : Nat) (F : Nat → Option Nat) : (h.wAR a F).AL = h.AL := rfl
theorem wAI_0 (h : Hp) (a : Nat) : h.wAI a (h.AI a) = h := by
  refine Hp.ext7 rfl rfl rfl rfl ?_ rfl rfl
  funext b
  rw [AI_wAI]
  by_cases hb : b = a <;> simp [hb]
theorem wAR_0 (h : Hp) (a : Nat) : h.wAR a (h.AR a) = h := by
  refine Hp.ext7 rfl rfl rfl rfl rfl ?_ rfl
  funext b
  rw [AR_wAR]
  by_cases hb : b = a <;> simp [hb]
theorem wAI_s (h : Hp) (a : Nat) (F : Nat → Int32) (i : Nat) (v : Int32) : (h.wAI a F).sAI a i v = h.wAI a (up1 F i v) := by
  refine Hp.ext7 rfl rfl rfl rfl ?_ rfl rfl
  funext b j
  rw [AI_wAI, AI_sAI, AI_wAI]
  by_cases hb : b = a
  · subst hb; by_cases hj : j = i <;> simp [up2, up1, hj]
  · simp [up2, hb]
theorem wAR_s (h : Hp) (a : Nat) (F : Nat → Option Nat) (i : Nat) (v : Option Nat) : (h.wAR a F).sAR a i v = h.wAR a (up1 F i v) := by
  refine Hp.ext7 rfl rfl rfl rfl rfl ?_ rfl
  funext b j
  rw [AR_wAR, AR_sAR, AR_wAR]
  by_cases hb : b = a
  · subst hb; by_cases hj : j = i <;> simp [up2, up1, hj]
  · simp [up2, hb]
theorem sAI_w (h : Hp) (a i : Nat) (v : Int32) : h.sAI a i v = h.wAI a (up1 (h.AI a) i v) := by
  rw [← wAI_s, wAI_0]
theorem wcp_link : Cond.methodLink RX6 27 arraycopyName ∈ gw := gw_of (List.mem_of_getElem? (i := 438) (by decide +kernel)) rfl
theorem wcp_stat : Cond.static arraycopyName ∈ gw := gw_of (List.mem_of_getElem? (i := 439) (by decide +kernel)) rfl
theorem wcp_nat : Cond.native arraycopyName ∈ gw := gw_of (List.mem_of_getElem? (i := 440) (by decide +kernel)) rfl
theorem wcp_ini : Cond.initialized "java/lang/System" ∈ gw := gw_of (List.mem_of_getElem? (i := 44) (by decide +kernel)) rfl
set_option maxHeartbeats 1000000 in
theorem st_copy {X : CX} {cc : ByteArray} {cells slots pc : Nat} {ls : List (Option Value)} {rest : List Value} {h : Hp} (C : Cx X RX6 cc) {d0 mc0 ms0 : Nat} (hR : X.Rm = rmd d0 mc0 ms0) (hd1 : 2 ≤ d0) {a : Nat} (hK : h.K a = 11) {sp dp n : Int32} (h1 : ¬ sp < 0) (h2 : ¬ dp < 0) (h3 : ¬ n < 0) (h4 : sp.toNatClampNeg + n.toNatClampNeg ≤ h.N a) (h5 : dp.toNatClampNeg + n.toNatClampNeg ≤ h.N a) (hcat : (rest.map fun v => v.category).sum ≤ 8) (hdg : decode cc pc = .ok (.invokestatic 27, 3))
    (kk : At X cells slots (pc + 3) ls rest (h.cp a sp.toNatClampNeg dp.toNatClampNeg n.toNatClampNeg)) : At X cells slots pc ls (.int n :: .int dp :: .ref a :: .int sp :: .ref a :: rest) h := by
  intro H locs sl q b c
  have nn : ∀ z : Int32, ¬ z < 0 → z.toInt = (z.toNatClampNeg : Int) := by
    intro z hz
    have hz0 : (0 : Int) ≤ z.toInt := by
      have := Int32.not_lt.mp hz
      simpa using Int32.le_iff_toInt_le.mp this
    show z.toInt = ((z.toInt.toNat : Nat) : Int)
    omega
  intro T hT Y
  have hcof : cof X.dA h a = _ := cof_11 hK
  obtain ⟨hbase, hat⟩ := q.1 a _ hcof
  have hc0 : H[a]? = some (vp_cell (X.dA 0) (h.N a, .inl (h.AI a))) := hat
  obtain ⟨-, k0, hk0, cm0, hkk0⟩ := (C.2.2.2.2.2.1.2 0 _ rfl).1 (h.N a) (fun j => .int (h.AI a j))
  obtain ⟨vm', X', step⟩ := Y.arraycopy C.1 C.2.2.2.1 (C.2.2.2.2.1 _ wcp_link) (C.2.2.2.2.1 _ wcp_nat) (C.2.2.2.2.1 _ wcp_stat) (C.2.2.2.2.1 _ wcp_ini) (src := a) (dst := a) (cs := vp_cell (X.dA 0) (h.N a, .inl (h.AI a))) (cd := vp_cell (X.dA 0) (h.N a, .inl (h.AI a))) (srcPos := sp) (destPos := dp) (n := n) (by rw [hT]; exact hc0) (by rw [hT]; exact hc0)
    (fun _ h => by cases h) (fun _ h => by cases h) (fun h => by cases h) (fun h => by cases h) hk0 hk0 hkk0 hkk0 (by simp [refKind]) h1 h2 h3
    (by rw [nn sp h1, nn n h3]; show ¬ _ > ((arrV _ _ (fun j => Value.int (h.AI a j))).slots.size : Int); rw [arrV_size]; omega)
    (by rw [nn dp h2, nn n h3]; show ¬ _ > ((arrV _ _ (fun j => Value.int (h.AI a j))).slots.size : Int); rw [arrV_size]; omega)
    (fun vm₁ _ i hi => by
      have e : (vp_cell (X.dA 0) (h.N a, .inl (h.AI a))).slots.getD (sp.toNatClampNeg + i) .null = .int (h.AI a (sp.toNatClampNeg + i)) := by
        show (arrV _ _ (fun j => Value.int (h.AI a j))).slots.getD _ _ = _
        rw [Array.getD_eq_getD_getElem?, arrV_read _ _ (by omega)]
        rfl
      refine ⟨?_, ?_⟩
      · rw [e]; rfl
      · rw [e]
        exact trivial)
    (g := F0 X.m pc sl (.int n :: .int dp :: .ref a :: .int sp :: .ref a :: rest)) rfl (by rw [C.2.2.1]; exact c.1) (rest := rest) rfl (by rw [C.2.1]; exact hdg) (by rw [hR]; show 1 ≤ d0; omega) (by rw [hR]; show _ ≤ 30 * d0; have : nativeFrameWords "java/lang/System" "arraycopy" 5 ≤ 30 := (by decide +kernel); show 2 * 0 + _ + _ ≤ _; omega)
  have e1 : copied (vp_cell (X.dA 0) (h.N a, .inl (h.AI a))) (vp_cell (X.dA 0) (h.N a, .inl (h.AI a))) sp dp n = vp_cell (X.dA 0) (h.N a, .inl (va_cpy (h.AI a) (h.AI a) sp.toNatClampNeg dp.toNatClampNeg n.toNatClampNeg)) := va_copied (fun z => .int z) _ _ (h.AI a) (h.AI a) h4
  rw [e1] at X' step
  have hl : a < H.size := (Array.getElem?_eq_some_iff.mp hc0).1
  have oq : ∀ q : Nat, q ≠ a → (H.setIfInBounds a (vp_cell (X.dA 0) (h.N a, .inl (va_cpy (h.AI a) (h.AI a) sp.toNatClampNeg dp.toNatClampNeg n.toNatClampNeg))))[q]? = H[q]? := fun q hq => by simp [Array.getElem?_setIfInBounds, Ne.symm hq]
  have hheap : ((T.setVm vm').setCell a (vp_cell (X.dA 0) (h.N a, .inl (va_cpy (h.AI a) (h.AI a) sp.toNatClampNeg dp.toNatClampNeg n.toNatClampNeg)))).heap = H.setIfInBounds a (vp_cell (X.dA 0) (h.N a, .inl (va_cpy (h.AI a) (h.AI a) sp.toNatClampNeg dp.toNatClampNeg n.toNatClampNeg))) := by rw [← hT]; rfl
  have off : ∀ x, x ≠ a → (h.cp a sp.toNatClampNeg dp.toNatClampNeg n.toNatClampNeg).AI x = h.AI x := fun x hx => by funext j; simp [AI_cp, hx]
  have z : (H.setIfInBounds a (vp_cell (X.dA 0) (h.N a, .inl (va_cpy (h.AI a) (h.AI a) sp.toNatClampNeg dp.toNatClampNeg n.toNatClampNeg)))).size = H.size := by simp
  obtain ⟨t, a1, b1⟩ := kk _ _ sl (q.put (g := h.cp a sp.toNatClampNeg dp.toNatClampNeg n.toNatClampNeg) (H1 := H.setIfInBounds a (vp_cell (X.dA 0) (h.N a, .inl (va_cpy (h.AI a) (h.AI a) sp.toNatClampNeg dp.toNatClampNeg n.toNatClampNeg)))) (fun x hx => cof_cg rfl rfl (fun _ => rfl) (fun _ => rfl) (off x hx) rfl rfl) rfl rfl off hcof (fun e1 he => by
      rw [cof_11 (h := h.cp a sp.toNatClampNeg dp.toNatClampNeg n.toNatClampNeg) hK] at he
      cases he
      show (H.setIfInBounds a _)[a]? = some (vp_cell _ _)
      have e9 : (h.cp a sp.toNatClampNeg dp.toNatClampNeg n.toNatClampNeg).AI a = va_cpy (h.AI a) (h.AI a) sp.toNatClampNeg dp.toNatClampNeg n.toNatClampNeg := by funext j; simp [AI_cp]
      rw [e9]
      simp [Array.getElem?_setIfInBounds, hl]
      rfl) z oq) ⟨by simp; exact b.1, fun q g1 g2 => by
      rw [oq q (fun e => g2 (by rw [e]; exact hbase))]
      exact b.2.1 q g1 g2, fun q hq => by
      rcases List.mem_append.mp hq with h | h
      · exact b.2.2 q h
      · obtain ⟨z, -, hz⟩ := List.mem_map.mp h
        rw [← hz]
        exact hbase⟩ c _ hheap X'
  exact ⟨t, step t a1, b1⟩
theorem cp_w (h : Hp) (a sp dp n : Nat) : h.cp a sp dp n = h.wAI a (va_cpy (h.AI a) (h.AI a) sp dp n) := by
  refine Hp.ext7 rfl rfl rfl rfl ?_ rfl rfl
  funext b j
  rw [AI_wAI, AI_cp]
  by_cases hb : b = a <;> simp [hb]
section C1
variable {h : Hp}
theorem ctJ_max (x y : Int32) : CtI mJ9_max_7cf53 1 0 0 [.int x, .int y] h (fun r h' => h' = h ∧ r = if x < y then y else x) := by
  refine enJ9_max_7cf53 (fun X C => ?_)
  exact sgJ9_max_7cf53_0 C (Nat.le_refl _) (Nat.le_refl _) (fun c => ⟨rfl, by rw [if_pos c]⟩) (fun c => ⟨rfl, by rw [if_neg c]⟩)
theorem ctJ_min (x y : Int32) : CtI mJ9_min_7cf53 1 0 0 [.int x, .int y] h (fun r h' => h' = h ∧ r = if y < x then y else x) := by
  refine enJ9_min_7cf53 (fun X C => ?_)
  exact sgJ9_min_7cf53_0 C (Nat.le_refl _) (Nat.le_refl _) (fun c => ⟨rfl, by rw [if_pos c]⟩) (fun c => ⟨rfl, by rw [if_neg c]⟩)
theorem ctJ_floorMod {k : Nat} (hk : k < 2147483648) : CtI mJ9_floorMod_7cf53 1 0 0 [.int (nI k), .int 32] h (fun r h' => h' = h ∧ r = nI (k % 32)) := by
  refine enJ9_floorMod_7cf53 (fun X C => ?_)
  have e : nI k - nI k / 32 * 32 = nI (k % 32) := pk_rem (a := k) (d := 32) hk (by decide) (by decide)
  have hx : 0 ≤ nI k ^^^ (32 : Int32) := by
    have h1 : nI k ^^^ (32 : Int32) = nI (k ^^^ 32) := by
      apply Int32.toBitVec_inj.mp
      rw [Int32.toBitVec_xor]
      simp only [nI]
      rw [show (32 : Int32) = Int32.ofNat 32 from rfl]
      simp only [Int32.toBitVec_ofNat']
      exact BitVec.ofNat_xor.symm
    have h2 : k ^^^ 32 < 2147483648 := Nat.xor_lt_two_pow (n := 31) hk (by decide)
    rw [h1]
    exact Int32.not_lt.mp (nI_pos h2)
  exact sgJ9_floorMod_7cf53_0 C (Nat.le_refl _) (Nat.le_refl _) (by decide) (fun c => ⟨rfl, e⟩) (fun c => absurd hx c) (fun c => absurd hx c)
/-- the memory: the object, its row, how long -/
def MeS (h : Hp) (me mw W : Nat) : Prop := h.K me = 7 ∧ h.R 600 me = some mw ∧ h.K mw = 11 ∧ h.N mw = W
theorem ct6_has {me mw W : Nat} (hS : MeS h me mw W) (x : Int32) : CtI mX6_has 1 0 0 [va_rf (some me), .int x] h (fun r h' => h' = h ∧ r = if ¬ x < 0 ∧ ¬ nI W ≤ x then 1 else 0) := by
  obtain ⟨s1, s2, s3, s4⟩ := hS
  refine enX6_has (fun X C => sgX6_has_0 C (Nat.le_refl _) (Nat.le_refl _) s1 s2 s3 (fun c => ⟨rfl, ?_⟩) (fun c c' => ⟨rfl, ?_⟩) (fun c c' => ⟨rfl, ?_⟩))
  · rw [if_neg (fun z => z.1 c)]
  · rw [s4] at c'; rw [if_neg (fun z => z.2 c')]
  · rw [s4] at c'; rw [if_pos ⟨c, c'⟩]
def inW (W : Nat) (x : Int32) : Prop := ¬ x < 0 ∧ ¬ nI W ≤ x
theorem inW_v {W : Nat} {x : Int32} (hW : W < 2147483648) (h : inW W x) : vp_in x W := by
  obtain ⟨j, hj, rfl⟩ := nI_of h.1
  have := h.2
  rw [nI_leI hW hj] at this
  exact vin (by omega)
theorem ct6_read {me mw W : Nat} (hS : MeS h me mw W) (hW : W < 2147483648) (x : Int32) : CtI mX6_read 2 0 0 [va_rf (some me), .int x] h (fun r h' => h' = h ∧ (inW W x → r = h.AI mw x.toNatClampNeg) ∧ (¬ inW W x → r = 0)) := by
  obtain ⟨s1, s2, s3, s4⟩ := id hS
  refine enX6_read (fun X C => sgX6_read_0 C ?_)
  refine clX6_read_2 C (ct6_has hS x) s1 (by decide) (Nat.le_refl _) (Nat.le_refl _) (Nat.le_of_ble_eq_true rfl) (fun r h' ⟨e1, e2⟩ => ?_)
  subst e1; subst e2
  have z1 : ¬ (if ¬ x < 0 ∧ ¬ nI W ≤ x then (1 : Int32) else 0) = 0 → inW W x := fun c => by
    by_cases hx : ¬ x < 0 ∧ ¬ nI W ≤ x
    · exact hx
    · rw [if_neg hx] at c; exact absurd rfl c
  have z0 : (if ¬ x < 0 ∧ ¬ nI W ≤ x then (1 : Int32) else 0) = 0 → ¬ inW W x := fun c hx => by
    rw [if_pos (show ¬ x < 0 ∧ ¬ nI W ≤ x from hx)] at c; exact absurd c (by decide)
  exact sgX6_read_5 C (Nat.le_refl _) (Nat.le_refl _) s1 s2 s3 (fun c => by rw [s4]; exact inW_v hW (z1 c)) (fun c => ⟨rfl, fun z => absurd z (z0 c), fun _ => rfl⟩) (fun c => ⟨rfl, fun _ => rfl, fun z => absurd (z1 c) z⟩)
theorem ct6_write {me mw W : Nat} (hS : MeS h me mw W) (hW : W < 2147483648) {j : Nat} (hj : j < W) (w : Int32) : CtV mX6_write 2 0 0 [va_rf (some me), .int (nI j), .int w] h (fun h' => h' = h.sAI mw j w) := by
  obtain ⟨s1, s2, s3, s4⟩ := id hS
  refine enX6_write (fun X C => sgX6_write_0 C ?_)
  refine clX6_write_2 C (ct6_has hS (nI j)) s1 (by decide) (Nat.le_refl _) (Nat.le_refl _) (Nat.le_of_ble_eq_true rfl) (fun r h' ⟨e1, e2⟩ => ?_)
  subst e1
  have hr : r = 1 := by
    rw [e2, if_pos ⟨nI_pos (by omega), by rw [nI_leI hW (by omega)]; omega⟩]
  subst hr
  refine sgX6_write_5 C (Nat.le_refl _) (Nat.le_refl _) s1 s2 s3 (fun _ => by rw [s4]; exact vin hj) (fun c => absurd c (by decide)) (fun _ => ?_)
  rw [nI_clamp (by omega)]
set_option maxHeartbeats 1000000 in
theorem ct6_clear {me mw W : Nat} (hS : MeS h me mw W) (hW : W < 2147483648) {a N : Nat} (ha : a + N ≤ W) : CtV mX6_clear 3 0 0 [va_rf (some me), .int (nI a), .int (nI N)] h (fun h' => h' = h.wAI mw (fun i => if a ≤ i ∧ i < a + N then 0 else h.AI mw i)) := by
  obtain ⟨s1, s2, s3, s4⟩ := id hS
  refine enX6_clear (fun X C => sgX6_clear_0 C ?_)
  have key : ∀ n i, i + n = N → At X 0 0 2 [some (va_rf (some me)), some (.int (nI a)), some (.int (nI N)), some (.int (nI i))] [] (h.wAI mw (fun j => if a ≤ j ∧ j < a + i then 0 else h.AI mw j)) := by
    intro n
    induction n with
    | zero =>
      intro i hi
      have hi : i = N := by omega
      subst hi
      exact sgX6_clear_2 C (Nat.le_refl _) (Nat.le_refl _) (fun _ => rfl) (fun c => absurd (Int32.le_refl _) c)
    | succ n ih =>
      intro i hi
      refine sgX6_clear_2 C (Nat.le_refl _) (Nat.le_refl _) (fun c => ?_) (fun _ => ?_)
      · rw [nI_leI (by omega) (by omega)] at c; omega
      · rw [nI_add]
        refine clX6_clear_12 C (ct6_write (me := me) (mw := mw) (W := W) (h := h.wAI mw _) ⟨s1, s2, s3, s4⟩ hW (j := a + i) (by omega) 0) s1 (by decide) (Nat.le_refl _) (Nat.le_refl _) (Nat.le_of_ble_eq_true rfl) (fun h' e1 => ?_)
        subst e1
        refine sgX6_clear_15 C ?_
        rw [nI_1, wAI_s]
        have e : up1 (fun j => if a ≤ j ∧ j < a + i then 0 else h.AI mw j) (a + i) 0 = (fun j => if a ≤ j ∧ j < a + (i + 1) then 0 else h.AI mw j) := by
          funext j
          by_cases hj : j = a + i
          · subst hj; simp [up1]
          · rw [up1_n _ _ hj]
            by_cases hq : a ≤ j ∧ j < a + i
            · rw [if_pos hq, if_pos (by omega)]
            · rw [if_neg hq, if_neg (by omega)]
        rw [e]
        exact ih (i + 1) (by omega)
  have := key N 0 (by omega)
  have e : (fun j => if a ≤ j ∧ j < a + 0 then 0 else h.AI mw j) = h.AI mw := by
    funext j; rw [if_neg (by omega)]
  rw [e, wAI_0] at this
  exact this
set_option maxHeartbeats 1000000 in
theorem ct6_move {me mw W : Nat} (hS : MeS h me mw W) (hW : W < 2147483648) {a b N : Nat} (hN : 1 ≤ N) (ha : a + N ≤ W) (hb : b + N ≤ W) : CtV mX6_move 2 0 0 [va_rf (some me), .int (nI a), .int (nI b), .int (nI N)] h (fun h' => h' = h.wAI mw (va_cpy (h.AI mw) (h.AI mw) a b N)) := by
  obtain ⟨s1, s2, s3, s4⟩ := id hS
  have one : ∀ j, j < W → (if ¬ nI j < 0 ∧ ¬ nI W ≤ nI j then (1 : Int32) else 0) = 1 := fun j hj => by
    rw [if_pos ⟨nI_pos (by omega), by rw [nI_leI hW (by omega)]; omega⟩]
  refine enX6_move (fun X C => sgX6_move_0 C (Nat.le_refl _) (Nat.le_refl _) (fun c => ?_) (fun _ => ?_))
  · rw [show (0 : Int32) = nI 0 from rfl, nI_leI (by omega) (by omega)] at c; omega
  refine clX6_move_6 C (ct6_has hS (nI a)) s1 (by decide) (Nat.le_refl _) (Nat.le_refl _) (Nat.le_of_ble_eq_true rfl) (fun r h' ⟨e1, e2⟩ => ?_)
  subst e1
  rw [one a (by omega)] at e2
  subst e2
  refine sgX6_move_9 C (Nat.le_refl _) (Nat.le_refl _) (fun c => absurd c (by decide)) (fun _ => ?_)
  refine clX6_move_14 C (ct6_has hS (nI b)) s1 (by decide) (Nat.le_refl _) (Nat.le_refl _) (Nat.le_of_ble_eq_true rfl) (fun r h' ⟨e1, e2⟩ => ?_)
  subst e1
  rw [one b (by omega)] at e2
  subst e2
  refine sgX6_move_17 C (Nat.le_refl _) (Nat.le_refl _) s1 s2 s3 (fun c => absurd c (by decide)) (fun _ => ?_)
  refine clX6_move_28 C (ctJ_max (nI a) (nI b)) (by decide) (Nat.le_refl _) (Nat.le_refl _) (Nat.le_of_ble_eq_true rfl) (fun r h' ⟨e1, e2⟩ => ?_)
  subst e1
  have hr : ∃ q, r = nI q ∧ q + N ≤ W := by
    by_cases c : nI a < nI b
    · exact ⟨b, by rw [e2, if_pos c], hb⟩
    · exact ⟨a, by rw [e2, if_neg c], ha⟩
  obtain ⟨q, rfl, hq⟩ := hr
  refine sgX6_move_31 C (Nat.le_refl _) (Nat.le_refl _) s1 (fun c => ?_) (fun _ => ?_)
  · exfalso
    rw [s4, pk_sub (by omega), nI_ltI (by omega) (by omega)] at c
    omega
  rw [s2]
  have h1 := nI_clamp (n := a) (by omega)
  have h2 := nI_clamp (n := b) (by omega)
  have h3 := nI_clamp (n := N) (by omega)
  refine st_copy C.1 C.2.2.1 (by decide) s3 (nI_pos (by omega)) (nI_pos (by omega)) (nI_pos (by omega)) (by rw [h1, h3, s4]; exact ha) (by rw [h2, h3, s4]; exact hb) (Nat.le_of_ble_eq_true rfl) (by decide +kernel) ?_
  rw [h1, h2, h3, cp_w]
  exact sgX6_move_49 C (Nat.le_refl _) (Nat.le_refl _) rfl
theorem ct6_move0 {me : Nat} (x y : Int32) : CtV mX6_move 2 0 0 [va_rf (some me), .int x, .int y, .int 0] h (fun h' => h' = h) := by
  refine enX6_move (fun X C => sgX6_move_0 C (Nat.le_refl _) (Nat.le_refl _) (fun c => rfl) (fun c => absurd (Int32.le_refl _) c))
theorem ct0_hasWord {q : Nat} (hq : h.K q = 1) (x : Int32) : CtI mX0_hasWord 1 0 0 [va_rf (some q), .int x] h (fun r h' => h' = h ∧ r = if x < h.I 2 q then 0 else if h.I 2 q + h.I 3 q ≤ x then 0 else 1) := by
  refine enX0_hasWord (fun X C => sgX0_hasWord_0 C (Nat.le_refl _) (Nat.le_refl _) hq (fun c => ⟨rfl, ?_⟩) (fun c c' => ⟨rfl, ?_⟩) (fun c c' => ⟨rfl, ?_⟩))
  · rw [if_pos c]
  · rw [if_neg c, if_pos c']
  · rw [if_neg c, if_neg c']
theorem ct0_init {q : Nat} (hq : h.K q = 1) (x1 x2 x3 x4 x5 : Int32) : CtV mX0_init 1 0 0 [va_rf (some q), .int x1, .int x2, .int x3, .int x4, .int x5] h (fun h' => h' = (((((h.sI 0 q x1).sI 1 q x2).sI 2 q x3).sI 3 q x4).sI 4 q x5).sI 5 q 1) := by
  exact enX0_init (fun X C => sgX0_init_0 C (Nat.le_refl _) (Nat.le_refl _) (by decide) hq rfl)
/-- the faults: the object, its rows -/
def FaS (h : Hp) (fa fk fd : Nat) : Prop := h.K fa = 5 ∧ h.R 400 fa = some fk ∧ h.K fk = 11 ∧ h.N fk = 32 ∧ h.R 401 fa = some fd ∧ h.K fd = 11 ∧ h.N fd = 32
theorem ct4_keep {fa fk fd k : Nat} (hS : FaS h fa fk fd) (hk : h.I 402 fa = nI k) (hl : k < 2147483647) (x a : Int32) : CtV mX4_keep 2 0 0 [va_rf (some fa), .int x, .int a] h (fun h' => h' = ((h.sAI fk (k % 32) x).sAI fd (k % 32) a).sI 402 fa (nI (k + 1))) := by
  obtain ⟨s1, s2, s3, s4, s5, s6, s7⟩ := hS
  have ml : k % 32 < 32 := Nat.mod_lt _ (by decide)
  refine enX4_keep (fun X C => sgX4_keep_0 C s1 ?_)
  rw [hk]
  refine clX4_keep_6 C (ctJ_floorMod (by omega)) (by decide) (Nat.le_refl _) (Nat.le_refl _) (Nat.le_of_ble_eq_true rfl) (fun r h' ⟨e1, e2⟩ => ?_)
  subst e1; subst e2
  refine sgX4_keep_9 C (Nat.le_refl _) (Nat.le_refl _) s1 s2 s3 (by rw [s4]; exact vin ml) s5 s6 (by rw [s7]; exact vin ml) ?_
  rw [nI_clamp (by omega), hk, nI_1]
theorem ct4_has {fa fk fd k : Nat} (hS : FaS h fa fk fd) (hk : h.I 402 fa = nI k) (x : Int32) : CtI mX4_has 1 0 0 [va_rf (some fa), .int x] h (fun r h' => h' = h ∧ r = if ¬ x < 0 ∧ ¬ 32 ≤ x ∧ ¬ nI k ≤ x then 1 else 0) := by
  refine enX4_has (fun X C => sgX4_has_0 C (Nat.le_refl _) (Nat.le_refl _) hS.1 (fun c => ⟨rfl, ?_⟩) (fun c c' => ⟨rfl, ?_⟩) (fun c c' c2 => ⟨rfl, ?_⟩) (fun c c' c2 => ⟨rfl, ?_⟩))
  · rw [if_neg (fun z => z.1 c)]
  · rw [if_neg (fun z => z.2.1 c')]
  · rw [hk] at c2; rw [if_neg (fun z => z.2.2 c2)]
  · rw [hk] at c2; rw [if_pos ⟨c, c', c2⟩]
theorem ct4_slotOf {fa fk fd k K : Nat} (hS : FaS h fa fk fd) (hk : h.I 402 fa = nI k) (hl : k < 2147483647) (hK : K < k) : CtI mX4_slotOf 2 0 0 [va_rf (some fa), .int (nI K)] h (fun r h' => h' = h ∧ r = nI ((k - 1 - K) % 32)) := by
  refine enX4_slotOf (fun X C => sgX4_slotOf_0 C hS.1 ?_)
  rw [hk, show nI k - 1 = nI (k - 1) from pk_sub (a := k) (b := 1) (by omega), pk_sub (by omega)]
  refine clX4_slotOf_10 C (ctJ_floorMod (by omega)) (by decide) (Nat.le_refl _) (Nat.le_refl _) (Nat.le_of_ble_eq_true rfl) (fun r h' ⟨e1, e2⟩ => ?_)
  subst e1; subst e2
  exact sgX4_slotOf_13 C (Nat.le_refl _) (Nat.le_refl _) ⟨rfl, rfl⟩
theorem ct4_kindOf {fa fk fd k K : Nat} (hS : FaS h fa fk fd) (hk : h.I 402 fa = nI k) (hl : k < 2147483647) (hK : K < k) : CtI mX4_kindOf 3 0 0 [va_rf (some fa), .int (nI K)] h (fun r h' => h' = h ∧ r = h.AI fk ((k - 1 - K) % 32)) := by
  obtain ⟨s1, s2, s3, s4, s5, s6, s7⟩ := id hS
  have ml : (k - 1 - K) % 32 < 32 := Nat.mod_lt _ (by decide)
  refine enX4_kindOf (fun X C => sgX4_kindOf_0 C s1 ?_)
  refine clX4_kindOf_6 C (ct4_slotOf hS hk hl hK) s1 (by decide) (Nat.le_refl _) (Nat.le_refl _) (by rw [s2]; exact Nat.le_of_ble_eq_true rfl) (fun r h' ⟨e1, e2⟩ => ?_)
  subst e1; subst e2
  rw [s2]
  refine sgX4_kindOf_9 C (Nat.le_refl _) (Nat.le_refl _) s3 (by rw [s4]; exact vin ml) ⟨rfl, ?_⟩
  rw [nI_clamp (by omega)]
theorem ct4_addressOf {fa fk fd k K : Nat} (hS : FaS h fa fk fd) (hk : h.I 402 fa = nI k) (hl : k < 2147483647) (hK : K < k) : CtI mX4_addressOf 3 0 0 [va_rf (some fa), .int (nI K)] h (fun r h' => h' = h ∧ r = h.AI fd ((k - 1 - K) % 32)) := by
  obtain ⟨s1, s2, s3, s4, s5, s6, s7⟩ := id hS
  have ml : (k - 1 - K) % 32 < 32 := Nat.mod_lt _ (by decide)
  refine enX4_addressOf (fun X C => sgX4_addressOf_0 C s1 ?_)
  refine clX4_addressOf_6 C (ct4_slotOf hS hk hl hK) s1 (by decide) (Nat.le_refl _) (Nat.le_refl _) (by rw [s5]; exact Nat.le_of_ble_eq_true rfl) (fun r h' ⟨e1, e2⟩ => ?_)
  subst e1; subst e2
  rw [s5]
  refine sgX4_addressOf_9 C (Nat.le_refl _) (Nat.le_refl _) s6 (by rw [s7]; exact vin ml) ⟨rfl, ?_⟩
  rw [nI_clamp (by omega)]
end C1
