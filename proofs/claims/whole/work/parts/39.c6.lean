/-! RELEASE in the class -/
def frO (a : Nat) : Option (Nat × Nat) → Nat
  | none => a
  | some p => p.1
def toO (b : Nat) : Option (Nat × Nat) → Nat
  | none => b
  | some p => p.1 + p.2
def kc : Option (Nat × Nat) → Int32
  | none => 0
  | some _ => 1
def kz : Option (Nat × Nat) → Int32
  | none => 0
  | some p => nI p.2
def LO (G : Fl) (a : Nat) : Option (Nat × Nat) → Prop
  | none => ∀ p, p ∈ G → ¬ p.1 + p.2 = a
  | some p => p ∈ G ∧ p.1 + p.2 = a
def RO (G : Fl) (b : Nat) : Option (Nat × Nat) → Prop
  | none => ∀ p, p ∈ G → ¬ p.1 = b
  | some p => p ∈ G ∧ p.1 = b
def GD (G : Fl) : Prop := (∀ q, q ∈ G → 1 ≤ q.1 ∧ 4 ≤ q.2 ∧ q.1 + q.2 ≤ 3000) ∧ ∀ q q', q ∈ G → q' ∈ G → q = q' ∨ dj q q'
def hlds (h h' : Hp) (ch : Nat) (lo ro : Option (Nat × Nat)) : Prop := h'.I 305 ch = h.I 305 ch - kc lo - kc ro ∧ h'.I 306 ch = h.I 306 ch - kz lo - kz ro ∧ h'.I 308 ch = h.I 308 ch + kc lo + kc ro ∧ h'.I 303 ch = h.I 303 ch ∧ h'.I 304 ch = h.I 304 ch ∧ h'.I 307 ch = h.I 307 ch
theorem i32_sc (x y z : Int32) : x - y - z = x - z - y := by
  simp only [Int32.sub_eq_add_neg, Int32.add_assoc]
  rw [Int32.add_comm (-y) (-z)]
def rgPost (h : Hp) (ch : Nat) (kn : Nat → Nat) (G : Fl) (a n top : Nat) (h' : Hp) : Prop := ∃ lo ro, LO G a lo ∧ RO G (a + n) ro ∧ Gf G h h' kn ∧ (∃ G', Asc 0 G' ∧
    ((toO (a + n) ro = top ∧ (∀ q, q ∈ G' ↔ q ∈ G ∧ ¬ lo = some q ∧ ¬ ro = some q) ∧ Cn h' kn (h'.R 202 (kn 0)) G' ∧ h'.I 303 ch = nI (frO a lo) ∧ h'.I 305 ch = h.I 305 ch - kc lo - kc ro ∧ h'.I 306 ch = h.I 306 ch - kz lo - kz ro) ∨
     (¬ toO (a + n) ro = top ∧ (∀ q, q ∈ G' ↔ q = (frO a lo, toO (a + n) ro - frO a lo) ∨ (q ∈ G ∧ ¬ lo = some q ∧ ¬ ro = some q)) ∧ (∃ q0, h.K q0 = 0 ∧ Cn h' (up1 kn (frO a lo) q0) (h'.R 202 (kn 0)) G') ∧ h'.I 303 ch = h.I 303 ch ∧ h'.I 305 ch = h.I 305 ch - kc lo - kc ro + 1 ∧ h'.I 306 ch = h.I 306 ch - kz lo - kz ro + nI (toO (a + n) ro - frO a lo)))) ∧
    h'.I 308 ch = h.I 308 ch + kc lo + kc ro ∧ h'.I 304 ch = h.I 304 ch ∧ h'.I 307 ch = h.I 307 ch
section C6
variable {h : Hp} {ch pi W : Nat} {kn : Nat → Nat}
set_option maxHeartbeats 1000000 in
theorem ct3_releaseGreat (hS : ChS h ch pi W kn) {G : Fl} (hA : Asc 0 G) (hC : Cn h kn (h.R 202 (kn 0)) G) (hD : GD G) {a n top : Nat} (ht : h.I 303 ch = nI top) (htt : top ≤ 3000) (ha : 1 ≤ a) (hn : 4 ≤ n) (han : a + n ≤ 3000) (hd : ∀ q, q ∈ G → dj (a, n) q) :
    CtV mX3_releaseGreat 2 1 3 [va_rf (some ch), .int (nI a), .int (nI n)] h (rgPost h ch kn G a n top) := by
  obtain ⟨s1, s2, s3, s4, s5, s6, s7, s8⟩ := id hS
  have frb : ∀ lo, LO G a lo → 1 ≤ frO a lo ∧ frO a lo ≤ a := fun lo hl => by
    cases lo with
    | none => simp only [frO]; omega
    | some p => have := hD.1 p hl.1; have h2 : p.1 + p.2 = a := hl.2; simp only [frO]; omega
  have tob : ∀ ro, RO G (a + n) ro → a + n ≤ toO (a + n) ro ∧ toO (a + n) ro ≤ 3000 := fun ro hr => by
    cases ro with
    | none => simp only [toO]; omega
    | some p => have := hD.1 p hr.1; have h2 : p.1 = a + n := hr.2; simp only [toO]; omega
  refine enX3_releaseGreat (fun X C => sgX3_releaseGreat_0 C s1 s5 s6 ?_)
  rw [nI_add]
  -- the end
  have tail : ∀ (K1 : Fl) (lo ro : Option (Nat × Nat)) (hh : Hp), LO G a lo → RO G (a + n) ro → (∀ q, q ∈ K1 ↔ q ∈ G ∧ ¬ lo = some q ∧ ¬ ro = some q) → Asc 0 K1 → Cn hh kn (hh.R 202 (kn 0)) K1 → Gf G h hh kn → hlds h hh ch lo ro →
      At X 0 0 16 [some (va_rf (some ch)), some (.int (nI a)), some (.int (nI n)), some (.int (nI (frO a lo))), some (.int (nI (toO (a + n) ro))), some (va_rf none)] [] hh := by
    intro K1 lo ro hh hlo hro hK1 hAK hCK hGf hh6
    obtain ⟨f1, f2, f3, f4, f5, f6⟩ := hh6
    have hfr := frb lo hlo
    have hto := tob ro hro
    have hSh := hS.fc hGf.1
    obtain ⟨t1, t2, t3, t4, t5, t6, t7, t8⟩ := id hSh
    refine sgX3_releaseGreat_16 C (by decide) (by decide) t1 (fun _ c => ?_) (fun _ c => ?_) (fun z hz => by cases hz)
    · rw [f4, ht, nI_eq (by omega) (by omega)] at c
      refine nwX3_releaseGreat_107 C (by decide) (by decide) (fun q0 hq0 => ?_)
      refine sgX3_releaseGreat_110 C ?_
      have hq0h : h.K q0 = 0 := by
        by_cases hz : h.K q0 = 0
        · exact hz
        · exact absurd ((hGf.1.1 q0 hz).1.symm.trans hq0) hz
      rw [pk_sub (by omega)]
      refine clX3_releaseGreat_116 C (ct2_init (h := hh.nw q0 3 0) (q := q0) (by simp [K_nw]) _ _) (by decide) (by decide) (by decide) (Nat.le_of_ble_eq_true rfl) (fun h2 e2 => ?_)
      -- the new chunk
      have ne : ∀ x, ¬ hh.K x = 0 → ¬ x = q0 := fun x hx e => hx (by rw [e]; exact hq0)
      have hfrq : ∀ q, q ∈ K1 → ¬ q.1 = frO a lo := by
        intro q hq e
        obtain ⟨q1, q2, q3⟩ := (hK1 q).mp hq
        cases lo with
        | none =>
          have h1 := hd q q1
          have h2 := hD.1 q q1
          simp only [frO] at e
          simp only [dj] at h1
          omega
        | some p =>
          simp only [frO] at e
          rcases hD.2 q p q1 hlo.1 with e2 | e2
          · exact q2 (by rw [e2])
          · have h2 := hD.1 q q1
            have h3 := hD.1 p hlo.1
            simp only [dj] at e2
            omega
      have h2K : ∀ x, ¬ hh.K x = 0 → h2.K x = hh.K x := fun x hx => by subst e2; simp [K_sI, K_nw, ne x hx]
      have h2I : ∀ f x, ¬ hh.K x = 0 → h2.I f x = hh.I f x ∧ h2.R f x = hh.R f x := fun f x hx => by
        subst e2
        simp [I_sI, R_sI, I_nw, R_nw, up2, ne x hx]
      have hGf2 : Gf G hh h2 kn := by
        refine ⟨⟨fun x hx => ?_, fun f x _ hx => h2I f x hx⟩, fun x hx => ?_, fun y h3 h4 h5 h6 h7 => (h2I 202 _ (by rw [h3]; decide)).2⟩
        · subst e2; simp [K_sI, N_sI, AI_sI, AL_sI, AR_sI, K_nw, N_nw, AI_nw, AL_nw, AR_nw, ne x hx]
        · subst e2; simp [AR_sI, AR_nw, ne x hx]
      have hf0 : up1 kn (frO a lo) q0 0 = kn 0 := up1_n _ _ (by omega)
      have hff : up1 kn (frO a lo) q0 (frO a lo) = q0 := up1_s _ _ _
      have hS2 : ChS h2 ch pi W (up1 kn (frO a lo) q0) := by
        have := hSh.fc hGf2.1
        unfold ChS
        rw [hf0]
        exact this
      have hk2 : Ck h2 (up1 kn (frO a lo) q0) (frO a lo, toO (a + n) ro - frO a lo) := by
        unfold Ck
        rw [hff]
        subst e2
        simp [K_sI, K_nw, I_sI, I_nw, up2]
      have hC2 : Cn h2 (up1 kn (frO a lo) q0) (h2.R 202 (up1 kn (frO a lo) q0 0)) K1 := by
        rw [hf0, (h2I 202 (kn 0) (by rw [t6]; decide)).2]
        refine (hCK.tr (fun q hq hk => ⟨?_, (h2I 202 _ (by rw [hk.1]; decide)).2⟩)).kn hfrq
        exact hGf2.ck hk
      have hlk := ct3_linkGreat hS2 (a := frO a lo) (n := toO (a + n) ro - frO a lo) (by omega) (by omega) hAK hC2 hfrq hk2
      rw [hff] at hlk
      refine clX3_releaseGreat_119 C hlk (by rw [h2K ch (by rw [t1]; decide)]; exact t1) (by decide) (by decide) (by decide) (Nat.le_of_ble_eq_true rfl) (fun h3 ⟨G1, G2, y, g1, g2, g3, g4, g5, g6⟩ => ?_)
      refine sgX3_releaseGreat_122 C (by decide) (by decide) ?_
      have hyf : ¬ y = frO a lo := by
        rcases g2 with rfl | ⟨q, hq, rfl⟩
        · omega
        · exact hfrq q (by rw [g1]; exact List.mem_append_left _ hq)
      have hyk : up1 kn (frO a lo) q0 y = kn y := up1_n _ _ hyf
      rw [hyk] at g3 g4
      have hyG : y = 0 ∨ ∃ q, q ∈ G ∧ q.1 = y := by
        rcases g2 with rfl | ⟨q, hq, e⟩
        · exact Or.inl rfl
        · exact Or.inr ⟨q, ((hK1 q).mp (by rw [g1]; exact List.mem_append_left _ hq)).1, e⟩
      have hyl : y < 2147483648 := by
        rcases hyG with rfl | ⟨q, hq, rfl⟩
        · decide
        · have := hD.1 q hq; omega
      have hcq : ¬ ch = q0 := ne ch (by rw [t1]; decide)
      have ckk : ¬ hh.K ch = 0 := by rw [t1]; decide
      have l3 : ∀ f x, ¬ f = 202 → ¬ f = 305 → ¬ f = 306 → h3.I f x = h2.I f x ∧ h3.R f x = h2.R f x := fun f x e1 e3 e4 => by
        subst g4
        simp only [lnk, I_sI, I_sR, R_sI, R_sR, up2, if_neg e1, if_neg e3, if_neg e4]
        exact ⟨trivial, trivial⟩
      have hGf3 : Gf G hh h3 kn := by
        refine ⟨⟨fun x hx => ?_, fun f x hf hx => ?_⟩, fun x hx => ?_, fun z h6 h7 h8 h9 h10 => ?_⟩
        · have := hGf2.1.1 x hx
          subst g4; exact this
        · have e1 : ¬ f = 202 := fun e => hf (Or.inl e)
          have e3 : ¬ f = 305 := fun e => hf (Or.inr (by omega))
          have e4 : ¬ f = 306 := fun e => hf (Or.inr (by omega))
          have e5 := l3 f x e1 e3 e4
          rw [e5.1, e5.2]
          exact h2I f x hx
        · have := hGf2.2.1 x hx
          subst g4; exact this
        · have k0 : ¬ hh.K (kn z) = 0 := by rw [h6]; decide
          have z2 : ¬ kn z = q0 := ne _ k0
          have z1 : ¬ kn z = kn y := kn_ne (h := h2) (by rw [(h2I 200 _ k0).1]; exact h7) g3 h8 hyl (fun e => by
            rcases hyG with h0 | ⟨q, hq, e5⟩
            · exact h9 (by rw [e, h0])
            · exact h10 q hq (by rw [e5, e]))
          subst g4
          simp only [lnk, R_sI, R_sR, up2, if_true, if_neg z1, if_neg z2]
          exact (h2I 202 _ k0).2
      have i5 : h3.I 305 ch = h2.I 305 ch + 1 := by subst g4; simp [lnk, I_sI, I_sR, up2]
      have i6 : h3.I 306 ch = h2.I 306 ch + nI (toO (a + n) ro - frO a lo) := by
        have := hk2.2.2
        rw [hff] at this
        subst g4
        simp only [lnk, I_sI, I_sR, up2, if_true]
        rw [this]
      refine ⟨lo, ro, hlo, hro, hGf.trans hGf3, ⟨G1 ++ (frO a lo, toO (a + n) ro - frO a lo) :: G2, g5, Or.inr ⟨c, fun q => ?_, ⟨q0, hq0h, ?_⟩, ?_, ?_, ?_⟩⟩, ?_, ?_, ?_⟩
      · rw [← hK1 q, g1, List.mem_append, List.mem_cons, List.mem_append]
        constructor
        · rintro (x | x | x)
          · exact Or.inr (Or.inl x)
          · exact Or.inl x
          · exact Or.inr (Or.inr x)
        · rintro (x | x | x)
          · exact Or.inr (Or.inl x)
          · exact Or.inl x
          · exact Or.inr (Or.inr x)
      · rw [hf0] at g6; exact g6
      · rw [(l3 303 ch (by decide) (by decide) (by decide)).1, (h2I 303 ch ckk).1]; exact f4
      · rw [i5, (h2I 305 ch ckk).1, f1]
      · rw [i6, (h2I 306 ch ckk).1, f2]
      · rw [(l3 308 ch (by decide) (by decide) (by decide)).1, (h2I 308 ch ckk).1]; exact f3
      · rw [(l3 304 ch (by decide) (by decide) (by decide)).1, (h2I 304 ch ckk).1]; exact f5
      · rw [(l3 307 ch (by decide) (by decide) (by decide)).1, (h2I 307 ch ckk).1]; exact f6
    · rw [f4, ht, nI_eq (by omega) (by omega)] at c
      refine ⟨lo, ro, hlo, hro, hGf.trans (Gf.sI G hh kn _ (Or.inr (by omega))), ⟨K1, hAK, Or.inl ⟨c, hK1, hCK.sI (by decide), ?_, ?_, ?_⟩⟩, ?_, ?_, ?_⟩
      · simp [I_sI, up2]
      · simp only [I_sI, up2]; exact f1
      · simp only [I_sI, up2]; exact f2
      · simp only [I_sI, up2]; exact f3
      · simp only [I_sI, up2]; exact f5
      · simp only [I_sI, up2]; exact f6
  -- the walk
  have loop : ∀ (S T K1 : Fl) (lo ro : Option (Nat × Nat)) (o5 : Option Nat) (hh : Hp), G = T ++ S → LO T a lo → RO T (a + n) ro → (∀ q, q ∈ K1 ↔ q ∈ T ∧ ¬ lo = some q ∧ ¬ ro = some q) → Asc 0 (K1 ++ S) → Cn hh kn (hh.R 202 (kn 0)) (K1 ++ S) → Cn hh kn o5 S → Gf G h hh kn → hlds h hh ch lo ro →
      At X 0 0 16 [some (va_rf (some ch)), some (.int (nI a)), some (.int (nI n)), some (.int (nI (frO a lo))), some (.int (nI (toO (a + n) ro))), some (va_rf o5)] [] hh := by
    intro S
    induction S with
    | nil =>
      intro T K1 lo ro o5 hh hG hlo hro hK1 hAK hCK hCo hGf hh6
      have hCo : o5 = none := hCo
      subst hCo
      rw [List.append_nil] at hG hAK hCK
      subst hG
      exact tail K1 lo ro hh hlo hro hK1 hAK hCK hGf hh6
    | cons p S ih =>
      intro T K1 lo ro o5 hh hG hlo hro hK1 hAK hCK hCo hGf hh6
      obtain ⟨c1, c2, c3⟩ := hCo
      subst c1
      have hpG : p ∈ G := by rw [hG]; simp
      have hTG : ∀ q, q ∈ T → q ∈ G := fun q hq => by rw [hG]; exact List.mem_append_left _ hq
      have hA2 := hA
      rw [hG] at hA2
      have hTp : ∀ q, q ∈ T → q.1 < p.1 := (Asc.lt hA2).1
      have hpD := hD.1 p hpG
      have hSh := hS.fc hGf.1
      obtain ⟨t1, t2, t3, t4, t5, t6, t7, t8⟩ := id hSh
      have hG2 : G = (T ++ [p]) ++ S := by rw [hG]; simp
      have hloG : LO G a lo ∨ lo = none := by
        cases lo with
        | none => exact Or.inr rfl
        | some q => exact Or.inl ⟨hTG q hlo.1, hlo.2⟩
      have hfr : 1 ≤ frO a lo ∧ frO a lo ≤ a := by
        rcases hloG with hx | hx
        · exact frb lo hx
        · subst hx; simp only [frO]; omega
      have hto : a + n ≤ toO (a + n) ro ∧ toO (a + n) ro ≤ 3000 := by
        cases ro with
        | none => simp only [toO]; omega
        | some q => exact tob (some q) ⟨hTG q hro.1, hro.2⟩
      refine sgX3_releaseGreat_16 C (by decide) (by decide) t1 (fun e => by cases e) (fun e => by cases e) (fun z hz => ?_)
      cases hz
      refine clX3_releaseGreat_23 C (ct2_end c2.1) c2.1 (by decide) (by decide) (by decide) (Nat.le_of_ble_eq_true rfl) (fun y h' ⟨e1, e2⟩ => ?_)
      subst e1
      rw [c2.2.1, c2.2.2, nI_add] at e2
      subst e2
      -- a chunk that is joined
      have mt : ∀ lo' ro', LO (T ++ [p]) a lo' → RO (T ++ [p]) (a + n) ro' → (∀ q, q ∈ K1 ↔ q ∈ T ++ [p] ∧ ¬ lo' = some q ∧ ¬ ro' = some q) → frO a lo' = (if p.1 < frO a lo then p.1 else frO a lo) → toO (a + n) ro' = (if toO (a + n) ro < p.1 + p.2 then p.1 + p.2 else toO (a + n) ro) → (∀ x : Int32, x - kc lo - kc ro - 1 = x - kc lo' - kc ro') → (∀ x : Int32, x - kz lo - kz ro - nI p.2 = x - kz lo' - kz ro') → (∀ x : Int32, x + kc lo + kc ro + 1 = x + kc lo' + kc ro') →
          At X 0 0 47 [some (va_rf (some ch)), some (.int (nI a)), some (.int (nI n)), some (.int (nI (frO a lo))), some (.int (nI (toO (a + n) ro))), some (va_rf (some (kn p.1)))] [.int (h'.I 200 (kn p.1)), .int (nI (frO a lo))] h' := by
        intro lo' ro' hlo' hro' hK1' hfr' hto' n1 n2 n3
        rw [c2.2.1]
        refine clX3_releaseGreat_47 C (ctJ_min (nI (frO a lo)) (nI p.1)) (by decide) (by decide) (by decide) (Nat.le_of_ble_eq_true rfl) (fun y h2 ⟨e1, e2⟩ => ?_)
        subst e1
        have e2 : y = nI (frO a lo') := by
          rw [e2, hfr']
          by_cases c : p.1 < frO a lo
          · rw [if_pos c, if_pos ((nI_ltI (by omega) (by omega)).mpr c)]
          · rw [if_neg c, if_neg (fun z => c ((nI_ltI (by omega) (by omega)).mp z))]
        subst e2
        refine sgX3_releaseGreat_50 C ?_
        refine clX3_releaseGreat_55 C (ct2_end c2.1) c2.1 (by decide) (by decide) (by decide) (Nat.le_of_ble_eq_true rfl) (fun y h3 ⟨e1, e2⟩ => ?_)
        subst e1
        rw [c2.2.1, c2.2.2, nI_add] at e2
        subst e2
        refine clX3_releaseGreat_58 C (ctJ_max (nI (toO (a + n) ro)) (nI (p.1 + p.2))) (by decide) (by decide) (by decide) (Nat.le_of_ble_eq_true rfl) (fun y h4 ⟨e1, e2⟩ => ?_)
        subst e1
        have e2 : y = nI (toO (a + n) ro') := by
          rw [e2, hto']
          by_cases c : toO (a + n) ro < p.1 + p.2
          · rw [if_pos c, if_pos ((nI_ltI (by omega) (by omega)).mpr c)]
          · rw [if_neg c, if_neg (fun z => c ((nI_ltI (by omega) (by omega)).mp z))]
        subst e2
        refine sgX3_releaseGreat_61 C t1 ?_
        generalize hg1 : h4.sI 308 ch (h4.I 308 ch + 1) = g1
        have hGg : Gf G h4 g1 kn := by subst hg1; exact Gf.sI G h4 kn _ (Or.inr (by omega))
        have hCg : Cn g1 kn (g1.R 202 (kn 0)) (K1 ++ p :: S) := by subst hg1; exact hCK.sI (by decide)
        have hC3 : Cn g1 kn (g1.R 202 (kn p.1)) S := by subst hg1; exact c3.sI (by decide)
        have hSg := hSh.fc hGg.1
        refine clX3_releaseGreat_76 C (ct3_unlinkGreat hSg hAK hCg) hSg.1 (by decide) (by decide) (by decide) (Nat.le_of_ble_eq_true rfl) (fun h5 ⟨y, y1, y2, y3, y4⟩ => ?_)
        have hyG : y = 0 ∨ ∃ q, q ∈ G ∧ q.1 = y := by
          rcases y1 with rfl | ⟨q, hq, e⟩
          · exact Or.inl rfl
          · exact Or.inr ⟨q, hTG q ((hK1 q).mp hq).1, e⟩
        have hyl : y < p.1 := by
          rcases y1 with rfl | ⟨q, hq, rfl⟩
          · omega
          · exact hTp q ((hK1 q).mp hq).1
        have hyl2 : y < 2147483648 := by omega
        have hGu : Gf G g1 h5 kn := by
          subst y3
          exact ((Gf.sR g1 _ y2 hyl2 hyG).trans (Gf.sI G _ kn _ (Or.inr (by omega)))).trans (Gf.sI G _ kn _ (Or.inr (by omega)))
        have hck5 := hGu.ck (hGg.ck c2)
        have hlS := (Asc.lt hAK).2.1
        have hR5 : h5.R 202 (kn p.1) = g1.R 202 (kn p.1) := by
          have hne : ¬ kn p.1 = kn y := kn_ne (h := g1) (hGg.ck c2).2.1 y2 (by omega) hyl2 (by omega)
          subst y3
          simp only [unl, R_sI, R_sR, up2, if_true, if_neg hne]
        refine sgX3_releaseGreat_79 C hck5.1 ?_
        refine ih (T ++ [p]) K1 lo' ro' _ h5 hG2 hlo' hro' hK1' (Asc.cut hAK) y4 ?_ ((hGf.trans hGg).trans hGu) ?_
        · rw [hR5]
          have : Cn (unl g1 ch (kn y) (kn p.1)) kn (g1.R 202 (kn p.1)) S := by
            refine ((hC3.sR y2 hyl2 (fun q hq => ?_)).sI (by decide)).sI (by decide)
            have := Asc.mem hlS q hq
            exact ⟨by omega, this.2⟩
          rw [y3]; exact this
        · obtain ⟨f1, f2, f3, f4, f5, f6⟩ := hh6
          have g201 : g1.I 201 (kn p.1) = nI p.2 := (hGg.ck c2).2.2
          refine ⟨?_, ?_, ?_, ?_, ?_, ?_⟩
          · subst y3; subst hg1
            simp only [unl, I_sI, I_sR, up2, if_true, Nat.reduceEqDiff, if_false]
            rw [f1]; exact n1 _
          · subst y3
            simp only [unl, I_sI, I_sR, up2, if_true, Nat.reduceEqDiff, if_false]
            rw [g201]; subst hg1
            simp only [I_sI, up2, Nat.reduceEqDiff, if_false]
            rw [f2]; exact n2 _
          · subst y3; subst hg1
            simp only [unl, I_sI, I_sR, up2, if_true, Nat.reduceEqDiff, if_false]
            rw [f3]; exact n3 _
          · subst y3; subst hg1
            simp only [unl, I_sI, I_sR, up2, if_true, Nat.reduceEqDiff, if_false]
            exact f4
          · subst y3; subst hg1
            simp only [unl, I_sI, I_sR, up2, if_true, Nat.reduceEqDiff, if_false]
            exact f5
          · subst y3; subst hg1
            simp only [unl, I_sI, I_sR, up2, if_true, Nat.reduceEqDiff, if_false]
            exact f6
      have pT : ¬ p ∈ T := fun hq => by have := hTp p hq; omega
      refine sgX3_releaseGreat_26 C c2.1 (fun c => ?_) (fun c c' => ?_) (fun c c' => ?_)
      · -- it ends where the released one begins
        rw [nI_eq (by omega) (by omega)] at c
        have hno : lo = none := by
          cases lo with
          | none => rfl
          | some q =>
            exfalso
            have h1 := hTp q hlo.1
            have h2 : q.1 + q.2 = a := hlo.2
            rcases hD.2 q p (hTG q hlo.1) hpG with e | e
            · rw [e] at h1; omega
            · simp only [dj] at e; omega
        subst hno
        refine mt (some p) ro ⟨by simp, c⟩ ?_ (fun q => ?_) ?_ ?_ (fun x => ?_) (fun x => ?_) (fun x => ?_)
        · cases ro with
          | none =>
            intro q hq
            rcases List.mem_append.mp hq with hq | hq
            · exact hro q hq
            · simp at hq; subst hq; omega
          | some q => exact ⟨List.mem_append_left _ hro.1, hro.2⟩
        · rw [hK1 q, List.mem_append]
          constructor
          · rintro ⟨x1, x2, x3⟩
            exact ⟨Or.inl x1, fun e => by cases e; exact pT x1, x3⟩
          · rintro ⟨x1, x2, x3⟩
            rcases x1 with x1 | x1
            · exact ⟨x1, (by simp), x3⟩
            · simp at x1; subst x1; exact absurd rfl x2
        · rw [if_pos (show p.1 < frO a none by simp only [frO]; omega)]; rfl
        · rw [if_neg (by omega)]
        · cases ro <;> simp [kc]
        · show x - 0 - kz ro - nI p.2 = x - nI p.2 - kz ro
          rw [Int32.sub_zero, i32_sc]
        · cases ro <;> simp [kc]
      · -- it is passed over
        rw [nI_eq (by omega) (by omega)] at c
        rw [c2.2.1, nI_add, nI_eq (by omega) (by omega)] at c'
        have hAKp : Asc 0 ((K1 ++ [p]) ++ S) := by simpa using hAK
        have hCKp : Cn h' kn (h'.R 202 (kn 0)) ((K1 ++ [p]) ++ S) := by simpa using hCK
        refine ih (T ++ [p]) (K1 ++ [p]) lo ro _ h' hG2 ?_ ?_ (fun q => ?_) hAKp hCKp c3 hGf hh6
        · cases lo with
          | none =>
            intro q hq
            rcases List.mem_append.mp hq with hq | hq
            · exact hlo q hq
            · simp at hq; subst hq; exact c
          | some q => exact ⟨List.mem_append_left _ hlo.1, hlo.2⟩
        · cases ro with
          | none =>
            intro q hq
            rcases List.mem_append.mp hq with hq | hq
            · exact hro q hq
            · simp at hq; subst hq; exact c'
          | some q => exact ⟨List.mem_append_left _ hro.1, hro.2⟩
        · rw [List.mem_append, hK1 q, List.mem_append]
          constructor
          · rintro (x | x)
            · exact ⟨Or.inl x.1, x.2⟩
            · simp at x; subst x
              refine ⟨Or.inr (by simp), fun e => ?_, fun e => ?_⟩
              · subst e; exact pT hlo.1
              · subst e; exact pT hro.1
          · rintro ⟨x | x, x2⟩
            · exact Or.inl ⟨x, x2⟩
            · exact Or.inr x
      · -- it begins where the released one ends
        rw [nI_eq (by omega) (by omega)] at c
        rw [c2.2.1, nI_add, nI_eq (by omega) (by omega)] at c'
        have hno : ro = none := by
          cases ro with
          | none => rfl
          | some q =>
            exfalso
            have h1 := hTp q hro.1
            have h2 : q.1 = a + n := hro.2
            omega
        subst hno
        refine mt lo (some p) ?_ ⟨by simp, c'⟩ (fun q => ?_) ?_ ?_ (fun x => ?_) (fun x => ?_) (fun x => ?_)
        · cases lo with
          | none =>
            intro q hq
            rcases List.mem_append.mp hq with hq | hq
            · exact hlo q hq
            · simp at hq; subst hq; exact c
          | some q => exact ⟨List.mem_append_left _ hlo.1, hlo.2⟩
        · rw [hK1 q, List.mem_append]
          constructor
          · rintro ⟨x1, x2, x3⟩
            exact ⟨Or.inl x1, x2, fun e => by cases e; exact pT x1⟩
          · rintro ⟨x1, x2, x3⟩
            rcases x1 with x1 | x1
            · exact ⟨x1, x2, (by simp)⟩
            · simp at x1; subst x1; exact absurd rfl x3
        · rw [if_neg (by omega)]
        · rw [if_pos (show toO (a + n) none < p.1 + p.2 by simp only [toO]; omega)]; rfl
        · cases lo <;> simp [kc]
        · cases lo <;> simp [kz]
        · cases lo <;> simp [kc]
  exact loop G [] [] none none _ h rfl (fun p hp => by cases hp) (fun p hp => by cases hp) (fun q => by simp) hA hC hC (Gf.rf G h kn) ⟨by simp [kc], by simp [kz], by simp [kc], rfl, rfl, rfl⟩
end C6
