/-! THE CLASS's public methods: counts -/
theorem cLv_sum (B : List Blk) : ∀ k, k ≤ B.length → cLv B k = (Bl (B.take k)).length ∧ wLv B k = lnB (Bl (B.take k))
  | 0, _ => by simp [cLv, wLv, Bl, lnB]
  | k + 1, hk => by
    have e : B.take (k + 1) = B.take k ++ [bat B k] := by
      rw [List.take_succ, bat_get (by omega)]
      rfl
    obtain ⟨i1, i2⟩ := cLv_sum B k (by omega)
    rw [cLv, wLv, i1, i2, e]
    by_cases h0 : (bat B k).2.2.2.2 = 0 <;> simp [Bl, lnB, wtg, h0, List.filter_append]
theorem cLv_all (B : List Blk) : cLv B B.length = (Bl B).length ∧ wLv B B.length = lnB (Bl B) := by
  have := cLv_sum B B.length (Nat.le_refl _)
  rw [List.take_length] at this
  exact this
theorem len_lw : ∀ (B : List Blk), (Bl B).length + (Bw B).length = B.length
  | [] => rfl
  | b :: B => by
    have := len_lw B
    by_cases h : wtg b = true
    · simp only [Bl, Bw, List.filter_cons, h, if_true, Bool.not_true, Bool.false_eq_true, if_false, List.length_cons] at this ⊢; omega
    · simp only [Bool.not_eq_true] at h
      simp only [Bl, Bw, List.filter_cons, h, Bool.not_false, if_true, Bool.false_eq_true, if_false, List.length_cons] at this ⊢; omega
theorem wF_sum (F : Fl) : ∀ k, k ≤ F.length → wF F k = szs (F.take k)
  | 0, _ => by simp [wF, szs]
  | k + 1, hk => by
    have e : F.take (k + 1) = F.take k ++ [gat F k] := by
      rw [List.take_succ, gat_get (by omega)]
      rfl
    rw [wF, wF_sum F k (by omega), e, szs_app]
section C17
variable {h : Hp} {x : Nat} {E : Nat → Nat} {W r c : Nat} {s : St} {nd kn : Nat → Nat} {g f k : Nat} {m : Mo}
set_option maxHeartbeats 1000000 in
theorem ct8_count (hC : CB h x E W r c s nd kn g f) (hk : h.I 402 (E 807) = nI k) (hR : MR m W r c s g f k) (y : Int32) : CtI mX8_count 1 0 0 [va_rf (some x), .int y] h (fun z h' => h' = h ∧ z = cntM m s y) := by
  obtain ⟨hCC, hI, hBW, hT, hr, hc, hW, hf, hgf⟩ := id hC
  obtain ⟨hX, hB, ⟨⟨Q, q1, q2, q3, q4, q5⟩, q6⟩, hK, n9, n10, n11, n12⟩ := id hCC
  obtain ⟨x1, x2, x3, x4, xm, xb, xf, x5, x6, x7, x12, -⟩ := id hX
  obtain ⟨hS, hP, hGG, r3, r4, r5, r6, r7, r8⟩ := id hK
  obtain ⟨⟨a1, a2, a3, a4, a5, a6, a7⟩, b1, b2, b3, b4, b5, b6⟩ := hR
  have hlen := len_lw s.1
  have hcl := cLv_all s.1
  refine enX8_count (fun X C => sgX8_count_0 C (Nat.le_refl _) (Nat.le_refl _) x1 (x2 803 (by decide)) x12 (x2 805 (by decide)) x5 (x2 807 (by decide)) xf.1 (x2 800 (by decide)) xm.1 xm.2.1 xm.2.2.1 (fun c => ⟨rfl, ?_⟩) (fun c => ⟨rfl, ?_⟩) (fun c => ⟨rfl, ?_⟩) (fun c => ⟨rfl, ?_⟩) (fun c => ⟨rfl, ?_⟩) (fun c => ⟨rfl, ?_⟩) (fun c => ⟨rfl, ?_⟩) (fun c => ⟨rfl, ?_⟩) (fun c => ⟨rfl, ?_⟩) (fun c => ⟨rfl, ?_⟩) (fun c => ⟨rfl, ?_⟩) (fun c => ⟨rfl, ?_⟩) (fun c => ⟨rfl, ?_⟩) (fun c => ⟨rfl, ?_⟩) (fun c => ⟨rfl, ?_⟩) (fun c => ⟨rfl, ?_⟩) (fun c => ⟨rfl, ?_⟩) (fun c => ⟨rfl, ?_⟩))
  · have n0 : ∀ z : Int32, (0 : Int) ≤ z.toInt → z.toInt ≤ 16 → ¬ y = z := fun z hz0 hz4 e => by subst e; omega
    unfold cntM
    rw [if_neg (n0 0 (by decide) (by decide)), if_neg (n0 1 (by decide) (by decide)), if_neg (n0 2 (by decide) (by decide)), if_neg (n0 3 (by decide) (by decide)), if_neg (n0 4 (by decide) (by decide)), if_neg (n0 5 (by decide) (by decide)), if_neg (n0 6 (by decide) (by decide)), if_neg (n0 7 (by decide) (by decide)), if_neg (n0 8 (by decide) (by decide)), if_neg (n0 9 (by decide) (by decide)), if_neg (n0 10 (by decide) (by decide)), if_neg (n0 11 (by decide) (by decide)), if_neg (n0 12 (by decide) (by decide)), if_neg (n0 13 (by decide) (by decide)), if_neg (n0 14 (by decide) (by decide)), if_neg (n0 15 (by decide) (by decide)), if_neg (n0 16 (by decide) (by decide))]
  · subst c
    show _ = m.1 905
    rw [r3, a3]
  · subst c
    show _ = nI (cLv s.1 s.1.length)
    rw [n9, n10, pk_sub (by omega), hcl.1]; congr 1; omega
  · subst c
    show _ = nI (wLv s.1 s.1.length)
    rw [n12, hcl.2]
  · subst c
    show _ = nI s.1.length - nI (cLv s.1 s.1.length)
    rw [q4, q1.2.length_eq, hcl.1, pk_sub (by omega)]; congr 1; omega
  · subst c
    show _ = nI (sWt s.1 s.1.length)
    rw [q5, sWt_all, szB_perm q1.2]
  · subst c
    show _ = nI s.2.1.length
    exact r5
  · subst c
    show _ = nI (wF s.2.1 s.2.1.length)
    rw [r6, wF_sum _ _ (Nat.le_refl _), List.take_length]
  · subst c
    show _ = m.1 916
    rw [n9, b4]
  · subst c
    show _ = m.1 917
    rw [n10, b5]
  · subst c
    show _ = m.1 918
    rw [n11, a7]
  · subst c
    show _ = m.1 919
    rw [r7, a5]
  · subst c
    show _ = m.1 920
    rw [r8, a6]
  · subst c
    show _ = m.1 906
    rw [r4, a4]
  · subst c
    show _ = m.1 921
    rw [hk, b6]
  · subst c
    show _ = m.1 900
    rw [xm.2.2.2, b1]
  · subst c
    show _ = m.1 901
    rw [x3, b2]
  · subst c
    show _ = m.1 902
    rw [x4, b3]
end C17
theorem nOf_sum (F : Fl) (x : Int32) : ∀ k, k ≤ F.length → nOf F x k = ((F.take k).filter (fun p => decide (nI p.2 = x))).length
  | 0, _ => by simp [nOf]
  | k + 1, hk => by
    have e : F.take (k + 1) = F.take k ++ [gat F k] := by
      rw [List.take_succ, gat_get (by omega)]
      rfl
    rw [nOf, nOf_sum F x k (by omega), e, List.filter_append]
    by_cases h0 : nI (gat F k).2 = x <;> simp [h0]
theorem cnS_len (x : Int32) : ∀ l : Fl, cnS x l = (l.filter (fun p => decide (nI p.2 = x))).length
  | [] => rfl
  | p :: l => by
    rw [cnS, cnS_len x l, List.filter_cons]
    by_cases h0 : nI p.2 = x <;> simp [h0]
theorem Asc.nodup : ∀ {l : Fl} {x : Nat}, Asc x l → l.Nodup
  | [], _, _ => List.nodup_nil
  | p :: l, x, ⟨h1, h2, h3⟩ => by
    rw [List.nodup_cons]
    exact ⟨fun hp => by have := (Asc.mem h3 p hp).1; omega, Asc.nodup h3⟩
theorem Grt.perm {F G : Fl} (hF : FG F) (hG : Grt F G) : G.Perm (F.filter (fun p => decide (64 < p.2))) := by
  refine (List.perm_ext_iff_of_nodup hG.1.nodup (hF.nodup.sublist List.filter_sublist)).mpr (fun p => ?_)
  rw [hG.2 p]; simp
theorem big_x {x : Int32} {n : Nat} (hn : n ≤ 3000) (hx : ¬ x ≤ 64) (e : nI n = x) : 64 < n := by
  subst e
  rw [show (64 : Int32) = nI 64 from rfl, nI_leI (by omega) (by decide)] at hx
  omega
set_option maxHeartbeats 1000000 in
/-- a chain's list holds what the reference has of that size -/
theorem chL_filter {F G l : Fl} {x : Int32} (hF : FG F) (hG : Grt F G) (hl : chL (pile F) G l x) : (l.filter (fun p => decide (nI p.2 = x))).Perm (F.filter (fun p => decide (nI p.2 = x))) := by
  rcases hl with ⟨h1, rfl⟩ | ⟨h1, rfl⟩ | ⟨j, rfl, h1, h2, rfl⟩
  · have h3 := (hG.perm hF).filter (fun p => decide (nI p.2 = x))
    rw [List.filter_filter] at h3
    have e : F.filter (fun p => decide (nI p.2 = x) && decide (64 < p.2)) = F.filter (fun p => decide (nI p.2 = x)) := by
      apply List.filter_congr
      intro p hp
      have := hF.1 p hp
      by_cases h0 : nI p.2 = x
      · have := big_x (by omega) h1 h0
        simp [h0, this]
      · simp [h0]
    rw [e] at h3
    exact h3
  · have e : F.filter (fun p => decide (nI p.2 = x)) = [] := by
      rw [List.filter_eq_nil_iff]
      intro p hp
      have hp4 := hF.1 p hp
      simp only [decide_eq_true_eq]
      intro e
      apply h1
      rw [← e, show (4 : Int32) = nI 4 from rfl, nI_leI (by decide) (by omega)]
      omega
    rw [e]; simp
  · unfold pile
    rw [List.filter_reverse]
    refine (List.reverse_perm _).trans ?_
    rw [List.filter_filter]
    have e : F.filter (fun p => decide (nI p.2 = nI j) && decide (p.2 = 4 * (j / 4))) = F.filter (fun p => decide (nI p.2 = nI j)) := by
      apply List.filter_congr
      intro p hp
      have hp4 := hF.1 p hp
      have e1 : nI p.2 = nI j ↔ p.2 = j := nI_eq (by omega) (by omega)
      simp only [e1]
      by_cases h0 : p.2 = j
      · simp only [h0, decide_true, Bool.true_and]
        simp
        omega
      · simp [h0]
    rw [e]
theorem kth_filter {x : Int32} {P : Nat × Nat → Bool} : ∀ {l : Fl} {K : Nat}, (∀ p, p ∈ l → nI p.2 = x → P p = true) → kth x (l.filter P) K = kth x l K
  | [], _, _ => rfl
  | p :: l, K, h => by
    rw [List.filter_cons]
    have ih := fun K => kth_filter (l := l) (K := K) (fun q hq => h q (List.mem_cons_of_mem _ hq))
    by_cases hp : P p = true
    · rw [if_pos hp, kth, kth, ih, ih]
    · rw [if_neg hp, kth, ih]
      have : ¬ nI p.2 = x := fun e => hp (h p List.mem_cons_self e)
      rw [if_neg this]
theorem fDn_kth (F : Fl) (x : Int32) : ∀ k K, k ≤ F.length → (fDn F x k K).map (fun i => (gat F i).1) = kth x (F.take k).reverse K
  | 0, K, _ => by simp [fDn, kth]
  | k + 1, K, hk => by
    have e : F.take (k + 1) = F.take k ++ [gat F k] := by
      rw [List.take_succ, gat_get (by omega)]
      rfl
    rw [e, List.reverse_append]
    show _ = kth x (gat F k :: (F.take k).reverse) K
    rw [fDn, kth]
    by_cases h0 : nI (gat F k).2 = x
    · rw [if_pos h0, if_pos h0]
      by_cases hK : K = 0
      · rw [if_pos hK, if_pos hK]; rfl
      · rw [if_neg hK, if_neg hK]; exact fDn_kth F x k (K - 1) (by omega)
    · rw [if_neg h0, if_neg h0]; exact fDn_kth F x k K (by omega)
def cb (x : Int32) (l : Fl) (a : Nat) : Nat := (l.filter (fun p => decide (nI p.2 = x) && decide (p.1 < a))).length
set_option maxHeartbeats 1000000 in
theorem kth_asc {x : Int32} : ∀ {G : Fl} {y K a : Nat}, Asc y G → (kth x G K = some a ↔ ∃ n, (a, n) ∈ G ∧ nI n = x ∧ cb x G a = K)
  | [], y, K, a, _ => by simp [kth]
  | p :: G, y, K, a, ⟨h1, h2, h3⟩ => by
    have ih := fun K => kth_asc (x := x) (G := G) (K := K) (a := a) h3
    rw [kth]
    have hcb : cb x (p :: G) a = (if nI p.2 = x ∧ p.1 < a then 1 else 0) + cb x G a := by
      unfold cb
      rw [List.filter_cons]
      by_cases hc : nI p.2 = x ∧ p.1 < a
      · rw [if_pos hc, if_pos (by simp [hc]), List.length_cons]; omega
      · rw [if_neg hc, if_neg (by simpa using hc)]; omega
    have hG0 : ∀ n, (a, n) ∈ G → p.1 < a := fun n hn => (Asc.mem h3 _ hn).1
    have hz : a = p.1 → cb x G a = 0 := fun e => by
      unfold cb
      rw [List.length_eq_zero_iff, List.filter_eq_nil_iff]
      intro q hq
      have := (Asc.mem h3 q hq).1
      simp
      intro _
      omega
    by_cases h0 : nI p.2 = x
    · rw [if_pos h0]
      by_cases hK : K = 0
      · rw [if_pos hK]
        constructor
        · intro e
          cases e
          refine ⟨p.2, List.mem_cons_self, h0, ?_⟩
          rw [hcb, if_neg (by omega), hz rfl, hK]
        · rintro ⟨n, hn, e1, e2⟩
          rcases List.mem_cons.mp hn with e | e
          · rw [← e]
          · have := hG0 n e
            rw [hcb, if_pos ⟨h0, this⟩] at e2
            omega
      · rw [if_neg hK, ih (K - 1)]
        constructor
        · rintro ⟨n, hn, e1, e2⟩
          refine ⟨n, List.mem_cons_of_mem _ hn, e1, ?_⟩
          rw [hcb, if_pos ⟨h0, hG0 n hn⟩]; omega
        · rintro ⟨n, hn, e1, e2⟩
          rcases List.mem_cons.mp hn with e | e
          · exfalso
            have ea : a = p.1 := by rw [← e]
            rw [hcb, if_neg (by omega), hz ea] at e2
            omega
          · rw [hcb, if_pos ⟨h0, hG0 n e⟩] at e2
            exact ⟨n, e, e1, by omega⟩
    · rw [if_neg h0, ih K]
      rw [hcb, if_neg (fun z => h0 z.1), Nat.zero_add]
      constructor
      · rintro ⟨n, hn, e1, e2⟩; exact ⟨n, List.mem_cons_of_mem _ hn, e1, e2⟩
      · rintro ⟨n, hn, e1, e2⟩
        rcases List.mem_cons.mp hn with e | e
        · exact absurd (by rw [← e]; exact e1) h0
        · exact ⟨n, e, e1, e2⟩
set_option maxHeartbeats 1000000 in
theorem blw_cb (F : Fl) (x : Int32) (i : Nat) : ∀ k, k ≤ F.length → blw F x i k = cb x (F.take k) (gat F i).1
  | 0, _ => by simp [blw, cb]
  | k + 1, hk => by
    have e : F.take (k + 1) = F.take k ++ [gat F k] := by
      rw [List.take_succ, gat_get (by omega)]
      rfl
    rw [blw, blw_cb F x i k (by omega), e]
    unfold cb
    rw [List.filter_append, List.length_append]
    by_cases hc : nI (gat F k).2 = x ∧ (gat F k).1 < (gat F i).1
    · rw [if_pos hc]; simp [hc]
    · rw [if_neg hc]
      have : (List.filter (fun p => decide (nI p.2 = x) && decide (p.1 < (gat F i).1)) [gat F k]) = [] := by
        rw [List.filter_eq_nil_iff]
        intro p hp
        simp at hp
        subst hp
        simpa using hc
      rw [this]; simp
theorem cb_big {F G : Fl} {x : Int32} (hF : FG F) (hG : Grt F G) (hx : ¬ x ≤ 64) (a : Nat) : cb x G a = cb x F a := by
  unfold cb
  have h3 := ((hG.perm hF).filter (fun p => decide (nI p.2 = x) && decide (p.1 < a))).length_eq
  rw [h3, List.filter_filter]
  congr 1
  apply List.filter_congr
  intro p hp
  have := hF.1 p hp
  by_cases h0 : nI p.2 = x
  · have := big_x (by omega) hx h0
    simp [h0, this]
  · simp [h0]
set_option maxHeartbeats 1000000 in
/-- the place of a size: class and reference -/
theorem fAt_kth {F G l : Fl} {x w y : Int32} (hF : FG F) (hG : Grt F G) (hlen : F.length < 800) (hl : chL (pile F) G l x) (hy : kthP x w l y) : y = fAtM F x w := by
  rcases hy with ⟨hw, rfl⟩ | ⟨K, rfl, hK, rfl⟩
  · unfold fAtM
    rw [if_pos (Int32.not_le.mpr hw)]
  · have hw : ¬ ¬ (0 : Int32) ≤ nI K := fun z => z (Int32.not_lt.mp (nI_pos hK))
    unfold fAtM
    rw [if_neg hw]
    by_cases hx : 64 < x
    · rw [if_pos hx]
      have hx2 : ¬ x ≤ 64 := Int32.not_le.mpr hx
      have hlG : l = G := by
        rcases hl with ⟨_, e⟩ | ⟨h1, _⟩ | ⟨j, rfl, h1, h2, _⟩
        · exact e
        · exfalso
          apply h1
          have h64 : (4 : Int32) ≤ 64 := by decide
          exact Int32.le_trans h64 (Int32.le_of_lt hx)
        · exfalso
          rw [show (64 : Int32) = nI 64 from rfl, nI_ltI (by decide) (by omega)] at hx
          omega
      subst hlG
      have hcnt : ∀ a, cb x F a < 2147483648 := fun a => by
        have : cb x F a ≤ F.length := List.length_filter_le _ _
        omega
      have hbl : ∀ i, nI (blw F x i F.length) = nI K ↔ cb x F (gat F i).1 = K := fun i => by
        rw [blw_cb F x i F.length (Nat.le_refl _), List.take_length, nI_eq (hcnt _) hK]
      cases hk : kth x l K with
      | none =>
        cases hf : fnd (fun i => decide (nI (gat F i).2 = x) && decide (nI (blw F x i F.length) = nI K)) F.length 0 with
        | none => rfl
        | some i =>
          exfalso
          obtain ⟨-, b2, b3, -⟩ := fnd_some hf
          simp only [Bool.and_eq_true, decide_eq_true_eq] at b3
          have hm := FG.gat_mem (F := F) (i := i) (by omega)
          have hb := hF.1 _ hm
          have h64 := big_x (by omega) hx2 b3.1
          have := (kth_asc (x := x) (K := K) (a := (gat F i).1) hG.1).mpr ⟨(gat F i).2, (hG.2 _).mpr ⟨hm, h64⟩, b3.1, by rw [cb_big hF hG hx2]; exact (hbl i).mp b3.2⟩
          rw [hk] at this; cases this
      | some a =>
        obtain ⟨n, hn, e1, e2⟩ := (kth_asc hG.1).mp hk
        obtain ⟨hnF, h64⟩ := (hG.2 _).mp hn
        obtain ⟨i, hi, hp⟩ := mem_gat hnF
        rw [cb_big hF hG hx2] at e2
        have hex : (fun i => decide (nI (gat F i).2 = x) && decide (nI (blw F x i F.length) = nI K)) i = true := by
          simp only [Bool.and_eq_true, decide_eq_true_eq]
          rw [hbl i, hp]
          exact ⟨e1, e2⟩
        cases hf : fnd (fun i => decide (nI (gat F i).2 = x) && decide (nI (blw F x i F.length) = nI K)) F.length 0 with
        | none =>
          have := fnd_none hf i (Nat.zero_le _) (by omega)
          exact absurd (hex.symm.trans this) (by decide)
        | some q =>
          obtain ⟨-, b2, b3, -⟩ := fnd_some hf
          simp only [Bool.and_eq_true, decide_eq_true_eq] at b3
          have hm := FG.gat_mem (F := F) (i := q) (by omega)
          have hb := hF.1 _ hm
          have h64q := big_x (by omega) hx2 b3.1
          have := (kth_asc (x := x) (K := K) (a := (gat F q).1) hG.1).mpr ⟨(gat F q).2, (hG.2 _).mpr ⟨hm, h64q⟩, b3.1, by rw [cb_big hF hG hx2]; exact (hbl q).mp b3.2⟩
          rw [hk] at this
          cases this
          rfl
    · rw [if_neg hx]
      have hx2 : x ≤ 64 := Int32.not_lt.mp hx
      have hd := fDn_kth F x F.length K (Nat.le_refl _)
      rw [List.take_length] at hd
      rw [nI_clamp hK]
      have hkl : kth x l K = kth x F.reverse K := by
        rcases hl with ⟨h1, _⟩ | ⟨h1, rfl⟩ | ⟨j, rfl, h1, h2, rfl⟩
        · exact absurd hx2 h1
        · have : kth x (F.reverse.filter (fun _ => false)) K = kth x F.reverse K := kth_filter (fun p hp e => by
            exfalso
            have hp4 := hF.1 p (List.mem_reverse.mp hp)
            apply h1
            rw [← e, show (4 : Int32) = nI 4 from rfl, nI_leI (by decide) (by omega)]
            omega)
          have e0 : F.reverse.filter (fun _ => false) = [] := by
            rw [List.filter_eq_nil_iff]
            intro p _
            simp
          rw [← this, e0]
        · unfold pile
          rw [← List.filter_reverse]
          refine kth_filter (fun p hp e => ?_)
          have hp4 := hF.1 p (List.mem_reverse.mp hp)
          rw [nI_eq (by omega) (by omega)] at e
          simp
          omega
      rw [hkl, ← hd]
      cases fDn F x F.length K <;> rfl
section C17b
variable {h : Hp} {x : Nat} {E : Nat → Nat} {W r c : Nat} {s : St} {nd kn : Nat → Nat} {g f k : Nat} {m : Mo}
theorem ct8_freeMany (hC : CB h x E W r c s nd kn g f) (y : Int32) : CtI mX8_freeMany 3 0 0 [va_rf (some x), .int y] h (fun z h' => h' = h ∧ z = nI (nOf s.2.1 y s.2.1.length)) := by
  obtain ⟨hCC, hI, -⟩ := id hC
  obtain ⟨hX, hB, hQ, hK, -⟩ := id hCC
  obtain ⟨hS, hP, ⟨G, hG, hGc⟩, -⟩ := id hK
  have hF : FG s.2.1 := FG.of hI.1 (by have := hI.2; omega)
  refine enX8_freeMany (fun X C => sgX8_freeMany_0 C hX.1 ?_)
  rw [hX.2.1 803 (by decide)]
  refine clX8_freeMany_5 C (ct3_manyOfSize hS hP hGc y) hS.1 (by decide) (Nat.zero_le _) (Nat.zero_le _) (Nat.le_of_ble_eq_true rfl) (fun z h' ⟨e1, l, e2, e3⟩ => ?_)
  subst e1
  refine sgX8_freeMany_8 C (by decide) (by decide) ⟨rfl, ?_⟩
  rw [e3, cnS_len, (chL_filter hF hG e2).length_eq, nOf_sum _ _ _ (Nat.le_refl _), List.take_length]
set_option maxHeartbeats 1000000 in
theorem ct8_freeAt (hC : CB h x E W r c s nd kn g f) (y w : Int32) : CtI mX8_freeAt 3 0 0 [va_rf (some x), .int y, .int w] h (fun z h' => h' = h ∧ z = fAtM s.2.1 y w) := by
  obtain ⟨hCC, hI, -⟩ := id hC
  obtain ⟨hX, hB, hQ, hK, -⟩ := id hCC
  obtain ⟨hS, hP, ⟨G, hG, hGc⟩, -⟩ := id hK
  have hF : FG s.2.1 := FG.of hI.1 (by have := hI.2; omega)
  have hlen := hI.len
  have hl : ∀ l x, chL (pile s.2.1) G l x → l.length < 2147483648 := fun l x hl => by
    rcases hl with ⟨_, rfl⟩ | ⟨_, rfl⟩ | ⟨j, _, _, _, rfl⟩
    · have := (hG.perm hF).length_eq
      have h2 : (s.2.1.filter (fun p => decide (64 < p.2))).length ≤ s.2.1.length := List.length_filter_le _ _
      omega
    · simp
    · unfold pile
      rw [List.length_reverse]
      have h2 : (s.2.1.filter (fun p => decide (p.2 = 4 * (j / 4)))).length ≤ s.2.1.length := List.length_filter_le _ _
      omega
  refine enX8_freeAt (fun X C => sgX8_freeAt_0 C hX.1 ?_)
  rw [hX.2.1 803 (by decide)]
  refine clX8_freeAt_6 C (ct3_addressOfSize hS hP hGc hl y w) hS.1 (by decide) (Nat.zero_le _) (Nat.zero_le _) (Nat.le_of_ble_eq_true rfl) (fun z h' ⟨e1, l, e2, e3⟩ => ?_)
  subst e1
  exact sgX8_freeAt_9 C (by decide) (by decide) ⟨rfl, fAt_kth hF hG (by omega) e2 e3⟩
end C17b
