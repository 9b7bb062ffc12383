theorem sm_thrown_0 {X : CX} {d mc ms cells slots : Nat} {pp : Int32 → Hp → Prop} {h : Hp} {t : Nat} {ρ A : Nat → Nat} {m : Mo}  (C : CmI X mX9_thrown d mc ms pp) (hS : MS h t ρ A) (hc : cells ≤ mc) (hs : slots ≤ ms)  (k0 : pp (m.1 903) (mput h t ρ m)) : At X cells slots 0 [some (va_rf (some t))] [] (mput h t ρ m) := by
  refine st_aload_n (pc := 0) C.1 (some t) dX9_thrown_0 rfl rfl ?_
  refine gI_RX9_85 (pc := 1) C.1 (m.1 903) dX9_thrown_1 (hS.k _) (mI903 h t ρ _) ?_
  exact rt_i C (Or.inl rfl) dX9_thrown_4 hc hs ⟨_, rfl, k0⟩

theorem sm_start_0 {X : CX} {d mc ms cells slots : Nat} {pp : Int32 → Hp → Prop} {h : Hp} {t : Nat} {ρ A : Nat → Nat} {m : Mo} {x1 : Int32} (C : CmI X mX9_start d mc ms pp) (hS : MS h t ρ A) (hc : cells ≤ mc) (hs : slots ≤ ms) (h0 : vp_in x1 800) (k0 : pp ((m.2 907 (x1.toNatClampNeg)) + (m.1 901)) (mput h t ρ m)) : At X cells slots 0 [some (va_rf (some t)), some (.int x1)] [] (mput h t ρ m) := by
  refine st_aload_n (pc := 0) C.1 (some t) dX9_start_0 rfl rfl ?_
  refine gR_RX9_20 (pc := 1) C.1 (some (A 907)) dX9_start_1 (hS.k _) (hS.r _ 907) ?_
  refine st_iload_n (pc := 4) C.1 dX9_start_4 rfl rfl ?_
  refine sv_iaload (pc := 5) C.1 (m.2 907 (x1.toNatClampNeg)) dX9_start_5 (hS.ki _ 907) (by rw [nA907 hS]; exact h0) (congrFun (mA907 hS _) _) ?_
  refine st_aload_n (pc := 6) C.1 (some t) dX9_start_6 rfl rfl ?_
  refine gI_RX9_79 (pc := 7) C.1 (m.1 901) dX9_start_7 (hS.k _) (mI901 h t ρ _) ?_
  refine st_iadd (pc := 10) C.1 dX9_start_10 ?_
  exact rt_i C (Or.inl rfl) dX9_start_11 hc hs ⟨_, rfl, k0⟩

theorem sm_isLive_0 {X : CX} {d mc ms cells slots : Nat} {pp : Int32 → Hp → Prop} {h : Hp} {t : Nat} {ρ A : Nat → Nat} {m : Mo} {x1 : Int32} (C : CmI X mX9_isLive d mc ms pp) (hS : MS h t ρ A) (hc : cells ≤ mc) (hs : slots ≤ ms) (h0 : vp_in x1 800) (k0 : ¬ m.2 911 (x1.toNatClampNeg) = 0 → pp 0 (mput h t ρ m)) (k1 : m.2 911 (x1.toNatClampNeg) = 0 → pp 1 (mput h t ρ m)) : At X cells slots 0 [some (va_rf (some t)), some (.int x1)] [] (mput h t ρ m) := by
  refine st_aload_n (pc := 0) C.1 (some t) dX9_isLive_0 rfl rfl ?_
  refine gR_RX9_32 (pc := 1) C.1 (some (A 911)) dX9_isLive_1 (hS.k _) (hS.r _ 911) ?_
  refine st_iload_n (pc := 4) C.1 dX9_isLive_4 rfl rfl ?_
  refine sv_iaload (pc := 5) C.1 (m.2 911 (x1.toNatClampNeg)) dX9_isLive_5 (hS.ki _ 911) (by rw [nA911 hS]; exact h0) (congrFun (mA911 hS _) _) ?_
  refine st_if_ne (pc := 6) (tgt := 13) C.1 dX9_isLive_6 (by decide) (fun c0 => ?_) (fun c0 => ?_)
  · refine st_iconst (pc := 13) (v := 0) C.1 dX9_isLive_13 (by decide) ?_
    exact rt_i C (Or.inr ⟨rfl, (Or.inl rfl)⟩) dX9_isLive_14 hc hs ⟨_, rfl, (k0 c0)⟩
  · refine st_iconst (pc := 9) (v := 1) C.1 dX9_isLive_9 (by decide) ?_
    refine st_goto (pc := 10) (tgt := 14) C.1 dX9_isLive_10 (by decide) ?_
    exact rt_i C (Or.inr ⟨rfl, (Or.inr rfl)⟩) dX9_isLive_14 hc hs ⟨_, rfl, (k1 c0)⟩

theorem sm_blockOf_0 {X : CX} {d mc ms cells slots : Nat} {pp : Int32 → Hp → Prop} {h : Hp} {t : Nat} {ρ A : Nat → Nat} {m : Mo} {x1 : Int32} (C : CmI X mX9_blockOf d mc ms pp) (hS : MS h t ρ A)  (k0 : At X cells slots 2 [some (va_rf (some t)), some (.int x1), some (.int 0)] [] (mput h t ρ m)) : At X cells slots 0 [some (va_rf (some t)), some (.int x1), none] [] (mput h t ρ m) := by
  refine st_iconst (pc := 0) (v := 0) C.1 dX9_blockOf_0 (by decide) ?_
  refine sv_istore_n (pc := 1) (i := 2) C.1 [some (va_rf (some t)), some (.int x1), some (.int 0)] dX9_blockOf_1 rfl (Nat.le_of_ble_eq_true rfl) (by rw [C.2.1]; exact Nat.le_of_ble_eq_true rfl) rfl rfl ?_
  exact k0

theorem sm_blockOf_2 {X : CX} {d mc ms cells slots : Nat} {pp : Int32 → Hp → Prop} {h : Hp} {t : Nat} {ρ A : Nat → Nat} {m : Mo} {x1 : Int32} {x2 : Int32} (C : CmI X mX9_blockOf d mc ms pp) (hS : MS h t ρ A) (hc : cells ≤ mc) (hs : slots ≤ ms) (h0 : ¬ m.1 912 ≤ x2 → vp_in x2 800) (h1 : ¬ m.1 912 ≤ x2 → ¬ x1 < m.2 907 (x2.toNatClampNeg) → vp_in x2 800) (k0 : m.1 912 ≤ x2 → pp (-1) (mput h t ρ m)) (k1 : ¬ m.1 912 ≤ x2 → x1 < m.2 907 (x2.toNatClampNeg) → At X cells slots 2 [some (va_rf (some t)), some (.int x1), some (.int (x2 + 1))] [] (mput h t ρ m)) (k2 : ¬ m.1 912 ≤ x2 → ¬ x1 < m.2 907 (x2.toNatClampNeg) → m.2 908 (x2.toNatClampNeg) ≤ x1 - (m.2 907 (x2.toNatClampNeg)) → At X cells slots 2 [some (va_rf (some t)), some (.int x1), some (.int (x2 + 1))] [] (mput h t ρ m)) (k3 : ¬ m.1 912 ≤ x2 → ¬ x1 < m.2 907 (x2.toNatClampNeg) → ¬ m.2 908 (x2.toNatClampNeg) ≤ x1 - (m.2 907 (x2.toNatClampNeg)) → pp x2 (mput h t ρ m)) : At X cells slots 2 [some (va_rf (some t)), some (.int x1), some (.int x2)] [] (mput h t ρ m) := by
  refine st_iload_n (pc := 2) C.1 dX9_blockOf_2 rfl rfl ?_
  refine st_aload_n (pc := 3) C.1 (some t) dX9_blockOf_3 rfl rfl ?_
  refine gI_RX9_88 (pc := 4) C.1 (m.1 912) dX9_blockOf_4 (hS.k _) (mI912 h t ρ _) ?_
  refine st_icmp_ge (pc := 7) (tgt := 45) C.1 dX9_blockOf_7 (by decide) (fun c0 => ?_) (fun c0 => ?_)
  · refine st_iconst (pc := 45) (v := (-1)) C.1 dX9_blockOf_45 (by decide) ?_
    exact rt_i C (Or.inl rfl) dX9_blockOf_46 hc hs ⟨_, rfl, (k0 c0)⟩
  · refine st_iload_n (pc := 10) C.1 dX9_blockOf_10 rfl rfl ?_
    refine st_aload_n (pc := 11) C.1 (some t) dX9_blockOf_11 rfl rfl ?_
    refine gR_RX9_20 (pc := 12) C.1 (some (A 907)) dX9_blockOf_12 (hS.k _) (hS.r _ 907) ?_
    refine st_iload_n (pc := 15) C.1 dX9_blockOf_15 rfl rfl ?_
    refine sv_iaload (pc := 16) C.1 (m.2 907 (x2.toNatClampNeg)) dX9_blockOf_16 (hS.ki _ 907) (by rw [nA907 hS]; exact (h0 c0)) (congrFun (mA907 hS _) _) ?_
    refine st_icmp_lt (pc := 17) (tgt := 39) C.1 dX9_blockOf_17 (by decide) (fun c1 => ?_) (fun c1 => ?_)
    · refine sv_iinc (pc := 39) (i := 2) (v := x2 + 1) C.1 [some (va_rf (some t)), some (.int x1), some (.int (x2 + 1))] dX9_blockOf_39 rfl rfl (by rw [C.2.1]; exact Nat.le_of_ble_eq_true rfl) rfl rfl ?_
      refine st_goto (pc := 42) (tgt := 2) C.1 dX9_blockOf_42 (by decide) ?_
      exact (k1 c0 c1)
    · refine st_iload_n (pc := 20) C.1 dX9_blockOf_20 rfl rfl ?_
      refine st_aload_n (pc := 21) C.1 (some t) dX9_blockOf_21 rfl rfl ?_
      refine gR_RX9_20 (pc := 22) C.1 (some (A 907)) dX9_blockOf_22 (hS.k _) (hS.r _ 907) ?_
      refine st_iload_n (pc := 25) C.1 dX9_blockOf_25 rfl rfl ?_
      refine sv_iaload (pc := 26) C.1 (m.2 907 (x2.toNatClampNeg)) dX9_blockOf_26 (hS.ki _ 907) (by rw [nA907 hS]; exact (h1 c0 c1)) (congrFun (mA907 hS _) _) ?_
      refine st_isub (pc := 27) C.1 dX9_blockOf_27 ?_
      refine st_aload_n (pc := 28) C.1 (some t) dX9_blockOf_28 rfl rfl ?_
      refine gR_RX9_23 (pc := 29) C.1 (some (A 908)) dX9_blockOf_29 (hS.k _) (hS.r _ 908) ?_
      refine st_iload_n (pc := 32) C.1 dX9_blockOf_32 rfl rfl ?_
      refine sv_iaload (pc := 33) C.1 (m.2 908 (x2.toNatClampNeg)) dX9_blockOf_33 (hS.ki _ 908) (by rw [nA908 hS]; exact (h1 c0 c1)) (congrFun (mA908 hS _) _) ?_
      refine st_icmp_ge (pc := 34) (tgt := 39) C.1 dX9_blockOf_34 (by decide) (fun c2 => ?_) (fun c2 => ?_)
      · refine sv_iinc (pc := 39) (i := 2) (v := x2 + 1) C.1 [some (va_rf (some t)), some (.int x1), some (.int (x2 + 1))] dX9_blockOf_39 rfl rfl (by rw [C.2.1]; exact Nat.le_of_ble_eq_true rfl) rfl rfl ?_
        refine st_goto (pc := 42) (tgt := 2) C.1 dX9_blockOf_42 (by decide) ?_
        exact (k2 c0 c1 c2)
      · refine st_iload_n (pc := 37) C.1 dX9_blockOf_37 rfl rfl ?_
        exact rt_i C (Or.inl rfl) dX9_blockOf_38 hc hs ⟨_, rfl, (k3 c0 c1 c2)⟩

theorem sm_startsAt_0 {X : CX} {d mc ms cells slots : Nat} {pp : Int32 → Hp → Prop} {h : Hp} {t : Nat} {ρ A : Nat → Nat} {m : Mo} {x1 : Int32} (C : CmI X mX9_startsAt d mc ms pp) (hS : MS h t ρ A)  (k0 : At X cells slots 2 [some (va_rf (some t)), some (.int x1), some (.int 0)] [] (mput h t ρ m)) : At X cells slots 0 [some (va_rf (some t)), some (.int x1), none] [] (mput h t ρ m) := by
  refine st_iconst (pc := 0) (v := 0) C.1 dX9_startsAt_0 (by decide) ?_
  refine sv_istore_n (pc := 1) (i := 2) C.1 [some (va_rf (some t)), some (.int x1), some (.int 0)] dX9_startsAt_1 rfl (Nat.le_of_ble_eq_true rfl) (by rw [C.2.1]; exact Nat.le_of_ble_eq_true rfl) rfl rfl ?_
  exact k0

theorem sm_startsAt_2 {X : CX} {d mc ms cells slots : Nat} {pp : Int32 → Hp → Prop} {h : Hp} {t : Nat} {ρ A : Nat → Nat} {m : Mo} {x1 : Int32} {x2 : Int32} (C : CmI X mX9_startsAt d mc ms pp) (hS : MS h t ρ A) (hc : cells ≤ mc) (hs : slots ≤ ms)  (k0 : m.1 912 ≤ x2 → pp (-1) (mput h t ρ m)) (k1 : ¬ m.1 912 ≤ x2 → At X cells slots 12 [some (va_rf (some t)), some (.int x1), some (.int x2)] [.int x2, va_rf (some t)] (mput h t ρ m)) : At X cells slots 2 [some (va_rf (some t)), some (.int x1), some (.int x2)] [] (mput h t ρ m) := by
  refine st_iload_n (pc := 2) C.1 dX9_startsAt_2 rfl rfl ?_
  refine st_aload_n (pc := 3) C.1 (some t) dX9_startsAt_3 rfl rfl ?_
  refine gI_RX9_88 (pc := 4) C.1 (m.1 912) dX9_startsAt_4 (hS.k _) (mI912 h t ρ _) ?_
  refine st_icmp_ge (pc := 7) (tgt := 27) C.1 dX9_startsAt_7 (by decide) (fun c0 => ?_) (fun c0 => ?_)
  · refine st_iconst (pc := 27) (v := (-1)) C.1 dX9_startsAt_27 (by decide) ?_
    exact rt_i C (Or.inl rfl) dX9_startsAt_28 hc hs ⟨_, rfl, (k0 c0)⟩
  · refine st_aload_n (pc := 10) C.1 (some t) dX9_startsAt_10 rfl rfl ?_
    refine st_iload_n (pc := 11) C.1 dX9_startsAt_11 rfl rfl ?_
    exact (k1 c0)

theorem sm_startsAt_15 {X : CX} {d mc ms cells slots : Nat} {pp : Int32 → Hp → Prop} {h : Hp} {t : Nat} {ρ A : Nat → Nat} {m : Mo} {x1 : Int32} {x2 : Int32} {u0 : Int32} (C : CmI X mX9_startsAt d mc ms pp) (hS : MS h t ρ A) (hc : cells ≤ mc) (hs : slots ≤ ms)  (k0 : ¬ u0 = x1 → At X cells slots 2 [some (va_rf (some t)), some (.int x1), some (.int (x2 + 1))] [] (mput h t ρ m)) (k1 : u0 = x1 → pp x2 (mput h t ρ m)) : At X cells slots 15 [some (va_rf (some t)), some (.int x1), some (.int x2)] [.int u0] (mput h t ρ m) := by
  refine st_iload_n (pc := 15) C.1 dX9_startsAt_15 rfl rfl ?_
  refine st_icmp_ne (pc := 16) (tgt := 21) C.1 dX9_startsAt_16 (by decide) (fun c0 => ?_) (fun c0 => ?_)
  · refine sv_iinc (pc := 21) (i := 2) (v := x2 + 1) C.1 [some (va_rf (some t)), some (.int x1), some (.int (x2 + 1))] dX9_startsAt_21 rfl rfl (by rw [C.2.1]; exact Nat.le_of_ble_eq_true rfl) rfl rfl ?_
    refine st_goto (pc := 24) (tgt := 2) C.1 dX9_startsAt_24 (by decide) ?_
    exact (k0 c0)
  · refine st_iload_n (pc := 19) C.1 dX9_startsAt_19 rfl rfl ?_
    exact rt_i C (Or.inl rfl) dX9_startsAt_20 hc hs ⟨_, rfl, (k1 c0)⟩

theorem sm_sortOf_0 {X : CX} {d mc ms cells slots : Nat} {pp : Int32 → Hp → Prop} {h : Hp} {t : Nat} {ρ A : Nat → Nat} {m : Mo} {x1 : Int32} (C : CmI X mX9_sortOf d mc ms pp) (hS : MS h t ρ A)  (k0 : At X cells slots 2 [some (va_rf (some t)), some (.int x1), none] [.int x1, va_rf (some t)] (mput h t ρ m)) : At X cells slots 0 [some (va_rf (some t)), some (.int x1), none] [] (mput h t ρ m) := by
  refine st_aload_n (pc := 0) C.1 (some t) dX9_sortOf_0 rfl rfl ?_
  refine st_iload_n (pc := 1) C.1 dX9_sortOf_1 rfl rfl ?_
  exact k0

theorem sm_sortOf_5 {X : CX} {d mc ms cells slots : Nat} {pp : Int32 → Hp → Prop} {h : Hp} {t : Nat} {ρ A : Nat → Nat} {m : Mo} {x1 : Int32} {u0 : Int32} (C : CmI X mX9_sortOf d mc ms pp) (hS : MS h t ρ A) (hc : cells ≤ mc) (hs : slots ≤ ms)  (k0 : ¬ u0 = (-1) → At X cells slots 16 [some (va_rf (some t)), some (.int x1), some (.int u0)] [.int u0, va_rf (some t), .int x1] (mput h t ρ m)) (k1 : u0 = (-1) → pp 3 (mput h t ρ m)) : At X cells slots 5 [some (va_rf (some t)), some (.int x1), none] [.int u0] (mput h t ρ m) := by
  refine sv_istore_n (pc := 5) (i := 2) C.1 [some (va_rf (some t)), some (.int x1), some (.int u0)] dX9_sortOf_5 rfl (Nat.le_of_ble_eq_true rfl) (by rw [C.2.1]; exact Nat.le_of_ble_eq_true rfl) rfl rfl ?_
  refine st_iload_n (pc := 6) C.1 dX9_sortOf_6 rfl rfl ?_
  refine st_iconst (pc := 7) (v := (-1)) C.1 dX9_sortOf_7 (by decide) ?_
  refine st_icmp_ne (pc := 8) (tgt := 13) C.1 dX9_sortOf_8 (by decide) (fun c0 => ?_) (fun c0 => ?_)
  · refine st_iload_n (pc := 13) C.1 dX9_sortOf_13 rfl rfl ?_
    refine st_aload_n (pc := 14) C.1 (some t) dX9_sortOf_14 rfl rfl ?_
    refine st_iload_n (pc := 15) C.1 dX9_sortOf_15 rfl rfl ?_
    exact (k0 c0)
  · refine st_iconst (pc := 11) (v := 3) C.1 dX9_sortOf_11 (by decide) ?_
    exact rt_i C (Or.inl rfl) dX9_sortOf_12 hc hs ⟨_, rfl, (k1 c0)⟩

theorem sm_sortOf_19 {X : CX} {d mc ms cells slots : Nat} {pp : Int32 → Hp → Prop} {h : Hp} {t : Nat} {ρ A : Nat → Nat} {m : Mo} {x1 : Int32} {x2 : Int32} {u0 : Int32} {u1 : Int32} (C : CmI X mX9_sortOf d mc ms pp) (hS : MS h t ρ A) (hc : cells ≤ mc) (hs : slots ≤ ms)  (k0 : u1 < u0 → pp 2 (mput h t ρ m)) (k1 : ¬ u1 < u0 → At X cells slots 25 [some (va_rf (some t)), some (.int x1), some (.int x2)] [.int x2, va_rf (some t), .int x1] (mput h t ρ m)) : At X cells slots 19 [some (va_rf (some t)), some (.int x1), some (.int x2)] [.int u0, .int u1] (mput h t ρ m) := by
  refine st_icmp_lt (pc := 19) (tgt := 38) C.1 dX9_sortOf_19 (by decide) (fun c0 => ?_) (fun c0 => ?_)
  · refine st_iconst (pc := 38) (v := 2) C.1 dX9_sortOf_38 (by decide) ?_
    exact rt_i C (Or.inl rfl) dX9_sortOf_39 hc hs ⟨_, rfl, (k0 c0)⟩
  · refine st_iload_n (pc := 22) C.1 dX9_sortOf_22 rfl rfl ?_
    refine st_aload_n (pc := 23) C.1 (some t) dX9_sortOf_23 rfl rfl ?_
    refine st_iload_n (pc := 24) C.1 dX9_sortOf_24 rfl rfl ?_
    exact (k1 c0)

theorem sm_sortOf_28 {X : CX} {d mc ms cells slots : Nat} {pp : Int32 → Hp → Prop} {h : Hp} {t : Nat} {ρ A : Nat → Nat} {m : Mo} {x1 : Int32} {x2 : Int32} {u0 : Int32} {u1 : Int32} (C : CmI X mX9_sortOf d mc ms pp) (hS : MS h t ρ A) (hc : cells ≤ mc) (hs : slots ≤ ms) (h0 : vp_in x2 800) (k0 : u1 < u0 + (m.2 909 (x2.toNatClampNeg)) → At X cells slots 42 [some (va_rf (some t)), some (.int x1), some (.int x2)] [.int x2, va_rf (some t)] (mput h t ρ m)) (k1 : ¬ u1 < u0 + (m.2 909 (x2.toNatClampNeg)) → pp 2 (mput h t ρ m)) : At X cells slots 28 [some (va_rf (some t)), some (.int x1), some (.int x2)] [.int u0, .int u1] (mput h t ρ m) := by
  refine st_aload_n (pc := 28) C.1 (some t) dX9_sortOf_28 rfl rfl ?_
  refine gR_RX9_26 (pc := 29) C.1 (some (A 909)) dX9_sortOf_29 (hS.k _) (hS.r _ 909) ?_
  refine st_iload_n (pc := 32) C.1 dX9_sortOf_32 rfl rfl ?_
  refine sv_iaload (pc := 33) C.1 (m.2 909 (x2.toNatClampNeg)) dX9_sortOf_33 (hS.ki _ 909) (by rw [nA909 hS]; exact h0) (congrFun (mA909 hS _) _) ?_
  refine st_iadd (pc := 34) C.1 dX9_sortOf_34 ?_
  refine st_icmp_lt (pc := 35) (tgt := 40) C.1 dX9_sortOf_35 (by decide) (fun c0 => ?_) (fun c0 => ?_)
  · refine st_aload_n (pc := 40) C.1 (some t) dX9_sortOf_40 rfl rfl ?_
    refine st_iload_n (pc := 41) C.1 dX9_sortOf_41 rfl rfl ?_
    exact (k0 c0)
  · refine st_iconst (pc := 38) (v := 2) C.1 dX9_sortOf_38 (by decide) ?_
    exact rt_i C (Or.inl rfl) dX9_sortOf_39 hc hs ⟨_, rfl, (k1 c0)⟩

theorem sm_sortOf_45 {X : CX} {d mc ms cells slots : Nat} {pp : Int32 → Hp → Prop} {h : Hp} {t : Nat} {ρ A : Nat → Nat} {m : Mo} {x1 : Int32} {x2 : Int32} {u0 : Int32} (C : CmI X mX9_sortOf d mc ms pp) (hS : MS h t ρ A) (hc : cells ≤ mc) (hs : slots ≤ ms)  (k0 : u0 = 0 → pp 1 (mput h t ρ m)) (k1 : ¬ u0 = 0 → pp 0 (mput h t ρ m)) : At X cells slots 45 [some (va_rf (some t)), some (.int x1), some (.int x2)] [.int u0] (mput h t ρ m) := by
  refine st_if_eq (pc := 45) (tgt := 52) C.1 dX9_sortOf_45 (by decide) (fun c0 => ?_) (fun c0 => ?_)
  · refine st_iconst (pc := 52) (v := 1) C.1 dX9_sortOf_52 (by decide) ?_
    exact rt_i C (Or.inl rfl) dX9_sortOf_53 hc hs ⟨_, rfl, (k0 c0)⟩
  · refine st_iconst (pc := 48) (v := 0) C.1 dX9_sortOf_48 (by decide) ?_
    refine st_goto (pc := 49) (tgt := 53) C.1 dX9_sortOf_49 (by decide) ?_
    exact rt_i C (Or.inl rfl) dX9_sortOf_53 hc hs ⟨_, rfl, (k1 c0)⟩

theorem sm_drop_0 {X : CX} {d mc ms cells slots : Nat} {pp : Hp → Prop} {h : Hp} {t : Nat} {ρ A : Nat → Nat} {m : Mo} {x1 : Int32} (C : CmV X mX9_drop d mc ms pp) (hS : MS h t ρ A) (hc : cells ≤ mc) (hs : slots ≤ ms) (h0 : vp_in ((m.1 912) - 1) 800) (h1 : vp_in x1 800) (k0 : pp (mput h t ρ (up1 m.1 912 ((m.1 912) - 1), up2 (up2 (up2 (up2 (up2 m.2 907 (x1.toNatClampNeg) (m.2 907 (((m.1 912) - 1).toNatClampNeg))) 908 (x1.toNatClampNeg) (m.2 908 (((m.1 912) - 1).toNatClampNeg))) 909 (x1.toNatClampNeg) (m.2 909 (((m.1 912) - 1).toNatClampNeg))) 910 (x1.toNatClampNeg) (m.2 910 (((m.1 912) - 1).toNatClampNeg))) 911 (x1.toNatClampNeg) (m.2 911 (((m.1 912) - 1).toNatClampNeg))))) : At X cells slots 0 [some (va_rf (some t)), some (.int x1)] [] (mput h t ρ m) := by
  refine st_aload_n (pc := 0) C.1 (some t) dX9_drop_0 rfl rfl ?_
  refine st_dup (pc := 1) C.1 dX9_drop_1 (rf_cat (some t)) ?_
  refine gI_RX9_88 (pc := 2) C.1 (m.1 912) dX9_drop_2 (hS.k _) (mI912 h t ρ _) ?_
  refine st_iconst (pc := 5) (v := 1) C.1 dX9_drop_5 (by decide) ?_
  refine st_isub (pc := 6) C.1 dX9_drop_6 ?_
  refine pI_RX9_88 (pc := 7) C.1 dX9_drop_7 (hS.k _) ?_
  rw [pI912]
  refine st_aload_n (pc := 10) C.1 (some t) dX9_drop_10 rfl rfl ?_
  refine gR_RX9_20 (pc := 11) C.1 (some (A 907)) dX9_drop_11 (hS.k _) (hS.r _ 907) ?_
  refine st_iload_n (pc := 14) C.1 dX9_drop_14 rfl rfl ?_
  refine st_aload_n (pc := 15) C.1 (some t) dX9_drop_15 rfl rfl ?_
  refine gR_RX9_20 (pc := 16) C.1 (some (A 907)) dX9_drop_16 (hS.k _) (hS.r _ 907) ?_
  refine st_aload_n (pc := 19) C.1 (some t) dX9_drop_19 rfl rfl ?_
  refine gI_RX9_88 (pc := 20) C.1 ((m.1 912) - 1) dX9_drop_20 (hS.k _) (mI912 h t ρ _) ?_
  refine sv_iaload (pc := 23) C.1 (m.2 907 (((m.1 912) - 1).toNatClampNeg)) dX9_drop_23 (hS.ki _ 907) (by rw [nA907 hS]; exact h0) (congrFun (mA907 hS _) _) ?_
  refine st_iastore (pc := 24) C.1 dX9_drop_24 (hS.ki _ 907) (by rw [nA907 hS]; exact h1) ?_
  rw [pA907 hS]
  refine st_aload_n (pc := 25) C.1 (some t) dX9_drop_25 rfl rfl ?_
  refine gR_RX9_23 (pc := 26) C.1 (some (A 908)) dX9_drop_26 (hS.k _) (hS.r _ 908) ?_
  refine st_iload_n (pc := 29) C.1 dX9_drop_29 rfl rfl ?_
  refine st_aload_n (pc := 30) C.1 (some t) dX9_drop_30 rfl rfl ?_
  refine gR_RX9_23 (pc := 31) C.1 (some (A 908)) dX9_drop_31 (hS.k _) (hS.r _ 908) ?_
  refine st_aload_n (pc := 34) C.1 (some t) dX9_drop_34 rfl rfl ?_
  refine gI_RX9_88 (pc := 35) C.1 ((m.1 912) - 1) dX9_drop_35 (hS.k _) (mI912 h t ρ _) ?_
  refine sv_iaload (pc := 38) C.1 (m.2 908 (((m.1 912) - 1).toNatClampNeg)) dX9_drop_38 (hS.ki _ 908) (by rw [nA908 hS]; exact h0) (congrFun (mA908 hS _) _) ?_
  refine st_iastore (pc := 39) C.1 dX9_drop_39 (hS.ki _ 908) (by rw [nA908 hS]; exact h1) ?_
  rw [pA908 hS]
  refine st_aload_n (pc := 40) C.1 (some t) dX9_drop_40 rfl rfl ?_
  refine gR_RX9_26 (pc := 41) C.1 (some (A 909)) dX9_drop_41 (hS.k _) (hS.r _ 909) ?_
  refine st_iload_n (pc := 44) C.1 dX9_drop_44 rfl rfl ?_
  refine st_aload_n (pc := 45) C.1 (some t) dX9_drop_45 rfl rfl ?_
  refine gR_RX9_26 (pc := 46) C.1 (some (A 909)) dX9_drop_46 (hS.k _) (hS.r _ 909) ?_
  refine st_aload_n (pc := 49) C.1 (some t) dX9_drop_49 rfl rfl ?_
  refine gI_RX9_88 (pc := 50) C.1 ((m.1 912) - 1) dX9_drop_50 (hS.k _) (mI912 h t ρ _) ?_
  refine sv_iaload (pc := 53) C.1 (m.2 909 (((m.1 912) - 1).toNatClampNeg)) dX9_drop_53 (hS.ki _ 909) (by rw [nA909 hS]; exact h0) (congrFun (mA909 hS _) _) ?_
  refine st_iastore (pc := 54) C.1 dX9_drop_54 (hS.ki _ 909) (by rw [nA909 hS]; exact h1) ?_
  rw [pA909 hS]
  refine st_aload_n (pc := 55) C.1 (some t) dX9_drop_55 rfl rfl ?_
  refine gR_RX9_29 (pc := 56) C.1 (some (A 910)) dX9_drop_56 (hS.k _) (hS.r _ 910) ?_
  refine st_iload_n (pc := 59) C.1 dX9_drop_59 rfl rfl ?_
  refine st_aload_n (pc := 60) C.1 (some t) dX9_drop_60 rfl rfl ?_
  refine gR_RX9_29 (pc := 61) C.1 (some (A 910)) dX9_drop_61 (hS.k _) (hS.r _ 910) ?_
  refine st_aload_n (pc := 64) C.1 (some t) dX9_drop_64 rfl rfl ?_
  refine gI_RX9_88 (pc := 65) C.1 ((m.1 912) - 1) dX9_drop_65 (hS.k _) (mI912 h t ρ _) ?_
  refine sv_iaload (pc := 68) C.1 (m.2 910 (((m.1 912) - 1).toNatClampNeg)) dX9_drop_68 (hS.ki _ 910) (by rw [nA910 hS]; exact h0) (congrFun (mA910 hS _) _) ?_
  refine st_iastore (pc := 69) C.1 dX9_drop_69 (hS.ki _ 910) (by rw [nA910 hS]; exact h1) ?_
  rw [pA910 hS]
  refine st_aload_n (pc := 70) C.1 (some t) dX9_drop_70 rfl rfl ?_
  refine gR_RX9_32 (pc := 71) C.1 (some (A 911)) dX9_drop_71 (hS.k _) (hS.r _ 911) ?_
  refine st_iload_n (pc := 74) C.1 dX9_drop_74 rfl rfl ?_
  refine st_aload_n (pc := 75) C.1 (some t) dX9_drop_75 rfl rfl ?_
  refine gR_RX9_32 (pc := 76) C.1 (some (A 911)) dX9_drop_76 (hS.k _) (hS.r _ 911) ?_
  refine st_aload_n (pc := 79) C.1 (some t) dX9_drop_79 rfl rfl ?_
  refine gI_RX9_88 (pc := 80) C.1 ((m.1 912) - 1) dX9_drop_80 (hS.k _) (mI912 h t ρ _) ?_
  refine sv_iaload (pc := 83) C.1 (m.2 911 (((m.1 912) - 1).toNatClampNeg)) dX9_drop_83 (hS.ki _ 911) (by rw [nA911 hS]; exact h0) (congrFun (mA911 hS _) _) ?_
  refine st_iastore (pc := 84) C.1 dX9_drop_84 (hS.ki _ 911) (by rw [nA911 hS]; exact h1) ?_
  rw [pA911 hS]
  exact rt_v C rfl dX9_drop_85 hc hs ⟨rfl, k0⟩

theorem sm_faulty_0 {X : CX} {d mc ms cells slots : Nat} {pp : Hp → Prop} {h : Hp} {t : Nat} {ρ A : Nat → Nat} {m : Mo} {x1 : Int32} {x2 : Int32} (C : CmV X mX9_faulty d mc ms pp) (hS : MS h t ρ A) (hc : cells ≤ mc) (hs : slots ≤ ms) (h0 : vp_in ((m.1 921) - (m.1 921) / 32 * 32) 32) (k0 : pp (mput h t ρ (up1 m.1 921 ((m.1 921) + 1), up2 (up2 m.2 923 (((m.1 921) - (m.1 921) / 32 * 32).toNatClampNeg) x1) 924 (((m.1 921) - (m.1 921) / 32 * 32).toNatClampNeg) x2))) : At X cells slots 0 [some (va_rf (some t)), some (.int x1), some (.int x2)] [] (mput h t ρ m) := by
  refine st_aload_n (pc := 0) C.1 (some t) dX9_faulty_0 rfl rfl ?_
  refine gR_RX9_44 (pc := 1) C.1 (some (A 923)) dX9_faulty_1 (hS.k _) (hS.r _ 923) ?_
  refine st_aload_n (pc := 4) C.1 (some t) dX9_faulty_4 rfl rfl ?_
  refine gI_RX9_102 (pc := 5) C.1 (m.1 921) dX9_faulty_5 (hS.k _) (mI921 h t ρ _) ?_
  refine st_bipush (pc := 8) (v := 32) C.1 dX9_faulty_8 (by decide) ?_
  refine st_irem (pc := 10) C.1 dX9_faulty_10 (by decide) ?_
  refine st_iload_n (pc := 11) C.1 dX9_faulty_11 rfl rfl ?_
  refine st_iastore (pc := 12) C.1 dX9_faulty_12 (hS.ki _ 923) (by rw [nA923 hS]; exact h0) ?_
  rw [pA923 hS]
  refine st_aload_n (pc := 13) C.1 (some t) dX9_faulty_13 rfl rfl ?_
  refine gR_RX9_47 (pc := 14) C.1 (some (A 924)) dX9_faulty_14 (hS.k _) (hS.r _ 924) ?_
  refine st_aload_n (pc := 17) C.1 (some t) dX9_faulty_17 rfl rfl ?_
  refine gI_RX9_102 (pc := 18) C.1 (m.1 921) dX9_faulty_18 (hS.k _) (mI921 h t ρ _) ?_
  refine st_bipush (pc := 21) (v := 32) C.1 dX9_faulty_21 (by decide) ?_
  refine st_irem (pc := 23) C.1 dX9_faulty_23 (by decide) ?_
  refine st_iload_n (pc := 24) C.1 dX9_faulty_24 rfl rfl ?_
  refine st_iastore (pc := 25) C.1 dX9_faulty_25 (hS.ki _ 924) (by rw [nA924 hS]; exact h0) ?_
  rw [pA924 hS]
  refine st_aload_n (pc := 26) C.1 (some t) dX9_faulty_26 rfl rfl ?_
  refine st_dup (pc := 27) C.1 dX9_faulty_27 (rf_cat (some t)) ?_
  refine gI_RX9_102 (pc := 28) C.1 (m.1 921) dX9_faulty_28 (hS.k _) (mI921 h t ρ _) ?_
  refine st_iconst (pc := 31) (v := 1) C.1 dX9_faulty_31 (by decide) ?_
  refine st_iadd (pc := 32) C.1 dX9_faulty_32 ?_
  refine pI_RX9_102 (pc := 33) C.1 dX9_faulty_33 (hS.k _) ?_
  rw [pI921]
  exact rt_v C rfl dX9_faulty_36 hc hs ⟨rfl, k0⟩

theorem sm_takeFree_0 {X : CX} {d mc ms cells slots : Nat} {pp : Hp → Prop} {h : Hp} {t : Nat} {ρ A : Nat → Nat} {m : Mo} {x1 : Int32} (C : CmV X mX9_takeFree d mc ms pp) (hS : MS h t ρ A)  (k0 : At X cells slots 12 [some (va_rf (some t)), some (.int x1), some (.int x1)] [] (mput h t ρ (up1 m.1 915 ((m.1 915) - 1), m.2))) : At X cells slots 0 [some (va_rf (some t)), some (.int x1), none] [] (mput h t ρ m) := by
  refine st_aload_n (pc := 0) C.1 (some t) dX9_takeFree_0 rfl rfl ?_
  refine st_dup (pc := 1) C.1 dX9_takeFree_1 (rf_cat (some t)) ?_
  refine gI_RX9_105 (pc := 2) C.1 (m.1 915) dX9_takeFree_2 (hS.k _) (mI915 h t ρ _) ?_
  refine st_iconst (pc := 5) (v := 1) C.1 dX9_takeFree_5 (by decide) ?_
  refine st_isub (pc := 6) C.1 dX9_takeFree_6 ?_
  refine pI_RX9_105 (pc := 7) C.1 dX9_takeFree_7 (hS.k _) ?_
  rw [pI915]
  refine st_iload_n (pc := 10) C.1 dX9_takeFree_10 rfl rfl ?_
  refine sv_istore_n (pc := 11) (i := 2) C.1 [some (va_rf (some t)), some (.int x1), some (.int x1)] dX9_takeFree_11 rfl (Nat.le_of_ble_eq_true rfl) (by rw [C.2.1]; exact Nat.le_of_ble_eq_true rfl) rfl rfl ?_
  exact k0

theorem sm_takeFree_12 {X : CX} {d mc ms cells slots : Nat} {pp : Hp → Prop} {h : Hp} {t : Nat} {ρ A : Nat → Nat} {m : Mo} {x1 : Int32} {x2 : Int32} (C : CmV X mX9_takeFree d mc ms pp) (hS : MS h t ρ A) (hc : cells ≤ mc) (hs : slots ≤ ms) (h0 : ¬ m.1 915 ≤ x2 → vp_in (x2 + 1) 800) (h1 : ¬ m.1 915 ≤ x2 → vp_in x2 800) (k0 : m.1 915 ≤ x2 → pp (mput h t ρ m)) (k1 : ¬ m.1 915 ≤ x2 → At X cells slots 12 [some (va_rf (some t)), some (.int x1), some (.int (x2 + 1))] [] (mput h t ρ (m.1, up2 (up2 m.2 913 (x2.toNatClampNeg) (m.2 913 ((x2 + 1).toNatClampNeg))) 914 (x2.toNatClampNeg) (m.2 914 ((x2 + 1).toNatClampNeg))))) : At X cells slots 12 [some (va_rf (some t)), some (.int x1), some (.int x2)] [] (mput h t ρ m) := by
  refine st_iload_n (pc := 12) C.1 dX9_takeFree_12 rfl rfl ?_
  refine st_aload_n (pc := 13) C.1 (some t) dX9_takeFree_13 rfl rfl ?_
  refine gI_RX9_105 (pc := 14) C.1 (m.1 915) dX9_takeFree_14 (hS.k _) (mI915 h t ρ _) ?_
  refine st_icmp_ge (pc := 17) (tgt := 54) C.1 dX9_takeFree_17 (by decide) (fun c0 => ?_) (fun c0 => ?_)
  · exact rt_v C rfl dX9_takeFree_54 hc hs ⟨rfl, (k0 c0)⟩
  · refine st_aload_n (pc := 20) C.1 (some t) dX9_takeFree_20 rfl rfl ?_
    refine gR_RX9_35 (pc := 21) C.1 (some (A 913)) dX9_takeFree_21 (hS.k _) (hS.r _ 913) ?_
    refine st_iload_n (pc := 24) C.1 dX9_takeFree_24 rfl rfl ?_
    refine st_aload_n (pc := 25) C.1 (some t) dX9_takeFree_25 rfl rfl ?_
    refine gR_RX9_35 (pc := 26) C.1 (some (A 913)) dX9_takeFree_26 (hS.k _) (hS.r _ 913) ?_
    refine st_iload_n (pc := 29) C.1 dX9_takeFree_29 rfl rfl ?_
    refine st_iconst (pc := 30) (v := 1) C.1 dX9_takeFree_30 (by decide) ?_
    refine st_iadd (pc := 31) C.1 dX9_takeFree_31 ?_
    refine sv_iaload (pc := 32) C.1 (m.2 913 ((x2 + 1).toNatClampNeg)) dX9_takeFree_32 (hS.ki _ 913) (by rw [nA913 hS]; exact (h0 c0)) (congrFun (mA913 hS _) _) ?_
    refine st_iastore (pc := 33) C.1 dX9_takeFree_33 (hS.ki _ 913) (by rw [nA913 hS]; exact (h1 c0)) ?_
    rw [pA913 hS]
    refine st_aload_n (pc := 34) C.1 (some t) dX9_takeFree_34 rfl rfl ?_
    refine gR_RX9_38 (pc := 35) C.1 (some (A 914)) dX9_takeFree_35 (hS.k _) (hS.r _ 914) ?_
    refine st_iload_n (pc := 38) C.1 dX9_takeFree_38 rfl rfl ?_
    refine st_aload_n (pc := 39) C.1 (some t) dX9_takeFree_39 rfl rfl ?_
    refine gR_RX9_38 (pc := 40) C.1 (some (A 914)) dX9_takeFree_40 (hS.k _) (hS.r _ 914) ?_
    refine st_iload_n (pc := 43) C.1 dX9_takeFree_43 rfl rfl ?_
    refine st_iconst (pc := 44) (v := 1) C.1 dX9_takeFree_44 (by decide) ?_
    refine st_iadd (pc := 45) C.1 dX9_takeFree_45 ?_
    refine sv_iaload (pc := 46) C.1 (m.2 914 ((x2 + 1).toNatClampNeg)) dX9_takeFree_46 (hS.ki _ 914) (by rw [nA914 hS]; exact (h0 c0)) (congrFun (mA914 hS _) _) ?_
    refine st_iastore (pc := 47) C.1 dX9_takeFree_47 (hS.ki _ 914) (by rw [nA914 hS]; exact (h1 c0)) ?_
    rw [pA914 hS]
    refine sv_iinc (pc := 48) (i := 2) (v := x2 + 1) C.1 [some (va_rf (some t)), some (.int x1), some (.int (x2 + 1))] dX9_takeFree_48 rfl rfl (by rw [C.2.1]; exact Nat.le_of_ble_eq_true rfl) rfl rfl ?_
    refine st_goto (pc := 51) (tgt := 12) C.1 dX9_takeFree_51 (by decide) ?_
    exact (k1 c0)

theorem sm_addFree_0 {X : CX} {d mc ms cells slots : Nat} {pp : Hp → Prop} {h : Hp} {t : Nat} {ρ A : Nat → Nat} {m : Mo} {x1 : Int32} {x2 : Int32} (C : CmV X mX9_addFree d mc ms pp) (hS : MS h t ρ A) (hc : cells ≤ mc) (hs : slots ≤ ms) (h0 : vp_in (m.1 915) 800) (k0 : pp (mput h t ρ (up1 m.1 915 ((m.1 915) + 1), up2 (up2 m.2 913 ((m.1 915).toNatClampNeg) x1) 914 ((m.1 915).toNatClampNeg) x2))) : At X cells slots 0 [some (va_rf (some t)), some (.int x1), some (.int x2)] [] (mput h t ρ m) := by
  refine st_aload_n (pc := 0) C.1 (some t) dX9_addFree_0 rfl rfl ?_
  refine gR_RX9_35 (pc := 1) C.1 (some (A 913)) dX9_addFree_1 (hS.k _) (hS.r _ 913) ?_
  refine st_aload_n (pc := 4) C.1 (some t) dX9_addFree_4 rfl rfl ?_
  refine gI_RX9_105 (pc := 5) C.1 (m.1 915) dX9_addFree_5 (hS.k _) (mI915 h t ρ _) ?_
  refine st_iload_n (pc := 8) C.1 dX9_addFree_8 rfl rfl ?_
  refine st_iastore (pc := 9) C.1 dX9_addFree_9 (hS.ki _ 913) (by rw [nA913 hS]; exact h0) ?_
  rw [pA913 hS]
  refine st_aload_n (pc := 10) C.1 (some t) dX9_addFree_10 rfl rfl ?_
  refine gR_RX9_38 (pc := 11) C.1 (some (A 914)) dX9_addFree_11 (hS.k _) (hS.r _ 914) ?_
  refine st_aload_n (pc := 14) C.1 (some t) dX9_addFree_14 rfl rfl ?_
  refine gI_RX9_105 (pc := 15) C.1 (m.1 915) dX9_addFree_15 (hS.k _) (mI915 h t ρ _) ?_
  refine st_iload_n (pc := 18) C.1 dX9_addFree_18 rfl rfl ?_
  refine st_iastore (pc := 19) C.1 dX9_addFree_19 (hS.ki _ 914) (by rw [nA914 hS]; exact h0) ?_
  rw [pA914 hS]
  refine st_aload_n (pc := 20) C.1 (some t) dX9_addFree_20 rfl rfl ?_
  refine st_dup (pc := 21) C.1 dX9_addFree_21 (rf_cat (some t)) ?_
  refine gI_RX9_105 (pc := 22) C.1 (m.1 915) dX9_addFree_22 (hS.k _) (mI915 h t ρ _) ?_
  refine st_iconst (pc := 25) (v := 1) C.1 dX9_addFree_25 (by decide) ?_
  refine st_iadd (pc := 26) C.1 dX9_addFree_26 ?_
  refine pI_RX9_105 (pc := 27) C.1 dX9_addFree_27 (hS.k _) ?_
  rw [pI915]
  exact rt_v C rfl dX9_addFree_30 hc hs ⟨rfl, k0⟩

theorem sm_greatBeside_0 {X : CX} {d mc ms cells slots : Nat} {pp : Int32 → Hp → Prop} {h : Hp} {t : Nat} {ρ A : Nat → Nat} {m : Mo} {x1 : Int32} {x2 : Int32} (C : CmI X mX9_greatBeside d mc ms pp) (hS : MS h t ρ A)  (k0 : At X cells slots 2 [some (va_rf (some t)), some (.int x1), some (.int x2), some (.int 0)] [] (mput h t ρ m)) : At X cells slots 0 [some (va_rf (some t)), some (.int x1), some (.int x2), none] [] (mput h t ρ m) := by
  refine st_iconst (pc := 0) (v := 0) C.1 dX9_greatBeside_0 (by decide) ?_
  refine sv_istore_n (pc := 1) (i := 3) C.1 [some (va_rf (some t)), some (.int x1), some (.int x2), some (.int 0)] dX9_greatBeside_1 rfl (Nat.le_of_ble_eq_true rfl) (by rw [C.2.1]; exact Nat.le_of_ble_eq_true rfl) rfl rfl ?_
  exact k0

theorem sm_greatBeside_2 {X : CX} {d mc ms cells slots : Nat} {pp : Int32 → Hp → Prop} {h : Hp} {t : Nat} {ρ A : Nat → Nat} {m : Mo} {x1 : Int32} {x2 : Int32} {x3 : Int32} (C : CmI X mX9_greatBeside d mc ms pp) (hS : MS h t ρ A) (hc : cells ≤ mc) (hs : slots ≤ ms) (h0 : ¬ m.1 915 ≤ x3 → vp_in x3 800) (h1 : ¬ m.1 915 ≤ x3 → ¬ m.2 914 (x3.toNatClampNeg) ≤ 64 → vp_in x3 800) (h2 : ¬ m.1 915 ≤ x3 → ¬ m.2 914 (x3.toNatClampNeg) ≤ 64 → ¬ x2 = 0 → vp_in x3 800) (k0 : m.1 915 ≤ x3 → pp (-1) (mput h t ρ m)) (k1 : ¬ m.1 915 ≤ x3 → m.2 914 (x3.toNatClampNeg) ≤ 64 → At X cells slots 2 [some (va_rf (some t)), some (.int x1), some (.int x2), some (.int (x3 + 1))] [] (mput h t ρ m)) (k2 : ¬ m.1 915 ≤ x3 → ¬ m.2 914 (x3.toNatClampNeg) ≤ 64 → x2 = 0 → ¬ (m.2 913 (x3.toNatClampNeg)) + 0 = x1 → At X cells slots 2 [some (va_rf (some t)), some (.int x1), some (.int x2), some (.int (x3 + 1))] [] (mput h t ρ m)) (k3 : ¬ m.1 915 ≤ x3 → ¬ m.2 914 (x3.toNatClampNeg) ≤ 64 → x2 = 0 → (m.2 913 (x3.toNatClampNeg)) + 0 = x1 → pp x3 (mput h t ρ m)) (k4 : ¬ m.1 915 ≤ x3 → ¬ m.2 914 (x3.toNatClampNeg) ≤ 64 → ¬ x2 = 0 → ¬ (m.2 913 (x3.toNatClampNeg)) + (m.2 914 (x3.toNatClampNeg)) = x1 → At X cells slots 2 [some (va_rf (some t)), some (.int x1), some (.int x2), some (.int (x3 + 1))] [] (mput h t ρ m)) (k5 : ¬ m.1 915 ≤ x3 → ¬ m.2 914 (x3.toNatClampNeg) ≤ 64 → ¬ x2 = 0 → (m.2 913 (x3.toNatClampNeg)) + (m.2 914 (x3.toNatClampNeg)) = x1 → pp x3 (mput h t ρ m)) : At X cells slots 2 [some (va_rf (some t)), some (.int x1), some (.int x2), some (.int x3)] [] (mput h t ρ m) := by
  refine st_iload_n (pc := 2) C.1 dX9_greatBeside_2 rfl rfl ?_
  refine st_aload_n (pc := 3) C.1 (some t) dX9_greatBeside_3 rfl rfl ?_
  refine gI_RX9_105 (pc := 4) C.1 (m.1 915) dX9_greatBeside_4 (hS.k _) (mI915 h t ρ _) ?_
  refine st_icmp_ge (pc := 7) (tgt := 54) C.1 dX9_greatBeside_7 (by decide) (fun c0 => ?_) (fun c0 => ?_)
  · refine st_iconst (pc := 54) (v := (-1)) C.1 dX9_greatBeside_54 (by decide) ?_
    exact rt_i C (Or.inl rfl) dX9_greatBeside_55 hc hs ⟨_, rfl, (k0 c0)⟩
  · refine st_aload_n (pc := 10) C.1 (some t) dX9_greatBeside_10 rfl rfl ?_
    refine gR_RX9_38 (pc := 11) C.1 (some (A 914)) dX9_greatBeside_11 (hS.k _) (hS.r _ 914) ?_
    refine st_iload_n (pc := 14) C.1 dX9_greatBeside_14 rfl rfl ?_
    refine sv_iaload (pc := 15) C.1 (m.2 914 (x3.toNatClampNeg)) dX9_greatBeside_15 (hS.ki _ 914) (by rw [nA914 hS]; exact (h0 c0)) (congrFun (mA914 hS _) _) ?_
    refine st_bipush (pc := 16) (v := 64) C.1 dX9_greatBeside_16 (by decide) ?_
    refine st_icmp_le (pc := 18) (tgt := 48) C.1 dX9_greatBeside_18 (by decide) (fun c1 => ?_) (fun c1 => ?_)
    · refine sv_iinc (pc := 48) (i := 3) (v := x3 + 1) C.1 [some (va_rf (some t)), some (.int x1), some (.int x2), some (.int (x3 + 1))] dX9_greatBeside_48 rfl rfl (by rw [C.2.1]; exact Nat.le_of_ble_eq_true rfl) rfl rfl ?_
      refine st_goto (pc := 51) (tgt := 2) C.1 dX9_greatBeside_51 (by decide) ?_
      exact (k1 c0 c1)
    · refine st_aload_n (pc := 21) C.1 (some t) dX9_greatBeside_21 rfl rfl ?_
      refine gR_RX9_35 (pc := 22) C.1 (some (A 913)) dX9_greatBeside_22 (hS.k _) (hS.r _ 913) ?_
      refine st_iload_n (pc := 25) C.1 dX9_greatBeside_25 rfl rfl ?_
      refine sv_iaload (pc := 26) C.1 (m.2 913 (x3.toNatClampNeg)) dX9_greatBeside_26 (hS.ki _ 913) (by rw [nA913 hS]; exact (h1 c0 c1)) (congrFun (mA913 hS _) _) ?_
      refine st_iload_n (pc := 27) C.1 dX9_greatBeside_27 rfl rfl ?_
      refine st_if_eq (pc := 28) (tgt := 40) C.1 dX9_greatBeside_28 (by decide) (fun c2 => ?_) (fun c2 => ?_)
      · refine st_iconst (pc := 40) (v := 0) C.1 dX9_greatBeside_40 (by decide) ?_
        refine st_iadd (pc := 41) C.1 dX9_greatBeside_41 ?_
        refine st_iload_n (pc := 42) C.1 dX9_greatBeside_42 rfl rfl ?_
        refine st_icmp_ne (pc := 43) (tgt := 48) C.1 dX9_greatBeside_43 (by decide) (fun c3 => ?_) (fun c3 => ?_)
        · refine sv_iinc (pc := 48) (i := 3) (v := x3 + 1) C.1 [some (va_rf (some t)), some (.int x1), some (.int x2), some (.int (x3 + 1))] dX9_greatBeside_48 rfl rfl (by rw [C.2.1]; exact Nat.le_of_ble_eq_true rfl) rfl rfl ?_
          refine st_goto (pc := 51) (tgt := 2) C.1 dX9_greatBeside_51 (by decide) ?_
          exact (k2 c0 c1 c2 c3)
        · refine st_iload_n (pc := 46) C.1 dX9_greatBeside_46 rfl rfl ?_
          exact rt_i C (Or.inl rfl) dX9_greatBeside_47 hc hs ⟨_, rfl, (k3 c0 c1 c2 c3)⟩
      · refine st_aload_n (pc := 31) C.1 (some t) dX9_greatBeside_31 rfl rfl ?_
        refine gR_RX9_38 (pc := 32) C.1 (some (A 914)) dX9_greatBeside_32 (hS.k _) (hS.r _ 914) ?_
        refine st_iload_n (pc := 35) C.1 dX9_greatBeside_35 rfl rfl ?_
        refine sv_iaload (pc := 36) C.1 (m.2 914 (x3.toNatClampNeg)) dX9_greatBeside_36 (hS.ki _ 914) (by rw [nA914 hS]; exact (h2 c0 c1 c2)) (congrFun (mA914 hS _) _) ?_
        refine st_goto (pc := 37) (tgt := 41) C.1 dX9_greatBeside_37 (by decide) ?_
        refine st_iadd (pc := 41) C.1 dX9_greatBeside_41 ?_
        refine st_iload_n (pc := 42) C.1 dX9_greatBeside_42 rfl rfl ?_
        refine st_icmp_ne (pc := 43) (tgt := 48) C.1 dX9_greatBeside_43 (by decide) (fun c4 => ?_) (fun c4 => ?_)
        · refine sv_iinc (pc := 48) (i := 3) (v := x3 + 1) C.1 [some (va_rf (some t)), some (.int x1), some (.int x2), some (.int (x3 + 1))] dX9_greatBeside_48 rfl rfl (by rw [C.2.1]; exact Nat.le_of_ble_eq_true rfl) rfl rfl ?_
          refine st_goto (pc := 51) (tgt := 2) C.1 dX9_greatBeside_51 (by decide) ?_
          exact (k4 c0 c1 c2 c4)
        · refine st_iload_n (pc := 46) C.1 dX9_greatBeside_46 rfl rfl ?_
          exact rt_i C (Or.inl rfl) dX9_greatBeside_47 hc hs ⟨_, rfl, (k5 c0 c1 c2 c4)⟩

theorem sm_release_0 {X : CX} {d mc ms cells slots : Nat} {pp : Hp → Prop} {h : Hp} {t : Nat} {ρ A : Nat → Nat} {m : Mo} {x1 : Int32} {x2 : Int32} (C : CmV X mX9_release d mc ms pp) (hS : MS h t ρ A)  (k0 : 64 < x2 → At X cells slots 23 [some (va_rf (some t)), some (.int x1), some (.int x2), some (.int x1), some (.int x2), none] [.int 1, .int x1, va_rf (some t)] (mput h t ρ m)) (k1 : ¬ 64 < x2 → At X cells slots 16 [some (va_rf (some t)), some (.int x1), some (.int x2), some (.int x1), some (.int x2), none] [.int x2, .int x1, va_rf (some t)] (mput h t ρ m)) : At X cells slots 0 [some (va_rf (some t)), some (.int x1), some (.int x2), none, none, none] [] (mput h t ρ m) := by
  refine st_iload_n (pc := 0) C.1 dX9_release_0 rfl rfl ?_
  refine sv_istore_n (pc := 1) (i := 3) C.1 [some (va_rf (some t)), some (.int x1), some (.int x2), some (.int x1), none, none] dX9_release_1 rfl (Nat.le_of_ble_eq_true rfl) (by rw [C.2.1]; exact Nat.le_of_ble_eq_true rfl) rfl rfl ?_
  refine st_iload_n (pc := 2) C.1 dX9_release_2 rfl rfl ?_
  refine sv_istore (pc := 3) (i := 4) C.1 [some (va_rf (some t)), some (.int x1), some (.int x2), some (.int x1), some (.int x2), none] dX9_release_3 (Nat.le_of_ble_eq_true rfl) (by rw [C.2.1]; exact Nat.le_of_ble_eq_true rfl) rfl rfl ?_
  refine st_iload (pc := 5) C.1 dX9_release_5 rfl ?_
  refine st_bipush (pc := 7) (v := 64) C.1 dX9_release_7 (by decide) ?_
  refine st_icmp_gt (pc := 9) (tgt := 20) C.1 dX9_release_9 (by decide) (fun c0 => ?_) (fun c0 => ?_)
  · refine st_aload_n (pc := 20) C.1 (some t) dX9_release_20 rfl rfl ?_
    refine st_iload_n (pc := 21) C.1 dX9_release_21 rfl rfl ?_
    refine st_iconst (pc := 22) (v := 1) C.1 dX9_release_22 (by decide) ?_
    exact (k0 c0)
  · refine st_aload_n (pc := 12) C.1 (some t) dX9_release_12 rfl rfl ?_
    refine st_iload_n (pc := 13) C.1 dX9_release_13 rfl rfl ?_
    refine st_iload (pc := 14) C.1 dX9_release_14 rfl ?_
    exact (k1 c0)

theorem sm_release_19 {X : CX} {d mc ms cells slots : Nat} {pp : Hp → Prop} {h : Hp} {t : Nat} {ρ A : Nat → Nat} {m : Mo} {x1 : Int32} {x2 : Int32} {x3 : Int32} {x4 : Int32} (C : CmV X mX9_release d mc ms pp) (hS : MS h t ρ A) (hc : cells ≤ mc) (hs : slots ≤ ms)  (k0 : pp (mput h t ρ m)) : At X cells slots 19 [some (va_rf (some t)), some (.int x1), some (.int x2), some (.int x3), some (.int x4), none] [] (mput h t ρ m) := by
  exact rt_v C rfl dX9_release_19 hc hs ⟨rfl, k0⟩

theorem sm_release_26 {X : CX} {d mc ms cells slots : Nat} {pp : Hp → Prop} {h : Hp} {t : Nat} {ρ A : Nat → Nat} {m : Mo} {x1 : Int32} {x2 : Int32} {x3 : Int32} {x4 : Int32} {u0 : Int32} (C : CmV X mX9_release d mc ms pp) (hS : MS h t ρ A) (h0 : ¬ u0 = (-1) → vp_in u0 800) (k0 : u0 = (-1) → At X cells slots 76 [some (va_rf (some t)), some (.int x1), some (.int x2), some (.int x3), some (.int x4), some (.int u0)] [.int 0, .int (x3 + x4), va_rf (some t)] (mput h t ρ m)) (k1 : ¬ u0 = (-1) → At X cells slots 57 [some (va_rf (some t)), some (.int x1), some (.int x2), some (.int (m.2 913 (u0.toNatClampNeg))), some (.int (x4 + (m.2 914 (u0.toNatClampNeg)))), some (.int u0)] [.int u0, va_rf (some t)] (mput h t ρ m)) : At X cells slots 26 [some (va_rf (some t)), some (.int x1), some (.int x2), some (.int x3), some (.int x4), none] [.int u0] (mput h t ρ m) := by
  refine sv_istore (pc := 26) (i := 5) C.1 [some (va_rf (some t)), some (.int x1), some (.int x2), some (.int x3), some (.int x4), some (.int u0)] dX9_release_26 (Nat.le_of_ble_eq_true rfl) (by rw [C.2.1]; exact Nat.le_of_ble_eq_true rfl) rfl rfl ?_
  refine st_iload (pc := 28) C.1 dX9_release_28 rfl ?_
  refine st_iconst (pc := 30) (v := (-1)) C.1 dX9_release_30 (by decide) ?_
  refine st_icmp_eq (pc := 31) (tgt := 70) C.1 dX9_release_31 (by decide) (fun c0 => ?_) (fun c0 => ?_)
  · refine st_aload_n (pc := 70) C.1 (some t) dX9_release_70 rfl rfl ?_
    refine st_iload_n (pc := 71) C.1 dX9_release_71 rfl rfl ?_
    refine st_iload (pc := 72) C.1 dX9_release_72 rfl ?_
    refine st_iadd (pc := 74) C.1 dX9_release_74 ?_
    refine st_iconst (pc := 75) (v := 0) C.1 dX9_release_75 (by decide) ?_
    exact (k0 c0)
  · refine st_aload_n (pc := 34) C.1 (some t) dX9_release_34 rfl rfl ?_
    refine gR_RX9_35 (pc := 35) C.1 (some (A 913)) dX9_release_35 (hS.k _) (hS.r _ 913) ?_
    refine st_iload (pc := 38) C.1 dX9_release_38 rfl ?_
    refine sv_iaload (pc := 40) C.1 (m.2 913 (u0.toNatClampNeg)) dX9_release_40 (hS.ki _ 913) (by rw [nA913 hS]; exact (h0 c0)) (congrFun (mA913 hS _) _) ?_
    refine sv_istore_n (pc := 41) (i := 3) C.1 [some (va_rf (some t)), some (.int x1), some (.int x2), some (.int (m.2 913 (u0.toNatClampNeg))), some (.int x4), some (.int u0)] dX9_release_41 rfl (Nat.le_of_ble_eq_true rfl) (by rw [C.2.1]; exact Nat.le_of_ble_eq_true rfl) rfl rfl ?_
    refine st_iload (pc := 42) C.1 dX9_release_42 rfl ?_
    refine st_aload_n (pc := 44) C.1 (some t) dX9_release_44 rfl rfl ?_
    refine gR_RX9_38 (pc := 45) C.1 (some (A 914)) dX9_release_45 (hS.k _) (hS.r _ 914) ?_
    refine st_iload (pc := 48) C.1 dX9_release_48 rfl ?_
    refine sv_iaload (pc := 50) C.1 (m.2 914 (u0.toNatClampNeg)) dX9_release_50 (hS.ki _ 914) (by rw [nA914 hS]; exact (h0 c0)) (congrFun (mA914 hS _) _) ?_
    refine st_iadd (pc := 51) C.1 dX9_release_51 ?_
    refine sv_istore (pc := 52) (i := 4) C.1 [some (va_rf (some t)), some (.int x1), some (.int x2), some (.int (m.2 913 (u0.toNatClampNeg))), some (.int (x4 + (m.2 914 (u0.toNatClampNeg)))), some (.int u0)] dX9_release_52 (Nat.le_of_ble_eq_true rfl) (by rw [C.2.1]; exact Nat.le_of_ble_eq_true rfl) rfl rfl ?_
    refine st_aload_n (pc := 54) C.1 (some t) dX9_release_54 rfl rfl ?_
    refine st_iload (pc := 55) C.1 dX9_release_55 rfl ?_
    exact (k1 c0)

theorem sm_release_60 {X : CX} {d mc ms cells slots : Nat} {pp : Hp → Prop} {h : Hp} {t : Nat} {ρ A : Nat → Nat} {m : Mo} {x1 : Int32} {x2 : Int32} {x3 : Int32} {x4 : Int32} {x5 : Int32} (C : CmV X mX9_release d mc ms pp) (hS : MS h t ρ A)  (k0 : At X cells slots 76 [some (va_rf (some t)), some (.int x1), some (.int x2), some (.int x3), some (.int x4), some (.int x5)] [.int 0, .int (x3 + x4), va_rf (some t)] (mput h t ρ (up1 m.1 920 ((m.1 920) + 1), m.2))) : At X cells slots 60 [some (va_rf (some t)), some (.int x1), some (.int x2), some (.int x3), some (.int x4), some (.int x5)] [] (mput h t ρ m) := by
  refine st_aload_n (pc := 60) C.1 (some t) dX9_release_60 rfl rfl ?_
  refine st_dup (pc := 61) C.1 dX9_release_61 (rf_cat (some t)) ?_
  refine gI_RX9_120 (pc := 62) C.1 (m.1 920) dX9_release_62 (hS.k _) (mI920 h t ρ _) ?_
  refine st_iconst (pc := 65) (v := 1) C.1 dX9_release_65 (by decide) ?_
  refine st_iadd (pc := 66) C.1 dX9_release_66 ?_
  refine pI_RX9_120 (pc := 67) C.1 dX9_release_67 (hS.k _) ?_
  rw [pI920]
  refine st_aload_n (pc := 70) C.1 (some t) dX9_release_70 rfl rfl ?_
  refine st_iload_n (pc := 71) C.1 dX9_release_71 rfl rfl ?_
  refine st_iload (pc := 72) C.1 dX9_release_72 rfl ?_
  refine st_iadd (pc := 74) C.1 dX9_release_74 ?_
  refine st_iconst (pc := 75) (v := 0) C.1 dX9_release_75 (by decide) ?_
  exact k0

theorem sm_release_79 {X : CX} {d mc ms cells slots : Nat} {pp : Hp → Prop} {h : Hp} {t : Nat} {ρ A : Nat → Nat} {m : Mo} {x1 : Int32} {x2 : Int32} {x3 : Int32} {x4 : Int32} {x5 : Int32} {u0 : Int32} (C : CmV X mX9_release d mc ms pp) (hS : MS h t ρ A) (hc : cells ≤ mc) (hs : slots ≤ ms) (h0 : ¬ u0 = (-1) → vp_in u0 800) (k0 : u0 = (-1) → ¬ x3 + x4 = m.1 905 → At X cells slots 138 [some (va_rf (some t)), some (.int x1), some (.int x2), some (.int x3), some (.int x4), some (.int u0)] [.int x4, .int x3, va_rf (some t)] (mput h t ρ m)) (k1 : u0 = (-1) → x3 + x4 = m.1 905 → pp (mput h t ρ (up1 m.1 905 x3, m.2))) (k2 : ¬ u0 = (-1) → At X cells slots 102 [some (va_rf (some t)), some (.int x1), some (.int x2), some (.int x3), some (.int (x4 + (m.2 914 (u0.toNatClampNeg)))), some (.int u0)] [.int u0, va_rf (some t)] (mput h t ρ m)) : At X cells slots 79 [some (va_rf (some t)), some (.int x1), some (.int x2), some (.int x3), some (.int x4), some (.int x5)] [.int u0] (mput h t ρ m) := by
  refine sv_istore (pc := 79) (i := 5) C.1 [some (va_rf (some t)), some (.int x1), some (.int x2), some (.int x3), some (.int x4), some (.int u0)] dX9_release_79 (Nat.le_of_ble_eq_true rfl) (by rw [C.2.1]; exact Nat.le_of_ble_eq_true rfl) rfl rfl ?_
  refine st_iload (pc := 81) C.1 dX9_release_81 rfl ?_
  refine st_iconst (pc := 83) (v := (-1)) C.1 dX9_release_83 (by decide) ?_
  refine st_icmp_eq (pc := 84) (tgt := 115) C.1 dX9_release_84 (by decide) (fun c0 => ?_) (fun c0 => ?_)
  · refine st_iload_n (pc := 115) C.1 dX9_release_115 rfl rfl ?_
    refine st_iload (pc := 116) C.1 dX9_release_116 rfl ?_
    refine st_iadd (pc := 118) C.1 dX9_release_118 ?_
    refine st_aload_n (pc := 119) C.1 (some t) dX9_release_119 rfl rfl ?_
    refine gI_RX9_13 (pc := 120) C.1 (m.1 905) dX9_release_120 (hS.k _) (mI905 h t ρ _) ?_
    refine st_icmp_ne (pc := 123) (tgt := 134) C.1 dX9_release_123 (by decide) (fun c1 => ?_) (fun c1 => ?_)
    · refine st_aload_n (pc := 134) C.1 (some t) dX9_release_134 rfl rfl ?_
      refine st_iload_n (pc := 135) C.1 dX9_release_135 rfl rfl ?_
      refine st_iload (pc := 136) C.1 dX9_release_136 rfl ?_
      exact (k0 c0 c1)
    · refine st_aload_n (pc := 126) C.1 (some t) dX9_release_126 rfl rfl ?_
      refine st_iload_n (pc := 127) C.1 dX9_release_127 rfl rfl ?_
      refine pI_RX9_13 (pc := 128) C.1 dX9_release_128 (hS.k _) ?_
      rw [pI905]
      refine st_goto (pc := 131) (tgt := 141) C.1 dX9_release_131 (by decide) ?_
      exact rt_v C rfl dX9_release_141 hc hs ⟨rfl, (k1 c0 c1)⟩
  · refine st_iload (pc := 87) C.1 dX9_release_87 rfl ?_
    refine st_aload_n (pc := 89) C.1 (some t) dX9_release_89 rfl rfl ?_
    refine gR_RX9_38 (pc := 90) C.1 (some (A 914)) dX9_release_90 (hS.k _) (hS.r _ 914) ?_
    refine st_iload (pc := 93) C.1 dX9_release_93 rfl ?_
    refine sv_iaload (pc := 95) C.1 (m.2 914 (u0.toNatClampNeg)) dX9_release_95 (hS.ki _ 914) (by rw [nA914 hS]; exact (h0 c0)) (congrFun (mA914 hS _) _) ?_
    refine st_iadd (pc := 96) C.1 dX9_release_96 ?_
    refine sv_istore (pc := 97) (i := 4) C.1 [some (va_rf (some t)), some (.int x1), some (.int x2), some (.int x3), some (.int (x4 + (m.2 914 (u0.toNatClampNeg)))), some (.int u0)] dX9_release_97 (Nat.le_of_ble_eq_true rfl) (by rw [C.2.1]; exact Nat.le_of_ble_eq_true rfl) rfl rfl ?_
    refine st_aload_n (pc := 99) C.1 (some t) dX9_release_99 rfl rfl ?_
    refine st_iload (pc := 100) C.1 dX9_release_100 rfl ?_
    exact (k2 c0)

theorem sm_release_105 {X : CX} {d mc ms cells slots : Nat} {pp : Hp → Prop} {h : Hp} {t : Nat} {ρ A : Nat → Nat} {m : Mo} {x1 : Int32} {x2 : Int32} {x3 : Int32} {x4 : Int32} {x5 : Int32} (C : CmV X mX9_release d mc ms pp) (hS : MS h t ρ A) (hc : cells ≤ mc) (hs : slots ≤ ms)  (k0 : ¬ x3 + x4 = m.1 905 → At X cells slots 138 [some (va_rf (some t)), some (.int x1), some (.int x2), some (.int x3), some (.int x4), some (.int x5)] [.int x4, .int x3, va_rf (some t)] (mput h t ρ (up1 m.1 920 ((m.1 920) + 1), m.2))) (k1 : x3 + x4 = m.1 905 → pp (mput h t ρ (up1 (up1 m.1 920 ((m.1 920) + 1)) 905 x3, m.2))) : At X cells slots 105 [some (va_rf (some t)), some (.int x1), some (.int x2), some (.int x3), some (.int x4), some (.int x5)] [] (mput h t ρ m) := by
  refine st_aload_n (pc := 105) C.1 (some t) dX9_release_105 rfl rfl ?_
  refine st_dup (pc := 106) C.1 dX9_release_106 (rf_cat (some t)) ?_
  refine gI_RX9_120 (pc := 107) C.1 (m.1 920) dX9_release_107 (hS.k _) (mI920 h t ρ _) ?_
  refine st_iconst (pc := 110) (v := 1) C.1 dX9_release_110 (by decide) ?_
  refine st_iadd (pc := 111) C.1 dX9_release_111 ?_
  refine pI_RX9_120 (pc := 112) C.1 dX9_release_112 (hS.k _) ?_
  rw [pI920]
  refine st_iload_n (pc := 115) C.1 dX9_release_115 rfl rfl ?_
  refine st_iload (pc := 116) C.1 dX9_release_116 rfl ?_
  refine st_iadd (pc := 118) C.1 dX9_release_118 ?_
  refine st_aload_n (pc := 119) C.1 (some t) dX9_release_119 rfl rfl ?_
  refine gI_RX9_13 (pc := 120) C.1 (m.1 905) dX9_release_120 (hS.k _) (mI905 h t ρ _) ?_
  refine st_icmp_ne (pc := 123) (tgt := 134) C.1 dX9_release_123 (by decide) (fun c0 => ?_) (fun c0 => ?_)
  · refine st_aload_n (pc := 134) C.1 (some t) dX9_release_134 rfl rfl ?_
    refine st_iload_n (pc := 135) C.1 dX9_release_135 rfl rfl ?_
    refine st_iload (pc := 136) C.1 dX9_release_136 rfl ?_
    exact (k0 c0)
  · refine st_aload_n (pc := 126) C.1 (some t) dX9_release_126 rfl rfl ?_
    refine st_iload_n (pc := 127) C.1 dX9_release_127 rfl rfl ?_
    refine pI_RX9_13 (pc := 128) C.1 dX9_release_128 (hS.k _) ?_
    rw [pI905]
    refine st_goto (pc := 131) (tgt := 141) C.1 dX9_release_131 (by decide) ?_
    exact rt_v C rfl dX9_release_141 hc hs ⟨rfl, (k1 c0)⟩

theorem sm_release_141 {X : CX} {d mc ms cells slots : Nat} {pp : Hp → Prop} {h : Hp} {t : Nat} {ρ A : Nat → Nat} {m : Mo} {x1 : Int32} {x2 : Int32} {x3 : Int32} {x4 : Int32} {x5 : Int32} (C : CmV X mX9_release d mc ms pp) (hS : MS h t ρ A) (hc : cells ≤ mc) (hs : slots ≤ ms)  (k0 : pp (mput h t ρ m)) : At X cells slots 141 [some (va_rf (some t)), some (.int x1), some (.int x2), some (.int x3), some (.int x4), some (.int x5)] [] (mput h t ρ m) := by
  exact rt_v C rfl dX9_release_141 hc hs ⟨rfl, k0⟩

theorem sm_fits_0 {X : CX} {d mc ms cells slots : Nat} {pp : Int32 → Hp → Prop} {h : Hp} {t : Nat} {ρ A : Nat → Nat} {m : Mo} {x1 : Int32} (C : CmI X mX9_fits d mc ms pp) (hS : MS h t ρ A)  (k0 : At X cells slots 4 [some (va_rf (some t)), some (.int x1), some (.int (-1)), some (.int 0)] [] (mput h t ρ m)) : At X cells slots 0 [some (va_rf (some t)), some (.int x1), none, none] [] (mput h t ρ m) := by
  refine st_iconst (pc := 0) (v := (-1)) C.1 dX9_fits_0 (by decide) ?_
  refine sv_istore_n (pc := 1) (i := 2) C.1 [some (va_rf (some t)), some (.int x1), some (.int (-1)), none] dX9_fits_1 rfl (Nat.le_of_ble_eq_true rfl) (by rw [C.2.1]; exact Nat.le_of_ble_eq_true rfl) rfl rfl ?_
  refine st_iconst (pc := 2) (v := 0) C.1 dX9_fits_2 (by decide) ?_
  refine sv_istore_n (pc := 3) (i := 3) C.1 [some (va_rf (some t)), some (.int x1), some (.int (-1)), some (.int 0)] dX9_fits_3 rfl (Nat.le_of_ble_eq_true rfl) (by rw [C.2.1]; exact Nat.le_of_ble_eq_true rfl) rfl rfl ?_
  exact k0

theorem sm_fits_4 {X : CX} {d mc ms cells slots : Nat} {pp : Int32 → Hp → Prop} {h : Hp} {t : Nat} {ρ A : Nat → Nat} {m : Mo} {x1 : Int32} {x2 : Int32} {x3 : Int32} (C : CmI X mX9_fits d mc ms pp) (hS : MS h t ρ A) (hc : cells ≤ mc) (hs : slots ≤ ms) (h0 : ¬ m.1 915 ≤ x3 → vp_in x3 800) (h1 : ¬ m.1 915 ≤ x3 → ¬ m.2 914 (x3.toNatClampNeg) < x1 → vp_in x3 800) (h2 : ¬ m.1 915 ≤ x3 → ¬ m.2 914 (x3.toNatClampNeg) < x1 → m.2 914 (x3.toNatClampNeg) ≤ 64 → ¬ x2 = (-1) → vp_in x3 800) (h3 : ¬ m.1 915 ≤ x3 → ¬ m.2 914 (x3.toNatClampNeg) < x1 → m.2 914 (x3.toNatClampNeg) ≤ 64 → ¬ x2 = (-1) → vp_in x2 800) (k0 : m.1 915 ≤ x3 → x2 = (-1) → At X cells slots 73 [some (va_rf (some t)), some (.int x1), some (.int x2), some (.int 0)] [] (mput h t ρ m)) (k1 : m.1 915 ≤ x3 → ¬ x2 = (-1) → pp x2 (mput h t ρ m)) (k2 : ¬ m.1 915 ≤ x3 → m.2 914 (x3.toNatClampNeg) < x1 → At X cells slots 4 [some (va_rf (some t)), some (.int x1), some (.int x2), some (.int (x3 + 1))] [] (mput h t ρ m)) (k3 : ¬ m.1 915 ≤ x3 → ¬ m.2 914 (x3.toNatClampNeg) < x1 → m.2 914 (x3.toNatClampNeg) ≤ 64 → x2 = (-1) → At X cells slots 4 [some (va_rf (some t)), some (.int x1), some (.int x3), some (.int (x3 + 1))] [] (mput h t ρ m)) (k4 : ¬ m.1 915 ≤ x3 → ¬ m.2 914 (x3.toNatClampNeg) < x1 → m.2 914 (x3.toNatClampNeg) ≤ 64 → ¬ x2 = (-1) → m.2 914 (x2.toNatClampNeg) < m.2 914 (x3.toNatClampNeg) → At X cells slots 4 [some (va_rf (some t)), some (.int x1), some (.int x2), some (.int (x3 + 1))] [] (mput h t ρ m)) (k5 : ¬ m.1 915 ≤ x3 → ¬ m.2 914 (x3.toNatClampNeg) < x1 → m.2 914 (x3.toNatClampNeg) ≤ 64 → ¬ x2 = (-1) → ¬ m.2 914 (x2.toNatClampNeg) < m.2 914 (x3.toNatClampNeg) → At X cells slots 4 [some (va_rf (some t)), some (.int x1), some (.int x3), some (.int (x3 + 1))] [] (mput h t ρ m)) (k6 : ¬ m.1 915 ≤ x3 → ¬ m.2 914 (x3.toNatClampNeg) < x1 → ¬ m.2 914 (x3.toNatClampNeg) ≤ 64 → At X cells slots 4 [some (va_rf (some t)), some (.int x1), some (.int x2), some (.int (x3 + 1))] [] (mput h t ρ m)) : At X cells slots 4 [some (va_rf (some t)), some (.int x1), some (.int x2), some (.int x3)] [] (mput h t ρ m) := by
  refine st_iload_n (pc := 4) C.1 dX9_fits_4 rfl rfl ?_
  refine st_aload_n (pc := 5) C.1 (some t) dX9_fits_5 rfl rfl ?_
  refine gI_RX9_105 (pc := 6) C.1 (m.1 915) dX9_fits_6 (hS.k _) (mI915 h t ρ _) ?_
  refine st_icmp_ge (pc := 9) (tgt := 64) C.1 dX9_fits_9 (by decide) (fun c0 => ?_) (fun c0 => ?_)
  · refine st_iload_n (pc := 64) C.1 dX9_fits_64 rfl rfl ?_
    refine st_iconst (pc := 65) (v := (-1)) C.1 dX9_fits_65 (by decide) ?_
    refine st_icmp_eq (pc := 66) (tgt := 71) C.1 dX9_fits_66 (by decide) (fun c1 => ?_) (fun c1 => ?_)
    · refine st_iconst (pc := 71) (v := 0) C.1 dX9_fits_71 (by decide) ?_
      refine sv_istore_n (pc := 72) (i := 3) C.1 [some (va_rf (some t)), some (.int x1), some (.int x2), some (.int 0)] dX9_fits_72 rfl (Nat.le_of_ble_eq_true rfl) (by rw [C.2.1]; exact Nat.le_of_ble_eq_true rfl) rfl rfl ?_
      exact (k0 c0 c1)
    · refine st_iload_n (pc := 69) C.1 dX9_fits_69 rfl rfl ?_
      exact rt_i C (Or.inl rfl) dX9_fits_70 hc hs ⟨_, rfl, (k1 c0 c1)⟩
  · refine st_aload_n (pc := 12) C.1 (some t) dX9_fits_12 rfl rfl ?_
    refine gR_RX9_38 (pc := 13) C.1 (some (A 914)) dX9_fits_13 (hS.k _) (hS.r _ 914) ?_
    refine st_iload_n (pc := 16) C.1 dX9_fits_16 rfl rfl ?_
    refine sv_iaload (pc := 17) C.1 (m.2 914 (x3.toNatClampNeg)) dX9_fits_17 (hS.ki _ 914) (by rw [nA914 hS]; exact (h0 c0)) (congrFun (mA914 hS _) _) ?_
    refine st_iload_n (pc := 18) C.1 dX9_fits_18 rfl rfl ?_
    refine st_icmp_lt (pc := 19) (tgt := 58) C.1 dX9_fits_19 (by decide) (fun c2 => ?_) (fun c2 => ?_)
    · refine sv_iinc (pc := 58) (i := 3) (v := x3 + 1) C.1 [some (va_rf (some t)), some (.int x1), some (.int x2), some (.int (x3 + 1))] dX9_fits_58 rfl rfl (by rw [C.2.1]; exact Nat.le_of_ble_eq_true rfl) rfl rfl ?_
      refine st_goto (pc := 61) (tgt := 4) C.1 dX9_fits_61 (by decide) ?_
      exact (k2 c0 c2)
    · refine st_aload_n (pc := 22) C.1 (some t) dX9_fits_22 rfl rfl ?_
      refine gR_RX9_38 (pc := 23) C.1 (some (A 914)) dX9_fits_23 (hS.k _) (hS.r _ 914) ?_
      refine st_iload_n (pc := 26) C.1 dX9_fits_26 rfl rfl ?_
      refine sv_iaload (pc := 27) C.1 (m.2 914 (x3.toNatClampNeg)) dX9_fits_27 (hS.ki _ 914) (by rw [nA914 hS]; exact (h1 c0 c2)) (congrFun (mA914 hS _) _) ?_
      refine st_bipush (pc := 28) (v := 64) C.1 dX9_fits_28 (by decide) ?_
      refine st_icmp_le (pc := 30) (tgt := 36) C.1 dX9_fits_30 (by decide) (fun c3 => ?_) (fun c3 => ?_)
      · refine st_iload_n (pc := 36) C.1 dX9_fits_36 rfl rfl ?_
        refine st_iconst (pc := 37) (v := (-1)) C.1 dX9_fits_37 (by decide) ?_
        refine st_icmp_eq (pc := 38) (tgt := 56) C.1 dX9_fits_38 (by decide) (fun c4 => ?_) (fun c4 => ?_)
        · refine st_iload_n (pc := 56) C.1 dX9_fits_56 rfl rfl ?_
          refine sv_istore_n (pc := 57) (i := 2) C.1 [some (va_rf (some t)), some (.int x1), some (.int x3), some (.int x3)] dX9_fits_57 rfl (Nat.le_of_ble_eq_true rfl) (by rw [C.2.1]; exact Nat.le_of_ble_eq_true rfl) rfl rfl ?_
          refine sv_iinc (pc := 58) (i := 3) (v := x3 + 1) C.1 [some (va_rf (some t)), some (.int x1), some (.int x3), some (.int (x3 + 1))] dX9_fits_58 rfl rfl (by rw [C.2.1]; exact Nat.le_of_ble_eq_true rfl) rfl rfl ?_
          refine st_goto (pc := 61) (tgt := 4) C.1 dX9_fits_61 (by decide) ?_
          exact (k3 c0 c2 c3 c4)
        · refine st_aload_n (pc := 41) C.1 (some t) dX9_fits_41 rfl rfl ?_
          refine gR_RX9_38 (pc := 42) C.1 (some (A 914)) dX9_fits_42 (hS.k _) (hS.r _ 914) ?_
          refine st_iload_n (pc := 45) C.1 dX9_fits_45 rfl rfl ?_
          refine sv_iaload (pc := 46) C.1 (m.2 914 (x3.toNatClampNeg)) dX9_fits_46 (hS.ki _ 914) (by rw [nA914 hS]; exact (h2 c0 c2 c3 c4)) (congrFun (mA914 hS _) _) ?_
          refine st_aload_n (pc := 47) C.1 (some t) dX9_fits_47 rfl rfl ?_
          refine gR_RX9_38 (pc := 48) C.1 (some (A 914)) dX9_fits_48 (hS.k _) (hS.r _ 914) ?_
          refine st_iload_n (pc := 51) C.1 dX9_fits_51 rfl rfl ?_
          refine sv_iaload (pc := 52) C.1 (m.2 914 (x2.toNatClampNeg)) dX9_fits_52 (hS.ki _ 914) (by rw [nA914 hS]; exact (h3 c0 c2 c3 c4)) (congrFun (mA914 hS _) _) ?_
          refine st_icmp_gt (pc := 53) (tgt := 58) C.1 dX9_fits_53 (by decide) (fun c5 => ?_) (fun c5 => ?_)
          · refine sv_iinc (pc := 58) (i := 3) (v := x3 + 1) C.1 [some (va_rf (some t)), some (.int x1), some (.int x2), some (.int (x3 + 1))] dX9_fits_58 rfl rfl (by rw [C.2.1]; exact Nat.le_of_ble_eq_true rfl) rfl rfl ?_
            refine st_goto (pc := 61) (tgt := 4) C.1 dX9_fits_61 (by decide) ?_
            exact (k4 c0 c2 c3 c4 c5)
          · refine st_iload_n (pc := 56) C.1 dX9_fits_56 rfl rfl ?_
            refine sv_istore_n (pc := 57) (i := 2) C.1 [some (va_rf (some t)), some (.int x1), some (.int x3), some (.int x3)] dX9_fits_57 rfl (Nat.le_of_ble_eq_true rfl) (by rw [C.2.1]; exact Nat.le_of_ble_eq_true rfl) rfl rfl ?_
            refine sv_iinc (pc := 58) (i := 3) (v := x3 + 1) C.1 [some (va_rf (some t)), some (.int x1), some (.int x3), some (.int (x3 + 1))] dX9_fits_58 rfl rfl (by rw [C.2.1]; exact Nat.le_of_ble_eq_true rfl) rfl rfl ?_
            refine st_goto (pc := 61) (tgt := 4) C.1 dX9_fits_61 (by decide) ?_
            exact (k5 c0 c2 c3 c4 c5)
      · refine st_goto (pc := 33) (tgt := 58) C.1 dX9_fits_33 (by decide) ?_
        refine sv_iinc (pc := 58) (i := 3) (v := x3 + 1) C.1 [some (va_rf (some t)), some (.int x1), some (.int x2), some (.int (x3 + 1))] dX9_fits_58 rfl rfl (by rw [C.2.1]; exact Nat.le_of_ble_eq_true rfl) rfl rfl ?_
        refine st_goto (pc := 61) (tgt := 4) C.1 dX9_fits_61 (by decide) ?_
        exact (k6 c0 c2 c3)

theorem sm_fits_73 {X : CX} {d mc ms cells slots : Nat} {pp : Int32 → Hp → Prop} {h : Hp} {t : Nat} {ρ A : Nat → Nat} {m : Mo} {x1 : Int32} {x2 : Int32} {x3 : Int32} (C : CmI X mX9_fits d mc ms pp) (hS : MS h t ρ A) (hc : cells ≤ mc) (hs : slots ≤ ms) (h0 : ¬ m.1 915 ≤ x3 → vp_in x3 800) (h1 : ¬ m.1 915 ≤ x3 → ¬ m.2 914 (x3.toNatClampNeg) < x1 → vp_in x3 800) (h2 : ¬ m.1 915 ≤ x3 → ¬ m.2 914 (x3.toNatClampNeg) < x1 → 64 < m.2 914 (x3.toNatClampNeg) → ¬ x2 = (-1) → vp_in x3 800) (h3 : ¬ m.1 915 ≤ x3 → ¬ m.2 914 (x3.toNatClampNeg) < x1 → 64 < m.2 914 (x3.toNatClampNeg) → ¬ x2 = (-1) → vp_in x2 800) (h4 : ¬ m.1 915 ≤ x3 → ¬ m.2 914 (x3.toNatClampNeg) < x1 → 64 < m.2 914 (x3.toNatClampNeg) → ¬ x2 = (-1) → ¬ m.2 914 (x3.toNatClampNeg) < m.2 914 (x2.toNatClampNeg) → vp_in x3 800) (h5 : ¬ m.1 915 ≤ x3 → ¬ m.2 914 (x3.toNatClampNeg) < x1 → 64 < m.2 914 (x3.toNatClampNeg) → ¬ x2 = (-1) → ¬ m.2 914 (x3.toNatClampNeg) < m.2 914 (x2.toNatClampNeg) → vp_in x2 800) (h6 : ¬ m.1 915 ≤ x3 → ¬ m.2 914 (x3.toNatClampNeg) < x1 → 64 < m.2 914 (x3.toNatClampNeg) → ¬ x2 = (-1) → ¬ m.2 914 (x3.toNatClampNeg) < m.2 914 (x2.toNatClampNeg) → m.2 914 (x3.toNatClampNeg) = m.2 914 (x2.toNatClampNeg) → vp_in x3 800) (h7 : ¬ m.1 915 ≤ x3 → ¬ m.2 914 (x3.toNatClampNeg) < x1 → 64 < m.2 914 (x3.toNatClampNeg) → ¬ x2 = (-1) → ¬ m.2 914 (x3.toNatClampNeg) < m.2 914 (x2.toNatClampNeg) → m.2 914 (x3.toNatClampNeg) = m.2 914 (x2.toNatClampNeg) → vp_in x2 800) (k0 : m.1 915 ≤ x3 → pp x2 (mput h t ρ m)) (k1 : ¬ m.1 915 ≤ x3 → m.2 914 (x3.toNatClampNeg) < x1 → At X cells slots 73 [some (va_rf (some t)), some (.int x1), some (.int x2), some (.int (x3 + 1))] [] (mput h t ρ m)) (k2 : ¬ m.1 915 ≤ x3 → ¬ m.2 914 (x3.toNatClampNeg) < x1 → 64 < m.2 914 (x3.toNatClampNeg) → x2 = (-1) → At X cells slots 73 [some (va_rf (some t)), some (.int x1), some (.int x3), some (.int (x3 + 1))] [] (mput h t ρ m)) (k3 : ¬ m.1 915 ≤ x3 → ¬ m.2 914 (x3.toNatClampNeg) < x1 → 64 < m.2 914 (x3.toNatClampNeg) → ¬ x2 = (-1) → m.2 914 (x3.toNatClampNeg) < m.2 914 (x2.toNatClampNeg) → At X cells slots 73 [some (va_rf (some t)), some (.int x1), some (.int x3), some (.int (x3 + 1))] [] (mput h t ρ m)) (k4 : ¬ m.1 915 ≤ x3 → ¬ m.2 914 (x3.toNatClampNeg) < x1 → 64 < m.2 914 (x3.toNatClampNeg) → ¬ x2 = (-1) → ¬ m.2 914 (x3.toNatClampNeg) < m.2 914 (x2.toNatClampNeg) → ¬ m.2 914 (x3.toNatClampNeg) = m.2 914 (x2.toNatClampNeg) → At X cells slots 73 [some (va_rf (some t)), some (.int x1), some (.int x2), some (.int (x3 + 1))] [] (mput h t ρ m)) (k5 : ¬ m.1 915 ≤ x3 → ¬ m.2 914 (x3.toNatClampNeg) < x1 → 64 < m.2 914 (x3.toNatClampNeg) → ¬ x2 = (-1) → ¬ m.2 914 (x3.toNatClampNeg) < m.2 914 (x2.toNatClampNeg) → m.2 914 (x3.toNatClampNeg) = m.2 914 (x2.toNatClampNeg) → m.2 913 (x2.toNatClampNeg) ≤ m.2 913 (x3.toNatClampNeg) → At X cells slots 73 [some (va_rf (some t)), some (.int x1), some (.int x2), some (.int (x3 + 1))] [] (mput h t ρ m)) (k6 : ¬ m.1 915 ≤ x3 → ¬ m.2 914 (x3.toNatClampNeg) < x1 → 64 < m.2 914 (x3.toNatClampNeg) → ¬ x2 = (-1) → ¬ m.2 914 (x3.toNatClampNeg) < m.2 914 (x2.toNatClampNeg) → m.2 914 (x3.toNatClampNeg) = m.2 914 (x2.toNatClampNeg) → ¬ m.2 913 (x2.toNatClampNeg) ≤ m.2 913 (x3.toNatClampNeg) → At X cells slots 73 [some (va_rf (some t)), some (.int x1), some (.int x3), some (.int (x3 + 1))] [] (mput h t ρ m)) (k7 : ¬ m.1 915 ≤ x3 → ¬ m.2 914 (x3.toNatClampNeg) < x1 → ¬ 64 < m.2 914 (x3.toNatClampNeg) → At X cells slots 73 [some (va_rf (some t)), some (.int x1), some (.int x2), some (.int (x3 + 1))] [] (mput h t ρ m)) : At X cells slots 73 [some (va_rf (some t)), some (.int x1), some (.int x2), some (.int x3)] [] (mput h t ρ m) := by
  refine st_iload_n (pc := 73) C.1 dX9_fits_73 rfl rfl ?_
  refine st_aload_n (pc := 74) C.1 (some t) dX9_fits_74 rfl rfl ?_
  refine gI_RX9_105 (pc := 75) C.1 (m.1 915) dX9_fits_75 (hS.k _) (mI915 h t ρ _) ?_
  refine st_icmp_ge (pc := 78) (tgt := 163) C.1 dX9_fits_78 (by decide) (fun c0 => ?_) (fun c0 => ?_)
  · refine st_iload_n (pc := 163) C.1 dX9_fits_163 rfl rfl ?_
    exact rt_i C (Or.inl rfl) dX9_fits_164 hc hs ⟨_, rfl, (k0 c0)⟩
  · refine st_aload_n (pc := 81) C.1 (some t) dX9_fits_81 rfl rfl ?_
    refine gR_RX9_38 (pc := 82) C.1 (some (A 914)) dX9_fits_82 (hS.k _) (hS.r _ 914) ?_
    refine st_iload_n (pc := 85) C.1 dX9_fits_85 rfl rfl ?_
    refine sv_iaload (pc := 86) C.1 (m.2 914 (x3.toNatClampNeg)) dX9_fits_86 (hS.ki _ 914) (by rw [nA914 hS]; exact (h0 c0)) (congrFun (mA914 hS _) _) ?_
    refine st_iload_n (pc := 87) C.1 dX9_fits_87 rfl rfl ?_
    refine st_icmp_lt (pc := 88) (tgt := 157) C.1 dX9_fits_88 (by decide) (fun c1 => ?_) (fun c1 => ?_)
    · refine sv_iinc (pc := 157) (i := 3) (v := x3 + 1) C.1 [some (va_rf (some t)), some (.int x1), some (.int x2), some (.int (x3 + 1))] dX9_fits_157 rfl rfl (by rw [C.2.1]; exact Nat.le_of_ble_eq_true rfl) rfl rfl ?_
      refine st_goto (pc := 160) (tgt := 73) C.1 dX9_fits_160 (by decide) ?_
      exact (k1 c0 c1)
    · refine st_aload_n (pc := 91) C.1 (some t) dX9_fits_91 rfl rfl ?_
      refine gR_RX9_38 (pc := 92) C.1 (some (A 914)) dX9_fits_92 (hS.k _) (hS.r _ 914) ?_
      refine st_iload_n (pc := 95) C.1 dX9_fits_95 rfl rfl ?_
      refine sv_iaload (pc := 96) C.1 (m.2 914 (x3.toNatClampNeg)) dX9_fits_96 (hS.ki _ 914) (by rw [nA914 hS]; exact (h1 c0 c1)) (congrFun (mA914 hS _) _) ?_
      refine st_bipush (pc := 97) (v := 64) C.1 dX9_fits_97 (by decide) ?_
      refine st_icmp_gt (pc := 99) (tgt := 105) C.1 dX9_fits_99 (by decide) (fun c2 => ?_) (fun c2 => ?_)
      · refine st_iload_n (pc := 105) C.1 dX9_fits_105 rfl rfl ?_
        refine st_iconst (pc := 106) (v := (-1)) C.1 dX9_fits_106 (by decide) ?_
        refine st_icmp_eq (pc := 107) (tgt := 155) C.1 dX9_fits_107 (by decide) (fun c3 => ?_) (fun c3 => ?_)
        · refine st_iload_n (pc := 155) C.1 dX9_fits_155 rfl rfl ?_
          refine sv_istore_n (pc := 156) (i := 2) C.1 [some (va_rf (some t)), some (.int x1), some (.int x3), some (.int x3)] dX9_fits_156 rfl (Nat.le_of_ble_eq_true rfl) (by rw [C.2.1]; exact Nat.le_of_ble_eq_true rfl) rfl rfl ?_
          refine sv_iinc (pc := 157) (i := 3) (v := x3 + 1) C.1 [some (va_rf (some t)), some (.int x1), some (.int x3), some (.int (x3 + 1))] dX9_fits_157 rfl rfl (by rw [C.2.1]; exact Nat.le_of_ble_eq_true rfl) rfl rfl ?_
          refine st_goto (pc := 160) (tgt := 73) C.1 dX9_fits_160 (by decide) ?_
          exact (k2 c0 c1 c2 c3)
        · refine st_aload_n (pc := 110) C.1 (some t) dX9_fits_110 rfl rfl ?_
          refine gR_RX9_38 (pc := 111) C.1 (some (A 914)) dX9_fits_111 (hS.k _) (hS.r _ 914) ?_
          refine st_iload_n (pc := 114) C.1 dX9_fits_114 rfl rfl ?_
          refine sv_iaload (pc := 115) C.1 (m.2 914 (x3.toNatClampNeg)) dX9_fits_115 (hS.ki _ 914) (by rw [nA914 hS]; exact (h2 c0 c1 c2 c3)) (congrFun (mA914 hS _) _) ?_
          refine st_aload_n (pc := 116) C.1 (some t) dX9_fits_116 rfl rfl ?_
          refine gR_RX9_38 (pc := 117) C.1 (some (A 914)) dX9_fits_117 (hS.k _) (hS.r _ 914) ?_
          refine st_iload_n (pc := 120) C.1 dX9_fits_120 rfl rfl ?_
          refine sv_iaload (pc := 121) C.1 (m.2 914 (x2.toNatClampNeg)) dX9_fits_121 (hS.ki _ 914) (by rw [nA914 hS]; exact (h3 c0 c1 c2 c3)) (congrFun (mA914 hS _) _) ?_
          refine st_icmp_lt (pc := 122) (tgt := 155) C.1 dX9_fits_122 (by decide) (fun c4 => ?_) (fun c4 => ?_)
          · refine st_iload_n (pc := 155) C.1 dX9_fits_155 rfl rfl ?_
            refine sv_istore_n (pc := 156) (i := 2) C.1 [some (va_rf (some t)), some (.int x1), some (.int x3), some (.int x3)] dX9_fits_156 rfl (Nat.le_of_ble_eq_true rfl) (by rw [C.2.1]; exact Nat.le_of_ble_eq_true rfl) rfl rfl ?_
            refine sv_iinc (pc := 157) (i := 3) (v := x3 + 1) C.1 [some (va_rf (some t)), some (.int x1), some (.int x3), some (.int (x3 + 1))] dX9_fits_157 rfl rfl (by rw [C.2.1]; exact Nat.le_of_ble_eq_true rfl) rfl rfl ?_
            refine st_goto (pc := 160) (tgt := 73) C.1 dX9_fits_160 (by decide) ?_
            exact (k3 c0 c1 c2 c3 c4)
          · refine st_aload_n (pc := 125) C.1 (some t) dX9_fits_125 rfl rfl ?_
            refine gR_RX9_38 (pc := 126) C.1 (some (A 914)) dX9_fits_126 (hS.k _) (hS.r _ 914) ?_
            refine st_iload_n (pc := 129) C.1 dX9_fits_129 rfl rfl ?_
            refine sv_iaload (pc := 130) C.1 (m.2 914 (x3.toNatClampNeg)) dX9_fits_130 (hS.ki _ 914) (by rw [nA914 hS]; exact (h4 c0 c1 c2 c3 c4)) (congrFun (mA914 hS _) _) ?_
            refine st_aload_n (pc := 131) C.1 (some t) dX9_fits_131 rfl rfl ?_
            refine gR_RX9_38 (pc := 132) C.1 (some (A 914)) dX9_fits_132 (hS.k _) (hS.r _ 914) ?_
            refine st_iload_n (pc := 135) C.1 dX9_fits_135 rfl rfl ?_
            refine sv_iaload (pc := 136) C.1 (m.2 914 (x2.toNatClampNeg)) dX9_fits_136 (hS.ki _ 914) (by rw [nA914 hS]; exact (h5 c0 c1 c2 c3 c4)) (congrFun (mA914 hS _) _) ?_
            refine st_icmp_ne (pc := 137) (tgt := 157) C.1 dX9_fits_137 (by decide) (fun c5 => ?_) (fun c5 => ?_)
            · refine sv_iinc (pc := 157) (i := 3) (v := x3 + 1) C.1 [some (va_rf (some t)), some (.int x1), some (.int x2), some (.int (x3 + 1))] dX9_fits_157 rfl rfl (by rw [C.2.1]; exact Nat.le_of_ble_eq_true rfl) rfl rfl ?_
              refine st_goto (pc := 160) (tgt := 73) C.1 dX9_fits_160 (by decide) ?_
              exact (k4 c0 c1 c2 c3 c4 c5)
            · refine st_aload_n (pc := 140) C.1 (some t) dX9_fits_140 rfl rfl ?_
              refine gR_RX9_35 (pc := 141) C.1 (some (A 913)) dX9_fits_141 (hS.k _) (hS.r _ 913) ?_
              refine st_iload_n (pc := 144) C.1 dX9_fits_144 rfl rfl ?_
              refine sv_iaload (pc := 145) C.1 (m.2 913 (x3.toNatClampNeg)) dX9_fits_145 (hS.ki _ 913) (by rw [nA913 hS]; exact (h6 c0 c1 c2 c3 c4 c5)) (congrFun (mA913 hS _) _) ?_
              refine st_aload_n (pc := 146) C.1 (some t) dX9_fits_146 rfl rfl ?_
              refine gR_RX9_35 (pc := 147) C.1 (some (A 913)) dX9_fits_147 (hS.k _) (hS.r _ 913) ?_
              refine st_iload_n (pc := 150) C.1 dX9_fits_150 rfl rfl ?_
              refine sv_iaload (pc := 151) C.1 (m.2 913 (x2.toNatClampNeg)) dX9_fits_151 (hS.ki _ 913) (by rw [nA913 hS]; exact (h7 c0 c1 c2 c3 c4 c5)) (congrFun (mA913 hS _) _) ?_
              refine st_icmp_ge (pc := 152) (tgt := 157) C.1 dX9_fits_152 (by decide) (fun c6 => ?_) (fun c6 => ?_)
              · refine sv_iinc (pc := 157) (i := 3) (v := x3 + 1) C.1 [some (va_rf (some t)), some (.int x1), some (.int x2), some (.int (x3 + 1))] dX9_fits_157 rfl rfl (by rw [C.2.1]; exact Nat.le_of_ble_eq_true rfl) rfl rfl ?_
                refine st_goto (pc := 160) (tgt := 73) C.1 dX9_fits_160 (by decide) ?_
                exact (k5 c0 c1 c2 c3 c4 c5 c6)
              · refine st_iload_n (pc := 155) C.1 dX9_fits_155 rfl rfl ?_
                refine sv_istore_n (pc := 156) (i := 2) C.1 [some (va_rf (some t)), some (.int x1), some (.int x3), some (.int x3)] dX9_fits_156 rfl (Nat.le_of_ble_eq_true rfl) (by rw [C.2.1]; exact Nat.le_of_ble_eq_true rfl) rfl rfl ?_
                refine sv_iinc (pc := 157) (i := 3) (v := x3 + 1) C.1 [some (va_rf (some t)), some (.int x1), some (.int x3), some (.int (x3 + 1))] dX9_fits_157 rfl rfl (by rw [C.2.1]; exact Nat.le_of_ble_eq_true rfl) rfl rfl ?_
                refine st_goto (pc := 160) (tgt := 73) C.1 dX9_fits_160 (by decide) ?_
                exact (k6 c0 c1 c2 c3 c4 c5 c6)
      · refine st_goto (pc := 102) (tgt := 157) C.1 dX9_fits_102 (by decide) ?_
        refine sv_iinc (pc := 157) (i := 3) (v := x3 + 1) C.1 [some (va_rf (some t)), some (.int x1), some (.int x2), some (.int (x3 + 1))] dX9_fits_157 rfl rfl (by rw [C.2.1]; exact Nat.le_of_ble_eq_true rfl) rfl rfl ?_
        refine st_goto (pc := 160) (tgt := 73) C.1 dX9_fits_160 (by decide) ?_
        exact (k7 c0 c1 c2)

theorem sm_find_0 {X : CX} {d mc ms cells slots : Nat} {pp : Int32 → Hp → Prop} {h : Hp} {t : Nat} {ρ A : Nat → Nat} {m : Mo} {x1 : Int32} (C : CmI X mX9_find d mc ms pp) (hS : MS h t ρ A)  (k0 : At X cells slots 2 [some (va_rf (some t)), some (.int x1), none, none, none] [.int x1, va_rf (some t)] (mput h t ρ m)) : At X cells slots 0 [some (va_rf (some t)), some (.int x1), none, none, none] [] (mput h t ρ m) := by
  refine st_aload_n (pc := 0) C.1 (some t) dX9_find_0 rfl rfl ?_
  refine st_iload_n (pc := 1) C.1 dX9_find_1 rfl rfl ?_
  exact k0

theorem sm_find_5 {X : CX} {d mc ms cells slots : Nat} {pp : Int32 → Hp → Prop} {h : Hp} {t : Nat} {ρ A : Nat → Nat} {m : Mo} {x1 : Int32} {u0 : Int32} (C : CmI X mX9_find d mc ms pp) (hS : MS h t ρ A) (hc : cells ≤ mc) (hs : slots ≤ ms) (h0 : ¬ u0 = (-1) → vp_in u0 800) (k0 : ¬ u0 = (-1) → At X cells slots 86 [some (va_rf (some t)), some (.int x1), some (.int u0), some (.int (m.2 913 (u0.toNatClampNeg))), some (.int (m.2 914 (u0.toNatClampNeg)))] [.int u0, va_rf (some t)] (mput h t ρ m)) (k1 : u0 = (-1) → x1 ≤ (m.1 900) - (m.1 905) → (m.1 905) + x1 ≤ m.1 906 → pp (m.1 905) (mput h t ρ (up1 (up1 m.1 905 ((m.1 905) + x1)) 906 (m.1 906), m.2))) (k2 : u0 = (-1) → x1 ≤ (m.1 900) - (m.1 905) → ¬ (m.1 905) + x1 ≤ m.1 906 → pp (m.1 905) (mput h t ρ (up1 (up1 m.1 905 ((m.1 905) + x1)) 906 ((m.1 905) + x1), m.2))) (k3 : u0 = (-1) → ¬ x1 ≤ (m.1 900) - (m.1 905) → pp (-1) (mput h t ρ m)) : At X cells slots 5 [some (va_rf (some t)), some (.int x1), none, none, none] [.int u0] (mput h t ρ m) := by
  refine sv_istore_n (pc := 5) (i := 2) C.1 [some (va_rf (some t)), some (.int x1), some (.int u0), none, none] dX9_find_5 rfl (Nat.le_of_ble_eq_true rfl) (by rw [C.2.1]; exact Nat.le_of_ble_eq_true rfl) rfl rfl ?_
  refine st_iload_n (pc := 6) C.1 dX9_find_6 rfl rfl ?_
  refine st_iconst (pc := 7) (v := (-1)) C.1 dX9_find_7 (by decide) ?_
  refine st_icmp_ne (pc := 8) (tgt := 69) C.1 dX9_find_8 (by decide) (fun c0 => ?_) (fun c0 => ?_)
  · refine st_aload_n (pc := 69) C.1 (some t) dX9_find_69 rfl rfl ?_
    refine gR_RX9_35 (pc := 70) C.1 (some (A 913)) dX9_find_70 (hS.k _) (hS.r _ 913) ?_
    refine st_iload_n (pc := 73) C.1 dX9_find_73 rfl rfl ?_
    refine sv_iaload (pc := 74) C.1 (m.2 913 (u0.toNatClampNeg)) dX9_find_74 (hS.ki _ 913) (by rw [nA913 hS]; exact (h0 c0)) (congrFun (mA913 hS _) _) ?_
    refine sv_istore_n (pc := 75) (i := 3) C.1 [some (va_rf (some t)), some (.int x1), some (.int u0), some (.int (m.2 913 (u0.toNatClampNeg))), none] dX9_find_75 rfl (Nat.le_of_ble_eq_true rfl) (by rw [C.2.1]; exact Nat.le_of_ble_eq_true rfl) rfl rfl ?_
    refine st_aload_n (pc := 76) C.1 (some t) dX9_find_76 rfl rfl ?_
    refine gR_RX9_38 (pc := 77) C.1 (some (A 914)) dX9_find_77 (hS.k _) (hS.r _ 914) ?_
    refine st_iload_n (pc := 80) C.1 dX9_find_80 rfl rfl ?_
    refine sv_iaload (pc := 81) C.1 (m.2 914 (u0.toNatClampNeg)) dX9_find_81 (hS.ki _ 914) (by rw [nA914 hS]; exact (h0 c0)) (congrFun (mA914 hS _) _) ?_
    refine sv_istore (pc := 82) (i := 4) C.1 [some (va_rf (some t)), some (.int x1), some (.int u0), some (.int (m.2 913 (u0.toNatClampNeg))), some (.int (m.2 914 (u0.toNatClampNeg)))] dX9_find_82 (Nat.le_of_ble_eq_true rfl) (by rw [C.2.1]; exact Nat.le_of_ble_eq_true rfl) rfl rfl ?_
    refine st_aload_n (pc := 84) C.1 (some t) dX9_find_84 rfl rfl ?_
    refine st_iload_n (pc := 85) C.1 dX9_find_85 rfl rfl ?_
    exact (k0 c0)
  · refine st_iload_n (pc := 11) C.1 dX9_find_11 rfl rfl ?_
    refine st_aload_n (pc := 12) C.1 (some t) dX9_find_12 rfl rfl ?_
    refine gI_RX9_76 (pc := 13) C.1 (m.1 900) dX9_find_13 (hS.k _) (mI900 h t ρ _) ?_
    refine st_aload_n (pc := 16) C.1 (some t) dX9_find_16 rfl rfl ?_
    refine gI_RX9_13 (pc := 17) C.1 (m.1 905) dX9_find_17 (hS.k _) (mI905 h t ρ _) ?_
    refine st_isub (pc := 20) C.1 dX9_find_20 ?_
    refine st_icmp_le (pc := 21) (tgt := 26) C.1 dX9_find_21 (by decide) (fun c1 => ?_) (fun c1 => ?_)
    · refine st_aload_n (pc := 26) C.1 (some t) dX9_find_26 rfl rfl ?_
      refine gI_RX9_13 (pc := 27) C.1 (m.1 905) dX9_find_27 (hS.k _) (mI905 h t ρ _) ?_
      refine sv_istore_n (pc := 30) (i := 3) C.1 [some (va_rf (some t)), some (.int x1), some (.int u0), some (.int (m.1 905)), none] dX9_find_30 rfl (Nat.le_of_ble_eq_true rfl) (by rw [C.2.1]; exact Nat.le_of_ble_eq_true rfl) rfl rfl ?_
      refine st_aload_n (pc := 31) C.1 (some t) dX9_find_31 rfl rfl ?_
      refine st_dup (pc := 32) C.1 dX9_find_32 (rf_cat (some t)) ?_
      refine gI_RX9_13 (pc := 33) C.1 (m.1 905) dX9_find_33 (hS.k _) (mI905 h t ρ _) ?_
      refine st_iload_n (pc := 36) C.1 dX9_find_36 rfl rfl ?_
      refine st_iadd (pc := 37) C.1 dX9_find_37 ?_
      refine pI_RX9_13 (pc := 38) C.1 dX9_find_38 (hS.k _) ?_
      rw [pI905]
      refine st_aload_n (pc := 41) C.1 (some t) dX9_find_41 rfl rfl ?_
      refine st_aload_n (pc := 42) C.1 (some t) dX9_find_42 rfl rfl ?_
      refine gI_RX9_13 (pc := 43) C.1 ((m.1 905) + x1) dX9_find_43 (hS.k _) (mI905 h t ρ _) ?_
      refine st_aload_n (pc := 46) C.1 (some t) dX9_find_46 rfl rfl ?_
      refine gI_RX9_17 (pc := 47) C.1 (m.1 906) dX9_find_47 (hS.k _) (mI906 h t ρ _) ?_
      refine st_icmp_le (pc := 50) (tgt := 60) C.1 dX9_find_50 (by decide) (fun c2 => ?_) (fun c2 => ?_)
      · refine st_aload_n (pc := 60) C.1 (some t) dX9_find_60 rfl rfl ?_
        refine gI_RX9_17 (pc := 61) C.1 (m.1 906) dX9_find_61 (hS.k _) (mI906 h t ρ _) ?_
        refine pI_RX9_17 (pc := 64) C.1 dX9_find_64 (hS.k _) ?_
        rw [pI906]
        refine st_iload_n (pc := 67) C.1 dX9_find_67 rfl rfl ?_
        exact rt_i C (Or.inl rfl) dX9_find_68 hc hs ⟨_, rfl, (k1 c0 c1 c2)⟩
      · refine st_aload_n (pc := 53) C.1 (some t) dX9_find_53 rfl rfl ?_
        refine gI_RX9_13 (pc := 54) C.1 ((m.1 905) + x1) dX9_find_54 (hS.k _) (mI905 h t ρ _) ?_
        refine st_goto (pc := 57) (tgt := 64) C.1 dX9_find_57 (by decide) ?_
        refine pI_RX9_17 (pc := 64) C.1 dX9_find_64 (hS.k _) ?_
        rw [pI906]
        refine st_iload_n (pc := 67) C.1 dX9_find_67 rfl rfl ?_
        exact rt_i C (Or.inl rfl) dX9_find_68 hc hs ⟨_, rfl, (k2 c0 c1 c2)⟩
    · refine st_iconst (pc := 24) (v := (-1)) C.1 dX9_find_24 (by decide) ?_
      exact rt_i C (Or.inl rfl) dX9_find_25 hc hs ⟨_, rfl, (k3 c0 c1)⟩

theorem sm_find_89 {X : CX} {d mc ms cells slots : Nat} {pp : Int32 → Hp → Prop} {h : Hp} {t : Nat} {ρ A : Nat → Nat} {m : Mo} {x1 : Int32} {x2 : Int32} {x3 : Int32} {x4 : Int32} (C : CmI X mX9_find d mc ms pp) (hS : MS h t ρ A) (hc : cells ≤ mc) (hs : slots ≤ ms)  (k0 : x4 ≤ x1 → pp x3 (mput h t ρ m)) (k1 : ¬ x4 ≤ x1 → At X cells slots 113 [some (va_rf (some t)), some (.int x1), some (.int x2), some (.int x3), some (.int x4)] [.int (x4 - x1), .int (x3 + x1), va_rf (some t)] (mput h t ρ (up1 m.1 919 ((m.1 919) + 1), m.2))) : At X cells slots 89 [some (va_rf (some t)), some (.int x1), some (.int x2), some (.int x3), some (.int x4)] [] (mput h t ρ m) := by
  refine st_iload (pc := 89) C.1 dX9_find_89 rfl ?_
  refine st_iload_n (pc := 91) C.1 dX9_find_91 rfl rfl ?_
  refine st_icmp_le (pc := 92) (tgt := 116) C.1 dX9_find_92 (by decide) (fun c0 => ?_) (fun c0 => ?_)
  · refine st_iload_n (pc := 116) C.1 dX9_find_116 rfl rfl ?_
    exact rt_i C (Or.inl rfl) dX9_find_117 hc hs ⟨_, rfl, (k0 c0)⟩
  · refine st_aload_n (pc := 95) C.1 (some t) dX9_find_95 rfl rfl ?_
    refine st_dup (pc := 96) C.1 dX9_find_96 (rf_cat (some t)) ?_
    refine gI_RX9_126 (pc := 97) C.1 (m.1 919) dX9_find_97 (hS.k _) (mI919 h t ρ _) ?_
    refine st_iconst (pc := 100) (v := 1) C.1 dX9_find_100 (by decide) ?_
    refine st_iadd (pc := 101) C.1 dX9_find_101 ?_
    refine pI_RX9_126 (pc := 102) C.1 dX9_find_102 (hS.k _) ?_
    rw [pI919]
    refine st_aload_n (pc := 105) C.1 (some t) dX9_find_105 rfl rfl ?_
    refine st_iload_n (pc := 106) C.1 dX9_find_106 rfl rfl ?_
    refine st_iload_n (pc := 107) C.1 dX9_find_107 rfl rfl ?_
    refine st_iadd (pc := 108) C.1 dX9_find_108 ?_
    refine st_iload (pc := 109) C.1 dX9_find_109 rfl ?_
    refine st_iload_n (pc := 111) C.1 dX9_find_111 rfl rfl ?_
    refine st_isub (pc := 112) C.1 dX9_find_112 ?_
    exact (k1 c0)

theorem sm_find_116 {X : CX} {d mc ms cells slots : Nat} {pp : Int32 → Hp → Prop} {h : Hp} {t : Nat} {ρ A : Nat → Nat} {m : Mo} {x1 : Int32} {x2 : Int32} {x3 : Int32} {x4 : Int32} (C : CmI X mX9_find d mc ms pp) (hS : MS h t ρ A) (hc : cells ≤ mc) (hs : slots ≤ ms)  (k0 : pp x3 (mput h t ρ m)) : At X cells slots 116 [some (va_rf (some t)), some (.int x1), some (.int x2), some (.int x3), some (.int x4)] [] (mput h t ρ m) := by
  refine st_iload_n (pc := 116) C.1 dX9_find_116 rfl rfl ?_
  exact rt_i C (Or.inl rfl) dX9_find_117 hc hs ⟨_, rfl, k0⟩

theorem sm_longest_0 {X : CX} {d mc ms cells slots : Nat} {pp : Int32 → Hp → Prop} {h : Hp} {t : Nat} {ρ A : Nat → Nat} {m : Mo}  (C : CmI X mX9_longest d mc ms pp) (hS : MS h t ρ A)  (k0 : At X cells slots 4 [some (va_rf (some t)), some (.int (-1)), some (.int 0)] [] (mput h t ρ m)) : At X cells slots 0 [some (va_rf (some t)), none, none] [] (mput h t ρ m) := by
  refine st_iconst (pc := 0) (v := (-1)) C.1 dX9_longest_0 (by decide) ?_
  refine sv_istore_n (pc := 1) (i := 1) C.1 [some (va_rf (some t)), some (.int (-1)), none] dX9_longest_1 rfl (Nat.le_of_ble_eq_true rfl) (by rw [C.2.1]; exact Nat.le_of_ble_eq_true rfl) rfl rfl ?_
  refine st_iconst (pc := 2) (v := 0) C.1 dX9_longest_2 (by decide) ?_
  refine sv_istore_n (pc := 3) (i := 2) C.1 [some (va_rf (some t)), some (.int (-1)), some (.int 0)] dX9_longest_3 rfl (Nat.le_of_ble_eq_true rfl) (by rw [C.2.1]; exact Nat.le_of_ble_eq_true rfl) rfl rfl ?_
  exact k0

theorem sm_longest_4 {X : CX} {d mc ms cells slots : Nat} {pp : Int32 → Hp → Prop} {h : Hp} {t : Nat} {ρ A : Nat → Nat} {m : Mo} {x1 : Int32} {x2 : Int32} (C : CmI X mX9_longest d mc ms pp) (hS : MS h t ρ A) (hc : cells ≤ mc) (hs : slots ≤ ms)  (k0 : m.1 912 ≤ x2 → pp x1 (mput h t ρ m)) (k1 : ¬ m.1 912 ≤ x2 → At X cells slots 14 [some (va_rf (some t)), some (.int x1), some (.int x2)] [.int x2, va_rf (some t)] (mput h t ρ m)) : At X cells slots 4 [some (va_rf (some t)), some (.int x1), some (.int x2)] [] (mput h t ρ m) := by
  refine st_iload_n (pc := 4) C.1 dX9_longest_4 rfl rfl ?_
  refine st_aload_n (pc := 5) C.1 (some t) dX9_longest_5 rfl rfl ?_
  refine gI_RX9_88 (pc := 6) C.1 (m.1 912) dX9_longest_6 (hS.k _) (mI912 h t ρ _) ?_
  refine st_icmp_ge (pc := 9) (tgt := 48) C.1 dX9_longest_9 (by decide) (fun c0 => ?_) (fun c0 => ?_)
  · refine st_iload_n (pc := 48) C.1 dX9_longest_48 rfl rfl ?_
    exact rt_i C (Or.inl rfl) dX9_longest_49 hc hs ⟨_, rfl, (k0 c0)⟩
  · refine st_aload_n (pc := 12) C.1 (some t) dX9_longest_12 rfl rfl ?_
    refine st_iload_n (pc := 13) C.1 dX9_longest_13 rfl rfl ?_
    exact (k1 c0)

theorem sm_longest_17 {X : CX} {d mc ms cells slots : Nat} {pp : Int32 → Hp → Prop} {h : Hp} {t : Nat} {ρ A : Nat → Nat} {m : Mo} {x1 : Int32} {x2 : Int32} {u0 : Int32} (C : CmI X mX9_longest d mc ms pp) (hS : MS h t ρ A) (h0 : u0 = 0 → ¬ x1 = (-1) → vp_in x2 800) (h1 : u0 = 0 → ¬ x1 = (-1) → vp_in x1 800) (k0 : ¬ u0 = 0 → At X cells slots 4 [some (va_rf (some t)), some (.int x1), some (.int (x2 + 1))] [] (mput h t ρ m)) (k1 : u0 = 0 → x1 = (-1) → At X cells slots 4 [some (va_rf (some t)), some (.int x2), some (.int (x2 + 1))] [] (mput h t ρ m)) (k2 : u0 = 0 → ¬ x1 = (-1) → m.2 911 (x1.toNatClampNeg) ≤ m.2 911 (x2.toNatClampNeg) → At X cells slots 4 [some (va_rf (some t)), some (.int x1), some (.int (x2 + 1))] [] (mput h t ρ m)) (k3 : u0 = 0 → ¬ x1 = (-1) → ¬ m.2 911 (x1.toNatClampNeg) ≤ m.2 911 (x2.toNatClampNeg) → At X cells slots 4 [some (va_rf (some t)), some (.int x2), some (.int (x2 + 1))] [] (mput h t ρ m)) : At X cells slots 17 [some (va_rf (some t)), some (.int x1), some (.int x2)] [.int u0] (mput h t ρ m) := by
  refine st_if_ne (pc := 17) (tgt := 42) C.1 dX9_longest_17 (by decide) (fun c0 => ?_) (fun c0 => ?_)
  · refine sv_iinc (pc := 42) (i := 2) (v := x2 + 1) C.1 [some (va_rf (some t)), some (.int x1), some (.int (x2 + 1))] dX9_longest_42 rfl rfl (by rw [C.2.1]; exact Nat.le_of_ble_eq_true rfl) rfl rfl ?_
    refine st_goto (pc := 45) (tgt := 4) C.1 dX9_longest_45 (by decide) ?_
    exact (k0 c0)
  · refine st_iload_n (pc := 20) C.1 dX9_longest_20 rfl rfl ?_
    refine st_iconst (pc := 21) (v := (-1)) C.1 dX9_longest_21 (by decide) ?_
    refine st_icmp_eq (pc := 22) (tgt := 40) C.1 dX9_longest_22 (by decide) (fun c1 => ?_) (fun c1 => ?_)
    · refine st_iload_n (pc := 40) C.1 dX9_longest_40 rfl rfl ?_
      refine sv_istore_n (pc := 41) (i := 1) C.1 [some (va_rf (some t)), some (.int x2), some (.int x2)] dX9_longest_41 rfl (Nat.le_of_ble_eq_true rfl) (by rw [C.2.1]; exact Nat.le_of_ble_eq_true rfl) rfl rfl ?_
      refine sv_iinc (pc := 42) (i := 2) (v := x2 + 1) C.1 [some (va_rf (some t)), some (.int x2), some (.int (x2 + 1))] dX9_longest_42 rfl rfl (by rw [C.2.1]; exact Nat.le_of_ble_eq_true rfl) rfl rfl ?_
      refine st_goto (pc := 45) (tgt := 4) C.1 dX9_longest_45 (by decide) ?_
      exact (k1 c0 c1)
    · refine st_aload_n (pc := 25) C.1 (some t) dX9_longest_25 rfl rfl ?_
      refine gR_RX9_32 (pc := 26) C.1 (some (A 911)) dX9_longest_26 (hS.k _) (hS.r _ 911) ?_
      refine st_iload_n (pc := 29) C.1 dX9_longest_29 rfl rfl ?_
      refine sv_iaload (pc := 30) C.1 (m.2 911 (x2.toNatClampNeg)) dX9_longest_30 (hS.ki _ 911) (by rw [nA911 hS]; exact (h0 c0 c1)) (congrFun (mA911 hS _) _) ?_
      refine st_aload_n (pc := 31) C.1 (some t) dX9_longest_31 rfl rfl ?_
      refine gR_RX9_32 (pc := 32) C.1 (some (A 911)) dX9_longest_32 (hS.k _) (hS.r _ 911) ?_
      refine st_iload_n (pc := 35) C.1 dX9_longest_35 rfl rfl ?_
      refine sv_iaload (pc := 36) C.1 (m.2 911 (x1.toNatClampNeg)) dX9_longest_36 (hS.ki _ 911) (by rw [nA911 hS]; exact (h1 c0 c1)) (congrFun (mA911 hS _) _) ?_
      refine st_icmp_ge (pc := 37) (tgt := 42) C.1 dX9_longest_37 (by decide) (fun c2 => ?_) (fun c2 => ?_)
      · refine sv_iinc (pc := 42) (i := 2) (v := x2 + 1) C.1 [some (va_rf (some t)), some (.int x1), some (.int (x2 + 1))] dX9_longest_42 rfl rfl (by rw [C.2.1]; exact Nat.le_of_ble_eq_true rfl) rfl rfl ?_
        refine st_goto (pc := 45) (tgt := 4) C.1 dX9_longest_45 (by decide) ?_
        exact (k2 c0 c1 c2)
      · refine st_iload_n (pc := 40) C.1 dX9_longest_40 rfl rfl ?_
        refine sv_istore_n (pc := 41) (i := 1) C.1 [some (va_rf (some t)), some (.int x2), some (.int x2)] dX9_longest_41 rfl (Nat.le_of_ble_eq_true rfl) (by rw [C.2.1]; exact Nat.le_of_ble_eq_true rfl) rfl rfl ?_
        refine sv_iinc (pc := 42) (i := 2) (v := x2 + 1) C.1 [some (va_rf (some t)), some (.int x2), some (.int (x2 + 1))] dX9_longest_42 rfl rfl (by rw [C.2.1]; exact Nat.le_of_ble_eq_true rfl) rfl rfl ?_
        refine st_goto (pc := 45) (tgt := 4) C.1 dX9_longest_45 (by decide) ?_
        exact (k3 c0 c1 c2)

theorem sm_oneGoes_0 {X : CX} {d mc ms cells slots : Nat} {pp : Int32 → Hp → Prop} {h : Hp} {t : Nat} {ρ A : Nat → Nat} {m : Mo}  (C : CmI X mX9_oneGoes d mc ms pp) (hS : MS h t ρ A)  (k0 : At X cells slots 1 [some (va_rf (some t)), none, none, none] [va_rf (some t)] (mput h t ρ m)) : At X cells slots 0 [some (va_rf (some t)), none, none, none] [] (mput h t ρ m) := by
  refine st_aload_n (pc := 0) C.1 (some t) dX9_oneGoes_0 rfl rfl ?_
  exact k0

theorem sm_oneGoes_4 {X : CX} {d mc ms cells slots : Nat} {pp : Int32 → Hp → Prop} {h : Hp} {t : Nat} {ρ A : Nat → Nat} {m : Mo} {u0 : Int32} (C : CmI X mX9_oneGoes d mc ms pp) (hS : MS h t ρ A) (hc : cells ≤ mc) (hs : slots ≤ ms) (h0 : ¬ u0 = (-1) → vp_in u0 800) (k0 : ¬ u0 = (-1) → At X cells slots 28 [some (va_rf (some t)), some (.int u0), some (.int (m.2 907 (u0.toNatClampNeg))), some (.int (m.2 908 (u0.toNatClampNeg)))] [.int u0, va_rf (some t)] (mput h t ρ m)) (k1 : u0 = (-1) → pp 0 (mput h t ρ m)) : At X cells slots 4 [some (va_rf (some t)), none, none, none] [.int u0] (mput h t ρ m) := by
  refine sv_istore_n (pc := 4) (i := 1) C.1 [some (va_rf (some t)), some (.int u0), none, none] dX9_oneGoes_4 rfl (Nat.le_of_ble_eq_true rfl) (by rw [C.2.1]; exact Nat.le_of_ble_eq_true rfl) rfl rfl ?_
  refine st_iload_n (pc := 5) C.1 dX9_oneGoes_5 rfl rfl ?_
  refine st_iconst (pc := 6) (v := (-1)) C.1 dX9_oneGoes_6 (by decide) ?_
  refine st_icmp_ne (pc := 7) (tgt := 12) C.1 dX9_oneGoes_7 (by decide) (fun c0 => ?_) (fun c0 => ?_)
  · refine st_aload_n (pc := 12) C.1 (some t) dX9_oneGoes_12 rfl rfl ?_
    refine gR_RX9_20 (pc := 13) C.1 (some (A 907)) dX9_oneGoes_13 (hS.k _) (hS.r _ 907) ?_
    refine st_iload_n (pc := 16) C.1 dX9_oneGoes_16 rfl rfl ?_
    refine sv_iaload (pc := 17) C.1 (m.2 907 (u0.toNatClampNeg)) dX9_oneGoes_17 (hS.ki _ 907) (by rw [nA907 hS]; exact (h0 c0)) (congrFun (mA907 hS _) _) ?_
    refine sv_istore_n (pc := 18) (i := 2) C.1 [some (va_rf (some t)), some (.int u0), some (.int (m.2 907 (u0.toNatClampNeg))), none] dX9_oneGoes_18 rfl (Nat.le_of_ble_eq_true rfl) (by rw [C.2.1]; exact Nat.le_of_ble_eq_true rfl) rfl rfl ?_
    refine st_aload_n (pc := 19) C.1 (some t) dX9_oneGoes_19 rfl rfl ?_
    refine gR_RX9_23 (pc := 20) C.1 (some (A 908)) dX9_oneGoes_20 (hS.k _) (hS.r _ 908) ?_
    refine st_iload_n (pc := 23) C.1 dX9_oneGoes_23 rfl rfl ?_
    refine sv_iaload (pc := 24) C.1 (m.2 908 (u0.toNatClampNeg)) dX9_oneGoes_24 (hS.ki _ 908) (by rw [nA908 hS]; exact (h0 c0)) (congrFun (mA908 hS _) _) ?_
    refine sv_istore_n (pc := 25) (i := 3) C.1 [some (va_rf (some t)), some (.int u0), some (.int (m.2 907 (u0.toNatClampNeg))), some (.int (m.2 908 (u0.toNatClampNeg)))] dX9_oneGoes_25 rfl (Nat.le_of_ble_eq_true rfl) (by rw [C.2.1]; exact Nat.le_of_ble_eq_true rfl) rfl rfl ?_
    refine st_aload_n (pc := 26) C.1 (some t) dX9_oneGoes_26 rfl rfl ?_
    refine st_iload_n (pc := 27) C.1 dX9_oneGoes_27 rfl rfl ?_
    exact (k0 c0)
  · refine st_iconst (pc := 10) (v := 0) C.1 dX9_oneGoes_10 (by decide) ?_
    exact rt_i C (Or.inr ⟨rfl, (Or.inl rfl)⟩) dX9_oneGoes_11 hc hs ⟨_, rfl, (k1 c0)⟩

theorem sm_oneGoes_31 {X : CX} {d mc ms cells slots : Nat} {pp : Int32 → Hp → Prop} {h : Hp} {t : Nat} {ρ A : Nat → Nat} {m : Mo} {x1 : Int32} {x2 : Int32} {x3 : Int32} (C : CmI X mX9_oneGoes d mc ms pp) (hS : MS h t ρ A)  (k0 : At X cells slots 44 [some (va_rf (some t)), some (.int x1), some (.int x2), some (.int x3)] [.int x3, .int x2, va_rf (some t)] (mput h t ρ (up1 m.1 918 ((m.1 918) + 1), m.2))) : At X cells slots 31 [some (va_rf (some t)), some (.int x1), some (.int x2), some (.int x3)] [] (mput h t ρ m) := by
  refine st_aload_n (pc := 31) C.1 (some t) dX9_oneGoes_31 rfl rfl ?_
  refine st_dup (pc := 32) C.1 dX9_oneGoes_32 (rf_cat (some t)) ?_
  refine gI_RX9_139 (pc := 33) C.1 (m.1 918) dX9_oneGoes_33 (hS.k _) (mI918 h t ρ _) ?_
  refine st_iconst (pc := 36) (v := 1) C.1 dX9_oneGoes_36 (by decide) ?_
  refine st_iadd (pc := 37) C.1 dX9_oneGoes_37 ?_
  refine pI_RX9_139 (pc := 38) C.1 dX9_oneGoes_38 (hS.k _) ?_
  rw [pI918]
  refine st_aload_n (pc := 41) C.1 (some t) dX9_oneGoes_41 rfl rfl ?_
  refine st_iload_n (pc := 42) C.1 dX9_oneGoes_42 rfl rfl ?_
  refine st_iload_n (pc := 43) C.1 dX9_oneGoes_43 rfl rfl ?_
  exact k0

theorem sm_oneGoes_47 {X : CX} {d mc ms cells slots : Nat} {pp : Int32 → Hp → Prop} {h : Hp} {t : Nat} {ρ A : Nat → Nat} {m : Mo} {x1 : Int32} {x2 : Int32} {x3 : Int32} (C : CmI X mX9_oneGoes d mc ms pp) (hS : MS h t ρ A) (hc : cells ≤ mc) (hs : slots ≤ ms)  (k0 : pp 1 (mput h t ρ m)) : At X cells slots 47 [some (va_rf (some t)), some (.int x1), some (.int x2), some (.int x3)] [] (mput h t ρ m) := by
  refine st_iconst (pc := 47) (v := 1) C.1 dX9_oneGoes_47 (by decide) ?_
  exact rt_i C (Or.inr ⟨rfl, (Or.inr rfl)⟩) dX9_oneGoes_48 hc hs ⟨_, rfl, k0⟩

theorem sm_waits_0 {X : CX} {d mc ms cells slots : Nat} {pp : Int32 → Hp → Prop} {h : Hp} {t : Nat} {ρ A : Nat → Nat} {m : Mo}  (C : CmI X mX9_waits d mc ms pp) (hS : MS h t ρ A)  (k0 : At X cells slots 4 [some (va_rf (some t)), some (.int 0), some (.int 0)] [] (mput h t ρ m)) : At X cells slots 0 [some (va_rf (some t)), none, none] [] (mput h t ρ m) := by
  refine st_iconst (pc := 0) (v := 0) C.1 dX9_waits_0 (by decide) ?_
  refine sv_istore_n (pc := 1) (i := 1) C.1 [some (va_rf (some t)), some (.int 0), none] dX9_waits_1 rfl (Nat.le_of_ble_eq_true rfl) (by rw [C.2.1]; exact Nat.le_of_ble_eq_true rfl) rfl rfl ?_
  refine st_iconst (pc := 2) (v := 0) C.1 dX9_waits_2 (by decide) ?_
  refine sv_istore_n (pc := 3) (i := 2) C.1 [some (va_rf (some t)), some (.int 0), some (.int 0)] dX9_waits_3 rfl (Nat.le_of_ble_eq_true rfl) (by rw [C.2.1]; exact Nat.le_of_ble_eq_true rfl) rfl rfl ?_
  exact k0

theorem sm_waits_4 {X : CX} {d mc ms cells slots : Nat} {pp : Int32 → Hp → Prop} {h : Hp} {t : Nat} {ρ A : Nat → Nat} {m : Mo} {x1 : Int32} {x2 : Int32} (C : CmI X mX9_waits d mc ms pp) (hS : MS h t ρ A) (hc : cells ≤ mc) (hs : slots ≤ ms)  (k0 : m.1 912 ≤ x2 → pp x1 (mput h t ρ m)) (k1 : ¬ m.1 912 ≤ x2 → At X cells slots 15 [some (va_rf (some t)), some (.int x1), some (.int x2)] [.int x2, va_rf (some t), .int x1] (mput h t ρ m)) : At X cells slots 4 [some (va_rf (some t)), some (.int x1), some (.int x2)] [] (mput h t ρ m) := by
  refine st_iload_n (pc := 4) C.1 dX9_waits_4 rfl rfl ?_
  refine st_aload_n (pc := 5) C.1 (some t) dX9_waits_5 rfl rfl ?_
  refine gI_RX9_88 (pc := 6) C.1 (m.1 912) dX9_waits_6 (hS.k _) (mI912 h t ρ _) ?_
  refine st_icmp_ge (pc := 9) (tgt := 39) C.1 dX9_waits_9 (by decide) (fun c0 => ?_) (fun c0 => ?_)
  · refine st_iload_n (pc := 39) C.1 dX9_waits_39 rfl rfl ?_
    exact rt_i C (Or.inl rfl) dX9_waits_40 hc hs ⟨_, rfl, (k0 c0)⟩
  · refine st_iload_n (pc := 12) C.1 dX9_waits_12 rfl rfl ?_
    refine st_aload_n (pc := 13) C.1 (some t) dX9_waits_13 rfl rfl ?_
    refine st_iload_n (pc := 14) C.1 dX9_waits_14 rfl rfl ?_
    exact (k1 c0)

theorem sm_waits_18 {X : CX} {d mc ms cells slots : Nat} {pp : Int32 → Hp → Prop} {h : Hp} {t : Nat} {ρ A : Nat → Nat} {m : Mo} {x1 : Int32} {x2 : Int32} {u0 : Int32} {u1 : Int32} (C : CmI X mX9_waits d mc ms pp) (hS : MS h t ρ A) (h0 : u0 = 0 → vp_in x2 800) (k0 : u0 = 0 → At X cells slots 4 [some (va_rf (some t)), some (.int (u1 + (m.2 908 (x2.toNatClampNeg)))), some (.int (x2 + 1))] [] (mput h t ρ m)) (k1 : ¬ u0 = 0 → At X cells slots 4 [some (va_rf (some t)), some (.int (u1 + 0)), some (.int (x2 + 1))] [] (mput h t ρ m)) : At X cells slots 18 [some (va_rf (some t)), some (.int x1), some (.int x2)] [.int u0, .int u1] (mput h t ρ m) := by
  refine st_if_eq (pc := 18) (tgt := 25) C.1 dX9_waits_18 (by decide) (fun c0 => ?_) (fun c0 => ?_)
  · refine st_aload_n (pc := 25) C.1 (some t) dX9_waits_25 rfl rfl ?_
    refine gR_RX9_23 (pc := 26) C.1 (some (A 908)) dX9_waits_26 (hS.k _) (hS.r _ 908) ?_
    refine st_iload_n (pc := 29) C.1 dX9_waits_29 rfl rfl ?_
    refine sv_iaload (pc := 30) C.1 (m.2 908 (x2.toNatClampNeg)) dX9_waits_30 (hS.ki _ 908) (by rw [nA908 hS]; exact (h0 c0)) (congrFun (mA908 hS _) _) ?_
    refine st_iadd (pc := 31) C.1 dX9_waits_31 ?_
    refine sv_istore_n (pc := 32) (i := 1) C.1 [some (va_rf (some t)), some (.int (u1 + (m.2 908 (x2.toNatClampNeg)))), some (.int x2)] dX9_waits_32 rfl (Nat.le_of_ble_eq_true rfl) (by rw [C.2.1]; exact Nat.le_of_ble_eq_true rfl) rfl rfl ?_
    refine sv_iinc (pc := 33) (i := 2) (v := x2 + 1) C.1 [some (va_rf (some t)), some (.int (u1 + (m.2 908 (x2.toNatClampNeg)))), some (.int (x2 + 1))] dX9_waits_33 rfl rfl (by rw [C.2.1]; exact Nat.le_of_ble_eq_true rfl) rfl rfl ?_
    refine st_goto (pc := 36) (tgt := 4) C.1 dX9_waits_36 (by decide) ?_
    exact (k0 c0)
  · refine st_iconst (pc := 21) (v := 0) C.1 dX9_waits_21 (by decide) ?_
    refine st_goto (pc := 22) (tgt := 31) C.1 dX9_waits_22 (by decide) ?_
    refine st_iadd (pc := 31) C.1 dX9_waits_31 ?_
    refine sv_istore_n (pc := 32) (i := 1) C.1 [some (va_rf (some t)), some (.int (u1 + 0)), some (.int x2)] dX9_waits_32 rfl (Nat.le_of_ble_eq_true rfl) (by rw [C.2.1]; exact Nat.le_of_ble_eq_true rfl) rfl rfl ?_
    refine sv_iinc (pc := 33) (i := 2) (v := x2 + 1) C.1 [some (va_rf (some t)), some (.int (u1 + 0)), some (.int (x2 + 1))] dX9_waits_33 rfl rfl (by rw [C.2.1]; exact Nat.le_of_ble_eq_true rfl) rfl rfl ?_
    refine st_goto (pc := 36) (tgt := 4) C.1 dX9_waits_36 (by decide) ?_
    exact (k1 c0)

theorem sm_give_0 {X : CX} {d mc ms cells slots : Nat} {pp : Int32 → Hp → Prop} {h : Hp} {t : Nat} {ρ A : Nat → Nat} {m : Mo} {x1 : Int32} (C : CmI X mX9_give d mc ms pp) (hS : MS h t ρ A)  (k0 : lg_cmp ((((x1.toInt64 + (2 * ((m.1 901).toInt64))) + 3) / 4) * 4) 4000 ≤ 0 → At X cells slots 51 [some (va_rf (some t)), some (.int x1), some (.long (x1.toInt64 + (2 * ((m.1 901).toInt64)))), none, some (.long ((((x1.toInt64 + (2 * ((m.1 901).toInt64))) + 3) / 4) * 4)), none, some (.int (((((x1.toInt64 + (2 * ((m.1 901).toInt64))) + 3) / 4) * 4).toInt32)), none, none, none] [.int (((((x1.toInt64 + (2 * ((m.1 901).toInt64))) + 3) / 4) * 4).toInt32), va_rf (some t)] (mput h t ρ m)) (k1 : ¬ lg_cmp ((((x1.toInt64 + (2 * ((m.1 901).toInt64))) + 3) / 4) * 4) 4000 ≤ 0 → At X cells slots 51 [some (va_rf (some t)), some (.int x1), some (.long (x1.toInt64 + (2 * ((m.1 901).toInt64)))), none, some (.long ((((x1.toInt64 + (2 * ((m.1 901).toInt64))) + 3) / 4) * 4)), none, some (.int 4000), none, none, none] [.int 4000, va_rf (some t)] (mput h t ρ m)) : At X cells slots 0 [some (va_rf (some t)), some (.int x1), none, none, none, none, none, none, none, none] [] (mput h t ρ m) := by
  refine st_iload_n (pc := 0) C.1 dX9_give_0 rfl rfl ?_
  refine st_i2l (pc := 1) C.1 dX9_give_1 ?_
  refine st_ldc2 (pc := 2) (v := 2) C.1 dX9_give_2 wL_142 ?_
  refine st_aload_n (pc := 5) C.1 (some t) dX9_give_5 rfl rfl ?_
  refine gI_RX9_79 (pc := 6) C.1 (m.1 901) dX9_give_6 (hS.k _) (mI901 h t ρ _) ?_
  refine st_i2l (pc := 9) C.1 dX9_give_9 ?_
  refine st_lmul (pc := 10) C.1 dX9_give_10 ?_
  refine st_ladd (pc := 11) C.1 dX9_give_11 ?_
  refine sv_lstore_n (pc := 12) (i := 2) C.1 [some (va_rf (some t)), some (.int x1), some (.long (x1.toInt64 + (2 * ((m.1 901).toInt64)))), none, none, none, none, none, none, none] dX9_give_12 rfl (Nat.le_of_ble_eq_true rfl) (by rw [C.2.1]; exact Nat.le_of_ble_eq_true rfl) rfl rfl ?_
  refine st_lload_n (pc := 13) C.1 dX9_give_13 rfl rfl ?_
  refine st_ldc2 (pc := 14) (v := 3) C.1 dX9_give_14 wL_144 ?_
  refine st_ladd (pc := 17) C.1 dX9_give_17 ?_
  refine st_ldc2 (pc := 18) (v := 4) C.1 dX9_give_18 wL_146 ?_
  refine st_ldiv (pc := 21) C.1 dX9_give_21 (by decide) ?_
  refine st_ldc2 (pc := 22) (v := 4) C.1 dX9_give_22 wL_146 ?_
  refine st_lmul (pc := 25) C.1 dX9_give_25 ?_
  refine sv_lstore (pc := 26) (i := 4) C.1 [some (va_rf (some t)), some (.int x1), some (.long (x1.toInt64 + (2 * ((m.1 901).toInt64)))), none, some (.long ((((x1.toInt64 + (2 * ((m.1 901).toInt64))) + 3) / 4) * 4)), none, none, none, none, none] dX9_give_26 (Nat.le_of_ble_eq_true rfl) (by rw [C.2.1]; exact Nat.le_of_ble_eq_true rfl) rfl rfl ?_
  refine st_lload (pc := 28) C.1 dX9_give_28 rfl ?_
  refine st_ldc2 (pc := 30) (v := 4000) C.1 dX9_give_30 wL_148 ?_
  refine st_lcmp (pc := 33) C.1 dX9_give_33 ?_
  refine st_if_le (pc := 34) (tgt := 43) C.1 dX9_give_34 (by decide) (fun c0 => ?_) (fun c0 => ?_)
  · refine st_lload (pc := 43) C.1 dX9_give_43 rfl ?_
    refine st_l2i (pc := 45) C.1 dX9_give_45 ?_
    refine sv_istore (pc := 46) (i := 6) C.1 [some (va_rf (some t)), some (.int x1), some (.long (x1.toInt64 + (2 * ((m.1 901).toInt64)))), none, some (.long ((((x1.toInt64 + (2 * ((m.1 901).toInt64))) + 3) / 4) * 4)), none, some (.int (((((x1.toInt64 + (2 * ((m.1 901).toInt64))) + 3) / 4) * 4).toInt32)), none, none, none] dX9_give_46 (Nat.le_of_ble_eq_true rfl) (by rw [C.2.1]; exact Nat.le_of_ble_eq_true rfl) rfl rfl ?_
    refine st_aload_n (pc := 48) C.1 (some t) dX9_give_48 rfl rfl ?_
    refine st_iload (pc := 49) C.1 dX9_give_49 rfl ?_
    exact (k0 c0)
  · refine st_sipush (pc := 37) (v := 4000) C.1 dX9_give_37 (by decide) ?_
    refine st_goto (pc := 40) (tgt := 46) C.1 dX9_give_40 (by decide) ?_
    refine sv_istore (pc := 46) (i := 6) C.1 [some (va_rf (some t)), some (.int x1), some (.long (x1.toInt64 + (2 * ((m.1 901).toInt64)))), none, some (.long ((((x1.toInt64 + (2 * ((m.1 901).toInt64))) + 3) / 4) * 4)), none, some (.int 4000), none, none, none] dX9_give_46 (Nat.le_of_ble_eq_true rfl) (by rw [C.2.1]; exact Nat.le_of_ble_eq_true rfl) rfl rfl ?_
    refine st_aload_n (pc := 48) C.1 (some t) dX9_give_48 rfl rfl ?_
    refine st_iload (pc := 49) C.1 dX9_give_49 rfl ?_
    exact (k1 c0)

theorem sm_give_54 {X : CX} {d mc ms cells slots : Nat} {pp : Int32 → Hp → Prop} {h : Hp} {t : Nat} {ρ A : Nat → Nat} {m : Mo} {x1 : Int32} {y2 : Int64} {y4 : Int64} {x6 : Int32} {u0 : Int32} (C : CmI X mX9_give d mc ms pp) (hS : MS h t ρ A)  (k0 : At X cells slots 59 [some (va_rf (some t)), some (.int x1), some (.long (y2)), none, some (.long (y4)), none, some (.int x6), some (.int u0), some (.int 1), none] [] (mput h t ρ m)) : At X cells slots 54 [some (va_rf (some t)), some (.int x1), some (.long (y2)), none, some (.long (y4)), none, some (.int x6), none, none, none] [.int u0] (mput h t ρ m) := by
  refine sv_istore (pc := 54) (i := 7) C.1 [some (va_rf (some t)), some (.int x1), some (.long (y2)), none, some (.long (y4)), none, some (.int x6), some (.int u0), none, none] dX9_give_54 (Nat.le_of_ble_eq_true rfl) (by rw [C.2.1]; exact Nat.le_of_ble_eq_true rfl) rfl rfl ?_
  refine st_iconst (pc := 56) (v := 1) C.1 dX9_give_56 (by decide) ?_
  refine sv_istore (pc := 57) (i := 8) C.1 [some (va_rf (some t)), some (.int x1), some (.long (y2)), none, some (.long (y4)), none, some (.int x6), some (.int u0), some (.int 1), none] dX9_give_57 (Nat.le_of_ble_eq_true rfl) (by rw [C.2.1]; exact Nat.le_of_ble_eq_true rfl) rfl rfl ?_
  exact k0

theorem sm_give_59 {X : CX} {d mc ms cells slots : Nat} {pp : Int32 → Hp → Prop} {h : Hp} {t : Nat} {ρ A : Nat → Nat} {m : Mo} {x1 : Int32} {y2 : Int64} {y4 : Int64} {x6 : Int32} {x7 : Int32} {x8 : Int32} (C : CmI X mX9_give d mc ms pp) (hS : MS h t ρ A) (hc : cells ≤ mc) (hs : slots ≤ ms) (h0 : ¬ x7 = (-1) → ¬ x7 = (-1) → vp_in (m.1 912) 800) (h1 : x7 = (-1) → x8 = 0 → ¬ x7 = (-1) → vp_in (m.1 912) 800) (k0 : ¬ x7 = (-1) → ¬ x7 = (-1) → At X cells slots 178 [some (va_rf (some t)), some (.int x1), some (.long (y2)), none, some (.long (y4)), none, some (.int x6), some (.int x7), some (.int x8), some (.int 0)] [] (mput h t ρ (up1 (up1 m.1 912 ((m.1 912) + 1)) 916 ((m.1 916) + 1), up2 (up2 (up2 (up2 (up2 m.2 907 ((m.1 912).toNatClampNeg) x7) 908 ((m.1 912).toNatClampNeg) x6) 909 ((m.1 912).toNatClampNeg) x1) 910 ((m.1 912).toNatClampNeg) (m.1 916)) 911 ((m.1 912).toNatClampNeg) 0))) (k1 : ¬ x7 = (-1) → x7 = (-1) → pp 0 (mput h t ρ m)) (k2 : x7 = (-1) → x8 = 0 → ¬ x7 = (-1) → At X cells slots 178 [some (va_rf (some t)), some (.int x1), some (.long (y2)), none, some (.long (y4)), none, some (.int x6), some (.int x7), some (.int x8), some (.int 0)] [] (mput h t ρ (up1 (up1 m.1 912 ((m.1 912) + 1)) 916 ((m.1 916) + 1), up2 (up2 (up2 (up2 (up2 m.2 907 ((m.1 912).toNatClampNeg) x7) 908 ((m.1 912).toNatClampNeg) x6) 909 ((m.1 912).toNatClampNeg) x1) 910 ((m.1 912).toNatClampNeg) (m.1 916)) 911 ((m.1 912).toNatClampNeg) 0))) (k3 : x7 = (-1) → x8 = 0 → x7 = (-1) → pp 0 (mput h t ρ m)) (k4 : x7 = (-1) → ¬ x8 = 0 → At X cells slots 71 [some (va_rf (some t)), some (.int x1), some (.long (y2)), none, some (.long (y4)), none, some (.int x6), some (.int x7), some (.int x8), none] [va_rf (some t)] (mput h t ρ m)) : At X cells slots 59 [some (va_rf (some t)), some (.int x1), some (.long (y2)), none, some (.long (y4)), none, some (.int x6), some (.int x7), some (.int x8), none] [] (mput h t ρ m) := by
  refine st_iload (pc := 59) C.1 dX9_give_59 rfl ?_
  refine st_iconst (pc := 61) (v := (-1)) C.1 dX9_give_61 (by decide) ?_
  refine st_icmp_ne (pc := 62) (tgt := 92) C.1 dX9_give_62 (by decide) (fun c0 => ?_) (fun c0 => ?_)
  · refine st_iload (pc := 92) C.1 dX9_give_92 rfl ?_
    refine st_iconst (pc := 94) (v := (-1)) C.1 dX9_give_94 (by decide) ?_
    refine st_icmp_ne (pc := 95) (tgt := 100) C.1 dX9_give_95 (by decide) (fun c1 => ?_) (fun c1 => ?_)
    · refine st_aload_n (pc := 100) C.1 (some t) dX9_give_100 rfl rfl ?_
      refine gR_RX9_20 (pc := 101) C.1 (some (A 907)) dX9_give_101 (hS.k _) (hS.r _ 907) ?_
      refine st_aload_n (pc := 104) C.1 (some t) dX9_give_104 rfl rfl ?_
      refine gI_RX9_88 (pc := 105) C.1 (m.1 912) dX9_give_105 (hS.k _) (mI912 h t ρ _) ?_
      refine st_iload (pc := 108) C.1 dX9_give_108 rfl ?_
      refine st_iastore (pc := 110) C.1 dX9_give_110 (hS.ki _ 907) (by rw [nA907 hS]; exact (h0 c0 c1)) ?_
      rw [pA907 hS]
      refine st_aload_n (pc := 111) C.1 (some t) dX9_give_111 rfl rfl ?_
      refine gR_RX9_23 (pc := 112) C.1 (some (A 908)) dX9_give_112 (hS.k _) (hS.r _ 908) ?_
      refine st_aload_n (pc := 115) C.1 (some t) dX9_give_115 rfl rfl ?_
      refine gI_RX9_88 (pc := 116) C.1 (m.1 912) dX9_give_116 (hS.k _) (mI912 h t ρ _) ?_
      refine st_iload (pc := 119) C.1 dX9_give_119 rfl ?_
      refine st_iastore (pc := 121) C.1 dX9_give_121 (hS.ki _ 908) (by rw [nA908 hS]; exact (h0 c0 c1)) ?_
      rw [pA908 hS]
      refine st_aload_n (pc := 122) C.1 (some t) dX9_give_122 rfl rfl ?_
      refine gR_RX9_26 (pc := 123) C.1 (some (A 909)) dX9_give_123 (hS.k _) (hS.r _ 909) ?_
      refine st_aload_n (pc := 126) C.1 (some t) dX9_give_126 rfl rfl ?_
      refine gI_RX9_88 (pc := 127) C.1 (m.1 912) dX9_give_127 (hS.k _) (mI912 h t ρ _) ?_
      refine st_iload_n (pc := 130) C.1 dX9_give_130 rfl rfl ?_
      refine st_iastore (pc := 131) C.1 dX9_give_131 (hS.ki _ 909) (by rw [nA909 hS]; exact (h0 c0 c1)) ?_
      rw [pA909 hS]
      refine st_aload_n (pc := 132) C.1 (some t) dX9_give_132 rfl rfl ?_
      refine gR_RX9_29 (pc := 133) C.1 (some (A 910)) dX9_give_133 (hS.k _) (hS.r _ 910) ?_
      refine st_aload_n (pc := 136) C.1 (some t) dX9_give_136 rfl rfl ?_
      refine gI_RX9_88 (pc := 137) C.1 (m.1 912) dX9_give_137 (hS.k _) (mI912 h t ρ _) ?_
      refine st_aload_n (pc := 140) C.1 (some t) dX9_give_140 rfl rfl ?_
      refine gI_RX9_157 (pc := 141) C.1 (m.1 916) dX9_give_141 (hS.k _) (mI916 h t ρ _) ?_
      refine st_iastore (pc := 144) C.1 dX9_give_144 (hS.ki _ 910) (by rw [nA910 hS]; exact (h0 c0 c1)) ?_
      rw [pA910 hS]
      refine st_aload_n (pc := 145) C.1 (some t) dX9_give_145 rfl rfl ?_
      refine gR_RX9_32 (pc := 146) C.1 (some (A 911)) dX9_give_146 (hS.k _) (hS.r _ 911) ?_
      refine st_aload_n (pc := 149) C.1 (some t) dX9_give_149 rfl rfl ?_
      refine gI_RX9_88 (pc := 150) C.1 (m.1 912) dX9_give_150 (hS.k _) (mI912 h t ρ _) ?_
      refine st_iconst (pc := 153) (v := 0) C.1 dX9_give_153 (by decide) ?_
      refine st_iastore (pc := 154) C.1 dX9_give_154 (hS.ki _ 911) (by rw [nA911 hS]; exact (h0 c0 c1)) ?_
      rw [pA911 hS]
      refine st_aload_n (pc := 155) C.1 (some t) dX9_give_155 rfl rfl ?_
      refine st_dup (pc := 156) C.1 dX9_give_156 (rf_cat (some t)) ?_
      refine gI_RX9_88 (pc := 157) C.1 (m.1 912) dX9_give_157 (hS.k _) (mI912 h t ρ _) ?_
      refine st_iconst (pc := 160) (v := 1) C.1 dX9_give_160 (by decide) ?_
      refine st_iadd (pc := 161) C.1 dX9_give_161 ?_
      refine pI_RX9_88 (pc := 162) C.1 dX9_give_162 (hS.k _) ?_
      rw [pI912]
      refine st_aload_n (pc := 165) C.1 (some t) dX9_give_165 rfl rfl ?_
      refine st_dup (pc := 166) C.1 dX9_give_166 (rf_cat (some t)) ?_
      refine gI_RX9_157 (pc := 167) C.1 (m.1 916) dX9_give_167 (hS.k _) (mI916 h t ρ _) ?_
      refine st_iconst (pc := 170) (v := 1) C.1 dX9_give_170 (by decide) ?_
      refine st_iadd (pc := 171) C.1 dX9_give_171 ?_
      refine pI_RX9_157 (pc := 172) C.1 dX9_give_172 (hS.k _) ?_
      rw [pI916]
      refine st_iconst (pc := 175) (v := 0) C.1 dX9_give_175 (by decide) ?_
      refine sv_istore (pc := 176) (i := 9) C.1 [some (va_rf (some t)), some (.int x1), some (.long (y2)), none, some (.long (y4)), none, some (.int x6), some (.int x7), some (.int x8), some (.int 0)] dX9_give_176 (Nat.le_of_ble_eq_true rfl) (by rw [C.2.1]; exact Nat.le_of_ble_eq_true rfl) rfl rfl ?_
      exact (k0 c0 c1)
    · refine st_iconst (pc := 98) (v := 0) C.1 dX9_give_98 (by decide) ?_
      exact rt_i C (Or.inl rfl) dX9_give_99 hc hs ⟨_, rfl, (k1 c0 c1)⟩
  · refine st_iload (pc := 65) C.1 dX9_give_65 rfl ?_
    refine st_if_eq (pc := 67) (tgt := 92) C.1 dX9_give_67 (by decide) (fun c2 => ?_) (fun c2 => ?_)
    · refine st_iload (pc := 92) C.1 dX9_give_92 rfl ?_
      refine st_iconst (pc := 94) (v := (-1)) C.1 dX9_give_94 (by decide) ?_
      refine st_icmp_ne (pc := 95) (tgt := 100) C.1 dX9_give_95 (by decide) (fun c3 => ?_) (fun c3 => ?_)
      · refine st_aload_n (pc := 100) C.1 (some t) dX9_give_100 rfl rfl ?_
        refine gR_RX9_20 (pc := 101) C.1 (some (A 907)) dX9_give_101 (hS.k _) (hS.r _ 907) ?_
        refine st_aload_n (pc := 104) C.1 (some t) dX9_give_104 rfl rfl ?_
        refine gI_RX9_88 (pc := 105) C.1 (m.1 912) dX9_give_105 (hS.k _) (mI912 h t ρ _) ?_
        refine st_iload (pc := 108) C.1 dX9_give_108 rfl ?_
        refine st_iastore (pc := 110) C.1 dX9_give_110 (hS.ki _ 907) (by rw [nA907 hS]; exact (h1 c0 c2 c3)) ?_
        rw [pA907 hS]
        refine st_aload_n (pc := 111) C.1 (some t) dX9_give_111 rfl rfl ?_
        refine gR_RX9_23 (pc := 112) C.1 (some (A 908)) dX9_give_112 (hS.k _) (hS.r _ 908) ?_
        refine st_aload_n (pc := 115) C.1 (some t) dX9_give_115 rfl rfl ?_
        refine gI_RX9_88 (pc := 116) C.1 (m.1 912) dX9_give_116 (hS.k _) (mI912 h t ρ _) ?_
        refine st_iload (pc := 119) C.1 dX9_give_119 rfl ?_
        refine st_iastore (pc := 121) C.1 dX9_give_121 (hS.ki _ 908) (by rw [nA908 hS]; exact (h1 c0 c2 c3)) ?_
        rw [pA908 hS]
        refine st_aload_n (pc := 122) C.1 (some t) dX9_give_122 rfl rfl ?_
        refine gR_RX9_26 (pc := 123) C.1 (some (A 909)) dX9_give_123 (hS.k _) (hS.r _ 909) ?_
        refine st_aload_n (pc := 126) C.1 (some t) dX9_give_126 rfl rfl ?_
        refine gI_RX9_88 (pc := 127) C.1 (m.1 912) dX9_give_127 (hS.k _) (mI912 h t ρ _) ?_
        refine st_iload_n (pc := 130) C.1 dX9_give_130 rfl rfl ?_
        refine st_iastore (pc := 131) C.1 dX9_give_131 (hS.ki _ 909) (by rw [nA909 hS]; exact (h1 c0 c2 c3)) ?_
        rw [pA909 hS]
        refine st_aload_n (pc := 132) C.1 (some t) dX9_give_132 rfl rfl ?_
        refine gR_RX9_29 (pc := 133) C.1 (some (A 910)) dX9_give_133 (hS.k _) (hS.r _ 910) ?_
        refine st_aload_n (pc := 136) C.1 (some t) dX9_give_136 rfl rfl ?_
        refine gI_RX9_88 (pc := 137) C.1 (m.1 912) dX9_give_137 (hS.k _) (mI912 h t ρ _) ?_
        refine st_aload_n (pc := 140) C.1 (some t) dX9_give_140 rfl rfl ?_
        refine gI_RX9_157 (pc := 141) C.1 (m.1 916) dX9_give_141 (hS.k _) (mI916 h t ρ _) ?_
        refine st_iastore (pc := 144) C.1 dX9_give_144 (hS.ki _ 910) (by rw [nA910 hS]; exact (h1 c0 c2 c3)) ?_
        rw [pA910 hS]
        refine st_aload_n (pc := 145) C.1 (some t) dX9_give_145 rfl rfl ?_
        refine gR_RX9_32 (pc := 146) C.1 (some (A 911)) dX9_give_146 (hS.k _) (hS.r _ 911) ?_
        refine st_aload_n (pc := 149) C.1 (some t) dX9_give_149 rfl rfl ?_
        refine gI_RX9_88 (pc := 150) C.1 (m.1 912) dX9_give_150 (hS.k _) (mI912 h t ρ _) ?_
        refine st_iconst (pc := 153) (v := 0) C.1 dX9_give_153 (by decide) ?_
        refine st_iastore (pc := 154) C.1 dX9_give_154 (hS.ki _ 911) (by rw [nA911 hS]; exact (h1 c0 c2 c3)) ?_
        rw [pA911 hS]
        refine st_aload_n (pc := 155) C.1 (some t) dX9_give_155 rfl rfl ?_
        refine st_dup (pc := 156) C.1 dX9_give_156 (rf_cat (some t)) ?_
        refine gI_RX9_88 (pc := 157) C.1 (m.1 912) dX9_give_157 (hS.k _) (mI912 h t ρ _) ?_
        refine st_iconst (pc := 160) (v := 1) C.1 dX9_give_160 (by decide) ?_
        refine st_iadd (pc := 161) C.1 dX9_give_161 ?_
        refine pI_RX9_88 (pc := 162) C.1 dX9_give_162 (hS.k _) ?_
        rw [pI912]
        refine st_aload_n (pc := 165) C.1 (some t) dX9_give_165 rfl rfl ?_
        refine st_dup (pc := 166) C.1 dX9_give_166 (rf_cat (some t)) ?_
        refine gI_RX9_157 (pc := 167) C.1 (m.1 916) dX9_give_167 (hS.k _) (mI916 h t ρ _) ?_
        refine st_iconst (pc := 170) (v := 1) C.1 dX9_give_170 (by decide) ?_
        refine st_iadd (pc := 171) C.1 dX9_give_171 ?_
        refine pI_RX9_157 (pc := 172) C.1 dX9_give_172 (hS.k _) ?_
        rw [pI916]
        refine st_iconst (pc := 175) (v := 0) C.1 dX9_give_175 (by decide) ?_
        refine sv_istore (pc := 176) (i := 9) C.1 [some (va_rf (some t)), some (.int x1), some (.long (y2)), none, some (.long (y4)), none, some (.int x6), some (.int x7), some (.int x8), some (.int 0)] dX9_give_176 (Nat.le_of_ble_eq_true rfl) (by rw [C.2.1]; exact Nat.le_of_ble_eq_true rfl) rfl rfl ?_
        exact (k2 c0 c2 c3)
      · refine st_iconst (pc := 98) (v := 0) C.1 dX9_give_98 (by decide) ?_
        exact rt_i C (Or.inl rfl) dX9_give_99 hc hs ⟨_, rfl, (k3 c0 c2 c3)⟩
    · refine st_aload_n (pc := 70) C.1 (some t) dX9_give_70 rfl rfl ?_
      exact (k4 c0 c2)

theorem sm_give_74 {X : CX} {d mc ms cells slots : Nat} {pp : Int32 → Hp → Prop} {h : Hp} {t : Nat} {ρ A : Nat → Nat} {m : Mo} {x1 : Int32} {y2 : Int64} {y4 : Int64} {x6 : Int32} {x7 : Int32} {x8 : Int32} {u0 : Int32} (C : CmI X mX9_give d mc ms pp) (hS : MS h t ρ A)  (k0 : u0 = 0 → At X cells slots 59 [some (va_rf (some t)), some (.int x1), some (.long (y2)), none, some (.long (y4)), none, some (.int x6), some (.int x7), some (.int u0), none] [] (mput h t ρ m)) (k1 : ¬ u0 = 0 → At X cells slots 84 [some (va_rf (some t)), some (.int x1), some (.long (y2)), none, some (.long (y4)), none, some (.int x6), some (.int x7), some (.int u0), none] [.int x6, va_rf (some t)] (mput h t ρ m)) : At X cells slots 74 [some (va_rf (some t)), some (.int x1), some (.long (y2)), none, some (.long (y4)), none, some (.int x6), some (.int x7), some (.int x8), none] [.int u0] (mput h t ρ m) := by
  refine sv_istore (pc := 74) (i := 8) C.1 [some (va_rf (some t)), some (.int x1), some (.long (y2)), none, some (.long (y4)), none, some (.int x6), some (.int x7), some (.int u0), none] dX9_give_74 (Nat.le_of_ble_eq_true rfl) (by rw [C.2.1]; exact Nat.le_of_ble_eq_true rfl) rfl rfl ?_
  refine st_iload (pc := 76) C.1 dX9_give_76 rfl ?_
  refine st_if_eq (pc := 78) (tgt := 59) C.1 dX9_give_78 (by decide) (fun c0 => ?_) (fun c0 => ?_)
  · exact (k0 c0)
  · refine st_aload_n (pc := 81) C.1 (some t) dX9_give_81 rfl rfl ?_
    refine st_iload (pc := 82) C.1 dX9_give_82 rfl ?_
    exact (k1 c0)

theorem sm_give_87 {X : CX} {d mc ms cells slots : Nat} {pp : Int32 → Hp → Prop} {h : Hp} {t : Nat} {ρ A : Nat → Nat} {m : Mo} {x1 : Int32} {y2 : Int64} {y4 : Int64} {x6 : Int32} {x7 : Int32} {x8 : Int32} {u0 : Int32} (C : CmI X mX9_give d mc ms pp) (hS : MS h t ρ A)  (k0 : At X cells slots 59 [some (va_rf (some t)), some (.int x1), some (.long (y2)), none, some (.long (y4)), none, some (.int x6), some (.int u0), some (.int x8), none] [] (mput h t ρ m)) : At X cells slots 87 [some (va_rf (some t)), some (.int x1), some (.long (y2)), none, some (.long (y4)), none, some (.int x6), some (.int x7), some (.int x8), none] [.int u0] (mput h t ρ m) := by
  refine sv_istore (pc := 87) (i := 7) C.1 [some (va_rf (some t)), some (.int x1), some (.long (y2)), none, some (.long (y4)), none, some (.int x6), some (.int u0), some (.int x8), none] dX9_give_87 (Nat.le_of_ble_eq_true rfl) (by rw [C.2.1]; exact Nat.le_of_ble_eq_true rfl) rfl rfl ?_
  refine st_goto (pc := 89) (tgt := 59) C.1 dX9_give_89 (by decide) ?_
  exact k0

theorem sm_give_178 {X : CX} {d mc ms cells slots : Nat} {pp : Int32 → Hp → Prop} {h : Hp} {t : Nat} {ρ A : Nat → Nat} {m : Mo} {x1 : Int32} {y2 : Int64} {y4 : Int64} {x6 : Int32} {x7 : Int32} {x8 : Int32} {x9 : Int32} (C : CmI X mX9_give d mc ms pp) (hS : MS h t ρ A) (hc : cells ≤ mc) (hs : slots ≤ ms) (h0 : ¬ x1 ≤ x9 → vp_in ((x7 + (m.1 901)) + x9) 3001) (k0 : x1 ≤ x9 → pp (x7 + (m.1 901)) (mput h t ρ m)) (k1 : ¬ x1 ≤ x9 → At X cells slots 178 [some (va_rf (some t)), some (.int x1), some (.long (y2)), none, some (.long (y4)), none, some (.int x6), some (.int x7), some (.int x8), some (.int (x9 + 1))] [] (mput h t ρ (m.1, up2 m.2 904 (((x7 + (m.1 901)) + x9).toNatClampNeg) 0))) : At X cells slots 178 [some (va_rf (some t)), some (.int x1), some (.long (y2)), none, some (.long (y4)), none, some (.int x6), some (.int x7), some (.int x8), some (.int x9)] [] (mput h t ρ m) := by
  refine st_iload (pc := 178) C.1 dX9_give_178 rfl ?_
  refine st_iload_n (pc := 180) C.1 dX9_give_180 rfl rfl ?_
  refine st_icmp_ge (pc := 181) (tgt := 206) C.1 dX9_give_181 (by decide) (fun c0 => ?_) (fun c0 => ?_)
  · refine st_iload (pc := 206) C.1 dX9_give_206 rfl ?_
    refine st_aload_n (pc := 208) C.1 (some t) dX9_give_208 rfl rfl ?_
    refine gI_RX9_79 (pc := 209) C.1 (m.1 901) dX9_give_209 (hS.k _) (mI901 h t ρ _) ?_
    refine st_iadd (pc := 212) C.1 dX9_give_212 ?_
    exact rt_i C (Or.inl rfl) dX9_give_213 hc hs ⟨_, rfl, (k0 c0)⟩
  · refine st_aload_n (pc := 184) C.1 (some t) dX9_give_184 rfl rfl ?_
    refine gR_RX9_7 (pc := 185) C.1 (some (A 904)) dX9_give_185 (hS.k _) (hS.r _ 904) ?_
    refine st_iload (pc := 188) C.1 dX9_give_188 rfl ?_
    refine st_aload_n (pc := 190) C.1 (some t) dX9_give_190 rfl rfl ?_
    refine gI_RX9_79 (pc := 191) C.1 (m.1 901) dX9_give_191 (hS.k _) (mI901 h t ρ _) ?_
    refine st_iadd (pc := 194) C.1 dX9_give_194 ?_
    refine st_iload (pc := 195) C.1 dX9_give_195 rfl ?_
    refine st_iadd (pc := 197) C.1 dX9_give_197 ?_
    refine st_iconst (pc := 198) (v := 0) C.1 dX9_give_198 (by decide) ?_
    refine st_iastore (pc := 199) C.1 dX9_give_199 (hS.ki _ 904) (by rw [nA904 hS]; exact (h0 c0)) ?_
    rw [pA904 hS]
    refine sv_iinc (pc := 200) (i := 9) (v := x9 + 1) C.1 [some (va_rf (some t)), some (.int x1), some (.long (y2)), none, some (.long (y4)), none, some (.int x6), some (.int x7), some (.int x8), some (.int (x9 + 1))] dX9_give_200 rfl rfl (by rw [C.2.1]; exact Nat.le_of_ble_eq_true rfl) rfl rfl ?_
    refine st_goto (pc := 203) (tgt := 178) C.1 dX9_give_203 (by decide) ?_
    exact (k1 c0)

theorem sm_setFree_0 {X : CX} {d mc ms cells slots : Nat} {pp : Hp → Prop} {h : Hp} {t : Nat} {ρ A : Nat → Nat} {m : Mo} {x1 : Int32} (C : CmV X mX9_setFree d mc ms pp) (hS : MS h t ρ A) (h0 : vp_in x1 800) (k0 : At X cells slots 20 [some (va_rf (some t)), some (.int x1), none] [] (mput h t ρ (up1 m.1 917 ((m.1 917) + 1), up2 m.2 911 (x1.toNatClampNeg) ((m.1 917) + 1)))) : At X cells slots 0 [some (va_rf (some t)), some (.int x1), none] [] (mput h t ρ m) := by
  refine st_aload_n (pc := 0) C.1 (some t) dX9_setFree_0 rfl rfl ?_
  refine st_dup (pc := 1) C.1 dX9_setFree_1 (rf_cat (some t)) ?_
  refine gI_RX9_160 (pc := 2) C.1 (m.1 917) dX9_setFree_2 (hS.k _) (mI917 h t ρ _) ?_
  refine st_iconst (pc := 5) (v := 1) C.1 dX9_setFree_5 (by decide) ?_
  refine st_iadd (pc := 6) C.1 dX9_setFree_6 ?_
  refine pI_RX9_160 (pc := 7) C.1 dX9_setFree_7 (hS.k _) ?_
  rw [pI917]
  refine st_aload_n (pc := 10) C.1 (some t) dX9_setFree_10 rfl rfl ?_
  refine gR_RX9_32 (pc := 11) C.1 (some (A 911)) dX9_setFree_11 (hS.k _) (hS.r _ 911) ?_
  refine st_iload_n (pc := 14) C.1 dX9_setFree_14 rfl rfl ?_
  refine st_aload_n (pc := 15) C.1 (some t) dX9_setFree_15 rfl rfl ?_
  refine gI_RX9_160 (pc := 16) C.1 ((m.1 917) + 1) dX9_setFree_16 (hS.k _) (mI917 h t ρ _) ?_
  refine st_iastore (pc := 19) C.1 dX9_setFree_19 (hS.ki _ 911) (by rw [nA911 hS]; exact h0) ?_
  rw [pA911 hS]
  exact k0

theorem sm_setFree_20 {X : CX} {d mc ms cells slots : Nat} {pp : Hp → Prop} {h : Hp} {t : Nat} {ρ A : Nat → Nat} {m : Mo} {x1 : Int32} (C : CmV X mX9_setFree d mc ms pp) (hS : MS h t ρ A)  (k0 : At X cells slots 21 [some (va_rf (some t)), some (.int x1), none] [va_rf (some t)] (mput h t ρ m)) : At X cells slots 20 [some (va_rf (some t)), some (.int x1), none] [] (mput h t ρ m) := by
  refine st_aload_n (pc := 20) C.1 (some t) dX9_setFree_20 rfl rfl ?_
  exact k0

theorem sm_setFree_24 {X : CX} {d mc ms cells slots : Nat} {pp : Hp → Prop} {h : Hp} {t : Nat} {ρ A : Nat → Nat} {m : Mo} {x1 : Int32} {u0 : Int32} (C : CmV X mX9_setFree d mc ms pp) (hS : MS h t ρ A) (hc : cells ≤ mc) (hs : slots ≤ ms)  (k0 : u0 ≤ m.1 902 → pp (mput h t ρ m)) (k1 : ¬ u0 ≤ m.1 902 → At X cells slots 32 [some (va_rf (some t)), some (.int x1), none] [va_rf (some t)] (mput h t ρ m)) : At X cells slots 24 [some (va_rf (some t)), some (.int x1), none] [.int u0] (mput h t ρ m) := by
  refine st_aload_n (pc := 24) C.1 (some t) dX9_setFree_24 rfl rfl ?_
  refine gI_RX9_82 (pc := 25) C.1 (m.1 902) dX9_setFree_25 (hS.k _) (mI902 h t ρ _) ?_
  refine st_icmp_le (pc := 28) (tgt := 39) C.1 dX9_setFree_28 (by decide) (fun c0 => ?_) (fun c0 => ?_)
  · exact rt_v C rfl dX9_setFree_39 hc hs ⟨rfl, (k0 c0)⟩
  · refine st_aload_n (pc := 31) C.1 (some t) dX9_setFree_31 rfl rfl ?_
    exact (k1 c0)

theorem sm_setFree_35 {X : CX} {d mc ms cells slots : Nat} {pp : Hp → Prop} {h : Hp} {t : Nat} {ρ A : Nat → Nat} {m : Mo} {x1 : Int32} {u0 : Int32} (C : CmV X mX9_setFree d mc ms pp) (hS : MS h t ρ A)  (k0 : At X cells slots 20 [some (va_rf (some t)), some (.int x1), some (.int u0)] [] (mput h t ρ m)) : At X cells slots 35 [some (va_rf (some t)), some (.int x1), none] [.int u0] (mput h t ρ m) := by
  refine sv_istore_n (pc := 35) (i := 2) C.1 [some (va_rf (some t)), some (.int x1), some (.int u0)] dX9_setFree_35 rfl (Nat.le_of_ble_eq_true rfl) (by rw [C.2.1]; exact Nat.le_of_ble_eq_true rfl) rfl rfl ?_
  refine st_goto (pc := 36) (tgt := 20) C.1 dX9_setFree_36 (by decide) ?_
  exact k0

theorem sm_no_0 {X : CX} {d mc ms cells slots : Nat} {pp : Int32 → Hp → Prop} {h : Hp} {t : Nat} {ρ A : Nat → Nat} {m : Mo} {x1 : Int32} (C : CmI X mX9_no d mc ms pp) (hS : MS h t ρ A)  (k0 : At X cells slots 2 [some (va_rf (some t)), some (.int x1), none] [.int x1, va_rf (some t)] (mput h t ρ m)) : At X cells slots 0 [some (va_rf (some t)), some (.int x1), none] [] (mput h t ρ m) := by
  refine st_aload_n (pc := 0) C.1 (some t) dX9_no_0 rfl rfl ?_
  refine st_iload_n (pc := 1) C.1 dX9_no_1 rfl rfl ?_
  exact k0

theorem sm_no_5 {X : CX} {d mc ms cells slots : Nat} {pp : Int32 → Hp → Prop} {h : Hp} {t : Nat} {ρ A : Nat → Nat} {m : Mo} {x1 : Int32} {u0 : Int32} (C : CmI X mX9_no d mc ms pp) (hS : MS h t ρ A)  (k0 : ¬ u0 = (-1) → At X cells slots 18 [some (va_rf (some t)), some (.int x1), some (.int 4)] [.int x1, .int 4, va_rf (some t)] (mput h t ρ m)) (k1 : u0 = (-1) → At X cells slots 18 [some (va_rf (some t)), some (.int x1), some (.int 5)] [.int x1, .int 5, va_rf (some t)] (mput h t ρ m)) : At X cells slots 5 [some (va_rf (some t)), some (.int x1), none] [.int u0] (mput h t ρ m) := by
  refine st_iconst (pc := 5) (v := (-1)) C.1 dX9_no_5 (by decide) ?_
  refine st_icmp_ne (pc := 6) (tgt := 13) C.1 dX9_no_6 (by decide) (fun c0 => ?_) (fun c0 => ?_)
  · refine st_iconst (pc := 13) (v := 4) C.1 dX9_no_13 (by decide) ?_
    refine sv_istore_n (pc := 14) (i := 2) C.1 [some (va_rf (some t)), some (.int x1), some (.int 4)] dX9_no_14 rfl (Nat.le_of_ble_eq_true rfl) (by rw [C.2.1]; exact Nat.le_of_ble_eq_true rfl) rfl rfl ?_
    refine st_aload_n (pc := 15) C.1 (some t) dX9_no_15 rfl rfl ?_
    refine st_iload_n (pc := 16) C.1 dX9_no_16 rfl rfl ?_
    refine st_iload_n (pc := 17) C.1 dX9_no_17 rfl rfl ?_
    exact (k0 c0)
  · refine st_iconst (pc := 9) (v := 5) C.1 dX9_no_9 (by decide) ?_
    refine st_goto (pc := 10) (tgt := 14) C.1 dX9_no_10 (by decide) ?_
    refine sv_istore_n (pc := 14) (i := 2) C.1 [some (va_rf (some t)), some (.int x1), some (.int 5)] dX9_no_14 rfl (Nat.le_of_ble_eq_true rfl) (by rw [C.2.1]; exact Nat.le_of_ble_eq_true rfl) rfl rfl ?_
    refine st_aload_n (pc := 15) C.1 (some t) dX9_no_15 rfl rfl ?_
    refine st_iload_n (pc := 16) C.1 dX9_no_16 rfl rfl ?_
    refine st_iload_n (pc := 17) C.1 dX9_no_17 rfl rfl ?_
    exact (k1 c0)

theorem sm_no_21 {X : CX} {d mc ms cells slots : Nat} {pp : Int32 → Hp → Prop} {h : Hp} {t : Nat} {ρ A : Nat → Nat} {m : Mo} {x1 : Int32} {x2 : Int32} (C : CmI X mX9_no d mc ms pp) (hS : MS h t ρ A) (hc : cells ≤ mc) (hs : slots ≤ ms)  (k0 : pp x2 (mput h t ρ m)) : At X cells slots 21 [some (va_rf (some t)), some (.int x1), some (.int x2)] [] (mput h t ρ m) := by
  refine st_iload_n (pc := 21) C.1 dX9_no_21 rfl rfl ?_
  exact rt_i C (Or.inl rfl) dX9_no_22 hc hs ⟨_, rfl, k0⟩

theorem sm_liveAt_0 {X : CX} {d mc ms cells slots : Nat} {pp : Int32 → Hp → Prop} {h : Hp} {t : Nat} {ρ A : Nat → Nat} {m : Mo} {x1 : Int32} (C : CmI X mX9_liveAt d mc ms pp) (hS : MS h t ρ A)  (k0 : At X cells slots 2 [some (va_rf (some t)), some (.int x1), none] [.int x1, va_rf (some t)] (mput h t ρ m)) : At X cells slots 0 [some (va_rf (some t)), some (.int x1), none] [] (mput h t ρ m) := by
  refine st_aload_n (pc := 0) C.1 (some t) dX9_liveAt_0 rfl rfl ?_
  refine st_iload_n (pc := 1) C.1 dX9_liveAt_1 rfl rfl ?_
  exact k0

theorem sm_liveAt_5 {X : CX} {d mc ms cells slots : Nat} {pp : Int32 → Hp → Prop} {h : Hp} {t : Nat} {ρ A : Nat → Nat} {m : Mo} {x1 : Int32} {u0 : Int32} (C : CmI X mX9_liveAt d mc ms pp) (hS : MS h t ρ A) (hc : cells ≤ mc) (hs : slots ≤ ms)  (k0 : u0 = (-1) → pp (-1) (mput h t ρ m)) (k1 : ¬ u0 = (-1) → At X cells slots 13 [some (va_rf (some t)), some (.int x1), some (.int u0)] [.int u0, va_rf (some t)] (mput h t ρ m)) : At X cells slots 5 [some (va_rf (some t)), some (.int x1), none] [.int u0] (mput h t ρ m) := by
  refine sv_istore_n (pc := 5) (i := 2) C.1 [some (va_rf (some t)), some (.int x1), some (.int u0)] dX9_liveAt_5 rfl (Nat.le_of_ble_eq_true rfl) (by rw [C.2.1]; exact Nat.le_of_ble_eq_true rfl) rfl rfl ?_
  refine st_iload_n (pc := 6) C.1 dX9_liveAt_6 rfl rfl ?_
  refine st_iconst (pc := 7) (v := (-1)) C.1 dX9_liveAt_7 (by decide) ?_
  refine st_icmp_eq (pc := 8) (tgt := 23) C.1 dX9_liveAt_8 (by decide) (fun c0 => ?_) (fun c0 => ?_)
  · refine st_iconst (pc := 23) (v := (-1)) C.1 dX9_liveAt_23 (by decide) ?_
    exact rt_i C (Or.inl rfl) dX9_liveAt_24 hc hs ⟨_, rfl, (k0 c0)⟩
  · refine st_aload_n (pc := 11) C.1 (some t) dX9_liveAt_11 rfl rfl ?_
    refine st_iload_n (pc := 12) C.1 dX9_liveAt_12 rfl rfl ?_
    exact (k1 c0)

theorem sm_liveAt_16 {X : CX} {d mc ms cells slots : Nat} {pp : Int32 → Hp → Prop} {h : Hp} {t : Nat} {ρ A : Nat → Nat} {m : Mo} {x1 : Int32} {x2 : Int32} {u0 : Int32} (C : CmI X mX9_liveAt d mc ms pp) (hS : MS h t ρ A) (hc : cells ≤ mc) (hs : slots ≤ ms)  (k0 : u0 = 0 → pp (-1) (mput h t ρ m)) (k1 : ¬ u0 = 0 → pp x2 (mput h t ρ m)) : At X cells slots 16 [some (va_rf (some t)), some (.int x1), some (.int x2)] [.int u0] (mput h t ρ m) := by
  refine st_if_eq (pc := 16) (tgt := 23) C.1 dX9_liveAt_16 (by decide) (fun c0 => ?_) (fun c0 => ?_)
  · refine st_iconst (pc := 23) (v := (-1)) C.1 dX9_liveAt_23 (by decide) ?_
    exact rt_i C (Or.inl rfl) dX9_liveAt_24 hc hs ⟨_, rfl, (k0 c0)⟩
  · refine st_iload_n (pc := 19) C.1 dX9_liveAt_19 rfl rfl ?_
    refine st_goto (pc := 20) (tgt := 24) C.1 dX9_liveAt_20 (by decide) ?_
    exact rt_i C (Or.inl rfl) dX9_liveAt_24 hc hs ⟨_, rfl, (k1 c0)⟩

theorem sm_alloc_0 {X : CX} {d mc ms cells slots : Nat} {pp : Int32 → Hp → Prop} {h : Hp} {t : Nat} {ρ A : Nat → Nat} {m : Mo} {x1 : Int32} (C : CmI X mX9_alloc d mc ms pp) (hS : MS h t ρ A) (hc : cells ≤ mc) (hs : slots ≤ ms)  (k0 : 1 ≤ x1 → At X cells slots 16 [some (va_rf (some t)), some (.int x1)] [.int x1, va_rf (some t)] (mput h t ρ (up1 m.1 903 0, m.2))) (k1 : ¬ 1 ≤ x1 → pp 0 (mput h t ρ (up1 m.1 903 0, m.2))) : At X cells slots 0 [some (va_rf (some t)), some (.int x1)] [] (mput h t ρ m) := by
  refine st_aload_n (pc := 0) C.1 (some t) dX9_alloc_0 rfl rfl ?_
  refine st_iconst (pc := 1) (v := 0) C.1 dX9_alloc_1 (by decide) ?_
  refine pI_RX9_85 (pc := 2) C.1 dX9_alloc_2 (hS.k _) ?_
  rw [pI903]
  refine st_iload_n (pc := 5) C.1 dX9_alloc_5 rfl rfl ?_
  refine st_iconst (pc := 6) (v := 1) C.1 dX9_alloc_6 (by decide) ?_
  refine st_icmp_ge (pc := 7) (tgt := 14) C.1 dX9_alloc_7 (by decide) (fun c0 => ?_) (fun c0 => ?_)
  · refine st_aload_n (pc := 14) C.1 (some t) dX9_alloc_14 rfl rfl ?_
    refine st_iload_n (pc := 15) C.1 dX9_alloc_15 rfl rfl ?_
    exact (k0 c0)
  · refine st_iconst (pc := 10) (v := 0) C.1 dX9_alloc_10 (by decide) ?_
    refine st_goto (pc := 11) (tgt := 19) C.1 dX9_alloc_11 (by decide) ?_
    exact rt_i C (Or.inl rfl) dX9_alloc_19 hc hs ⟨_, rfl, (k1 c0)⟩

theorem sm_alloc_19 {X : CX} {d mc ms cells slots : Nat} {pp : Int32 → Hp → Prop} {h : Hp} {t : Nat} {ρ A : Nat → Nat} {m : Mo} {x1 : Int32} {u0 : Int32} (C : CmI X mX9_alloc d mc ms pp) (hS : MS h t ρ A) (hc : cells ≤ mc) (hs : slots ≤ ms)  (k0 : pp u0 (mput h t ρ m)) : At X cells slots 19 [some (va_rf (some t)), some (.int x1)] [.int u0] (mput h t ρ m) := by
  exact rt_i C (Or.inl rfl) dX9_alloc_19 hc hs ⟨_, rfl, k0⟩

theorem sm_free_0 {X : CX} {d mc ms cells slots : Nat} {pp : Int32 → Hp → Prop} {h : Hp} {t : Nat} {ρ A : Nat → Nat} {m : Mo} {x1 : Int32} (C : CmI X mX9_free d mc ms pp) (hS : MS h t ρ A)  (k0 : At X cells slots 7 [some (va_rf (some t)), some (.int x1), none] [.int x1, va_rf (some t)] (mput h t ρ (up1 m.1 903 0, m.2))) : At X cells slots 0 [some (va_rf (some t)), some (.int x1), none] [] (mput h t ρ m) := by
  refine st_aload_n (pc := 0) C.1 (some t) dX9_free_0 rfl rfl ?_
  refine st_iconst (pc := 1) (v := 0) C.1 dX9_free_1 (by decide) ?_
  refine pI_RX9_85 (pc := 2) C.1 dX9_free_2 (hS.k _) ?_
  rw [pI903]
  refine st_aload_n (pc := 5) C.1 (some t) dX9_free_5 rfl rfl ?_
  refine st_iload_n (pc := 6) C.1 dX9_free_6 rfl rfl ?_
  exact k0

theorem sm_free_10 {X : CX} {d mc ms cells slots : Nat} {pp : Int32 → Hp → Prop} {h : Hp} {t : Nat} {ρ A : Nat → Nat} {m : Mo} {x1 : Int32} {u0 : Int32} (C : CmI X mX9_free d mc ms pp) (hS : MS h t ρ A)  (k0 : ¬ u0 = (-1) → At X cells slots 24 [some (va_rf (some t)), some (.int x1), some (.int u0)] [.int u0, va_rf (some t)] (mput h t ρ m)) (k1 : u0 = (-1) → At X cells slots 18 [some (va_rf (some t)), some (.int x1), some (.int u0)] [.int x1, va_rf (some t)] (mput h t ρ m)) : At X cells slots 10 [some (va_rf (some t)), some (.int x1), none] [.int u0] (mput h t ρ m) := by
  refine sv_istore_n (pc := 10) (i := 2) C.1 [some (va_rf (some t)), some (.int x1), some (.int u0)] dX9_free_10 rfl (Nat.le_of_ble_eq_true rfl) (by rw [C.2.1]; exact Nat.le_of_ble_eq_true rfl) rfl rfl ?_
  refine st_iload_n (pc := 11) C.1 dX9_free_11 rfl rfl ?_
  refine st_iconst (pc := 12) (v := (-1)) C.1 dX9_free_12 (by decide) ?_
  refine st_icmp_ne (pc := 13) (tgt := 22) C.1 dX9_free_13 (by decide) (fun c0 => ?_) (fun c0 => ?_)
  · refine st_aload_n (pc := 22) C.1 (some t) dX9_free_22 rfl rfl ?_
    refine st_iload_n (pc := 23) C.1 dX9_free_23 rfl rfl ?_
    exact (k0 c0)
  · refine st_aload_n (pc := 16) C.1 (some t) dX9_free_16 rfl rfl ?_
    refine st_iload_n (pc := 17) C.1 dX9_free_17 rfl rfl ?_
    exact (k1 c0)

theorem sm_free_21 {X : CX} {d mc ms cells slots : Nat} {pp : Int32 → Hp → Prop} {h : Hp} {t : Nat} {ρ A : Nat → Nat} {m : Mo} {x1 : Int32} {x2 : Int32} {u0 : Int32} (C : CmI X mX9_free d mc ms pp) (hS : MS h t ρ A) (hc : cells ≤ mc) (hs : slots ≤ ms)  (k0 : pp u0 (mput h t ρ m)) : At X cells slots 21 [some (va_rf (some t)), some (.int x1), some (.int x2)] [.int u0] (mput h t ρ m) := by
  exact rt_i C (Or.inl rfl) dX9_free_21 hc hs ⟨_, rfl, k0⟩

theorem sm_free_27 {X : CX} {d mc ms cells slots : Nat} {pp : Int32 → Hp → Prop} {h : Hp} {t : Nat} {ρ A : Nat → Nat} {m : Mo} {x1 : Int32} {x2 : Int32} (C : CmI X mX9_free d mc ms pp) (hS : MS h t ρ A) (hc : cells ≤ mc) (hs : slots ≤ ms)  (k0 : pp 0 (mput h t ρ m)) : At X cells slots 27 [some (va_rf (some t)), some (.int x1), some (.int x2)] [] (mput h t ρ m) := by
  refine st_iconst (pc := 27) (v := 0) C.1 dX9_free_27 (by decide) ?_
  exact rt_i C (Or.inl rfl) dX9_free_28 hc hs ⟨_, rfl, k0⟩

theorem sm_resize_0 {X : CX} {d mc ms cells slots : Nat} {pp : Int32 → Hp → Prop} {h : Hp} {t : Nat} {ρ A : Nat → Nat} {m : Mo} {x1 : Int32} {x2 : Int32} (C : CmI X mX9_resize d mc ms pp) (hS : MS h t ρ A) (hc : cells ≤ mc) (hs : slots ≤ ms)  (k0 : 1 ≤ x2 → At X cells slots 14 [some (va_rf (some t)), some (.int x1), some (.int x2), none, none, none, none] [.int x1, va_rf (some t)] (mput h t ρ (up1 m.1 903 0, m.2))) (k1 : ¬ 1 ≤ x2 → pp 0 (mput h t ρ (up1 m.1 903 0, m.2))) : At X cells slots 0 [some (va_rf (some t)), some (.int x1), some (.int x2), none, none, none, none] [] (mput h t ρ m) := by
  refine st_aload_n (pc := 0) C.1 (some t) dX9_resize_0 rfl rfl ?_
  refine st_iconst (pc := 1) (v := 0) C.1 dX9_resize_1 (by decide) ?_
  refine pI_RX9_85 (pc := 2) C.1 dX9_resize_2 (hS.k _) ?_
  rw [pI903]
  refine st_iload_n (pc := 5) C.1 dX9_resize_5 rfl rfl ?_
  refine st_iconst (pc := 6) (v := 1) C.1 dX9_resize_6 (by decide) ?_
  refine st_icmp_ge (pc := 7) (tgt := 12) C.1 dX9_resize_7 (by decide) (fun c0 => ?_) (fun c0 => ?_)
  · refine st_aload_n (pc := 12) C.1 (some t) dX9_resize_12 rfl rfl ?_
    refine st_iload_n (pc := 13) C.1 dX9_resize_13 rfl rfl ?_
    exact (k0 c0)
  · refine st_iconst (pc := 10) (v := 0) C.1 dX9_resize_10 (by decide) ?_
    exact rt_i C (Or.inl rfl) dX9_resize_11 hc hs ⟨_, rfl, (k1 c0)⟩

theorem sm_resize_17 {X : CX} {d mc ms cells slots : Nat} {pp : Int32 → Hp → Prop} {h : Hp} {t : Nat} {ρ A : Nat → Nat} {m : Mo} {x1 : Int32} {x2 : Int32} {u0 : Int32} (C : CmI X mX9_resize d mc ms pp) (hS : MS h t ρ A) (h0 : ¬ u0 = (-1) → vp_in u0 800) (k0 : ¬ u0 = (-1) → At X cells slots 40 [some (va_rf (some t)), some (.int x1), some (.int x2), some (.int u0), some (.int (m.2 909 (u0.toNatClampNeg))), none, none] [.int x2, va_rf (some t)] (mput h t ρ m)) (k1 : u0 = (-1) → At X cells slots 25 [some (va_rf (some t)), some (.int x1), some (.int x2), some (.int u0), none, none, none] [.int x1, va_rf (some t)] (mput h t ρ m)) : At X cells slots 17 [some (va_rf (some t)), some (.int x1), some (.int x2), none, none, none, none] [.int u0] (mput h t ρ m) := by
  refine sv_istore_n (pc := 17) (i := 3) C.1 [some (va_rf (some t)), some (.int x1), some (.int x2), some (.int u0), none, none, none] dX9_resize_17 rfl (Nat.le_of_ble_eq_true rfl) (by rw [C.2.1]; exact Nat.le_of_ble_eq_true rfl) rfl rfl ?_
  refine st_iload_n (pc := 18) C.1 dX9_resize_18 rfl rfl ?_
  refine st_iconst (pc := 19) (v := (-1)) C.1 dX9_resize_19 (by decide) ?_
  refine st_icmp_ne (pc := 20) (tgt := 30) C.1 dX9_resize_20 (by decide) (fun c0 => ?_) (fun c0 => ?_)
  · refine st_aload_n (pc := 30) C.1 (some t) dX9_resize_30 rfl rfl ?_
    refine gR_RX9_26 (pc := 31) C.1 (some (A 909)) dX9_resize_31 (hS.k _) (hS.r _ 909) ?_
    refine st_iload_n (pc := 34) C.1 dX9_resize_34 rfl rfl ?_
    refine sv_iaload (pc := 35) C.1 (m.2 909 (u0.toNatClampNeg)) dX9_resize_35 (hS.ki _ 909) (by rw [nA909 hS]; exact (h0 c0)) (congrFun (mA909 hS _) _) ?_
    refine sv_istore (pc := 36) (i := 4) C.1 [some (va_rf (some t)), some (.int x1), some (.int x2), some (.int u0), some (.int (m.2 909 (u0.toNatClampNeg))), none, none] dX9_resize_36 (Nat.le_of_ble_eq_true rfl) (by rw [C.2.1]; exact Nat.le_of_ble_eq_true rfl) rfl rfl ?_
    refine st_aload_n (pc := 38) C.1 (some t) dX9_resize_38 rfl rfl ?_
    refine st_iload_n (pc := 39) C.1 dX9_resize_39 rfl rfl ?_
    exact (k0 c0)
  · refine st_aload_n (pc := 23) C.1 (some t) dX9_resize_23 rfl rfl ?_
    refine st_iload_n (pc := 24) C.1 dX9_resize_24 rfl rfl ?_
    exact (k1 c0)

theorem sm_resize_28 {X : CX} {d mc ms cells slots : Nat} {pp : Int32 → Hp → Prop} {h : Hp} {t : Nat} {ρ A : Nat → Nat} {m : Mo} {x1 : Int32} {x2 : Int32} {x3 : Int32} {u0 : Int32} (C : CmI X mX9_resize d mc ms pp) (hS : MS h t ρ A) (hc : cells ≤ mc) (hs : slots ≤ ms)  (k0 : pp (-u0) (mput h t ρ m)) : At X cells slots 28 [some (va_rf (some t)), some (.int x1), some (.int x2), some (.int x3), none, none, none] [.int u0] (mput h t ρ m) := by
  refine st_ineg (pc := 28) C.1 dX9_resize_28 ?_
  exact rt_i C (Or.inl rfl) dX9_resize_29 hc hs ⟨_, rfl, k0⟩

theorem sm_resize_43 {X : CX} {d mc ms cells slots : Nat} {pp : Int32 → Hp → Prop} {h : Hp} {t : Nat} {ρ A : Nat → Nat} {m : Mo} {x1 : Int32} {x2 : Int32} {x3 : Int32} {x4 : Int32} {u0 : Int32} (C : CmI X mX9_resize d mc ms pp) (hS : MS h t ρ A) (hc : cells ≤ mc) (hs : slots ≤ ms)  (k0 : ¬ u0 = 0 → At X cells slots 55 [some (va_rf (some t)), some (.int x1), some (.int x2), some (.int x3), some (.int x4), some (.int u0), some (.int 0)] [] (mput h t ρ m)) (k1 : u0 = 0 → pp 0 (mput h t ρ m)) : At X cells slots 43 [some (va_rf (some t)), some (.int x1), some (.int x2), some (.int x3), some (.int x4), none, none] [.int u0] (mput h t ρ m) := by
  refine sv_istore (pc := 43) (i := 5) C.1 [some (va_rf (some t)), some (.int x1), some (.int x2), some (.int x3), some (.int x4), some (.int u0), none] dX9_resize_43 (Nat.le_of_ble_eq_true rfl) (by rw [C.2.1]; exact Nat.le_of_ble_eq_true rfl) rfl rfl ?_
  refine st_iload (pc := 45) C.1 dX9_resize_45 rfl ?_
  refine st_if_ne (pc := 47) (tgt := 52) C.1 dX9_resize_47 (by decide) (fun c0 => ?_) (fun c0 => ?_)
  · refine st_iconst (pc := 52) (v := 0) C.1 dX9_resize_52 (by decide) ?_
    refine sv_istore (pc := 53) (i := 6) C.1 [some (va_rf (some t)), some (.int x1), some (.int x2), some (.int x3), some (.int x4), some (.int u0), some (.int 0)] dX9_resize_53 (Nat.le_of_ble_eq_true rfl) (by rw [C.2.1]; exact Nat.le_of_ble_eq_true rfl) rfl rfl ?_
    exact (k0 c0)
  · refine st_iconst (pc := 50) (v := 0) C.1 dX9_resize_50 (by decide) ?_
    exact rt_i C (Or.inl rfl) dX9_resize_51 hc hs ⟨_, rfl, (k1 c0)⟩

theorem sm_resize_55 {X : CX} {d mc ms cells slots : Nat} {pp : Int32 → Hp → Prop} {h : Hp} {t : Nat} {ρ A : Nat → Nat} {m : Mo} {x1 : Int32} {x2 : Int32} {x3 : Int32} {x4 : Int32} {x5 : Int32} {x6 : Int32} (C : CmI X mX9_resize d mc ms pp) (hS : MS h t ρ A) (h0 : ¬ x2 ≤ x6 → ¬ x4 ≤ x6 → vp_in (x1 + x6) 3001) (h1 : ¬ x2 ≤ x6 → ¬ x4 ≤ x6 → vp_in (x5 + x6) 3001) (k0 : x2 ≤ x6 → At X cells slots 96 [some (va_rf (some t)), some (.int x1), some (.int x2), some (.int x3), some (.int x4), some (.int x5), some (.int x6)] [.int x1, va_rf (some t), va_rf (some t)] (mput h t ρ m)) (k1 : ¬ x2 ≤ x6 → x4 ≤ x6 → At X cells slots 96 [some (va_rf (some t)), some (.int x1), some (.int x2), some (.int x3), some (.int x4), some (.int x5), some (.int x6)] [.int x1, va_rf (some t), va_rf (some t)] (mput h t ρ m)) (k2 : ¬ x2 ≤ x6 → ¬ x4 ≤ x6 → At X cells slots 55 [some (va_rf (some t)), some (.int x1), some (.int x2), some (.int x3), some (.int x4), some (.int x5), some (.int (x6 + 1))] [] (mput h t ρ (m.1, up2 m.2 904 ((x5 + x6).toNatClampNeg) (m.2 904 ((x1 + x6).toNatClampNeg))))) : At X cells slots 55 [some (va_rf (some t)), some (.int x1), some (.int x2), some (.int x3), some (.int x4), some (.int x5), some (.int x6)] [] (mput h t ρ m) := by
  refine st_iload (pc := 55) C.1 dX9_resize_55 rfl ?_
  refine st_iload_n (pc := 57) C.1 dX9_resize_57 rfl rfl ?_
  refine st_icmp_ge (pc := 58) (tgt := 93) C.1 dX9_resize_58 (by decide) (fun c0 => ?_) (fun c0 => ?_)
  · refine st_aload_n (pc := 93) C.1 (some t) dX9_resize_93 rfl rfl ?_
    refine st_aload_n (pc := 94) C.1 (some t) dX9_resize_94 rfl rfl ?_
    refine st_iload_n (pc := 95) C.1 dX9_resize_95 rfl rfl ?_
    exact (k0 c0)
  · refine st_iload (pc := 61) C.1 dX9_resize_61 rfl ?_
    refine st_iload (pc := 63) C.1 dX9_resize_63 rfl ?_
    refine st_icmp_ge (pc := 65) (tgt := 93) C.1 dX9_resize_65 (by decide) (fun c1 => ?_) (fun c1 => ?_)
    · refine st_aload_n (pc := 93) C.1 (some t) dX9_resize_93 rfl rfl ?_
      refine st_aload_n (pc := 94) C.1 (some t) dX9_resize_94 rfl rfl ?_
      refine st_iload_n (pc := 95) C.1 dX9_resize_95 rfl rfl ?_
      exact (k1 c0 c1)
    · refine st_aload_n (pc := 68) C.1 (some t) dX9_resize_68 rfl rfl ?_
      refine gR_RX9_7 (pc := 69) C.1 (some (A 904)) dX9_resize_69 (hS.k _) (hS.r _ 904) ?_
      refine st_iload (pc := 72) C.1 dX9_resize_72 rfl ?_
      refine st_iload (pc := 74) C.1 dX9_resize_74 rfl ?_
      refine st_iadd (pc := 76) C.1 dX9_resize_76 ?_
      refine st_aload_n (pc := 77) C.1 (some t) dX9_resize_77 rfl rfl ?_
      refine gR_RX9_7 (pc := 78) C.1 (some (A 904)) dX9_resize_78 (hS.k _) (hS.r _ 904) ?_
      refine st_iload_n (pc := 81) C.1 dX9_resize_81 rfl rfl ?_
      refine st_iload (pc := 82) C.1 dX9_resize_82 rfl ?_
      refine st_iadd (pc := 84) C.1 dX9_resize_84 ?_
      refine sv_iaload (pc := 85) C.1 (m.2 904 ((x1 + x6).toNatClampNeg)) dX9_resize_85 (hS.ki _ 904) (by rw [nA904 hS]; exact (h0 c0 c1)) (congrFun (mA904 hS _) _) ?_
      refine st_iastore (pc := 86) C.1 dX9_resize_86 (hS.ki _ 904) (by rw [nA904 hS]; exact (h1 c0 c1)) ?_
      rw [pA904 hS]
      refine sv_iinc (pc := 87) (i := 6) (v := x6 + 1) C.1 [some (va_rf (some t)), some (.int x1), some (.int x2), some (.int x3), some (.int x4), some (.int x5), some (.int (x6 + 1))] dX9_resize_87 rfl rfl (by rw [C.2.1]; exact Nat.le_of_ble_eq_true rfl) rfl rfl ?_
      refine st_goto (pc := 90) (tgt := 55) C.1 dX9_resize_90 (by decide) ?_
      exact (k2 c0 c1)

theorem sm_resize_99 {X : CX} {d mc ms cells slots : Nat} {pp : Int32 → Hp → Prop} {h : Hp} {t : Nat} {ρ A : Nat → Nat} {m : Mo} {x1 : Int32} {x2 : Int32} {x3 : Int32} {x4 : Int32} {x5 : Int32} {x6 : Int32} {u0 : Int32} {p1 : Option Nat} (C : CmI X mX9_resize d mc ms pp) (hS : MS h t ρ A)  (k0 : At X cells slots 99 [some (va_rf (some t)), some (.int x1), some (.int x2), some (.int x3), some (.int x4), some (.int x5), some (.int x6)] [.int u0, va_rf p1] (mput h t ρ m)) : At X cells slots 99 [some (va_rf (some t)), some (.int x1), some (.int x2), some (.int x3), some (.int x4), some (.int x5), some (.int x6)] [.int u0, va_rf p1] (mput h t ρ m) := by
  exact k0

theorem sm_resize_102 {X : CX} {d mc ms cells slots : Nat} {pp : Int32 → Hp → Prop} {h : Hp} {t : Nat} {ρ A : Nat → Nat} {m : Mo} {x1 : Int32} {x2 : Int32} {x3 : Int32} {x4 : Int32} {x5 : Int32} {x6 : Int32} (C : CmI X mX9_resize d mc ms pp) (hS : MS h t ρ A) (hc : cells ≤ mc) (hs : slots ≤ ms)  (k0 : pp x5 (mput h t ρ m)) : At X cells slots 102 [some (va_rf (some t)), some (.int x1), some (.int x2), some (.int x3), some (.int x4), some (.int x5), some (.int x6)] [] (mput h t ρ m) := by
  refine st_iload (pc := 102) C.1 dX9_resize_102 rfl ?_
  exact rt_i C (Or.inl rfl) dX9_resize_104 hc hs ⟨_, rfl, k0⟩

theorem sm_load_0 {X : CX} {d mc ms cells slots : Nat} {pp : Int32 → Hp → Prop} {h : Hp} {t : Nat} {ρ A : Nat → Nat} {m : Mo} {x1 : Int32} (C : CmI X mX9_load d mc ms pp) (hS : MS h t ρ A)  (k0 : At X cells slots 7 [some (va_rf (some t)), some (.int x1), none] [.int x1, va_rf (some t)] (mput h t ρ (up1 m.1 903 0, m.2))) : At X cells slots 0 [some (va_rf (some t)), some (.int x1), none] [] (mput h t ρ m) := by
  refine st_aload_n (pc := 0) C.1 (some t) dX9_load_0 rfl rfl ?_
  refine st_iconst (pc := 1) (v := 0) C.1 dX9_load_1 (by decide) ?_
  refine pI_RX9_85 (pc := 2) C.1 dX9_load_2 (hS.k _) ?_
  rw [pI903]
  refine st_aload_n (pc := 5) C.1 (some t) dX9_load_5 rfl rfl ?_
  refine st_iload_n (pc := 6) C.1 dX9_load_6 rfl rfl ?_
  exact k0

theorem sm_load_10 {X : CX} {d mc ms cells slots : Nat} {pp : Int32 → Hp → Prop} {h : Hp} {t : Nat} {ρ A : Nat → Nat} {m : Mo} {x1 : Int32} {u0 : Int32} (C : CmI X mX9_load d mc ms pp) (hS : MS h t ρ A) (hc : cells ≤ mc) (hs : slots ≤ ms) (h0 : u0 = 0 → vp_in x1 3001) (k0 : ¬ u0 = 0 → At X cells slots 25 [some (va_rf (some t)), some (.int x1), some (.int u0)] [.int x1, .int u0, va_rf (some t)] (mput h t ρ m)) (k1 : u0 = 0 → pp (m.2 904 (x1.toNatClampNeg)) (mput h t ρ m)) : At X cells slots 10 [some (va_rf (some t)), some (.int x1), none] [.int u0] (mput h t ρ m) := by
  refine sv_istore_n (pc := 10) (i := 2) C.1 [some (va_rf (some t)), some (.int x1), some (.int u0)] dX9_load_10 rfl (Nat.le_of_ble_eq_true rfl) (by rw [C.2.1]; exact Nat.le_of_ble_eq_true rfl) rfl rfl ?_
  refine st_iload_n (pc := 11) C.1 dX9_load_11 rfl rfl ?_
  refine st_if_ne (pc := 12) (tgt := 22) C.1 dX9_load_12 (by decide) (fun c0 => ?_) (fun c0 => ?_)
  · refine st_aload_n (pc := 22) C.1 (some t) dX9_load_22 rfl rfl ?_
    refine st_iload_n (pc := 23) C.1 dX9_load_23 rfl rfl ?_
    refine st_iload_n (pc := 24) C.1 dX9_load_24 rfl rfl ?_
    exact (k0 c0)
  · refine st_aload_n (pc := 15) C.1 (some t) dX9_load_15 rfl rfl ?_
    refine gR_RX9_7 (pc := 16) C.1 (some (A 904)) dX9_load_16 (hS.k _) (hS.r _ 904) ?_
    refine st_iload_n (pc := 19) C.1 dX9_load_19 rfl rfl ?_
    refine sv_iaload (pc := 20) C.1 (m.2 904 (x1.toNatClampNeg)) dX9_load_20 (hS.ki _ 904) (by rw [nA904 hS]; exact (h0 c0)) (congrFun (mA904 hS _) _) ?_
    exact rt_i C (Or.inl rfl) dX9_load_21 hc hs ⟨_, rfl, (k1 c0)⟩

theorem sm_load_28 {X : CX} {d mc ms cells slots : Nat} {pp : Int32 → Hp → Prop} {h : Hp} {t : Nat} {ρ A : Nat → Nat} {m : Mo} {x1 : Int32} {x2 : Int32} (C : CmI X mX9_load d mc ms pp) (hS : MS h t ρ A) (hc : cells ≤ mc) (hs : slots ≤ ms)  (k0 : pp 0 (mput h t ρ m)) : At X cells slots 28 [some (va_rf (some t)), some (.int x1), some (.int x2)] [] (mput h t ρ m) := by
  refine st_iconst (pc := 28) (v := 0) C.1 dX9_load_28 (by decide) ?_
  exact rt_i C (Or.inl rfl) dX9_load_29 hc hs ⟨_, rfl, k0⟩

theorem sm_store_0 {X : CX} {d mc ms cells slots : Nat} {pp : Int32 → Hp → Prop} {h : Hp} {t : Nat} {ρ A : Nat → Nat} {m : Mo} {x1 : Int32} {x2 : Int32} (C : CmI X mX9_store d mc ms pp) (hS : MS h t ρ A)  (k0 : At X cells slots 7 [some (va_rf (some t)), some (.int x1), some (.int x2), none] [.int x1, va_rf (some t)] (mput h t ρ (up1 m.1 903 0, m.2))) : At X cells slots 0 [some (va_rf (some t)), some (.int x1), some (.int x2), none] [] (mput h t ρ m) := by
  refine st_aload_n (pc := 0) C.1 (some t) dX9_store_0 rfl rfl ?_
  refine st_iconst (pc := 1) (v := 0) C.1 dX9_store_1 (by decide) ?_
  refine pI_RX9_85 (pc := 2) C.1 dX9_store_2 (hS.k _) ?_
  rw [pI903]
  refine st_aload_n (pc := 5) C.1 (some t) dX9_store_5 rfl rfl ?_
  refine st_iload_n (pc := 6) C.1 dX9_store_6 rfl rfl ?_
  exact k0

theorem sm_store_10 {X : CX} {d mc ms cells slots : Nat} {pp : Int32 → Hp → Prop} {h : Hp} {t : Nat} {ρ A : Nat → Nat} {m : Mo} {x1 : Int32} {x2 : Int32} {u0 : Int32} (C : CmI X mX9_store d mc ms pp) (hS : MS h t ρ A) (hc : cells ≤ mc) (hs : slots ≤ ms) (h0 : u0 = 0 → vp_in x1 3001) (k0 : ¬ u0 = 0 → At X cells slots 28 [some (va_rf (some t)), some (.int x1), some (.int x2), some (.int u0)] [.int x1, .int u0, va_rf (some t)] (mput h t ρ m)) (k1 : u0 = 0 → pp u0 (mput h t ρ (m.1, up2 m.2 904 (x1.toNatClampNeg) x2))) : At X cells slots 10 [some (va_rf (some t)), some (.int x1), some (.int x2), none] [.int u0] (mput h t ρ m) := by
  refine sv_istore_n (pc := 10) (i := 3) C.1 [some (va_rf (some t)), some (.int x1), some (.int x2), some (.int u0)] dX9_store_10 rfl (Nat.le_of_ble_eq_true rfl) (by rw [C.2.1]; exact Nat.le_of_ble_eq_true rfl) rfl rfl ?_
  refine st_iload_n (pc := 11) C.1 dX9_store_11 rfl rfl ?_
  refine st_if_ne (pc := 12) (tgt := 25) C.1 dX9_store_12 (by decide) (fun c0 => ?_) (fun c0 => ?_)
  · refine st_aload_n (pc := 25) C.1 (some t) dX9_store_25 rfl rfl ?_
    refine st_iload_n (pc := 26) C.1 dX9_store_26 rfl rfl ?_
    refine st_iload_n (pc := 27) C.1 dX9_store_27 rfl rfl ?_
    exact (k0 c0)
  · refine st_aload_n (pc := 15) C.1 (some t) dX9_store_15 rfl rfl ?_
    refine gR_RX9_7 (pc := 16) C.1 (some (A 904)) dX9_store_16 (hS.k _) (hS.r _ 904) ?_
    refine st_iload_n (pc := 19) C.1 dX9_store_19 rfl rfl ?_
    refine st_iload_n (pc := 20) C.1 dX9_store_20 rfl rfl ?_
    refine st_iastore (pc := 21) C.1 dX9_store_21 (hS.ki _ 904) (by rw [nA904 hS]; exact (h0 c0)) ?_
    rw [pA904 hS]
    refine st_goto (pc := 22) (tgt := 31) C.1 dX9_store_22 (by decide) ?_
    refine st_iload_n (pc := 31) C.1 dX9_store_31 rfl rfl ?_
    exact rt_i C (Or.inl rfl) dX9_store_32 hc hs ⟨_, rfl, (k1 c0)⟩

theorem sm_store_31 {X : CX} {d mc ms cells slots : Nat} {pp : Int32 → Hp → Prop} {h : Hp} {t : Nat} {ρ A : Nat → Nat} {m : Mo} {x1 : Int32} {x2 : Int32} {x3 : Int32} (C : CmI X mX9_store d mc ms pp) (hS : MS h t ρ A) (hc : cells ≤ mc) (hs : slots ≤ ms)  (k0 : pp x3 (mput h t ρ m)) : At X cells slots 31 [some (va_rf (some t)), some (.int x1), some (.int x2), some (.int x3)] [] (mput h t ρ m) := by
  refine st_iload_n (pc := 31) C.1 dX9_store_31 rfl rfl ?_
  exact rt_i C (Or.inl rfl) dX9_store_32 hc hs ⟨_, rfl, k0⟩

theorem sm_check_0 {X : CX} {d mc ms cells slots : Nat} {pp : Int32 → Hp → Prop} {h : Hp} {t : Nat} {ρ A : Nat → Nat} {m : Mo} {x1 : Int32} (C : CmI X mX9_check d mc ms pp) (hS : MS h t ρ A)  (k0 : At X cells slots 7 [some (va_rf (some t)), some (.int x1)] [.int x1, va_rf (some t)] (mput h t ρ (up1 m.1 903 0, m.2))) : At X cells slots 0 [some (va_rf (some t)), some (.int x1)] [] (mput h t ρ m) := by
  refine st_aload_n (pc := 0) C.1 (some t) dX9_check_0 rfl rfl ?_
  refine st_iconst (pc := 1) (v := 0) C.1 dX9_check_1 (by decide) ?_
  refine pI_RX9_85 (pc := 2) C.1 dX9_check_2 (hS.k _) ?_
  rw [pI903]
  refine st_aload_n (pc := 5) C.1 (some t) dX9_check_5 rfl rfl ?_
  refine st_iload_n (pc := 6) C.1 dX9_check_6 rfl rfl ?_
  exact k0

theorem sm_check_10 {X : CX} {d mc ms cells slots : Nat} {pp : Int32 → Hp → Prop} {h : Hp} {t : Nat} {ρ A : Nat → Nat} {m : Mo} {x1 : Int32} {u0 : Int32} (C : CmI X mX9_check d mc ms pp) (hS : MS h t ρ A) (hc : cells ≤ mc) (hs : slots ≤ ms)  (k0 : pp u0 (mput h t ρ m)) : At X cells slots 10 [some (va_rf (some t)), some (.int x1)] [.int u0] (mput h t ρ m) := by
  exact rt_i C (Or.inl rfl) dX9_check_10 hc hs ⟨_, rfl, k0⟩

theorem sm_copy_0 {X : CX} {d mc ms cells slots : Nat} {pp : Int32 → Hp → Prop} {h : Hp} {t : Nat} {ρ A : Nat → Nat} {m : Mo} {x1 : Int32} {x2 : Int32} {x3 : Int32} (C : CmI X mX9_copy d mc ms pp) (hS : MS h t ρ A) (hc : cells ≤ mc) (hs : slots ≤ ms)  (k0 : x3 < 0 → pp (-1) (mput h t ρ (up1 m.1 903 0, m.2))) (k1 : ¬ x3 < 0 → x3 ≤ 3000 → At X cells slots 21 [some (va_rf (some t)), some (.int x1), some (.int x2), some (.int x3), some (.int 0), none, none] [] (mput h t ρ (up1 m.1 903 0, m.2))) (k2 : ¬ x3 < 0 → ¬ x3 ≤ 3000 → pp (-1) (mput h t ρ (up1 m.1 903 0, m.2))) : At X cells slots 0 [some (va_rf (some t)), some (.int x1), some (.int x2), some (.int x3), none, none, none] [] (mput h t ρ m) := by
  refine st_aload_n (pc := 0) C.1 (some t) dX9_copy_0 rfl rfl ?_
  refine st_iconst (pc := 1) (v := 0) C.1 dX9_copy_1 (by decide) ?_
  refine pI_RX9_85 (pc := 2) C.1 dX9_copy_2 (hS.k _) ?_
  rw [pI903]
  refine st_iload_n (pc := 5) C.1 dX9_copy_5 rfl rfl ?_
  refine st_if_lt (pc := 6) (tgt := 16) C.1 dX9_copy_6 (by decide) (fun c0 => ?_) (fun c0 => ?_)
  · refine st_iconst (pc := 16) (v := (-1)) C.1 dX9_copy_16 (by decide) ?_
    exact rt_i C (Or.inl rfl) dX9_copy_17 hc hs ⟨_, rfl, (k0 c0)⟩
  · refine st_iload_n (pc := 9) C.1 dX9_copy_9 rfl rfl ?_
    refine st_sipush (pc := 10) (v := 3000) C.1 dX9_copy_10 (by decide) ?_
    refine st_icmp_le (pc := 13) (tgt := 18) C.1 dX9_copy_13 (by decide) (fun c1 => ?_) (fun c1 => ?_)
    · refine st_iconst (pc := 18) (v := 0) C.1 dX9_copy_18 (by decide) ?_
      refine sv_istore (pc := 19) (i := 4) C.1 [some (va_rf (some t)), some (.int x1), some (.int x2), some (.int x3), some (.int 0), none, none] dX9_copy_19 (Nat.le_of_ble_eq_true rfl) (by rw [C.2.1]; exact Nat.le_of_ble_eq_true rfl) rfl rfl ?_
      exact (k1 c0 c1)
    · refine st_iconst (pc := 16) (v := (-1)) C.1 dX9_copy_16 (by decide) ?_
      exact rt_i C (Or.inl rfl) dX9_copy_17 hc hs ⟨_, rfl, (k2 c0 c1)⟩

theorem sm_copy_21 {X : CX} {d mc ms cells slots : Nat} {pp : Int32 → Hp → Prop} {h : Hp} {t : Nat} {ρ A : Nat → Nat} {m : Mo} {x1 : Int32} {x2 : Int32} {x3 : Int32} {x4 : Int32} (C : CmI X mX9_copy d mc ms pp) (hS : MS h t ρ A)  (k0 : 2 * x3 ≤ x4 → At X cells slots 89 [some (va_rf (some t)), some (.int x1), some (.int x2), some (.int x3), some (.int 0), none, none] [] (mput h t ρ m)) (k1 : ¬ 2 * x3 ≤ x4 → x3 ≤ x4 → At X cells slots 53 [some (va_rf (some t)), some (.int x1), some (.int x2), some (.int x3), some (.int x4), some (.int ((x2 + x4) - x3)), none] [.int ((x2 + x4) - x3), va_rf (some t)] (mput h t ρ m)) (k2 : ¬ 2 * x3 ≤ x4 → ¬ x3 ≤ x4 → At X cells slots 53 [some (va_rf (some t)), some (.int x1), some (.int x2), some (.int x3), some (.int x4), some (.int (x1 + x4)), none] [.int (x1 + x4), va_rf (some t)] (mput h t ρ m)) : At X cells slots 21 [some (va_rf (some t)), some (.int x1), some (.int x2), some (.int x3), some (.int x4), none, none] [] (mput h t ρ m) := by
  refine st_iload (pc := 21) C.1 dX9_copy_21 rfl ?_
  refine st_iconst (pc := 23) (v := 2) C.1 dX9_copy_23 (by decide) ?_
  refine st_iload_n (pc := 24) C.1 dX9_copy_24 rfl rfl ?_
  refine st_imul (pc := 25) C.1 dX9_copy_25 ?_
  refine st_icmp_ge (pc := 26) (tgt := 86) C.1 dX9_copy_26 (by decide) (fun c0 => ?_) (fun c0 => ?_)
  · refine st_iconst (pc := 86) (v := 0) C.1 dX9_copy_86 (by decide) ?_
    refine sv_istore (pc := 87) (i := 4) C.1 [some (va_rf (some t)), some (.int x1), some (.int x2), some (.int x3), some (.int 0), none, none] dX9_copy_87 (Nat.le_of_ble_eq_true rfl) (by rw [C.2.1]; exact Nat.le_of_ble_eq_true rfl) rfl rfl ?_
    exact (k0 c0)
  · refine st_iload (pc := 29) C.1 dX9_copy_29 rfl ?_
    refine st_iload_n (pc := 31) C.1 dX9_copy_31 rfl rfl ?_
    refine st_icmp_ge (pc := 32) (tgt := 42) C.1 dX9_copy_32 (by decide) (fun c1 => ?_) (fun c1 => ?_)
    · refine st_iload_n (pc := 42) C.1 dX9_copy_42 rfl rfl ?_
      refine st_iload (pc := 43) C.1 dX9_copy_43 rfl ?_
      refine st_iadd (pc := 45) C.1 dX9_copy_45 ?_
      refine st_iload_n (pc := 46) C.1 dX9_copy_46 rfl rfl ?_
      refine st_isub (pc := 47) C.1 dX9_copy_47 ?_
      refine sv_istore (pc := 48) (i := 5) C.1 [some (va_rf (some t)), some (.int x1), some (.int x2), some (.int x3), some (.int x4), some (.int ((x2 + x4) - x3)), none] dX9_copy_48 (Nat.le_of_ble_eq_true rfl) (by rw [C.2.1]; exact Nat.le_of_ble_eq_true rfl) rfl rfl ?_
      refine st_aload_n (pc := 50) C.1 (some t) dX9_copy_50 rfl rfl ?_
      refine st_iload (pc := 51) C.1 dX9_copy_51 rfl ?_
      exact (k1 c0 c1)
    · refine st_iload_n (pc := 35) C.1 dX9_copy_35 rfl rfl ?_
      refine st_iload (pc := 36) C.1 dX9_copy_36 rfl ?_
      refine st_iadd (pc := 38) C.1 dX9_copy_38 ?_
      refine st_goto (pc := 39) (tgt := 48) C.1 dX9_copy_39 (by decide) ?_
      refine sv_istore (pc := 48) (i := 5) C.1 [some (va_rf (some t)), some (.int x1), some (.int x2), some (.int x3), some (.int x4), some (.int (x1 + x4)), none] dX9_copy_48 (Nat.le_of_ble_eq_true rfl) (by rw [C.2.1]; exact Nat.le_of_ble_eq_true rfl) rfl rfl ?_
      refine st_aload_n (pc := 50) C.1 (some t) dX9_copy_50 rfl rfl ?_
      refine st_iload (pc := 51) C.1 dX9_copy_51 rfl ?_
      exact (k2 c0 c1)

theorem sm_copy_56 {X : CX} {d mc ms cells slots : Nat} {pp : Int32 → Hp → Prop} {h : Hp} {t : Nat} {ρ A : Nat → Nat} {m : Mo} {x1 : Int32} {x2 : Int32} {x3 : Int32} {x4 : Int32} {x5 : Int32} {u0 : Int32} (C : CmI X mX9_copy d mc ms pp) (hS : MS h t ρ A)  (k0 : ¬ u0 = 0 → At X cells slots 71 [some (va_rf (some t)), some (.int x1), some (.int x2), some (.int x3), some (.int x4), some (.int x5), some (.int u0)] [.int x5, .int u0, va_rf (some t)] (mput h t ρ m)) (k1 : u0 = 0 → At X cells slots 21 [some (va_rf (some t)), some (.int x1), some (.int x2), some (.int x3), some (.int (x4 + 1)), some (.int x5), some (.int u0)] [] (mput h t ρ m)) : At X cells slots 56 [some (va_rf (some t)), some (.int x1), some (.int x2), some (.int x3), some (.int x4), some (.int x5), none] [.int u0] (mput h t ρ m) := by
  refine sv_istore (pc := 56) (i := 6) C.1 [some (va_rf (some t)), some (.int x1), some (.int x2), some (.int x3), some (.int x4), some (.int x5), some (.int u0)] dX9_copy_56 (Nat.le_of_ble_eq_true rfl) (by rw [C.2.1]; exact Nat.le_of_ble_eq_true rfl) rfl rfl ?_
  refine st_iload (pc := 58) C.1 dX9_copy_58 rfl ?_
  refine st_if_ne (pc := 60) (tgt := 66) C.1 dX9_copy_60 (by decide) (fun c0 => ?_) (fun c0 => ?_)
  · refine st_aload_n (pc := 66) C.1 (some t) dX9_copy_66 rfl rfl ?_
    refine st_iload (pc := 67) C.1 dX9_copy_67 rfl ?_
    refine st_iload (pc := 69) C.1 dX9_copy_69 rfl ?_
    exact (k0 c0)
  · refine st_goto (pc := 63) (tgt := 80) C.1 dX9_copy_63 (by decide) ?_
    refine sv_iinc (pc := 80) (i := 4) (v := x4 + 1) C.1 [some (va_rf (some t)), some (.int x1), some (.int x2), some (.int x3), some (.int (x4 + 1)), some (.int x5), some (.int u0)] dX9_copy_80 rfl rfl (by rw [C.2.1]; exact Nat.le_of_ble_eq_true rfl) rfl rfl ?_
    refine st_goto (pc := 83) (tgt := 21) C.1 dX9_copy_83 (by decide) ?_
    exact (k1 c0)

theorem sm_copy_74 {X : CX} {d mc ms cells slots : Nat} {pp : Int32 → Hp → Prop} {h : Hp} {t : Nat} {ρ A : Nat → Nat} {m : Mo} {x1 : Int32} {x2 : Int32} {x3 : Int32} {x4 : Int32} {x5 : Int32} {x6 : Int32} (C : CmI X mX9_copy d mc ms pp) (hS : MS h t ρ A) (hc : cells ≤ mc) (hs : slots ≤ ms)  (k0 : pp ((-2) - x4) (mput h t ρ m)) : At X cells slots 74 [some (va_rf (some t)), some (.int x1), some (.int x2), some (.int x3), some (.int x4), some (.int x5), some (.int x6)] [] (mput h t ρ m) := by
  refine st_bipush (pc := 74) (v := (-2)) C.1 dX9_copy_74 (by decide) ?_
  refine st_iload (pc := 76) C.1 dX9_copy_76 rfl ?_
  refine st_isub (pc := 78) C.1 dX9_copy_78 ?_
  exact rt_i C (Or.inl rfl) dX9_copy_79 hc hs ⟨_, rfl, k0⟩

theorem sm_copy_89 {X : CX} {d mc ms cells slots : Nat} {pp : Int32 → Hp → Prop} {h : Hp} {t : Nat} {ρ A : Nat → Nat} {m : Mo} {x1 : Int32} {x2 : Int32} {x3 : Int32} {x4 : Int32} (C : CmI X mX9_copy d mc ms pp) (hS : MS h t ρ A) (h0 : ¬ x3 ≤ x4 → vp_in (x1 + x4) 3001) (h1 : ¬ x3 ≤ x4 → vp_in x4 3001) (k0 : x3 ≤ x4 → At X cells slots 120 [some (va_rf (some t)), some (.int x1), some (.int x2), some (.int x3), some (.int 0), none, none] [] (mput h t ρ m)) (k1 : ¬ x3 ≤ x4 → At X cells slots 89 [some (va_rf (some t)), some (.int x1), some (.int x2), some (.int x3), some (.int (x4 + 1)), none, none] [] (mput h t ρ (m.1, up2 m.2 925 (x4.toNatClampNeg) (m.2 904 ((x1 + x4).toNatClampNeg))))) : At X cells slots 89 [some (va_rf (some t)), some (.int x1), some (.int x2), some (.int x3), some (.int x4), none, none] [] (mput h t ρ m) := by
  refine st_iload (pc := 89) C.1 dX9_copy_89 rfl ?_
  refine st_iload_n (pc := 91) C.1 dX9_copy_91 rfl rfl ?_
  refine st_icmp_ge (pc := 92) (tgt := 117) C.1 dX9_copy_92 (by decide) (fun c0 => ?_) (fun c0 => ?_)
  · refine st_iconst (pc := 117) (v := 0) C.1 dX9_copy_117 (by decide) ?_
    refine sv_istore (pc := 118) (i := 4) C.1 [some (va_rf (some t)), some (.int x1), some (.int x2), some (.int x3), some (.int 0), none, none] dX9_copy_118 (Nat.le_of_ble_eq_true rfl) (by rw [C.2.1]; exact Nat.le_of_ble_eq_true rfl) rfl rfl ?_
    exact (k0 c0)
  · refine st_aload_n (pc := 95) C.1 (some t) dX9_copy_95 rfl rfl ?_
    refine gR_RX9_50 (pc := 96) C.1 (some (A 925)) dX9_copy_96 (hS.k _) (hS.r _ 925) ?_
    refine st_iload (pc := 99) C.1 dX9_copy_99 rfl ?_
    refine st_aload_n (pc := 101) C.1 (some t) dX9_copy_101 rfl rfl ?_
    refine gR_RX9_7 (pc := 102) C.1 (some (A 904)) dX9_copy_102 (hS.k _) (hS.r _ 904) ?_
    refine st_iload_n (pc := 105) C.1 dX9_copy_105 rfl rfl ?_
    refine st_iload (pc := 106) C.1 dX9_copy_106 rfl ?_
    refine st_iadd (pc := 108) C.1 dX9_copy_108 ?_
    refine sv_iaload (pc := 109) C.1 (m.2 904 ((x1 + x4).toNatClampNeg)) dX9_copy_109 (hS.ki _ 904) (by rw [nA904 hS]; exact (h0 c0)) (congrFun (mA904 hS _) _) ?_
    refine st_iastore (pc := 110) C.1 dX9_copy_110 (hS.ki _ 925) (by rw [nA925 hS]; exact (h1 c0)) ?_
    rw [pA925 hS]
    refine sv_iinc (pc := 111) (i := 4) (v := x4 + 1) C.1 [some (va_rf (some t)), some (.int x1), some (.int x2), some (.int x3), some (.int (x4 + 1)), none, none] dX9_copy_111 rfl rfl (by rw [C.2.1]; exact Nat.le_of_ble_eq_true rfl) rfl rfl ?_
    refine st_goto (pc := 114) (tgt := 89) C.1 dX9_copy_114 (by decide) ?_
    exact (k1 c0)

theorem sm_copy_120 {X : CX} {d mc ms cells slots : Nat} {pp : Int32 → Hp → Prop} {h : Hp} {t : Nat} {ρ A : Nat → Nat} {m : Mo} {x1 : Int32} {x2 : Int32} {x3 : Int32} {x4 : Int32} (C : CmI X mX9_copy d mc ms pp) (hS : MS h t ρ A) (hc : cells ≤ mc) (hs : slots ≤ ms) (h0 : ¬ x3 ≤ x4 → vp_in x4 3001) (h1 : ¬ x3 ≤ x4 → vp_in (x2 + x4) 3001) (k0 : x3 ≤ x4 → pp x3 (mput h t ρ m)) (k1 : ¬ x3 ≤ x4 → At X cells slots 120 [some (va_rf (some t)), some (.int x1), some (.int x2), some (.int x3), some (.int (x4 + 1)), none, none] [] (mput h t ρ (m.1, up2 m.2 904 ((x2 + x4).toNatClampNeg) (m.2 925 (x4.toNatClampNeg))))) : At X cells slots 120 [some (va_rf (some t)), some (.int x1), some (.int x2), some (.int x3), some (.int x4), none, none] [] (mput h t ρ m) := by
  refine st_iload (pc := 120) C.1 dX9_copy_120 rfl ?_
  refine st_iload_n (pc := 122) C.1 dX9_copy_122 rfl rfl ?_
  refine st_icmp_ge (pc := 123) (tgt := 148) C.1 dX9_copy_123 (by decide) (fun c0 => ?_) (fun c0 => ?_)
  · refine st_iload_n (pc := 148) C.1 dX9_copy_148 rfl rfl ?_
    exact rt_i C (Or.inl rfl) dX9_copy_149 hc hs ⟨_, rfl, (k0 c0)⟩
  · refine st_aload_n (pc := 126) C.1 (some t) dX9_copy_126 rfl rfl ?_
    refine gR_RX9_7 (pc := 127) C.1 (some (A 904)) dX9_copy_127 (hS.k _) (hS.r _ 904) ?_
    refine st_iload_n (pc := 130) C.1 dX9_copy_130 rfl rfl ?_
    refine st_iload (pc := 131) C.1 dX9_copy_131 rfl ?_
    refine st_iadd (pc := 133) C.1 dX9_copy_133 ?_
    refine st_aload_n (pc := 134) C.1 (some t) dX9_copy_134 rfl rfl ?_
    refine gR_RX9_50 (pc := 135) C.1 (some (A 925)) dX9_copy_135 (hS.k _) (hS.r _ 925) ?_
    refine st_iload (pc := 138) C.1 dX9_copy_138 rfl ?_
    refine sv_iaload (pc := 140) C.1 (m.2 925 (x4.toNatClampNeg)) dX9_copy_140 (hS.ki _ 925) (by rw [nA925 hS]; exact (h0 c0)) (congrFun (mA925 hS _) _) ?_
    refine st_iastore (pc := 141) C.1 dX9_copy_141 (hS.ki _ 904) (by rw [nA904 hS]; exact (h1 c0)) ?_
    rw [pA904 hS]
    refine sv_iinc (pc := 142) (i := 4) (v := x4 + 1) C.1 [some (va_rf (some t)), some (.int x1), some (.int x2), some (.int x3), some (.int (x4 + 1)), none, none] dX9_copy_142 rfl rfl (by rw [C.2.1]; exact Nat.le_of_ble_eq_true rfl) rfl rfl ?_
    refine st_goto (pc := 145) (tgt := 120) C.1 dX9_copy_145 (by decide) ?_
    exact (k1 c0)

theorem sm_sizeOf_0 {X : CX} {d mc ms cells slots : Nat} {pp : Int32 → Hp → Prop} {h : Hp} {t : Nat} {ρ A : Nat → Nat} {m : Mo} {x1 : Int32} (C : CmI X mX9_sizeOf d mc ms pp) (hS : MS h t ρ A)  (k0 : At X cells slots 7 [some (va_rf (some t)), some (.int x1), none] [.int x1, va_rf (some t)] (mput h t ρ (up1 m.1 903 0, m.2))) : At X cells slots 0 [some (va_rf (some t)), some (.int x1), none] [] (mput h t ρ m) := by
  refine st_aload_n (pc := 0) C.1 (some t) dX9_sizeOf_0 rfl rfl ?_
  refine st_iconst (pc := 1) (v := 0) C.1 dX9_sizeOf_1 (by decide) ?_
  refine pI_RX9_85 (pc := 2) C.1 dX9_sizeOf_2 (hS.k _) ?_
  rw [pI903]
  refine st_aload_n (pc := 5) C.1 (some t) dX9_sizeOf_5 rfl rfl ?_
  refine st_iload_n (pc := 6) C.1 dX9_sizeOf_6 rfl rfl ?_
  exact k0

theorem sm_sizeOf_10 {X : CX} {d mc ms cells slots : Nat} {pp : Int32 → Hp → Prop} {h : Hp} {t : Nat} {ρ A : Nat → Nat} {m : Mo} {x1 : Int32} {u0 : Int32} (C : CmI X mX9_sizeOf d mc ms pp) (hS : MS h t ρ A) (hc : cells ≤ mc) (hs : slots ≤ ms) (h0 : ¬ u0 = (-1) → vp_in u0 800) (k0 : ¬ u0 = (-1) → pp (m.2 909 (u0.toNatClampNeg)) (mput h t ρ m)) (k1 : u0 = (-1) → pp (-1) (mput h t ρ m)) : At X cells slots 10 [some (va_rf (some t)), some (.int x1), none] [.int u0] (mput h t ρ m) := by
  refine sv_istore_n (pc := 10) (i := 2) C.1 [some (va_rf (some t)), some (.int x1), some (.int u0)] dX9_sizeOf_10 rfl (Nat.le_of_ble_eq_true rfl) (by rw [C.2.1]; exact Nat.le_of_ble_eq_true rfl) rfl rfl ?_
  refine st_iload_n (pc := 11) C.1 dX9_sizeOf_11 rfl rfl ?_
  refine st_iconst (pc := 12) (v := (-1)) C.1 dX9_sizeOf_12 (by decide) ?_
  refine st_icmp_ne (pc := 13) (tgt := 20) C.1 dX9_sizeOf_13 (by decide) (fun c0 => ?_) (fun c0 => ?_)
  · refine st_aload_n (pc := 20) C.1 (some t) dX9_sizeOf_20 rfl rfl ?_
    refine gR_RX9_26 (pc := 21) C.1 (some (A 909)) dX9_sizeOf_21 (hS.k _) (hS.r _ 909) ?_
    refine st_iload_n (pc := 24) C.1 dX9_sizeOf_24 rfl rfl ?_
    refine sv_iaload (pc := 25) C.1 (m.2 909 (u0.toNatClampNeg)) dX9_sizeOf_25 (hS.ki _ 909) (by rw [nA909 hS]; exact (h0 c0)) (congrFun (mA909 hS _) _) ?_
    exact rt_i C (Or.inl rfl) dX9_sizeOf_26 hc hs ⟨_, rfl, (k0 c0)⟩
  · refine st_iconst (pc := 16) (v := (-1)) C.1 dX9_sizeOf_16 (by decide) ?_
    refine st_goto (pc := 17) (tgt := 26) C.1 dX9_sizeOf_17 (by decide) ?_
    exact rt_i C (Or.inl rfl) dX9_sizeOf_26 hc hs ⟨_, rfl, (k1 c0)⟩

theorem sm_describe_0 {X : CX} {d mc ms cells slots : Nat} {pp : Int32 → Hp → Prop} {h : Hp} {t : Nat} {ρ A : Nat → Nat} {m : Mo} {x1 : Int32} {x2 : Int32} (C : CmI X mX9_describe d mc ms pp) (hS : MS h t ρ A) (hc : cells ≤ mc) (hs : slots ≤ ms)  (k0 : x2 < 0 → pp (-1) (mput h t ρ (up1 m.1 903 0, m.2))) (k1 : ¬ x2 < 0 → x2 ≤ 5 → At X cells slots 18 [some (va_rf (some t)), some (.int x1), some (.int x2), none] [.int x1, va_rf (some t)] (mput h t ρ (up1 m.1 903 0, m.2))) (k2 : ¬ x2 < 0 → ¬ x2 ≤ 5 → pp (-1) (mput h t ρ (up1 m.1 903 0, m.2))) : At X cells slots 0 [some (va_rf (some t)), some (.int x1), some (.int x2), none] [] (mput h t ρ m) := by
  refine st_aload_n (pc := 0) C.1 (some t) dX9_describe_0 rfl rfl ?_
  refine st_iconst (pc := 1) (v := 0) C.1 dX9_describe_1 (by decide) ?_
  refine pI_RX9_85 (pc := 2) C.1 dX9_describe_2 (hS.k _) ?_
  rw [pI903]
  refine st_iload_n (pc := 5) C.1 dX9_describe_5 rfl rfl ?_
  refine st_if_lt (pc := 6) (tgt := 14) C.1 dX9_describe_6 (by decide) (fun c0 => ?_) (fun c0 => ?_)
  · refine st_iconst (pc := 14) (v := (-1)) C.1 dX9_describe_14 (by decide) ?_
    exact rt_i C (Or.inl rfl) dX9_describe_15 hc hs ⟨_, rfl, (k0 c0)⟩
  · refine st_iload_n (pc := 9) C.1 dX9_describe_9 rfl rfl ?_
    refine st_iconst (pc := 10) (v := 5) C.1 dX9_describe_10 (by decide) ?_
    refine st_icmp_le (pc := 11) (tgt := 16) C.1 dX9_describe_11 (by decide) (fun c1 => ?_) (fun c1 => ?_)
    · refine st_aload_n (pc := 16) C.1 (some t) dX9_describe_16 rfl rfl ?_
      refine st_iload_n (pc := 17) C.1 dX9_describe_17 rfl rfl ?_
      exact (k1 c0 c1)
    · refine st_iconst (pc := 14) (v := (-1)) C.1 dX9_describe_14 (by decide) ?_
      exact rt_i C (Or.inl rfl) dX9_describe_15 hc hs ⟨_, rfl, (k2 c0 c1)⟩

theorem sm_describe_21 {X : CX} {d mc ms cells slots : Nat} {pp : Int32 → Hp → Prop} {h : Hp} {t : Nat} {ρ A : Nat → Nat} {m : Mo} {x1 : Int32} {x2 : Int32} {u0 : Int32} (C : CmI X mX9_describe d mc ms pp) (hS : MS h t ρ A) (hc : cells ≤ mc) (hs : slots ≤ ms) (h0 : ¬ u0 = (-1) → x2 = 1 → vp_in u0 800) (h1 : ¬ u0 = (-1) → x2 = 2 → vp_in u0 800) (h2 : ¬ u0 = (-1) → x2 = 3 → vp_in u0 800) (k0 : ¬ u0 = (-1) → x2.toInt < 0 ∨ 4 < x2.toInt → At X cells slots 112 [some (va_rf (some t)), some (.int x1), some (.int x2), some (.int u0)] [.int u0, va_rf (some t), .int x1] (mput h t ρ m)) (k1 : ¬ u0 = (-1) → x2 = 0 → At X cells slots 70 [some (va_rf (some t)), some (.int x1), some (.int x2), some (.int u0)] [.int u0, va_rf (some t)] (mput h t ρ m)) (k2 : ¬ u0 = (-1) → x2 = 1 → pp (m.2 909 (u0.toNatClampNeg)) (mput h t ρ m)) (k3 : ¬ u0 = (-1) → x2 = 2 → pp (m.2 908 (u0.toNatClampNeg)) (mput h t ρ m)) (k4 : ¬ u0 = (-1) → x2 = 3 → pp (m.2 910 (u0.toNatClampNeg)) (mput h t ρ m)) (k5 : ¬ u0 = (-1) → x2 = 4 → At X cells slots 97 [some (va_rf (some t)), some (.int x1), some (.int x2), some (.int u0)] [.int u0, va_rf (some t)] (mput h t ρ m)) (k6 : u0 = (-1) → pp 0 (mput h t ρ (up1 m.1 903 1, m.2))) : At X cells slots 21 [some (va_rf (some t)), some (.int x1), some (.int x2), none] [.int u0] (mput h t ρ m) := by
  refine sv_istore_n (pc := 21) (i := 3) C.1 [some (va_rf (some t)), some (.int x1), some (.int x2), some (.int u0)] dX9_describe_21 rfl (Nat.le_of_ble_eq_true rfl) (by rw [C.2.1]; exact Nat.le_of_ble_eq_true rfl) rfl rfl ?_
  refine st_iload_n (pc := 22) C.1 dX9_describe_22 rfl rfl ?_
  refine st_iconst (pc := 23) (v := (-1)) C.1 dX9_describe_23 (by decide) ?_
  refine st_icmp_ne (pc := 24) (tgt := 34) C.1 dX9_describe_24 (by decide) (fun c0 => ?_) (fun c0 => ?_)
  · refine st_iload_n (pc := 34) C.1 dX9_describe_34 rfl rfl ?_
    by_cases c1o : x2.toInt < 0 ∨ 4 < x2.toInt
    · refine st_tableOut (pc := 35) (tgt := 109) C.1 dX9_describe_35 c1o (by decide) ?_
      refine st_iload_n (pc := 109) C.1 dX9_describe_109 rfl rfl ?_
      refine st_aload_n (pc := 110) C.1 (some t) dX9_describe_110 rfl rfl ?_
      refine st_iload_n (pc := 111) C.1 dX9_describe_111 rfl rfl ?_
      exact (k0 c0 c1o)
    · rcases (show x2.toInt = 0 ∨ x2.toInt = 1 ∨ x2.toInt = 2 ∨ x2.toInt = 3 ∨ x2.toInt = 4 by omega) with c1 | c1 | c1 | c1 | c1
      · have c1e : x2 = 0 := Int32.toInt_inj.mp (by rw [c1]; rfl)
        refine st_tableIn (pc := 35) (off := 33) (tgt := 68) C.1 dX9_describe_35 (by omega) (by omega) (by rw [c1]; rfl) (by decide) ?_
        refine st_aload_n (pc := 68) C.1 (some t) dX9_describe_68 rfl rfl ?_
        refine st_iload_n (pc := 69) C.1 dX9_describe_69 rfl rfl ?_
        exact (k1 c0 c1e)
      · have c1e : x2 = 1 := Int32.toInt_inj.mp (by rw [c1]; rfl)
        refine st_tableIn (pc := 35) (off := 39) (tgt := 74) C.1 dX9_describe_35 (by omega) (by omega) (by rw [c1]; rfl) (by decide) ?_
        refine st_aload_n (pc := 74) C.1 (some t) dX9_describe_74 rfl rfl ?_
        refine gR_RX9_26 (pc := 75) C.1 (some (A 909)) dX9_describe_75 (hS.k _) (hS.r _ 909) ?_
        refine st_iload_n (pc := 78) C.1 dX9_describe_78 rfl rfl ?_
        refine sv_iaload (pc := 79) C.1 (m.2 909 (u0.toNatClampNeg)) dX9_describe_79 (hS.ki _ 909) (by rw [nA909 hS]; exact (h0 c0 c1e)) (congrFun (mA909 hS _) _) ?_
        exact rt_i C (Or.inl rfl) dX9_describe_80 hc hs ⟨_, rfl, (k2 c0 c1e)⟩
      · have c1e : x2 = 2 := Int32.toInt_inj.mp (by rw [c1]; rfl)
        refine st_tableIn (pc := 35) (off := 46) (tgt := 81) C.1 dX9_describe_35 (by omega) (by omega) (by rw [c1]; rfl) (by decide) ?_
        refine st_aload_n (pc := 81) C.1 (some t) dX9_describe_81 rfl rfl ?_
        refine gR_RX9_23 (pc := 82) C.1 (some (A 908)) dX9_describe_82 (hS.k _) (hS.r _ 908) ?_
        refine st_iload_n (pc := 85) C.1 dX9_describe_85 rfl rfl ?_
        refine sv_iaload (pc := 86) C.1 (m.2 908 (u0.toNatClampNeg)) dX9_describe_86 (hS.ki _ 908) (by rw [nA908 hS]; exact (h1 c0 c1e)) (congrFun (mA908 hS _) _) ?_
        exact rt_i C (Or.inl rfl) dX9_describe_87 hc hs ⟨_, rfl, (k3 c0 c1e)⟩
      · have c1e : x2 = 3 := Int32.toInt_inj.mp (by rw [c1]; rfl)
        refine st_tableIn (pc := 35) (off := 53) (tgt := 88) C.1 dX9_describe_35 (by omega) (by omega) (by rw [c1]; rfl) (by decide) ?_
        refine st_aload_n (pc := 88) C.1 (some t) dX9_describe_88 rfl rfl ?_
        refine gR_RX9_29 (pc := 89) C.1 (some (A 910)) dX9_describe_89 (hS.k _) (hS.r _ 910) ?_
        refine st_iload_n (pc := 92) C.1 dX9_describe_92 rfl rfl ?_
        refine sv_iaload (pc := 93) C.1 (m.2 910 (u0.toNatClampNeg)) dX9_describe_93 (hS.ki _ 910) (by rw [nA910 hS]; exact (h2 c0 c1e)) (congrFun (mA910 hS _) _) ?_
        exact rt_i C (Or.inl rfl) dX9_describe_94 hc hs ⟨_, rfl, (k4 c0 c1e)⟩
      · have c1e : x2 = 4 := Int32.toInt_inj.mp (by rw [c1]; rfl)
        refine st_tableIn (pc := 35) (off := 60) (tgt := 95) C.1 dX9_describe_35 (by omega) (by omega) (by rw [c1]; rfl) (by decide) ?_
        refine st_aload_n (pc := 95) C.1 (some t) dX9_describe_95 rfl rfl ?_
        refine st_iload_n (pc := 96) C.1 dX9_describe_96 rfl rfl ?_
        exact (k5 c0 c1e)
  · refine st_aload_n (pc := 27) C.1 (some t) dX9_describe_27 rfl rfl ?_
    refine st_iconst (pc := 28) (v := 1) C.1 dX9_describe_28 (by decide) ?_
    refine pI_RX9_85 (pc := 29) C.1 dX9_describe_29 (hS.k _) ?_
    rw [pI903]
    refine st_iconst (pc := 32) (v := 0) C.1 dX9_describe_32 (by decide) ?_
    exact rt_i C (Or.inl rfl) dX9_describe_33 hc hs ⟨_, rfl, (k6 c0)⟩

theorem sm_describe_73 {X : CX} {d mc ms cells slots : Nat} {pp : Int32 → Hp → Prop} {h : Hp} {t : Nat} {ρ A : Nat → Nat} {m : Mo} {x1 : Int32} {x2 : Int32} {x3 : Int32} {u0 : Int32} (C : CmI X mX9_describe d mc ms pp) (hS : MS h t ρ A) (hc : cells ≤ mc) (hs : slots ≤ ms)  (k0 : pp u0 (mput h t ρ m)) : At X cells slots 73 [some (va_rf (some t)), some (.int x1), some (.int x2), some (.int x3)] [.int u0] (mput h t ρ m) := by
  exact rt_i C (Or.inl rfl) dX9_describe_73 hc hs ⟨_, rfl, k0⟩

theorem sm_describe_100 {X : CX} {d mc ms cells slots : Nat} {pp : Int32 → Hp → Prop} {h : Hp} {t : Nat} {ρ A : Nat → Nat} {m : Mo} {x1 : Int32} {x2 : Int32} {x3 : Int32} {u0 : Int32} (C : CmI X mX9_describe d mc ms pp) (hS : MS h t ρ A) (hc : cells ≤ mc) (hs : slots ≤ ms)  (k0 : u0 = 0 → pp 0 (mput h t ρ m)) (k1 : ¬ u0 = 0 → pp 1 (mput h t ρ m)) : At X cells slots 100 [some (va_rf (some t)), some (.int x1), some (.int x2), some (.int x3)] [.int u0] (mput h t ρ m) := by
  refine st_if_eq (pc := 100) (tgt := 107) C.1 dX9_describe_100 (by decide) (fun c0 => ?_) (fun c0 => ?_)
  · refine st_iconst (pc := 107) (v := 0) C.1 dX9_describe_107 (by decide) ?_
    exact rt_i C (Or.inl rfl) dX9_describe_108 hc hs ⟨_, rfl, (k0 c0)⟩
  · refine st_iconst (pc := 103) (v := 1) C.1 dX9_describe_103 (by decide) ?_
    refine st_goto (pc := 104) (tgt := 108) C.1 dX9_describe_104 (by decide) ?_
    exact rt_i C (Or.inl rfl) dX9_describe_108 hc hs ⟨_, rfl, (k1 c0)⟩

theorem sm_describe_115 {X : CX} {d mc ms cells slots : Nat} {pp : Int32 → Hp → Prop} {h : Hp} {t : Nat} {ρ A : Nat → Nat} {m : Mo} {x1 : Int32} {x2 : Int32} {x3 : Int32} {u0 : Int32} {u1 : Int32} (C : CmI X mX9_describe d mc ms pp) (hS : MS h t ρ A) (hc : cells ≤ mc) (hs : slots ≤ ms)  (k0 : pp (u1 - u0) (mput h t ρ m)) : At X cells slots 115 [some (va_rf (some t)), some (.int x1), some (.int x2), some (.int x3)] [.int u0, .int u1] (mput h t ρ m) := by
  refine st_isub (pc := 115) C.1 dX9_describe_115 ?_
  exact rt_i C (Or.inl rfl) dX9_describe_116 hc hs ⟨_, rfl, k0⟩

theorem sm_setRoot_0 {X : CX} {d mc ms cells slots : Nat} {pp : Int32 → Hp → Prop} {h : Hp} {t : Nat} {ρ A : Nat → Nat} {m : Mo} {x1 : Int32} {x2 : Int32} (C : CmI X mX9_setRoot d mc ms pp) (hS : MS h t ρ A) (hc : cells ≤ mc) (hs : slots ≤ ms) (h0 : ¬ x1 < 0 → x1 < 16 → vp_in x1 16) (k0 : x1 < 0 → pp 0 (mput h t ρ (up1 m.1 903 0, m.2))) (k1 : ¬ x1 < 0 → x1 < 16 → pp 1 (mput h t ρ (up1 m.1 903 0, up2 m.2 922 (x1.toNatClampNeg) x2))) (k2 : ¬ x1 < 0 → ¬ x1 < 16 → pp 0 (mput h t ρ (up1 m.1 903 0, m.2))) : At X cells slots 0 [some (va_rf (some t)), some (.int x1), some (.int x2)] [] (mput h t ρ m) := by
  refine st_aload_n (pc := 0) C.1 (some t) dX9_setRoot_0 rfl rfl ?_
  refine st_iconst (pc := 1) (v := 0) C.1 dX9_setRoot_1 (by decide) ?_
  refine pI_RX9_85 (pc := 2) C.1 dX9_setRoot_2 (hS.k _) ?_
  rw [pI903]
  refine st_iload_n (pc := 5) C.1 dX9_setRoot_5 rfl rfl ?_
  refine st_if_lt (pc := 6) (tgt := 15) C.1 dX9_setRoot_6 (by decide) (fun c0 => ?_) (fun c0 => ?_)
  · refine st_iconst (pc := 15) (v := 0) C.1 dX9_setRoot_15 (by decide) ?_
    exact rt_i C (Or.inr ⟨rfl, (Or.inl rfl)⟩) dX9_setRoot_16 hc hs ⟨_, rfl, (k0 c0)⟩
  · refine st_iload_n (pc := 9) C.1 dX9_setRoot_9 rfl rfl ?_
    refine st_bipush (pc := 10) (v := 16) C.1 dX9_setRoot_10 (by decide) ?_
    refine st_icmp_lt (pc := 12) (tgt := 17) C.1 dX9_setRoot_12 (by decide) (fun c1 => ?_) (fun c1 => ?_)
    · refine st_aload_n (pc := 17) C.1 (some t) dX9_setRoot_17 rfl rfl ?_
      refine gR_RX9_41 (pc := 18) C.1 (some (A 922)) dX9_setRoot_18 (hS.k _) (hS.r _ 922) ?_
      refine st_iload_n (pc := 21) C.1 dX9_setRoot_21 rfl rfl ?_
      refine st_iload_n (pc := 22) C.1 dX9_setRoot_22 rfl rfl ?_
      refine st_iastore (pc := 23) C.1 dX9_setRoot_23 (hS.ki _ 922) (by rw [nA922 hS]; exact (h0 c0 c1)) ?_
      rw [pA922 hS]
      refine st_iconst (pc := 24) (v := 1) C.1 dX9_setRoot_24 (by decide) ?_
      exact rt_i C (Or.inr ⟨rfl, (Or.inr rfl)⟩) dX9_setRoot_25 hc hs ⟨_, rfl, (k1 c0 c1)⟩
    · refine st_iconst (pc := 15) (v := 0) C.1 dX9_setRoot_15 (by decide) ?_
      exact rt_i C (Or.inr ⟨rfl, (Or.inl rfl)⟩) dX9_setRoot_16 hc hs ⟨_, rfl, (k2 c0 c1)⟩

theorem sm_leads_0 {X : CX} {d mc ms cells slots : Nat} {pp : Int32 → Hp → Prop} {h : Hp} {t : Nat} {ρ A : Nat → Nat} {m : Mo} {x1 : Int32} (C : CmI X mX9_leads d mc ms pp) (hS : MS h t ρ A)  (k0 : At X cells slots 2 [some (va_rf (some t)), some (.int x1)] [.int x1, va_rf (some t)] (mput h t ρ m)) : At X cells slots 0 [some (va_rf (some t)), some (.int x1)] [] (mput h t ρ m) := by
  refine st_aload_n (pc := 0) C.1 (some t) dX9_leads_0 rfl rfl ?_
  refine st_iload_n (pc := 1) C.1 dX9_leads_1 rfl rfl ?_
  exact k0

theorem sm_leads_5 {X : CX} {d mc ms cells slots : Nat} {pp : Int32 → Hp → Prop} {h : Hp} {t : Nat} {ρ A : Nat → Nat} {m : Mo} {x1 : Int32} {u0 : Int32} (C : CmI X mX9_leads d mc ms pp) (hS : MS h t ρ A) (hc : cells ≤ mc) (hs : slots ≤ ms)  (k0 : ¬ u0 = 0 → pp (-1) (mput h t ρ m)) (k1 : u0 = 0 → At X cells slots 10 [some (va_rf (some t)), some (.int x1)] [.int x1, va_rf (some t)] (mput h t ρ m)) : At X cells slots 5 [some (va_rf (some t)), some (.int x1)] [.int u0] (mput h t ρ m) := by
  refine st_if_ne (pc := 5) (tgt := 16) C.1 dX9_leads_5 (by decide) (fun c0 => ?_) (fun c0 => ?_)
  · refine st_iconst (pc := 16) (v := (-1)) C.1 dX9_leads_16 (by decide) ?_
    exact rt_i C (Or.inl rfl) dX9_leads_17 hc hs ⟨_, rfl, (k0 c0)⟩
  · refine st_aload_n (pc := 8) C.1 (some t) dX9_leads_8 rfl rfl ?_
    refine st_iload_n (pc := 9) C.1 dX9_leads_9 rfl rfl ?_
    exact (k1 c0)

theorem sm_leads_13 {X : CX} {d mc ms cells slots : Nat} {pp : Int32 → Hp → Prop} {h : Hp} {t : Nat} {ρ A : Nat → Nat} {m : Mo} {x1 : Int32} {u0 : Int32} (C : CmI X mX9_leads d mc ms pp) (hS : MS h t ρ A) (hc : cells ≤ mc) (hs : slots ≤ ms)  (k0 : pp u0 (mput h t ρ m)) : At X cells slots 13 [some (va_rf (some t)), some (.int x1)] [.int u0] (mput h t ρ m) := by
  refine st_goto (pc := 13) (tgt := 17) C.1 dX9_leads_13 (by decide) ?_
  exact rt_i C (Or.inl rfl) dX9_leads_17 hc hs ⟨_, rfl, k0⟩

theorem sm_reaches_0 {X : CX} {d mc ms cells slots : Nat} {pp : Hp → Prop} {h : Hp} {t : Nat} {ρ A : Nat → Nat} {m : Mo}  (C : CmV X mX9_reaches d mc ms pp) (hS : MS h t ρ A)  (k0 : At X cells slots 2 [some (va_rf (some t)), some (.int 0), none, none, none] [] (mput h t ρ m)) : At X cells slots 0 [some (va_rf (some t)), none, none, none, none] [] (mput h t ρ m) := by
  refine st_iconst (pc := 0) (v := 0) C.1 dX9_reaches_0 (by decide) ?_
  refine sv_istore_n (pc := 1) (i := 1) C.1 [some (va_rf (some t)), some (.int 0), none, none, none] dX9_reaches_1 rfl (Nat.le_of_ble_eq_true rfl) (by rw [C.2.1]; exact Nat.le_of_ble_eq_true rfl) rfl rfl ?_
  exact k0

theorem sm_reaches_2 {X : CX} {d mc ms cells slots : Nat} {pp : Hp → Prop} {h : Hp} {t : Nat} {ρ A : Nat → Nat} {m : Mo} {x1 : Int32} (C : CmV X mX9_reaches d mc ms pp) (hS : MS h t ρ A) (h0 : ¬ m.1 912 ≤ x1 → vp_in x1 800) (k0 : m.1 912 ≤ x1 → At X cells slots 25 [some (va_rf (some t)), some (.int 0), none, none, none] [] (mput h t ρ m)) (k1 : ¬ m.1 912 ≤ x1 → At X cells slots 2 [some (va_rf (some t)), some (.int (x1 + 1)), none, none, none] [] (mput h t ρ (m.1, up2 m.2 926 (x1.toNatClampNeg) 0))) : At X cells slots 2 [some (va_rf (some t)), some (.int x1), none, none, none] [] (mput h t ρ m) := by
  refine st_iload_n (pc := 2) C.1 dX9_reaches_2 rfl rfl ?_
  refine st_aload_n (pc := 3) C.1 (some t) dX9_reaches_3 rfl rfl ?_
  refine gI_RX9_88 (pc := 4) C.1 (m.1 912) dX9_reaches_4 (hS.k _) (mI912 h t ρ _) ?_
  refine st_icmp_ge (pc := 7) (tgt := 23) C.1 dX9_reaches_7 (by decide) (fun c0 => ?_) (fun c0 => ?_)
  · refine st_iconst (pc := 23) (v := 0) C.1 dX9_reaches_23 (by decide) ?_
    refine sv_istore_n (pc := 24) (i := 1) C.1 [some (va_rf (some t)), some (.int 0), none, none, none] dX9_reaches_24 rfl (Nat.le_of_ble_eq_true rfl) (by rw [C.2.1]; exact Nat.le_of_ble_eq_true rfl) rfl rfl ?_
    exact (k0 c0)
  · refine st_aload_n (pc := 10) C.1 (some t) dX9_reaches_10 rfl rfl ?_
    refine gR_RX9_53 (pc := 11) C.1 (some (A 926)) dX9_reaches_11 (hS.k _) (hS.r _ 926) ?_
    refine st_iload_n (pc := 14) C.1 dX9_reaches_14 rfl rfl ?_
    refine st_iconst (pc := 15) (v := 0) C.1 dX9_reaches_15 (by decide) ?_
    refine st_bastore (pc := 16) C.1 dX9_reaches_16 (hS.kz _ 926) (by rw [nA926 hS]; exact (h0 c0)) (Or.inl rfl) ?_
    rw [pA926 hS]
    refine sv_iinc (pc := 17) (i := 1) (v := x1 + 1) C.1 [some (va_rf (some t)), some (.int (x1 + 1)), none, none, none] dX9_reaches_17 rfl rfl (by rw [C.2.1]; exact Nat.le_of_ble_eq_true rfl) rfl rfl ?_
    refine st_goto (pc := 20) (tgt := 2) C.1 dX9_reaches_20 (by decide) ?_
    exact (k1 c0)

theorem sm_reaches_25 {X : CX} {d mc ms cells slots : Nat} {pp : Hp → Prop} {h : Hp} {t : Nat} {ρ A : Nat → Nat} {m : Mo} {x1 : Int32} (C : CmV X mX9_reaches d mc ms pp) (hS : MS h t ρ A) (h0 : ¬ 16 ≤ x1 → vp_in x1 16) (k0 : 16 ≤ x1 → At X cells slots 69 [some (va_rf (some t)), some (.int 1), none, none, none] [] (mput h t ρ m)) (k1 : ¬ 16 ≤ x1 → At X cells slots 38 [some (va_rf (some t)), some (.int x1), none, none, none] [.int (m.2 922 (x1.toNatClampNeg)), va_rf (some t)] (mput h t ρ m)) : At X cells slots 25 [some (va_rf (some t)), some (.int x1), none, none, none] [] (mput h t ρ m) := by
  refine st_iload_n (pc := 25) C.1 dX9_reaches_25 rfl rfl ?_
  refine st_bipush (pc := 26) (v := 16) C.1 dX9_reaches_26 (by decide) ?_
  refine st_icmp_ge (pc := 28) (tgt := 67) C.1 dX9_reaches_28 (by decide) (fun c0 => ?_) (fun c0 => ?_)
  · refine st_iconst (pc := 67) (v := 1) C.1 dX9_reaches_67 (by decide) ?_
    refine sv_istore_n (pc := 68) (i := 1) C.1 [some (va_rf (some t)), some (.int 1), none, none, none] dX9_reaches_68 rfl (Nat.le_of_ble_eq_true rfl) (by rw [C.2.1]; exact Nat.le_of_ble_eq_true rfl) rfl rfl ?_
    exact (k0 c0)
  · refine st_aload_n (pc := 31) C.1 (some t) dX9_reaches_31 rfl rfl ?_
    refine st_aload_n (pc := 32) C.1 (some t) dX9_reaches_32 rfl rfl ?_
    refine gR_RX9_41 (pc := 33) C.1 (some (A 922)) dX9_reaches_33 (hS.k _) (hS.r _ 922) ?_
    refine st_iload_n (pc := 36) C.1 dX9_reaches_36 rfl rfl ?_
    refine sv_iaload (pc := 37) C.1 (m.2 922 (x1.toNatClampNeg)) dX9_reaches_37 (hS.ki _ 922) (by rw [nA922 hS]; exact (h0 c0)) (congrFun (mA922 hS _) _) ?_
    exact (k1 c0)

theorem sm_reaches_41 {X : CX} {d mc ms cells slots : Nat} {pp : Hp → Prop} {h : Hp} {t : Nat} {ρ A : Nat → Nat} {m : Mo} {x1 : Int32} {u0 : Int32} (C : CmV X mX9_reaches d mc ms pp) (hS : MS h t ρ A) (h0 : ¬ u0 = (-1) → vp_in x1 16) (k0 : u0 = (-1) → At X cells slots 25 [some (va_rf (some t)), some (.int (x1 + 1)), none, none, none] [] (mput h t ρ m)) (k1 : ¬ u0 = (-1) → At X cells slots 56 [some (va_rf (some t)), some (.int x1), none, none, none] [.int (m.2 922 (x1.toNatClampNeg)), va_rf (some t), va_rf (some (A 926))] (mput h t ρ m)) : At X cells slots 41 [some (va_rf (some t)), some (.int x1), none, none, none] [.int u0] (mput h t ρ m) := by
  refine st_iconst (pc := 41) (v := (-1)) C.1 dX9_reaches_41 (by decide) ?_
  refine st_icmp_eq (pc := 42) (tgt := 61) C.1 dX9_reaches_42 (by decide) (fun c0 => ?_) (fun c0 => ?_)
  · refine sv_iinc (pc := 61) (i := 1) (v := x1 + 1) C.1 [some (va_rf (some t)), some (.int (x1 + 1)), none, none, none] dX9_reaches_61 rfl rfl (by rw [C.2.1]; exact Nat.le_of_ble_eq_true rfl) rfl rfl ?_
    refine st_goto (pc := 64) (tgt := 25) C.1 dX9_reaches_64 (by decide) ?_
    exact (k0 c0)
  · refine st_aload_n (pc := 45) C.1 (some t) dX9_reaches_45 rfl rfl ?_
    refine gR_RX9_53 (pc := 46) C.1 (some (A 926)) dX9_reaches_46 (hS.k _) (hS.r _ 926) ?_
    refine st_aload_n (pc := 49) C.1 (some t) dX9_reaches_49 rfl rfl ?_
    refine st_aload_n (pc := 50) C.1 (some t) dX9_reaches_50 rfl rfl ?_
    refine gR_RX9_41 (pc := 51) C.1 (some (A 922)) dX9_reaches_51 (hS.k _) (hS.r _ 922) ?_
    refine st_iload_n (pc := 54) C.1 dX9_reaches_54 rfl rfl ?_
    refine sv_iaload (pc := 55) C.1 (m.2 922 (x1.toNatClampNeg)) dX9_reaches_55 (hS.ki _ 922) (by rw [nA922 hS]; exact (h0 c0)) (congrFun (mA922 hS _) _) ?_
    exact (k1 c0)

theorem sm_reaches_59 {X : CX} {d mc ms cells slots : Nat} {pp : Hp → Prop} {h : Hp} {t : Nat} {ρ A : Nat → Nat} {m : Mo} {x1 : Int32} {u0 : Int32} (C : CmV X mX9_reaches d mc ms pp) (hS : MS h t ρ A) (h0 : vp_in u0 800) (k0 : At X cells slots 25 [some (va_rf (some t)), some (.int (x1 + 1)), none, none, none] [] (mput h t ρ (m.1, up2 m.2 926 (u0.toNatClampNeg) 1))) : At X cells slots 59 [some (va_rf (some t)), some (.int x1), none, none, none] [.int u0, va_rf (some (A 926))] (mput h t ρ m) := by
  refine st_iconst (pc := 59) (v := 1) C.1 dX9_reaches_59 (by decide) ?_
  refine st_bastore (pc := 60) C.1 dX9_reaches_60 (hS.kz _ 926) (by rw [nA926 hS]; exact h0) (Or.inr rfl) ?_
  rw [pA926 hS]
  refine sv_iinc (pc := 61) (i := 1) (v := x1 + 1) C.1 [some (va_rf (some t)), some (.int (x1 + 1)), none, none, none] dX9_reaches_61 rfl rfl (by rw [C.2.1]; exact Nat.le_of_ble_eq_true rfl) rfl rfl ?_
  refine st_goto (pc := 64) (tgt := 25) C.1 dX9_reaches_64 (by decide) ?_
  exact k0

theorem sm_reaches_69 {X : CX} {d mc ms cells slots : Nat} {pp : Hp → Prop} {h : Hp} {t : Nat} {ρ A : Nat → Nat} {m : Mo} {x1 : Int32} (C : CmV X mX9_reaches d mc ms pp) (hS : MS h t ρ A) (hc : cells ≤ mc) (hs : slots ≤ ms)  (k0 : x1 = 0 → pp (mput h t ρ m)) (k1 : ¬ x1 = 0 → At X cells slots 77 [some (va_rf (some t)), some (.int 0), some (.int 0), none, none] [] (mput h t ρ m)) : At X cells slots 69 [some (va_rf (some t)), some (.int x1), none, none, none] [] (mput h t ρ m) := by
  refine st_iload_n (pc := 69) C.1 dX9_reaches_69 rfl rfl ?_
  refine st_if_eq (pc := 70) (tgt := 168) C.1 dX9_reaches_70 (by decide) (fun c0 => ?_) (fun c0 => ?_)
  · exact rt_v C rfl dX9_reaches_168 hc hs ⟨rfl, (k0 c0)⟩
  · refine st_iconst (pc := 73) (v := 0) C.1 dX9_reaches_73 (by decide) ?_
    refine sv_istore_n (pc := 74) (i := 1) C.1 [some (va_rf (some t)), some (.int 0), none, none, none] dX9_reaches_74 rfl (Nat.le_of_ble_eq_true rfl) (by rw [C.2.1]; exact Nat.le_of_ble_eq_true rfl) rfl rfl ?_
    refine st_iconst (pc := 75) (v := 0) C.1 dX9_reaches_75 (by decide) ?_
    refine sv_istore_n (pc := 76) (i := 2) C.1 [some (va_rf (some t)), some (.int 0), some (.int 0), none, none] dX9_reaches_76 rfl (Nat.le_of_ble_eq_true rfl) (by rw [C.2.1]; exact Nat.le_of_ble_eq_true rfl) rfl rfl ?_
    exact (k1 c0)

theorem sm_reaches_77 {X : CX} {d mc ms cells slots : Nat} {pp : Hp → Prop} {h : Hp} {t : Nat} {ρ A : Nat → Nat} {m : Mo} {x1 : Int32} {x2 : Int32} (C : CmV X mX9_reaches d mc ms pp) (hS : MS h t ρ A)  (k0 : m.1 912 ≤ x2 → At X cells slots 69 [some (va_rf (some t)), some (.int x1), some (.int x2), none, none] [] (mput h t ρ m)) (k1 : ¬ m.1 912 ≤ x2 → At X cells slots 87 [some (va_rf (some t)), some (.int x1), some (.int x2), some (.int 0), none] [] (mput h t ρ m)) : At X cells slots 77 [some (va_rf (some t)), some (.int x1), some (.int x2), none, none] [] (mput h t ρ m) := by
  refine st_iload_n (pc := 77) C.1 dX9_reaches_77 rfl rfl ?_
  refine st_aload_n (pc := 78) C.1 (some t) dX9_reaches_78 rfl rfl ?_
  refine gI_RX9_88 (pc := 79) C.1 (m.1 912) dX9_reaches_79 (hS.k _) (mI912 h t ρ _) ?_
  refine st_icmp_ge (pc := 82) (tgt := 165) C.1 dX9_reaches_82 (by decide) (fun c0 => ?_) (fun c0 => ?_)
  · refine st_goto (pc := 165) (tgt := 69) C.1 dX9_reaches_165 (by decide) ?_
    exact (k0 c0)
  · refine st_iconst (pc := 85) (v := 0) C.1 dX9_reaches_85 (by decide) ?_
    refine sv_istore_n (pc := 86) (i := 3) C.1 [some (va_rf (some t)), some (.int x1), some (.int x2), some (.int 0), none] dX9_reaches_86 rfl (Nat.le_of_ble_eq_true rfl) (by rw [C.2.1]; exact Nat.le_of_ble_eq_true rfl) rfl rfl ?_
    exact (k1 c0)

theorem sm_reaches_87 {X : CX} {d mc ms cells slots : Nat} {pp : Hp → Prop} {h : Hp} {t : Nat} {ρ A : Nat → Nat} {m : Mo} {x1 : Int32} {x2 : Int32} {x3 : Int32} (C : CmV X mX9_reaches d mc ms pp) (hS : MS h t ρ A) (h0 : vp_in x2 800) (h1 : ¬ m.2 909 (x2.toNatClampNeg) ≤ x3 → vp_in x2 800) (k0 : m.2 909 (x2.toNatClampNeg) ≤ x3 → At X cells slots 77 [some (va_rf (some t)), some (.int x1), some (.int (x2 + 1)), some (.int x3), none] [] (mput h t ρ m)) (k1 : ¬ m.2 909 (x2.toNatClampNeg) ≤ x3 → m.2 926 (x2.toNatClampNeg) = 0 → At X cells slots 77 [some (va_rf (some t)), some (.int x1), some (.int (x2 + 1)), some (.int x3), none] [] (mput h t ρ m)) (k2 : ¬ m.2 909 (x2.toNatClampNeg) ≤ x3 → ¬ m.2 926 (x2.toNatClampNeg) = 0 → At X cells slots 113 [some (va_rf (some t)), some (.int x1), some (.int x2), some (.int x3), none] [.int x2, va_rf (some t), va_rf (some (A 904)), va_rf (some t)] (mput h t ρ m)) : At X cells slots 87 [some (va_rf (some t)), some (.int x1), some (.int x2), some (.int x3), none] [] (mput h t ρ m) := by
  refine st_iload_n (pc := 87) C.1 dX9_reaches_87 rfl rfl ?_
  refine st_aload_n (pc := 88) C.1 (some t) dX9_reaches_88 rfl rfl ?_
  refine gR_RX9_26 (pc := 89) C.1 (some (A 909)) dX9_reaches_89 (hS.k _) (hS.r _ 909) ?_
  refine st_iload_n (pc := 92) C.1 dX9_reaches_92 rfl rfl ?_
  refine sv_iaload (pc := 93) C.1 (m.2 909 (x2.toNatClampNeg)) dX9_reaches_93 (hS.ki _ 909) (by rw [nA909 hS]; exact h0) (congrFun (mA909 hS _) _) ?_
  refine st_icmp_ge (pc := 94) (tgt := 159) C.1 dX9_reaches_94 (by decide) (fun c0 => ?_) (fun c0 => ?_)
  · refine sv_iinc (pc := 159) (i := 2) (v := x2 + 1) C.1 [some (va_rf (some t)), some (.int x1), some (.int (x2 + 1)), some (.int x3), none] dX9_reaches_159 rfl rfl (by rw [C.2.1]; exact Nat.le_of_ble_eq_true rfl) rfl rfl ?_
    refine st_goto (pc := 162) (tgt := 77) C.1 dX9_reaches_162 (by decide) ?_
    exact (k0 c0)
  · refine st_aload_n (pc := 97) C.1 (some t) dX9_reaches_97 rfl rfl ?_
    refine gR_RX9_53 (pc := 98) C.1 (some (A 926)) dX9_reaches_98 (hS.k _) (hS.r _ 926) ?_
    refine st_iload_n (pc := 101) C.1 dX9_reaches_101 rfl rfl ?_
    refine sv_baload (pc := 102) C.1 (m.2 926 (x2.toNatClampNeg)) dX9_reaches_102 (hS.kz _ 926) (by rw [nA926 hS]; exact (h1 c0)) (congrFun (mA926 hS _) _) ?_
    refine st_if_eq (pc := 103) (tgt := 159) C.1 dX9_reaches_103 (by decide) (fun c1 => ?_) (fun c1 => ?_)
    · refine sv_iinc (pc := 159) (i := 2) (v := x2 + 1) C.1 [some (va_rf (some t)), some (.int x1), some (.int (x2 + 1)), some (.int x3), none] dX9_reaches_159 rfl rfl (by rw [C.2.1]; exact Nat.le_of_ble_eq_true rfl) rfl rfl ?_
      refine st_goto (pc := 162) (tgt := 77) C.1 dX9_reaches_162 (by decide) ?_
      exact (k1 c0 c1)
    · refine st_aload_n (pc := 106) C.1 (some t) dX9_reaches_106 rfl rfl ?_
      refine st_aload_n (pc := 107) C.1 (some t) dX9_reaches_107 rfl rfl ?_
      refine gR_RX9_7 (pc := 108) C.1 (some (A 904)) dX9_reaches_108 (hS.k _) (hS.r _ 904) ?_
      refine st_aload_n (pc := 111) C.1 (some t) dX9_reaches_111 rfl rfl ?_
      refine st_iload_n (pc := 112) C.1 dX9_reaches_112 rfl rfl ?_
      exact (k2 c0 c1)

theorem sm_reaches_116 {X : CX} {d mc ms cells slots : Nat} {pp : Hp → Prop} {h : Hp} {t : Nat} {ρ A : Nat → Nat} {m : Mo} {x1 : Int32} {x2 : Int32} {x3 : Int32} {u0 : Int32} {p2 : Option Nat} (C : CmV X mX9_reaches d mc ms pp) (hS : MS h t ρ A) (h0 : vp_in (u0 + x3) 3001) (k0 : At X cells slots 119 [some (va_rf (some t)), some (.int x1), some (.int x2), some (.int x3), none] [.int (m.2 904 ((u0 + x3).toNatClampNeg)), va_rf p2] (mput h t ρ m)) : At X cells slots 116 [some (va_rf (some t)), some (.int x1), some (.int x2), some (.int x3), none] [.int u0, va_rf (some (A 904)), va_rf p2] (mput h t ρ m) := by
  refine st_iload_n (pc := 116) C.1 dX9_reaches_116 rfl rfl ?_
  refine st_iadd (pc := 117) C.1 dX9_reaches_117 ?_
  refine sv_iaload (pc := 118) C.1 (m.2 904 ((u0 + x3).toNatClampNeg)) dX9_reaches_118 (hS.ki _ 904) (by rw [nA904 hS]; exact h0) (congrFun (mA904 hS _) _) ?_
  exact k0

theorem sm_reaches_122 {X : CX} {d mc ms cells slots : Nat} {pp : Hp → Prop} {h : Hp} {t : Nat} {ρ A : Nat → Nat} {m : Mo} {x1 : Int32} {x2 : Int32} {x3 : Int32} {u0 : Int32} (C : CmV X mX9_reaches d mc ms pp) (hS : MS h t ρ A) (h0 : ¬ u0 = (-1) → vp_in u0 800) (h1 : ¬ u0 = (-1) → m.2 926 (u0.toNatClampNeg) = 0 → vp_in u0 800) (k0 : u0 = (-1) → At X cells slots 87 [some (va_rf (some t)), some (.int x1), some (.int x2), some (.int (x3 + 1)), some (.int u0)] [] (mput h t ρ m)) (k1 : ¬ u0 = (-1) → m.2 926 (u0.toNatClampNeg) = 0 → At X cells slots 87 [some (va_rf (some t)), some (.int 1), some (.int x2), some (.int (x3 + 1)), some (.int u0)] [] (mput h t ρ (m.1, up2 m.2 926 (u0.toNatClampNeg) 1))) (k2 : ¬ u0 = (-1) → ¬ m.2 926 (u0.toNatClampNeg) = 0 → At X cells slots 87 [some (va_rf (some t)), some (.int x1), some (.int x2), some (.int (x3 + 1)), some (.int u0)] [] (mput h t ρ m)) : At X cells slots 122 [some (va_rf (some t)), some (.int x1), some (.int x2), some (.int x3), none] [.int u0] (mput h t ρ m) := by
  refine sv_istore (pc := 122) (i := 4) C.1 [some (va_rf (some t)), some (.int x1), some (.int x2), some (.int x3), some (.int u0)] dX9_reaches_122 (Nat.le_of_ble_eq_true rfl) (by rw [C.2.1]; exact Nat.le_of_ble_eq_true rfl) rfl rfl ?_
  refine st_iload (pc := 124) C.1 dX9_reaches_124 rfl ?_
  refine st_iconst (pc := 126) (v := (-1)) C.1 dX9_reaches_126 (by decide) ?_
  refine st_icmp_eq (pc := 127) (tgt := 153) C.1 dX9_reaches_127 (by decide) (fun c0 => ?_) (fun c0 => ?_)
  · refine sv_iinc (pc := 153) (i := 3) (v := x3 + 1) C.1 [some (va_rf (some t)), some (.int x1), some (.int x2), some (.int (x3 + 1)), some (.int u0)] dX9_reaches_153 rfl rfl (by rw [C.2.1]; exact Nat.le_of_ble_eq_true rfl) rfl rfl ?_
    refine st_goto (pc := 156) (tgt := 87) C.1 dX9_reaches_156 (by decide) ?_
    exact (k0 c0)
  · refine st_aload_n (pc := 130) C.1 (some t) dX9_reaches_130 rfl rfl ?_
    refine gR_RX9_53 (pc := 131) C.1 (some (A 926)) dX9_reaches_131 (hS.k _) (hS.r _ 926) ?_
    refine st_iload (pc := 134) C.1 dX9_reaches_134 rfl ?_
    refine sv_baload (pc := 136) C.1 (m.2 926 (u0.toNatClampNeg)) dX9_reaches_136 (hS.kz _ 926) (by rw [nA926 hS]; exact (h0 c0)) (congrFun (mA926 hS _) _) ?_
    refine st_if_eq (pc := 137) (tgt := 143) C.1 dX9_reaches_137 (by decide) (fun c1 => ?_) (fun c1 => ?_)
    · refine st_aload_n (pc := 143) C.1 (some t) dX9_reaches_143 rfl rfl ?_
      refine gR_RX9_53 (pc := 144) C.1 (some (A 926)) dX9_reaches_144 (hS.k _) (hS.r _ 926) ?_
      refine st_iload (pc := 147) C.1 dX9_reaches_147 rfl ?_
      refine st_iconst (pc := 149) (v := 1) C.1 dX9_reaches_149 (by decide) ?_
      refine st_bastore (pc := 150) C.1 dX9_reaches_150 (hS.kz _ 926) (by rw [nA926 hS]; exact (h1 c0 c1)) (Or.inr rfl) ?_
      rw [pA926 hS]
      refine st_iconst (pc := 151) (v := 1) C.1 dX9_reaches_151 (by decide) ?_
      refine sv_istore_n (pc := 152) (i := 1) C.1 [some (va_rf (some t)), some (.int 1), some (.int x2), some (.int x3), some (.int u0)] dX9_reaches_152 rfl (Nat.le_of_ble_eq_true rfl) (by rw [C.2.1]; exact Nat.le_of_ble_eq_true rfl) rfl rfl ?_
      refine sv_iinc (pc := 153) (i := 3) (v := x3 + 1) C.1 [some (va_rf (some t)), some (.int 1), some (.int x2), some (.int (x3 + 1)), some (.int u0)] dX9_reaches_153 rfl rfl (by rw [C.2.1]; exact Nat.le_of_ble_eq_true rfl) rfl rfl ?_
      refine st_goto (pc := 156) (tgt := 87) C.1 dX9_reaches_156 (by decide) ?_
      exact (k1 c0 c1)
    · refine st_goto (pc := 140) (tgt := 153) C.1 dX9_reaches_140 (by decide) ?_
      refine sv_iinc (pc := 153) (i := 3) (v := x3 + 1) C.1 [some (va_rf (some t)), some (.int x1), some (.int x2), some (.int (x3 + 1)), some (.int u0)] dX9_reaches_153 rfl rfl (by rw [C.2.1]; exact Nat.le_of_ble_eq_true rfl) rfl rfl ?_
      refine st_goto (pc := 156) (tgt := 87) C.1 dX9_reaches_156 (by decide) ?_
      exact (k2 c0 c1)

theorem sm_isHead_0 {X : CX} {d mc ms cells slots : Nat} {pp : Int32 → Hp → Prop} {h : Hp} {t : Nat} {ρ A : Nat → Nat} {m : Mo} {x1 : Int32} (C : CmI X mX9_isHead d mc ms pp) (hS : MS h t ρ A)  (k0 : At X cells slots 2 [some (va_rf (some t)), some (.int x1), some (.int 0), none, none] [] (mput h t ρ m)) : At X cells slots 0 [some (va_rf (some t)), some (.int x1), none, none, none] [] (mput h t ρ m) := by
  refine st_iconst (pc := 0) (v := 0) C.1 dX9_isHead_0 (by decide) ?_
  refine sv_istore_n (pc := 1) (i := 2) C.1 [some (va_rf (some t)), some (.int x1), some (.int 0), none, none] dX9_isHead_1 rfl (Nat.le_of_ble_eq_true rfl) (by rw [C.2.1]; exact Nat.le_of_ble_eq_true rfl) rfl rfl ?_
  exact k0

theorem sm_isHead_2 {X : CX} {d mc ms cells slots : Nat} {pp : Int32 → Hp → Prop} {h : Hp} {t : Nat} {ρ A : Nat → Nat} {m : Mo} {x1 : Int32} {x2 : Int32} (C : CmI X mX9_isHead d mc ms pp) (hS : MS h t ρ A) (hc : cells ≤ mc) (hs : slots ≤ ms) (h0 : ¬ m.1 932 ≤ x2 → vp_in x2 800) (k0 : m.1 932 ≤ x2 → pp 1 (mput h t ρ m)) (k1 : ¬ m.1 932 ≤ x2 → At X cells slots 20 [some (va_rf (some t)), some (.int x1), some (.int x2), some (.int (m.2 927 (x2.toNatClampNeg))), some (.int 0)] [] (mput h t ρ m)) : At X cells slots 2 [some (va_rf (some t)), some (.int x1), some (.int x2), none, none] [] (mput h t ρ m) := by
  refine st_iload_n (pc := 2) C.1 dX9_isHead_2 rfl rfl ?_
  refine st_aload_n (pc := 3) C.1 (some t) dX9_isHead_3 rfl rfl ?_
  refine gI_RX9_190 (pc := 4) C.1 (m.1 932) dX9_isHead_4 (hS.k _) (mI932 h t ρ _) ?_
  refine st_icmp_ge (pc := 7) (tgt := 71) C.1 dX9_isHead_7 (by decide) (fun c0 => ?_) (fun c0 => ?_)
  · refine st_iconst (pc := 71) (v := 1) C.1 dX9_isHead_71 (by decide) ?_
    exact rt_i C (Or.inr ⟨rfl, (Or.inr rfl)⟩) dX9_isHead_72 hc hs ⟨_, rfl, (k0 c0)⟩
  · refine st_aload_n (pc := 10) C.1 (some t) dX9_isHead_10 rfl rfl ?_
    refine gR_RX9_57 (pc := 11) C.1 (some (A 927)) dX9_isHead_11 (hS.k _) (hS.r _ 927) ?_
    refine st_iload_n (pc := 14) C.1 dX9_isHead_14 rfl rfl ?_
    refine sv_iaload (pc := 15) C.1 (m.2 927 (x2.toNatClampNeg)) dX9_isHead_15 (hS.ki _ 927) (by rw [nA927 hS]; exact (h0 c0)) (congrFun (mA927 hS _) _) ?_
    refine sv_istore_n (pc := 16) (i := 3) C.1 [some (va_rf (some t)), some (.int x1), some (.int x2), some (.int (m.2 927 (x2.toNatClampNeg))), none] dX9_isHead_16 rfl (Nat.le_of_ble_eq_true rfl) (by rw [C.2.1]; exact Nat.le_of_ble_eq_true rfl) rfl rfl ?_
    refine st_iconst (pc := 17) (v := 0) C.1 dX9_isHead_17 (by decide) ?_
    refine sv_istore (pc := 18) (i := 4) C.1 [some (va_rf (some t)), some (.int x1), some (.int x2), some (.int (m.2 927 (x2.toNatClampNeg))), some (.int 0)] dX9_isHead_18 (Nat.le_of_ble_eq_true rfl) (by rw [C.2.1]; exact Nat.le_of_ble_eq_true rfl) rfl rfl ?_
    exact (k1 c0)

theorem sm_isHead_20 {X : CX} {d mc ms cells slots : Nat} {pp : Int32 → Hp → Prop} {h : Hp} {t : Nat} {ρ A : Nat → Nat} {m : Mo} {x1 : Int32} {x2 : Int32} {x3 : Int32} {x4 : Int32} (C : CmI X mX9_isHead d mc ms pp) (hS : MS h t ρ A) (h0 : vp_in x3 800) (k0 : m.2 909 (x3.toNatClampNeg) ≤ x4 → At X cells slots 2 [some (va_rf (some t)), some (.int x1), some (.int (x2 + 1)), some (.int x3), some (.int x4)] [] (mput h t ρ m)) (k1 : ¬ m.2 909 (x3.toNatClampNeg) ≤ x4 → x3 = x1 → At X cells slots 2 [some (va_rf (some t)), some (.int x1), some (.int (x2 + 1)), some (.int x3), some (.int x4)] [] (mput h t ρ m)) (k2 : ¬ m.2 909 (x3.toNatClampNeg) ≤ x4 → ¬ x3 = x1 → At X cells slots 43 [some (va_rf (some t)), some (.int x1), some (.int x2), some (.int x3), some (.int x4)] [.int x3, va_rf (some t), va_rf (some (A 904)), va_rf (some t)] (mput h t ρ m)) : At X cells slots 20 [some (va_rf (some t)), some (.int x1), some (.int x2), some (.int x3), some (.int x4)] [] (mput h t ρ m) := by
  refine st_iload (pc := 20) C.1 dX9_isHead_20 rfl ?_
  refine st_aload_n (pc := 22) C.1 (some t) dX9_isHead_22 rfl rfl ?_
  refine gR_RX9_26 (pc := 23) C.1 (some (A 909)) dX9_isHead_23 (hS.k _) (hS.r _ 909) ?_
  refine st_iload_n (pc := 26) C.1 dX9_isHead_26 rfl rfl ?_
  refine sv_iaload (pc := 27) C.1 (m.2 909 (x3.toNatClampNeg)) dX9_isHead_27 (hS.ki _ 909) (by rw [nA909 hS]; exact h0) (congrFun (mA909 hS _) _) ?_
  refine st_icmp_ge (pc := 28) (tgt := 65) C.1 dX9_isHead_28 (by decide) (fun c0 => ?_) (fun c0 => ?_)
  · refine sv_iinc (pc := 65) (i := 2) (v := x2 + 1) C.1 [some (va_rf (some t)), some (.int x1), some (.int (x2 + 1)), some (.int x3), some (.int x4)] dX9_isHead_65 rfl rfl (by rw [C.2.1]; exact Nat.le_of_ble_eq_true rfl) rfl rfl ?_
    refine st_goto (pc := 68) (tgt := 2) C.1 dX9_isHead_68 (by decide) ?_
    exact (k0 c0)
  · refine st_iload_n (pc := 31) C.1 dX9_isHead_31 rfl rfl ?_
    refine st_iload_n (pc := 32) C.1 dX9_isHead_32 rfl rfl ?_
    refine st_icmp_eq (pc := 33) (tgt := 65) C.1 dX9_isHead_33 (by decide) (fun c1 => ?_) (fun c1 => ?_)
    · refine sv_iinc (pc := 65) (i := 2) (v := x2 + 1) C.1 [some (va_rf (some t)), some (.int x1), some (.int (x2 + 1)), some (.int x3), some (.int x4)] dX9_isHead_65 rfl rfl (by rw [C.2.1]; exact Nat.le_of_ble_eq_true rfl) rfl rfl ?_
      refine st_goto (pc := 68) (tgt := 2) C.1 dX9_isHead_68 (by decide) ?_
      exact (k1 c0 c1)
    · refine st_aload_n (pc := 36) C.1 (some t) dX9_isHead_36 rfl rfl ?_
      refine st_aload_n (pc := 37) C.1 (some t) dX9_isHead_37 rfl rfl ?_
      refine gR_RX9_7 (pc := 38) C.1 (some (A 904)) dX9_isHead_38 (hS.k _) (hS.r _ 904) ?_
      refine st_aload_n (pc := 41) C.1 (some t) dX9_isHead_41 rfl rfl ?_
      refine st_iload_n (pc := 42) C.1 dX9_isHead_42 rfl rfl ?_
      exact (k2 c0 c1)

theorem sm_isHead_46 {X : CX} {d mc ms cells slots : Nat} {pp : Int32 → Hp → Prop} {h : Hp} {t : Nat} {ρ A : Nat → Nat} {m : Mo} {x1 : Int32} {x2 : Int32} {x3 : Int32} {x4 : Int32} {u0 : Int32} {p2 : Option Nat} (C : CmI X mX9_isHead d mc ms pp) (hS : MS h t ρ A) (h0 : vp_in (u0 + x4) 3001) (k0 : At X cells slots 50 [some (va_rf (some t)), some (.int x1), some (.int x2), some (.int x3), some (.int x4)] [.int (m.2 904 ((u0 + x4).toNatClampNeg)), va_rf p2] (mput h t ρ m)) : At X cells slots 46 [some (va_rf (some t)), some (.int x1), some (.int x2), some (.int x3), some (.int x4)] [.int u0, va_rf (some (A 904)), va_rf p2] (mput h t ρ m) := by
  refine st_iload (pc := 46) C.1 dX9_isHead_46 rfl ?_
  refine st_iadd (pc := 48) C.1 dX9_isHead_48 ?_
  refine sv_iaload (pc := 49) C.1 (m.2 904 ((u0 + x4).toNatClampNeg)) dX9_isHead_49 (hS.ki _ 904) (by rw [nA904 hS]; exact h0) (congrFun (mA904 hS _) _) ?_
  exact k0

theorem sm_isHead_53 {X : CX} {d mc ms cells slots : Nat} {pp : Int32 → Hp → Prop} {h : Hp} {t : Nat} {ρ A : Nat → Nat} {m : Mo} {x1 : Int32} {x2 : Int32} {x3 : Int32} {x4 : Int32} {u0 : Int32} (C : CmI X mX9_isHead d mc ms pp) (hS : MS h t ρ A) (hc : cells ≤ mc) (hs : slots ≤ ms)  (k0 : ¬ u0 = x1 → At X cells slots 20 [some (va_rf (some t)), some (.int x1), some (.int x2), some (.int x3), some (.int (x4 + 1))] [] (mput h t ρ m)) (k1 : u0 = x1 → pp 0 (mput h t ρ m)) : At X cells slots 53 [some (va_rf (some t)), some (.int x1), some (.int x2), some (.int x3), some (.int x4)] [.int u0] (mput h t ρ m) := by
  refine st_iload_n (pc := 53) C.1 dX9_isHead_53 rfl rfl ?_
  refine st_icmp_ne (pc := 54) (tgt := 59) C.1 dX9_isHead_54 (by decide) (fun c0 => ?_) (fun c0 => ?_)
  · refine sv_iinc (pc := 59) (i := 4) (v := x4 + 1) C.1 [some (va_rf (some t)), some (.int x1), some (.int x2), some (.int x3), some (.int (x4 + 1))] dX9_isHead_59 rfl rfl (by rw [C.2.1]; exact Nat.le_of_ble_eq_true rfl) rfl rfl ?_
    refine st_goto (pc := 62) (tgt := 20) C.1 dX9_isHead_62 (by decide) ?_
    exact (k0 c0)
  · refine st_iconst (pc := 57) (v := 0) C.1 dX9_isHead_57 (by decide) ?_
    exact rt_i C (Or.inr ⟨rfl, (Or.inl rfl)⟩) dX9_isHead_58 hc hs ⟨_, rfl, (k1 c0)⟩

theorem sm_leakScan_0 {X : CX} {d mc ms cells slots : Nat} {pp : Int32 → Hp → Prop} {h : Hp} {t : Nat} {ρ A : Nat → Nat} {m : Mo}  (C : CmI X mX9_leakScan d mc ms pp) (hS : MS h t ρ A)  (k0 : At X cells slots 6 [some (va_rf (some t)), none, none] [va_rf (some t)] (mput h t ρ (up1 m.1 903 0, m.2))) : At X cells slots 0 [some (va_rf (some t)), none, none] [] (mput h t ρ m) := by
  refine st_aload_n (pc := 0) C.1 (some t) dX9_leakScan_0 rfl rfl ?_
  refine st_iconst (pc := 1) (v := 0) C.1 dX9_leakScan_1 (by decide) ?_
  refine pI_RX9_85 (pc := 2) C.1 dX9_leakScan_2 (hS.k _) ?_
  rw [pI903]
  refine st_aload_n (pc := 5) C.1 (some t) dX9_leakScan_5 rfl rfl ?_
  exact k0

theorem sm_leakScan_9 {X : CX} {d mc ms cells slots : Nat} {pp : Int32 → Hp → Prop} {h : Hp} {t : Nat} {ρ A : Nat → Nat} {m : Mo}  (C : CmI X mX9_leakScan d mc ms pp) (hS : MS h t ρ A)  (k0 : At X cells slots 16 [some (va_rf (some t)), some (.int 0), none] [] (mput h t ρ (up1 m.1 932 0, m.2))) : At X cells slots 9 [some (va_rf (some t)), none, none] [] (mput h t ρ m) := by
  refine st_aload_n (pc := 9) C.1 (some t) dX9_leakScan_9 rfl rfl ?_
  refine st_iconst (pc := 10) (v := 0) C.1 dX9_leakScan_10 (by decide) ?_
  refine pI_RX9_190 (pc := 11) C.1 dX9_leakScan_11 (hS.k _) ?_
  rw [pI932]
  refine st_iconst (pc := 14) (v := 0) C.1 dX9_leakScan_14 (by decide) ?_
  refine sv_istore_n (pc := 15) (i := 1) C.1 [some (va_rf (some t)), some (.int 0), none] dX9_leakScan_15 rfl (Nat.le_of_ble_eq_true rfl) (by rw [C.2.1]; exact Nat.le_of_ble_eq_true rfl) rfl rfl ?_
  exact k0

theorem sm_leakScan_16 {X : CX} {d mc ms cells slots : Nat} {pp : Int32 → Hp → Prop} {h : Hp} {t : Nat} {ρ A : Nat → Nat} {m : Mo} {x1 : Int32} (C : CmI X mX9_leakScan d mc ms pp) (hS : MS h t ρ A)  (k0 : m.1 912 ≤ x1 → At X cells slots 120 [some (va_rf (some t)), some (.int 0), none] [] (mput h t ρ m)) (k1 : ¬ m.1 912 ≤ x1 → At X cells slots 26 [some (va_rf (some t)), some (.int x1), none] [.int x1, va_rf (some t)] (mput h t ρ m)) : At X cells slots 16 [some (va_rf (some t)), some (.int x1), none] [] (mput h t ρ m) := by
  refine st_iload_n (pc := 16) C.1 dX9_leakScan_16 rfl rfl ?_
  refine st_aload_n (pc := 17) C.1 (some t) dX9_leakScan_17 rfl rfl ?_
  refine gI_RX9_88 (pc := 18) C.1 (m.1 912) dX9_leakScan_18 (hS.k _) (mI912 h t ρ _) ?_
  refine st_icmp_ge (pc := 21) (tgt := 118) C.1 dX9_leakScan_21 (by decide) (fun c0 => ?_) (fun c0 => ?_)
  · refine st_iconst (pc := 118) (v := 0) C.1 dX9_leakScan_118 (by decide) ?_
    refine sv_istore_n (pc := 119) (i := 1) C.1 [some (va_rf (some t)), some (.int 0), none] dX9_leakScan_119 rfl (Nat.le_of_ble_eq_true rfl) (by rw [C.2.1]; exact Nat.le_of_ble_eq_true rfl) rfl rfl ?_
    exact (k0 c0)
  · refine st_aload_n (pc := 24) C.1 (some t) dX9_leakScan_24 rfl rfl ?_
    refine st_iload_n (pc := 25) C.1 dX9_leakScan_25 rfl rfl ?_
    exact (k1 c0)

theorem sm_leakScan_29 {X : CX} {d mc ms cells slots : Nat} {pp : Int32 → Hp → Prop} {h : Hp} {t : Nat} {ρ A : Nat → Nat} {m : Mo} {x1 : Int32} {u0 : Int32} (C : CmI X mX9_leakScan d mc ms pp) (hS : MS h t ρ A) (h0 : ¬ u0 = 0 → vp_in x1 800) (k0 : u0 = 0 → At X cells slots 16 [some (va_rf (some t)), some (.int (x1 + 1)), none] [] (mput h t ρ m)) (k1 : ¬ u0 = 0 → m.2 926 (x1.toNatClampNeg) = 0 → At X cells slots 49 [some (va_rf (some t)), some (.int x1), some (.int (m.1 932))] [] (mput h t ρ m)) (k2 : ¬ u0 = 0 → ¬ m.2 926 (x1.toNatClampNeg) = 0 → At X cells slots 16 [some (va_rf (some t)), some (.int (x1 + 1)), none] [] (mput h t ρ m)) : At X cells slots 29 [some (va_rf (some t)), some (.int x1), none] [.int u0] (mput h t ρ m) := by
  refine st_if_eq (pc := 29) (tgt := 112) C.1 dX9_leakScan_29 (by decide) (fun c0 => ?_) (fun c0 => ?_)
  · refine sv_iinc (pc := 112) (i := 1) (v := x1 + 1) C.1 [some (va_rf (some t)), some (.int (x1 + 1)), none] dX9_leakScan_112 rfl rfl (by rw [C.2.1]; exact Nat.le_of_ble_eq_true rfl) rfl rfl ?_
    refine st_goto (pc := 115) (tgt := 16) C.1 dX9_leakScan_115 (by decide) ?_
    exact (k0 c0)
  · refine st_aload_n (pc := 32) C.1 (some t) dX9_leakScan_32 rfl rfl ?_
    refine gR_RX9_53 (pc := 33) C.1 (some (A 926)) dX9_leakScan_33 (hS.k _) (hS.r _ 926) ?_
    refine st_iload_n (pc := 36) C.1 dX9_leakScan_36 rfl rfl ?_
    refine sv_baload (pc := 37) C.1 (m.2 926 (x1.toNatClampNeg)) dX9_leakScan_37 (hS.kz _ 926) (by rw [nA926 hS]; exact (h0 c0)) (congrFun (mA926 hS _) _) ?_
    refine st_if_eq (pc := 38) (tgt := 44) C.1 dX9_leakScan_38 (by decide) (fun c1 => ?_) (fun c1 => ?_)
    · refine st_aload_n (pc := 44) C.1 (some t) dX9_leakScan_44 rfl rfl ?_
      refine gI_RX9_190 (pc := 45) C.1 (m.1 932) dX9_leakScan_45 (hS.k _) (mI932 h t ρ _) ?_
      refine sv_istore_n (pc := 48) (i := 2) C.1 [some (va_rf (some t)), some (.int x1), some (.int (m.1 932))] dX9_leakScan_48 rfl (Nat.le_of_ble_eq_true rfl) (by rw [C.2.1]; exact Nat.le_of_ble_eq_true rfl) rfl rfl ?_
      exact (k1 c0 c1)
    · refine st_goto (pc := 41) (tgt := 112) C.1 dX9_leakScan_41 (by decide) ?_
      refine sv_iinc (pc := 112) (i := 1) (v := x1 + 1) C.1 [some (va_rf (some t)), some (.int (x1 + 1)), none] dX9_leakScan_112 rfl rfl (by rw [C.2.1]; exact Nat.le_of_ble_eq_true rfl) rfl rfl ?_
      refine st_goto (pc := 115) (tgt := 16) C.1 dX9_leakScan_115 (by decide) ?_
      exact (k2 c0 c1)

theorem sm_leakScan_49 {X : CX} {d mc ms cells slots : Nat} {pp : Int32 → Hp → Prop} {h : Hp} {t : Nat} {ρ A : Nat → Nat} {m : Mo} {x1 : Int32} {x2 : Int32} (C : CmI X mX9_leakScan d mc ms pp) (hS : MS h t ρ A) (h0 : x2 ≤ 0 → vp_in x2 800) (h1 : ¬ x2 ≤ 0 → vp_in (x2 - 1) 800) (h2 : ¬ x2 ≤ 0 → vp_in (m.2 927 ((x2 - 1).toNatClampNeg)) 800) (h3 : ¬ x2 ≤ 0 → vp_in x1 800) (h4 : ¬ x2 ≤ 0 → m.2 907 ((m.2 927 ((x2 - 1).toNatClampNeg)).toNatClampNeg) ≤ m.2 907 (x1.toNatClampNeg) → vp_in x2 800) (h5 : ¬ x2 ≤ 0 → ¬ m.2 907 ((m.2 927 ((x2 - 1).toNatClampNeg)).toNatClampNeg) ≤ m.2 907 (x1.toNatClampNeg) → vp_in (x2 - 1) 800) (h6 : ¬ x2 ≤ 0 → ¬ m.2 907 ((m.2 927 ((x2 - 1).toNatClampNeg)).toNatClampNeg) ≤ m.2 907 (x1.toNatClampNeg) → vp_in x2 800) (k0 : x2 ≤ 0 → At X cells slots 16 [some (va_rf (some t)), some (.int (x1 + 1)), some (.int x2)] [] (mput h t ρ (up1 m.1 932 ((m.1 932) + 1), up2 m.2 927 (x2.toNatClampNeg) x1))) (k1 : ¬ x2 ≤ 0 → m.2 907 ((m.2 927 ((x2 - 1).toNatClampNeg)).toNatClampNeg) ≤ m.2 907 (x1.toNatClampNeg) → At X cells slots 16 [some (va_rf (some t)), some (.int (x1 + 1)), some (.int x2)] [] (mput h t ρ (up1 m.1 932 ((m.1 932) + 1), up2 m.2 927 (x2.toNatClampNeg) x1))) (k2 : ¬ x2 ≤ 0 → ¬ m.2 907 ((m.2 927 ((x2 - 1).toNatClampNeg)).toNatClampNeg) ≤ m.2 907 (x1.toNatClampNeg) → At X cells slots 49 [some (va_rf (some t)), some (.int x1), some (.int (x2 + (-1)))] [] (mput h t ρ (m.1, up2 m.2 927 (x2.toNatClampNeg) (m.2 927 ((x2 - 1).toNatClampNeg))))) : At X cells slots 49 [some (va_rf (some t)), some (.int x1), some (.int x2)] [] (mput h t ρ m) := by
  refine st_iload_n (pc := 49) C.1 dX9_leakScan_49 rfl rfl ?_
  refine st_if_le (pc := 50) (tgt := 95) C.1 dX9_leakScan_50 (by decide) (fun c0 => ?_) (fun c0 => ?_)
  · refine st_aload_n (pc := 95) C.1 (some t) dX9_leakScan_95 rfl rfl ?_
    refine gR_RX9_57 (pc := 96) C.1 (some (A 927)) dX9_leakScan_96 (hS.k _) (hS.r _ 927) ?_
    refine st_iload_n (pc := 99) C.1 dX9_leakScan_99 rfl rfl ?_
    refine st_iload_n (pc := 100) C.1 dX9_leakScan_100 rfl rfl ?_
    refine st_iastore (pc := 101) C.1 dX9_leakScan_101 (hS.ki _ 927) (by rw [nA927 hS]; exact (h0 c0)) ?_
    rw [pA927 hS]
    refine st_aload_n (pc := 102) C.1 (some t) dX9_leakScan_102 rfl rfl ?_
    refine st_dup (pc := 103) C.1 dX9_leakScan_103 (rf_cat (some t)) ?_
    refine gI_RX9_190 (pc := 104) C.1 (m.1 932) dX9_leakScan_104 (hS.k _) (mI932 h t ρ _) ?_
    refine st_iconst (pc := 107) (v := 1) C.1 dX9_leakScan_107 (by decide) ?_
    refine st_iadd (pc := 108) C.1 dX9_leakScan_108 ?_
    refine pI_RX9_190 (pc := 109) C.1 dX9_leakScan_109 (hS.k _) ?_
    rw [pI932]
    refine sv_iinc (pc := 112) (i := 1) (v := x1 + 1) C.1 [some (va_rf (some t)), some (.int (x1 + 1)), some (.int x2)] dX9_leakScan_112 rfl rfl (by rw [C.2.1]; exact Nat.le_of_ble_eq_true rfl) rfl rfl ?_
    refine st_goto (pc := 115) (tgt := 16) C.1 dX9_leakScan_115 (by decide) ?_
    exact (k0 c0)
  · refine st_aload_n (pc := 53) C.1 (some t) dX9_leakScan_53 rfl rfl ?_
    refine gR_RX9_20 (pc := 54) C.1 (some (A 907)) dX9_leakScan_54 (hS.k _) (hS.r _ 907) ?_
    refine st_aload_n (pc := 57) C.1 (some t) dX9_leakScan_57 rfl rfl ?_
    refine gR_RX9_57 (pc := 58) C.1 (some (A 927)) dX9_leakScan_58 (hS.k _) (hS.r _ 927) ?_
    refine st_iload_n (pc := 61) C.1 dX9_leakScan_61 rfl rfl ?_
    refine st_iconst (pc := 62) (v := 1) C.1 dX9_leakScan_62 (by decide) ?_
    refine st_isub (pc := 63) C.1 dX9_leakScan_63 ?_
    refine sv_iaload (pc := 64) C.1 (m.2 927 ((x2 - 1).toNatClampNeg)) dX9_leakScan_64 (hS.ki _ 927) (by rw [nA927 hS]; exact (h1 c0)) (congrFun (mA927 hS _) _) ?_
    refine sv_iaload (pc := 65) C.1 (m.2 907 ((m.2 927 ((x2 - 1).toNatClampNeg)).toNatClampNeg)) dX9_leakScan_65 (hS.ki _ 907) (by rw [nA907 hS]; exact (h2 c0)) (congrFun (mA907 hS _) _) ?_
    refine st_aload_n (pc := 66) C.1 (some t) dX9_leakScan_66 rfl rfl ?_
    refine gR_RX9_20 (pc := 67) C.1 (some (A 907)) dX9_leakScan_67 (hS.k _) (hS.r _ 907) ?_
    refine st_iload_n (pc := 70) C.1 dX9_leakScan_70 rfl rfl ?_
    refine sv_iaload (pc := 71) C.1 (m.2 907 (x1.toNatClampNeg)) dX9_leakScan_71 (hS.ki _ 907) (by rw [nA907 hS]; exact (h3 c0)) (congrFun (mA907 hS _) _) ?_
    refine st_icmp_le (pc := 72) (tgt := 95) C.1 dX9_leakScan_72 (by decide) (fun c1 => ?_) (fun c1 => ?_)
    · refine st_aload_n (pc := 95) C.1 (some t) dX9_leakScan_95 rfl rfl ?_
      refine gR_RX9_57 (pc := 96) C.1 (some (A 927)) dX9_leakScan_96 (hS.k _) (hS.r _ 927) ?_
      refine st_iload_n (pc := 99) C.1 dX9_leakScan_99 rfl rfl ?_
      refine st_iload_n (pc := 100) C.1 dX9_leakScan_100 rfl rfl ?_
      refine st_iastore (pc := 101) C.1 dX9_leakScan_101 (hS.ki _ 927) (by rw [nA927 hS]; exact (h4 c0 c1)) ?_
      rw [pA927 hS]
      refine st_aload_n (pc := 102) C.1 (some t) dX9_leakScan_102 rfl rfl ?_
      refine st_dup (pc := 103) C.1 dX9_leakScan_103 (rf_cat (some t)) ?_
      refine gI_RX9_190 (pc := 104) C.1 (m.1 932) dX9_leakScan_104 (hS.k _) (mI932 h t ρ _) ?_
      refine st_iconst (pc := 107) (v := 1) C.1 dX9_leakScan_107 (by decide) ?_
      refine st_iadd (pc := 108) C.1 dX9_leakScan_108 ?_
      refine pI_RX9_190 (pc := 109) C.1 dX9_leakScan_109 (hS.k _) ?_
      rw [pI932]
      refine sv_iinc (pc := 112) (i := 1) (v := x1 + 1) C.1 [some (va_rf (some t)), some (.int (x1 + 1)), some (.int x2)] dX9_leakScan_112 rfl rfl (by rw [C.2.1]; exact Nat.le_of_ble_eq_true rfl) rfl rfl ?_
      refine st_goto (pc := 115) (tgt := 16) C.1 dX9_leakScan_115 (by decide) ?_
      exact (k1 c0 c1)
    · refine st_aload_n (pc := 75) C.1 (some t) dX9_leakScan_75 rfl rfl ?_
      refine gR_RX9_57 (pc := 76) C.1 (some (A 927)) dX9_leakScan_76 (hS.k _) (hS.r _ 927) ?_
      refine st_iload_n (pc := 79) C.1 dX9_leakScan_79 rfl rfl ?_
      refine st_aload_n (pc := 80) C.1 (some t) dX9_leakScan_80 rfl rfl ?_
      refine gR_RX9_57 (pc := 81) C.1 (some (A 927)) dX9_leakScan_81 (hS.k _) (hS.r _ 927) ?_
      refine st_iload_n (pc := 84) C.1 dX9_leakScan_84 rfl rfl ?_
      refine st_iconst (pc := 85) (v := 1) C.1 dX9_leakScan_85 (by decide) ?_
      refine st_isub (pc := 86) C.1 dX9_leakScan_86 ?_
      refine sv_iaload (pc := 87) C.1 (m.2 927 ((x2 - 1).toNatClampNeg)) dX9_leakScan_87 (hS.ki _ 927) (by rw [nA927 hS]; exact (h5 c0 c1)) (congrFun (mA927 hS _) _) ?_
      refine st_iastore (pc := 88) C.1 dX9_leakScan_88 (hS.ki _ 927) (by rw [nA927 hS]; exact (h6 c0 c1)) ?_
      rw [pA927 hS]
      refine sv_iinc (pc := 89) (i := 2) (v := x2 + (-1)) C.1 [some (va_rf (some t)), some (.int x1), some (.int (x2 + (-1)))] dX9_leakScan_89 rfl rfl (by rw [C.2.1]; exact Nat.le_of_ble_eq_true rfl) rfl rfl ?_
      refine st_goto (pc := 92) (tgt := 49) C.1 dX9_leakScan_92 (by decide) ?_
      exact (k2 c0 c1)

theorem sm_leakScan_120 {X : CX} {d mc ms cells slots : Nat} {pp : Int32 → Hp → Prop} {h : Hp} {t : Nat} {ρ A : Nat → Nat} {m : Mo} {x1 : Int32} (C : CmI X mX9_leakScan d mc ms pp) (hS : MS h t ρ A) (hc : cells ≤ mc) (hs : slots ≤ ms) (h0 : ¬ m.1 932 ≤ x1 → vp_in x1 800) (k0 : m.1 932 ≤ x1 → pp (m.1 932) (mput h t ρ m)) (k1 : ¬ m.1 932 ≤ x1 → At X cells slots 140 [some (va_rf (some t)), some (.int x1), none] [.int (m.2 927 (x1.toNatClampNeg)), va_rf (some t), .int x1, va_rf (some (A 928))] (mput h t ρ m)) : At X cells slots 120 [some (va_rf (some t)), some (.int x1), none] [] (mput h t ρ m) := by
  refine st_iload_n (pc := 120) C.1 dX9_leakScan_120 rfl rfl ?_
  refine st_aload_n (pc := 121) C.1 (some t) dX9_leakScan_121 rfl rfl ?_
  refine gI_RX9_190 (pc := 122) C.1 (m.1 932) dX9_leakScan_122 (hS.k _) (mI932 h t ρ _) ?_
  refine st_icmp_ge (pc := 125) (tgt := 200) C.1 dX9_leakScan_125 (by decide) (fun c0 => ?_) (fun c0 => ?_)
  · refine st_aload_n (pc := 200) C.1 (some t) dX9_leakScan_200 rfl rfl ?_
    refine gI_RX9_190 (pc := 201) C.1 (m.1 932) dX9_leakScan_201 (hS.k _) (mI932 h t ρ _) ?_
    exact rt_i C (Or.inl rfl) dX9_leakScan_204 hc hs ⟨_, rfl, (k0 c0)⟩
  · refine st_aload_n (pc := 128) C.1 (some t) dX9_leakScan_128 rfl rfl ?_
    refine gR_RX9_60 (pc := 129) C.1 (some (A 928)) dX9_leakScan_129 (hS.k _) (hS.r _ 928) ?_
    refine st_iload_n (pc := 132) C.1 dX9_leakScan_132 rfl rfl ?_
    refine st_aload_n (pc := 133) C.1 (some t) dX9_leakScan_133 rfl rfl ?_
    refine st_aload_n (pc := 134) C.1 (some t) dX9_leakScan_134 rfl rfl ?_
    refine gR_RX9_57 (pc := 135) C.1 (some (A 927)) dX9_leakScan_135 (hS.k _) (hS.r _ 927) ?_
    refine st_iload_n (pc := 138) C.1 dX9_leakScan_138 rfl rfl ?_
    refine sv_iaload (pc := 139) C.1 (m.2 927 (x1.toNatClampNeg)) dX9_leakScan_139 (hS.ki _ 927) (by rw [nA927 hS]; exact (h0 c0)) (congrFun (mA927 hS _) _) ?_
    exact (k1 c0)

theorem sm_leakScan_143 {X : CX} {d mc ms cells slots : Nat} {pp : Int32 → Hp → Prop} {h : Hp} {t : Nat} {ρ A : Nat → Nat} {m : Mo} {x1 : Int32} {u0 : Int32} {u1 : Int32} (C : CmI X mX9_leakScan d mc ms pp) (hS : MS h t ρ A) (h0 : vp_in u1 800) (h1 : vp_in x1 800) (h2 : vp_in (m.2 927 (x1.toNatClampNeg)) 800) (k0 : At X cells slots 190 [some (va_rf (some t)), some (.int x1), none] [.int (m.2 927 (x1.toNatClampNeg)), va_rf (some t), .int x1, va_rf (some (A 931))] (mput h t ρ (m.1, up2 (up2 (up2 m.2 928 (u1.toNatClampNeg) u0) 929 (x1.toNatClampNeg) (m.2 909 ((m.2 927 (x1.toNatClampNeg)).toNatClampNeg))) 930 (x1.toNatClampNeg) (m.2 910 ((m.2 927 (x1.toNatClampNeg)).toNatClampNeg))))) : At X cells slots 143 [some (va_rf (some t)), some (.int x1), none] [.int u0, .int u1, va_rf (some (A 928))] (mput h t ρ m) := by
  refine st_iastore (pc := 143) C.1 dX9_leakScan_143 (hS.ki _ 928) (by rw [nA928 hS]; exact h0) ?_
  rw [pA928 hS]
  refine st_aload_n (pc := 144) C.1 (some t) dX9_leakScan_144 rfl rfl ?_
  refine gR_RX9_63 (pc := 145) C.1 (some (A 929)) dX9_leakScan_145 (hS.k _) (hS.r _ 929) ?_
  refine st_iload_n (pc := 148) C.1 dX9_leakScan_148 rfl rfl ?_
  refine st_aload_n (pc := 149) C.1 (some t) dX9_leakScan_149 rfl rfl ?_
  refine gR_RX9_26 (pc := 150) C.1 (some (A 909)) dX9_leakScan_150 (hS.k _) (hS.r _ 909) ?_
  refine st_aload_n (pc := 153) C.1 (some t) dX9_leakScan_153 rfl rfl ?_
  refine gR_RX9_57 (pc := 154) C.1 (some (A 927)) dX9_leakScan_154 (hS.k _) (hS.r _ 927) ?_
  refine st_iload_n (pc := 157) C.1 dX9_leakScan_157 rfl rfl ?_
  refine sv_iaload (pc := 158) C.1 (m.2 927 (x1.toNatClampNeg)) dX9_leakScan_158 (hS.ki _ 927) (by rw [nA927 hS]; exact h1) (congrFun (mA927 hS _) _) ?_
  refine sv_iaload (pc := 159) C.1 (m.2 909 ((m.2 927 (x1.toNatClampNeg)).toNatClampNeg)) dX9_leakScan_159 (hS.ki _ 909) (by rw [nA909 hS]; exact h2) (congrFun (mA909 hS _) _) ?_
  refine st_iastore (pc := 160) C.1 dX9_leakScan_160 (hS.ki _ 929) (by rw [nA929 hS]; exact h1) ?_
  rw [pA929 hS]
  refine st_aload_n (pc := 161) C.1 (some t) dX9_leakScan_161 rfl rfl ?_
  refine gR_RX9_66 (pc := 162) C.1 (some (A 930)) dX9_leakScan_162 (hS.k _) (hS.r _ 930) ?_
  refine st_iload_n (pc := 165) C.1 dX9_leakScan_165 rfl rfl ?_
  refine st_aload_n (pc := 166) C.1 (some t) dX9_leakScan_166 rfl rfl ?_
  refine gR_RX9_29 (pc := 167) C.1 (some (A 910)) dX9_leakScan_167 (hS.k _) (hS.r _ 910) ?_
  refine st_aload_n (pc := 170) C.1 (some t) dX9_leakScan_170 rfl rfl ?_
  refine gR_RX9_57 (pc := 171) C.1 (some (A 927)) dX9_leakScan_171 (hS.k _) (hS.r _ 927) ?_
  refine st_iload_n (pc := 174) C.1 dX9_leakScan_174 rfl rfl ?_
  refine sv_iaload (pc := 175) C.1 (m.2 927 (x1.toNatClampNeg)) dX9_leakScan_175 (hS.ki _ 927) (by rw [nA927 hS]; exact h1) (congrFun (mA927 hS _) _) ?_
  refine sv_iaload (pc := 176) C.1 (m.2 910 ((m.2 927 (x1.toNatClampNeg)).toNatClampNeg)) dX9_leakScan_176 (hS.ki _ 910) (by rw [nA910 hS]; exact h2) (congrFun (mA910 hS _) _) ?_
  refine st_iastore (pc := 177) C.1 dX9_leakScan_177 (hS.ki _ 930) (by rw [nA930 hS]; exact h1) ?_
  rw [pA930 hS]
  refine st_aload_n (pc := 178) C.1 (some t) dX9_leakScan_178 rfl rfl ?_
  refine gR_RX9_69 (pc := 179) C.1 (some (A 931)) dX9_leakScan_179 (hS.k _) (hS.r _ 931) ?_
  refine st_iload_n (pc := 182) C.1 dX9_leakScan_182 rfl rfl ?_
  refine st_aload_n (pc := 183) C.1 (some t) dX9_leakScan_183 rfl rfl ?_
  refine st_aload_n (pc := 184) C.1 (some t) dX9_leakScan_184 rfl rfl ?_
  refine gR_RX9_57 (pc := 185) C.1 (some (A 927)) dX9_leakScan_185 (hS.k _) (hS.r _ 927) ?_
  refine st_iload_n (pc := 188) C.1 dX9_leakScan_188 rfl rfl ?_
  refine sv_iaload (pc := 189) C.1 (m.2 927 (x1.toNatClampNeg)) dX9_leakScan_189 (hS.ki _ 927) (by rw [nA927 hS]; exact h1) (congrFun (mA927 hS _) _) ?_
  exact k0

theorem sm_leakScan_193 {X : CX} {d mc ms cells slots : Nat} {pp : Int32 → Hp → Prop} {h : Hp} {t : Nat} {ρ A : Nat → Nat} {m : Mo} {x1 : Int32} {u0 : Int32} {u1 : Int32} (C : CmI X mX9_leakScan d mc ms pp) (hS : MS h t ρ A) (h0 : vp_in u1 800) (h1 : u0 = 0 ∨ u0 = 1) (k0 : At X cells slots 120 [some (va_rf (some t)), some (.int (x1 + 1)), none] [] (mput h t ρ (m.1, up2 m.2 931 (u1.toNatClampNeg) u0))) : At X cells slots 193 [some (va_rf (some t)), some (.int x1), none] [.int u0, .int u1, va_rf (some (A 931))] (mput h t ρ m) := by
  refine st_bastore (pc := 193) C.1 dX9_leakScan_193 (hS.kz _ 931) (by rw [nA931 hS]; exact h0) h1 ?_
  rw [pA931 hS]
  refine sv_iinc (pc := 194) (i := 1) (v := x1 + 1) C.1 [some (va_rf (some t)), some (.int (x1 + 1)), none] dX9_leakScan_194 rfl rfl (by rw [C.2.1]; exact Nat.le_of_ble_eq_true rfl) rfl rfl ?_
  refine st_goto (pc := 197) (tgt := 120) C.1 dX9_leakScan_197 (by decide) ?_
  exact k0

theorem sm_leak_0 {X : CX} {d mc ms cells slots : Nat} {pp : Int32 → Hp → Prop} {h : Hp} {t : Nat} {ρ A : Nat → Nat} {m : Mo} {x1 : Int32} {x2 : Int32} (C : CmI X mX9_leak d mc ms pp) (hS : MS h t ρ A) (hc : cells ≤ mc) (hs : slots ≤ ms) (h0 : ¬ x1 < 0 → x1 < m.1 932 → x2 = 0 → vp_in x1 800) (h1 : ¬ x1 < 0 → x1 < m.1 932 → x2 = 1 → vp_in x1 800) (h2 : ¬ x1 < 0 → x1 < m.1 932 → x2 = 2 → vp_in x1 800) (h3 : ¬ x1 < 0 → x1 < m.1 932 → x2 = 3 → vp_in x1 800) (k0 : x1 < 0 → pp (-1) (mput h t ρ (up1 m.1 903 0, m.2))) (k1 : ¬ x1 < 0 → x1 < m.1 932 → x2.toInt < 0 ∨ 3 < x2.toInt → pp (-1) (mput h t ρ (up1 m.1 903 0, m.2))) (k2 : ¬ x1 < 0 → x1 < m.1 932 → x2 = 0 → pp (m.2 928 (x1.toNatClampNeg)) (mput h t ρ (up1 m.1 903 0, m.2))) (k3 : ¬ x1 < 0 → x1 < m.1 932 → x2 = 1 → pp (m.2 929 (x1.toNatClampNeg)) (mput h t ρ (up1 m.1 903 0, m.2))) (k4 : ¬ x1 < 0 → x1 < m.1 932 → x2 = 2 → pp (m.2 930 (x1.toNatClampNeg)) (mput h t ρ (up1 m.1 903 0, m.2))) (k5 : ¬ x1 < 0 → x1 < m.1 932 → x2 = 3 → m.2 931 (x1.toNatClampNeg) = 0 → pp 0 (mput h t ρ (up1 m.1 903 0, m.2))) (k6 : ¬ x1 < 0 → x1 < m.1 932 → x2 = 3 → ¬ m.2 931 (x1.toNatClampNeg) = 0 → pp 1 (mput h t ρ (up1 m.1 903 0, m.2))) (k7 : ¬ x1 < 0 → ¬ x1 < m.1 932 → pp (-1) (mput h t ρ (up1 m.1 903 0, m.2))) : At X cells slots 0 [some (va_rf (some t)), some (.int x1), some (.int x2)] [] (mput h t ρ m) := by
  refine st_aload_n (pc := 0) C.1 (some t) dX9_leak_0 rfl rfl ?_
  refine st_iconst (pc := 1) (v := 0) C.1 dX9_leak_1 (by decide) ?_
  refine pI_RX9_85 (pc := 2) C.1 dX9_leak_2 (hS.k _) ?_
  rw [pI903]
  refine st_iload_n (pc := 5) C.1 dX9_leak_5 rfl rfl ?_
  refine st_if_lt (pc := 6) (tgt := 17) C.1 dX9_leak_6 (by decide) (fun c0 => ?_) (fun c0 => ?_)
  · refine st_iconst (pc := 17) (v := (-1)) C.1 dX9_leak_17 (by decide) ?_
    exact rt_i C (Or.inl rfl) dX9_leak_18 hc hs ⟨_, rfl, (k0 c0)⟩
  · refine st_iload_n (pc := 9) C.1 dX9_leak_9 rfl rfl ?_
    refine st_aload_n (pc := 10) C.1 (some t) dX9_leak_10 rfl rfl ?_
    refine gI_RX9_190 (pc := 11) C.1 (m.1 932) dX9_leak_11 (hS.k _) (mI932 h t ρ _) ?_
    refine st_icmp_lt (pc := 14) (tgt := 19) C.1 dX9_leak_14 (by decide) (fun c1 => ?_) (fun c1 => ?_)
    · refine st_iload_n (pc := 19) C.1 dX9_leak_19 rfl rfl ?_
      by_cases c2o : x2.toInt < 0 ∨ 3 < x2.toInt
      · refine st_tableOut (pc := 20) (tgt := 88) C.1 dX9_leak_20 c2o (by decide) ?_
        refine st_iconst (pc := 88) (v := (-1)) C.1 dX9_leak_88 (by decide) ?_
        exact rt_i C (Or.inl rfl) dX9_leak_89 hc hs ⟨_, rfl, (k1 c0 c1 c2o)⟩
      · rcases (show x2.toInt = 0 ∨ x2.toInt = 1 ∨ x2.toInt = 2 ∨ x2.toInt = 3 by omega) with c2 | c2 | c2 | c2
        · have c2e : x2 = 0 := Int32.toInt_inj.mp (by rw [c2]; rfl)
          refine st_tableIn (pc := 20) (off := 32) (tgt := 52) C.1 dX9_leak_20 (by omega) (by omega) (by rw [c2]; rfl) (by decide) ?_
          refine st_aload_n (pc := 52) C.1 (some t) dX9_leak_52 rfl rfl ?_
          refine gR_RX9_60 (pc := 53) C.1 (some (A 928)) dX9_leak_53 (hS.k _) (hS.r _ 928) ?_
          refine st_iload_n (pc := 56) C.1 dX9_leak_56 rfl rfl ?_
          refine sv_iaload (pc := 57) C.1 (m.2 928 (x1.toNatClampNeg)) dX9_leak_57 (hS.ki _ 928) (by rw [nA928 hS]; exact (h0 c0 c1 c2e)) (congrFun (mA928 hS _) _) ?_
          exact rt_i C (Or.inl rfl) dX9_leak_58 hc hs ⟨_, rfl, (k2 c0 c1 c2e)⟩
        · have c2e : x2 = 1 := Int32.toInt_inj.mp (by rw [c2]; rfl)
          refine st_tableIn (pc := 20) (off := 39) (tgt := 59) C.1 dX9_leak_20 (by omega) (by omega) (by rw [c2]; rfl) (by decide) ?_
          refine st_aload_n (pc := 59) C.1 (some t) dX9_leak_59 rfl rfl ?_
          refine gR_RX9_63 (pc := 60) C.1 (some (A 929)) dX9_leak_60 (hS.k _) (hS.r _ 929) ?_
          refine st_iload_n (pc := 63) C.1 dX9_leak_63 rfl rfl ?_
          refine sv_iaload (pc := 64) C.1 (m.2 929 (x1.toNatClampNeg)) dX9_leak_64 (hS.ki _ 929) (by rw [nA929 hS]; exact (h1 c0 c1 c2e)) (congrFun (mA929 hS _) _) ?_
          exact rt_i C (Or.inl rfl) dX9_leak_65 hc hs ⟨_, rfl, (k3 c0 c1 c2e)⟩
        · have c2e : x2 = 2 := Int32.toInt_inj.mp (by rw [c2]; rfl)
          refine st_tableIn (pc := 20) (off := 46) (tgt := 66) C.1 dX9_leak_20 (by omega) (by omega) (by rw [c2]; rfl) (by decide) ?_
          refine st_aload_n (pc := 66) C.1 (some t) dX9_leak_66 rfl rfl ?_
          refine gR_RX9_66 (pc := 67) C.1 (some (A 930)) dX9_leak_67 (hS.k _) (hS.r _ 930) ?_
          refine st_iload_n (pc := 70) C.1 dX9_leak_70 rfl rfl ?_
          refine sv_iaload (pc := 71) C.1 (m.2 930 (x1.toNatClampNeg)) dX9_leak_71 (hS.ki _ 930) (by rw [nA930 hS]; exact (h2 c0 c1 c2e)) (congrFun (mA930 hS _) _) ?_
          exact rt_i C (Or.inl rfl) dX9_leak_72 hc hs ⟨_, rfl, (k4 c0 c1 c2e)⟩
        · have c2e : x2 = 3 := Int32.toInt_inj.mp (by rw [c2]; rfl)
          refine st_tableIn (pc := 20) (off := 53) (tgt := 73) C.1 dX9_leak_20 (by omega) (by omega) (by rw [c2]; rfl) (by decide) ?_
          refine st_aload_n (pc := 73) C.1 (some t) dX9_leak_73 rfl rfl ?_
          refine gR_RX9_69 (pc := 74) C.1 (some (A 931)) dX9_leak_74 (hS.k _) (hS.r _ 931) ?_
          refine st_iload_n (pc := 77) C.1 dX9_leak_77 rfl rfl ?_
          refine sv_baload (pc := 78) C.1 (m.2 931 (x1.toNatClampNeg)) dX9_leak_78 (hS.kz _ 931) (by rw [nA931 hS]; exact (h3 c0 c1 c2e)) (congrFun (mA931 hS _) _) ?_
          refine st_if_eq (pc := 79) (tgt := 86) C.1 dX9_leak_79 (by decide) (fun c3 => ?_) (fun c3 => ?_)
          · refine st_iconst (pc := 86) (v := 0) C.1 dX9_leak_86 (by decide) ?_
            exact rt_i C (Or.inl rfl) dX9_leak_87 hc hs ⟨_, rfl, (k5 c0 c1 c2e c3)⟩
          · refine st_iconst (pc := 82) (v := 1) C.1 dX9_leak_82 (by decide) ?_
            refine st_goto (pc := 83) (tgt := 87) C.1 dX9_leak_83 (by decide) ?_
            exact rt_i C (Or.inl rfl) dX9_leak_87 hc hs ⟨_, rfl, (k6 c0 c1 c2e c3)⟩
    · refine st_iconst (pc := 17) (v := (-1)) C.1 dX9_leak_17 (by decide) ?_
      exact rt_i C (Or.inl rfl) dX9_leak_18 hc hs ⟨_, rfl, (k7 c0 c1)⟩

theorem sm_pointers_0 {X : CX} {d mc ms cells slots : Nat} {pp : Int32 → Hp → Prop} {h : Hp} {t : Nat} {ρ A : Nat → Nat} {m : Mo}  (C : CmI X mX9_pointers d mc ms pp) (hS : MS h t ρ A)  (k0 : At X cells slots 9 [some (va_rf (some t)), some (.int 0), some (.int 0), none] [] (mput h t ρ (up1 m.1 903 0, m.2))) : At X cells slots 0 [some (va_rf (some t)), none, none, none] [] (mput h t ρ m) := by
  refine st_aload_n (pc := 0) C.1 (some t) dX9_pointers_0 rfl rfl ?_
  refine st_iconst (pc := 1) (v := 0) C.1 dX9_pointers_1 (by decide) ?_
  refine pI_RX9_85 (pc := 2) C.1 dX9_pointers_2 (hS.k _) ?_
  rw [pI903]
  refine st_iconst (pc := 5) (v := 0) C.1 dX9_pointers_5 (by decide) ?_
  refine sv_istore_n (pc := 6) (i := 1) C.1 [some (va_rf (some t)), some (.int 0), none, none] dX9_pointers_6 rfl (Nat.le_of_ble_eq_true rfl) (by rw [C.2.1]; exact Nat.le_of_ble_eq_true rfl) rfl rfl ?_
  refine st_iconst (pc := 7) (v := 0) C.1 dX9_pointers_7 (by decide) ?_
  refine sv_istore_n (pc := 8) (i := 2) C.1 [some (va_rf (some t)), some (.int 0), some (.int 0), none] dX9_pointers_8 rfl (Nat.le_of_ble_eq_true rfl) (by rw [C.2.1]; exact Nat.le_of_ble_eq_true rfl) rfl rfl ?_
  exact k0

theorem sm_pointers_9 {X : CX} {d mc ms cells slots : Nat} {pp : Int32 → Hp → Prop} {h : Hp} {t : Nat} {ρ A : Nat → Nat} {m : Mo} {x1 : Int32} {x2 : Int32} (C : CmI X mX9_pointers d mc ms pp) (hS : MS h t ρ A) (h0 : ¬ 16 ≤ x2 → vp_in x2 16) (k0 : 16 ≤ x2 → At X cells slots 45 [some (va_rf (some t)), some (.int x1), some (.int 0), none] [] (mput h t ρ m)) (k1 : ¬ 16 ≤ x2 → At X cells slots 23 [some (va_rf (some t)), some (.int x1), some (.int x2), none] [.int (m.2 922 (x2.toNatClampNeg)), va_rf (some t), .int x1] (mput h t ρ m)) : At X cells slots 9 [some (va_rf (some t)), some (.int x1), some (.int x2), none] [] (mput h t ρ m) := by
  refine st_iload_n (pc := 9) C.1 dX9_pointers_9 rfl rfl ?_
  refine st_bipush (pc := 10) (v := 16) C.1 dX9_pointers_10 (by decide) ?_
  refine st_icmp_ge (pc := 12) (tgt := 43) C.1 dX9_pointers_12 (by decide) (fun c0 => ?_) (fun c0 => ?_)
  · refine st_iconst (pc := 43) (v := 0) C.1 dX9_pointers_43 (by decide) ?_
    refine sv_istore_n (pc := 44) (i := 2) C.1 [some (va_rf (some t)), some (.int x1), some (.int 0), none] dX9_pointers_44 rfl (Nat.le_of_ble_eq_true rfl) (by rw [C.2.1]; exact Nat.le_of_ble_eq_true rfl) rfl rfl ?_
    exact (k0 c0)
  · refine st_iload_n (pc := 15) C.1 dX9_pointers_15 rfl rfl ?_
    refine st_aload_n (pc := 16) C.1 (some t) dX9_pointers_16 rfl rfl ?_
    refine st_aload_n (pc := 17) C.1 (some t) dX9_pointers_17 rfl rfl ?_
    refine gR_RX9_41 (pc := 18) C.1 (some (A 922)) dX9_pointers_18 (hS.k _) (hS.r _ 922) ?_
    refine st_iload_n (pc := 21) C.1 dX9_pointers_21 rfl rfl ?_
    refine sv_iaload (pc := 22) C.1 (m.2 922 (x2.toNatClampNeg)) dX9_pointers_22 (hS.ki _ 922) (by rw [nA922 hS]; exact (h0 c0)) (congrFun (mA922 hS _) _) ?_
    exact (k1 c0)

theorem sm_pointers_26 {X : CX} {d mc ms cells slots : Nat} {pp : Int32 → Hp → Prop} {h : Hp} {t : Nat} {ρ A : Nat → Nat} {m : Mo} {x1 : Int32} {x2 : Int32} {u0 : Int32} {u1 : Int32} (C : CmI X mX9_pointers d mc ms pp) (hS : MS h t ρ A)  (k0 : u0 = (-1) → At X cells slots 9 [some (va_rf (some t)), some (.int (u1 + 0)), some (.int (x2 + 1)), none] [] (mput h t ρ m)) (k1 : ¬ u0 = (-1) → At X cells slots 9 [some (va_rf (some t)), some (.int (u1 + 1)), some (.int (x2 + 1)), none] [] (mput h t ρ m)) : At X cells slots 26 [some (va_rf (some t)), some (.int x1), some (.int x2), none] [.int u0, .int u1] (mput h t ρ m) := by
  refine st_iconst (pc := 26) (v := (-1)) C.1 dX9_pointers_26 (by decide) ?_
  refine st_icmp_eq (pc := 27) (tgt := 34) C.1 dX9_pointers_27 (by decide) (fun c0 => ?_) (fun c0 => ?_)
  · refine st_iconst (pc := 34) (v := 0) C.1 dX9_pointers_34 (by decide) ?_
    refine st_iadd (pc := 35) C.1 dX9_pointers_35 ?_
    refine sv_istore_n (pc := 36) (i := 1) C.1 [some (va_rf (some t)), some (.int (u1 + 0)), some (.int x2), none] dX9_pointers_36 rfl (Nat.le_of_ble_eq_true rfl) (by rw [C.2.1]; exact Nat.le_of_ble_eq_true rfl) rfl rfl ?_
    refine sv_iinc (pc := 37) (i := 2) (v := x2 + 1) C.1 [some (va_rf (some t)), some (.int (u1 + 0)), some (.int (x2 + 1)), none] dX9_pointers_37 rfl rfl (by rw [C.2.1]; exact Nat.le_of_ble_eq_true rfl) rfl rfl ?_
    refine st_goto (pc := 40) (tgt := 9) C.1 dX9_pointers_40 (by decide) ?_
    exact (k0 c0)
  · refine st_iconst (pc := 30) (v := 1) C.1 dX9_pointers_30 (by decide) ?_
    refine st_goto (pc := 31) (tgt := 35) C.1 dX9_pointers_31 (by decide) ?_
    refine st_iadd (pc := 35) C.1 dX9_pointers_35 ?_
    refine sv_istore_n (pc := 36) (i := 1) C.1 [some (va_rf (some t)), some (.int (u1 + 1)), some (.int x2), none] dX9_pointers_36 rfl (Nat.le_of_ble_eq_true rfl) (by rw [C.2.1]; exact Nat.le_of_ble_eq_true rfl) rfl rfl ?_
    refine sv_iinc (pc := 37) (i := 2) (v := x2 + 1) C.1 [some (va_rf (some t)), some (.int (u1 + 1)), some (.int (x2 + 1)), none] dX9_pointers_37 rfl rfl (by rw [C.2.1]; exact Nat.le_of_ble_eq_true rfl) rfl rfl ?_
    refine st_goto (pc := 40) (tgt := 9) C.1 dX9_pointers_40 (by decide) ?_
    exact (k1 c0)

theorem sm_pointers_45 {X : CX} {d mc ms cells slots : Nat} {pp : Int32 → Hp → Prop} {h : Hp} {t : Nat} {ρ A : Nat → Nat} {m : Mo} {x1 : Int32} {x2 : Int32} (C : CmI X mX9_pointers d mc ms pp) (hS : MS h t ρ A) (hc : cells ≤ mc) (hs : slots ≤ ms)  (k0 : m.1 912 ≤ x2 → pp x1 (mput h t ρ m)) (k1 : ¬ m.1 912 ≤ x2 → At X cells slots 55 [some (va_rf (some t)), some (.int x1), some (.int x2), some (.int 0)] [] (mput h t ρ m)) : At X cells slots 45 [some (va_rf (some t)), some (.int x1), some (.int x2), none] [] (mput h t ρ m) := by
  refine st_iload_n (pc := 45) C.1 dX9_pointers_45 rfl rfl ?_
  refine st_aload_n (pc := 46) C.1 (some t) dX9_pointers_46 rfl rfl ?_
  refine gI_RX9_88 (pc := 47) C.1 (m.1 912) dX9_pointers_47 (hS.k _) (mI912 h t ρ _) ?_
  refine st_icmp_ge (pc := 50) (tgt := 113) C.1 dX9_pointers_50 (by decide) (fun c0 => ?_) (fun c0 => ?_)
  · refine st_iload_n (pc := 113) C.1 dX9_pointers_113 rfl rfl ?_
    exact rt_i C (Or.inl rfl) dX9_pointers_114 hc hs ⟨_, rfl, (k0 c0)⟩
  · refine st_iconst (pc := 53) (v := 0) C.1 dX9_pointers_53 (by decide) ?_
    refine sv_istore_n (pc := 54) (i := 3) C.1 [some (va_rf (some t)), some (.int x1), some (.int x2), some (.int 0)] dX9_pointers_54 rfl (Nat.le_of_ble_eq_true rfl) (by rw [C.2.1]; exact Nat.le_of_ble_eq_true rfl) rfl rfl ?_
    exact (k1 c0)

theorem sm_pointers_55 {X : CX} {d mc ms cells slots : Nat} {pp : Int32 → Hp → Prop} {h : Hp} {t : Nat} {ρ A : Nat → Nat} {m : Mo} {x1 : Int32} {x2 : Int32} {x3 : Int32} (C : CmI X mX9_pointers d mc ms pp) (hS : MS h t ρ A) (h0 : vp_in x2 800) (k0 : m.2 909 (x2.toNatClampNeg) ≤ x3 → At X cells slots 45 [some (va_rf (some t)), some (.int x1), some (.int (x2 + 1)), some (.int x3)] [] (mput h t ρ m)) (k1 : ¬ m.2 909 (x2.toNatClampNeg) ≤ x3 → At X cells slots 67 [some (va_rf (some t)), some (.int x1), some (.int x2), some (.int x3)] [.int x2, va_rf (some t)] (mput h t ρ m)) : At X cells slots 55 [some (va_rf (some t)), some (.int x1), some (.int x2), some (.int x3)] [] (mput h t ρ m) := by
  refine st_iload_n (pc := 55) C.1 dX9_pointers_55 rfl rfl ?_
  refine st_aload_n (pc := 56) C.1 (some t) dX9_pointers_56 rfl rfl ?_
  refine gR_RX9_26 (pc := 57) C.1 (some (A 909)) dX9_pointers_57 (hS.k _) (hS.r _ 909) ?_
  refine st_iload_n (pc := 60) C.1 dX9_pointers_60 rfl rfl ?_
  refine sv_iaload (pc := 61) C.1 (m.2 909 (x2.toNatClampNeg)) dX9_pointers_61 (hS.ki _ 909) (by rw [nA909 hS]; exact h0) (congrFun (mA909 hS _) _) ?_
  refine st_icmp_ge (pc := 62) (tgt := 107) C.1 dX9_pointers_62 (by decide) (fun c0 => ?_) (fun c0 => ?_)
  · refine sv_iinc (pc := 107) (i := 2) (v := x2 + 1) C.1 [some (va_rf (some t)), some (.int x1), some (.int (x2 + 1)), some (.int x3)] dX9_pointers_107 rfl rfl (by rw [C.2.1]; exact Nat.le_of_ble_eq_true rfl) rfl rfl ?_
    refine st_goto (pc := 110) (tgt := 45) C.1 dX9_pointers_110 (by decide) ?_
    exact (k0 c0)
  · refine st_aload_n (pc := 65) C.1 (some t) dX9_pointers_65 rfl rfl ?_
    refine st_iload_n (pc := 66) C.1 dX9_pointers_66 rfl rfl ?_
    exact (k1 c0)

theorem sm_pointers_70 {X : CX} {d mc ms cells slots : Nat} {pp : Int32 → Hp → Prop} {h : Hp} {t : Nat} {ρ A : Nat → Nat} {m : Mo} {x1 : Int32} {x2 : Int32} {x3 : Int32} {u0 : Int32} (C : CmI X mX9_pointers d mc ms pp) (hS : MS h t ρ A)  (k0 : u0 = 0 → At X cells slots 45 [some (va_rf (some t)), some (.int x1), some (.int (x2 + 1)), some (.int x3)] [] (mput h t ρ m)) (k1 : ¬ u0 = 0 → At X cells slots 81 [some (va_rf (some t)), some (.int x1), some (.int x2), some (.int x3)] [.int x2, va_rf (some t), va_rf (some (A 904)), va_rf (some t), .int x1] (mput h t ρ m)) : At X cells slots 70 [some (va_rf (some t)), some (.int x1), some (.int x2), some (.int x3)] [.int u0] (mput h t ρ m) := by
  refine st_if_eq (pc := 70) (tgt := 107) C.1 dX9_pointers_70 (by decide) (fun c0 => ?_) (fun c0 => ?_)
  · refine sv_iinc (pc := 107) (i := 2) (v := x2 + 1) C.1 [some (va_rf (some t)), some (.int x1), some (.int (x2 + 1)), some (.int x3)] dX9_pointers_107 rfl rfl (by rw [C.2.1]; exact Nat.le_of_ble_eq_true rfl) rfl rfl ?_
    refine st_goto (pc := 110) (tgt := 45) C.1 dX9_pointers_110 (by decide) ?_
    exact (k0 c0)
  · refine st_iload_n (pc := 73) C.1 dX9_pointers_73 rfl rfl ?_
    refine st_aload_n (pc := 74) C.1 (some t) dX9_pointers_74 rfl rfl ?_
    refine st_aload_n (pc := 75) C.1 (some t) dX9_pointers_75 rfl rfl ?_
    refine gR_RX9_7 (pc := 76) C.1 (some (A 904)) dX9_pointers_76 (hS.k _) (hS.r _ 904) ?_
    refine st_aload_n (pc := 79) C.1 (some t) dX9_pointers_79 rfl rfl ?_
    refine st_iload_n (pc := 80) C.1 dX9_pointers_80 rfl rfl ?_
    exact (k1 c0)

theorem sm_pointers_84 {X : CX} {d mc ms cells slots : Nat} {pp : Int32 → Hp → Prop} {h : Hp} {t : Nat} {ρ A : Nat → Nat} {m : Mo} {x1 : Int32} {x2 : Int32} {x3 : Int32} {u0 : Int32} {p2 : Option Nat} {u3 : Int32} (C : CmI X mX9_pointers d mc ms pp) (hS : MS h t ρ A) (h0 : vp_in (u0 + x3) 3001) (k0 : At X cells slots 87 [some (va_rf (some t)), some (.int x1), some (.int x2), some (.int x3)] [.int (m.2 904 ((u0 + x3).toNatClampNeg)), va_rf p2, .int u3] (mput h t ρ m)) : At X cells slots 84 [some (va_rf (some t)), some (.int x1), some (.int x2), some (.int x3)] [.int u0, va_rf (some (A 904)), va_rf p2, .int u3] (mput h t ρ m) := by
  refine st_iload_n (pc := 84) C.1 dX9_pointers_84 rfl rfl ?_
  refine st_iadd (pc := 85) C.1 dX9_pointers_85 ?_
  refine sv_iaload (pc := 86) C.1 (m.2 904 ((u0 + x3).toNatClampNeg)) dX9_pointers_86 (hS.ki _ 904) (by rw [nA904 hS]; exact h0) (congrFun (mA904 hS _) _) ?_
  exact k0

theorem sm_pointers_90 {X : CX} {d mc ms cells slots : Nat} {pp : Int32 → Hp → Prop} {h : Hp} {t : Nat} {ρ A : Nat → Nat} {m : Mo} {x1 : Int32} {x2 : Int32} {x3 : Int32} {u0 : Int32} {u1 : Int32} (C : CmI X mX9_pointers d mc ms pp) (hS : MS h t ρ A)  (k0 : u0 = (-1) → At X cells slots 55 [some (va_rf (some t)), some (.int (u1 + 0)), some (.int x2), some (.int (x3 + 1))] [] (mput h t ρ m)) (k1 : ¬ u0 = (-1) → At X cells slots 55 [some (va_rf (some t)), some (.int (u1 + 1)), some (.int x2), some (.int (x3 + 1))] [] (mput h t ρ m)) : At X cells slots 90 [some (va_rf (some t)), some (.int x1), some (.int x2), some (.int x3)] [.int u0, .int u1] (mput h t ρ m) := by
  refine st_iconst (pc := 90) (v := (-1)) C.1 dX9_pointers_90 (by decide) ?_
  refine st_icmp_eq (pc := 91) (tgt := 98) C.1 dX9_pointers_91 (by decide) (fun c0 => ?_) (fun c0 => ?_)
  · refine st_iconst (pc := 98) (v := 0) C.1 dX9_pointers_98 (by decide) ?_
    refine st_iadd (pc := 99) C.1 dX9_pointers_99 ?_
    refine sv_istore_n (pc := 100) (i := 1) C.1 [some (va_rf (some t)), some (.int (u1 + 0)), some (.int x2), some (.int x3)] dX9_pointers_100 rfl (Nat.le_of_ble_eq_true rfl) (by rw [C.2.1]; exact Nat.le_of_ble_eq_true rfl) rfl rfl ?_
    refine sv_iinc (pc := 101) (i := 3) (v := x3 + 1) C.1 [some (va_rf (some t)), some (.int (u1 + 0)), some (.int x2), some (.int (x3 + 1))] dX9_pointers_101 rfl rfl (by rw [C.2.1]; exact Nat.le_of_ble_eq_true rfl) rfl rfl ?_
    refine st_goto (pc := 104) (tgt := 55) C.1 dX9_pointers_104 (by decide) ?_
    exact (k0 c0)
  · refine st_iconst (pc := 94) (v := 1) C.1 dX9_pointers_94 (by decide) ?_
    refine st_goto (pc := 95) (tgt := 99) C.1 dX9_pointers_95 (by decide) ?_
    refine st_iadd (pc := 99) C.1 dX9_pointers_99 ?_
    refine sv_istore_n (pc := 100) (i := 1) C.1 [some (va_rf (some t)), some (.int (u1 + 1)), some (.int x2), some (.int x3)] dX9_pointers_100 rfl (Nat.le_of_ble_eq_true rfl) (by rw [C.2.1]; exact Nat.le_of_ble_eq_true rfl) rfl rfl ?_
    refine sv_iinc (pc := 101) (i := 3) (v := x3 + 1) C.1 [some (va_rf (some t)), some (.int (u1 + 1)), some (.int x2), some (.int (x3 + 1))] dX9_pointers_101 rfl rfl (by rw [C.2.1]; exact Nat.le_of_ble_eq_true rfl) rfl rfl ?_
    refine st_goto (pc := 104) (tgt := 55) C.1 dX9_pointers_104 (by decide) ?_
    exact (k1 c0)

theorem sm_lives_0 {X : CX} {d mc ms cells slots : Nat} {pp : Int32 → Hp → Prop} {h : Hp} {t : Nat} {ρ A : Nat → Nat} {m : Mo} {x1 : Int32} (C : CmI X mX9_lives d mc ms pp) (hS : MS h t ρ A)  (k0 : At X cells slots 4 [some (va_rf (some t)), some (.int x1), some (.int 0), some (.int 0)] [] (mput h t ρ m)) : At X cells slots 0 [some (va_rf (some t)), some (.int x1), none, none] [] (mput h t ρ m) := by
  refine st_iconst (pc := 0) (v := 0) C.1 dX9_lives_0 (by decide) ?_
  refine sv_istore_n (pc := 1) (i := 2) C.1 [some (va_rf (some t)), some (.int x1), some (.int 0), none] dX9_lives_1 rfl (Nat.le_of_ble_eq_true rfl) (by rw [C.2.1]; exact Nat.le_of_ble_eq_true rfl) rfl rfl ?_
  refine st_iconst (pc := 2) (v := 0) C.1 dX9_lives_2 (by decide) ?_
  refine sv_istore_n (pc := 3) (i := 3) C.1 [some (va_rf (some t)), some (.int x1), some (.int 0), some (.int 0)] dX9_lives_3 rfl (Nat.le_of_ble_eq_true rfl) (by rw [C.2.1]; exact Nat.le_of_ble_eq_true rfl) rfl rfl ?_
  exact k0

theorem sm_lives_4 {X : CX} {d mc ms cells slots : Nat} {pp : Int32 → Hp → Prop} {h : Hp} {t : Nat} {ρ A : Nat → Nat} {m : Mo} {x1 : Int32} {x2 : Int32} {x3 : Int32} (C : CmI X mX9_lives d mc ms pp) (hS : MS h t ρ A) (hc : cells ≤ mc) (hs : slots ≤ ms)  (k0 : m.1 912 ≤ x3 → pp x2 (mput h t ρ m)) (k1 : ¬ m.1 912 ≤ x3 → At X cells slots 14 [some (va_rf (some t)), some (.int x1), some (.int x2), some (.int x3)] [.int x3, va_rf (some t)] (mput h t ρ m)) : At X cells slots 4 [some (va_rf (some t)), some (.int x1), some (.int x2), some (.int x3)] [] (mput h t ρ m) := by
  refine st_iload_n (pc := 4) C.1 dX9_lives_4 rfl rfl ?_
  refine st_aload_n (pc := 5) C.1 (some t) dX9_lives_5 rfl rfl ?_
  refine gI_RX9_88 (pc := 6) C.1 (m.1 912) dX9_lives_6 (hS.k _) (mI912 h t ρ _) ?_
  refine st_icmp_ge (pc := 9) (tgt := 43) C.1 dX9_lives_9 (by decide) (fun c0 => ?_) (fun c0 => ?_)
  · refine st_iload_n (pc := 43) C.1 dX9_lives_43 rfl rfl ?_
    exact rt_i C (Or.inl rfl) dX9_lives_44 hc hs ⟨_, rfl, (k0 c0)⟩
  · refine st_aload_n (pc := 12) C.1 (some t) dX9_lives_12 rfl rfl ?_
    refine st_iload_n (pc := 13) C.1 dX9_lives_13 rfl rfl ?_
    exact (k1 c0)

theorem sm_lives_17 {X : CX} {d mc ms cells slots : Nat} {pp : Int32 → Hp → Prop} {h : Hp} {t : Nat} {ρ A : Nat → Nat} {m : Mo} {x1 : Int32} {x2 : Int32} {x3 : Int32} {u0 : Int32} (C : CmI X mX9_lives d mc ms pp) (hS : MS h t ρ A) (h0 : ¬ u0 = 0 → ¬ x1 = 0 → vp_in x3 800) (k0 : u0 = 0 → At X cells slots 4 [some (va_rf (some t)), some (.int x1), some (.int x2), some (.int (x3 + 1))] [] (mput h t ρ m)) (k1 : ¬ u0 = 0 → x1 = 0 → At X cells slots 4 [some (va_rf (some t)), some (.int x1), some (.int (x2 + 1)), some (.int (x3 + 1))] [] (mput h t ρ m)) (k2 : ¬ u0 = 0 → ¬ x1 = 0 → At X cells slots 4 [some (va_rf (some t)), some (.int x1), some (.int (x2 + (m.2 909 (x3.toNatClampNeg)))), some (.int (x3 + 1))] [] (mput h t ρ m)) : At X cells slots 17 [some (va_rf (some t)), some (.int x1), some (.int x2), some (.int x3)] [.int u0] (mput h t ρ m) := by
  refine st_if_eq (pc := 17) (tgt := 37) C.1 dX9_lives_17 (by decide) (fun c0 => ?_) (fun c0 => ?_)
  · refine sv_iinc (pc := 37) (i := 3) (v := x3 + 1) C.1 [some (va_rf (some t)), some (.int x1), some (.int x2), some (.int (x3 + 1))] dX9_lives_37 rfl rfl (by rw [C.2.1]; exact Nat.le_of_ble_eq_true rfl) rfl rfl ?_
    refine st_goto (pc := 40) (tgt := 4) C.1 dX9_lives_40 (by decide) ?_
    exact (k0 c0)
  · refine st_iload_n (pc := 20) C.1 dX9_lives_20 rfl rfl ?_
    refine st_iload_n (pc := 21) C.1 dX9_lives_21 rfl rfl ?_
    refine st_if_eq (pc := 22) (tgt := 34) C.1 dX9_lives_22 (by decide) (fun c1 => ?_) (fun c1 => ?_)
    · refine st_iconst (pc := 34) (v := 1) C.1 dX9_lives_34 (by decide) ?_
      refine st_iadd (pc := 35) C.1 dX9_lives_35 ?_
      refine sv_istore_n (pc := 36) (i := 2) C.1 [some (va_rf (some t)), some (.int x1), some (.int (x2 + 1)), some (.int x3)] dX9_lives_36 rfl (Nat.le_of_ble_eq_true rfl) (by rw [C.2.1]; exact Nat.le_of_ble_eq_true rfl) rfl rfl ?_
      refine sv_iinc (pc := 37) (i := 3) (v := x3 + 1) C.1 [some (va_rf (some t)), some (.int x1), some (.int (x2 + 1)), some (.int (x3 + 1))] dX9_lives_37 rfl rfl (by rw [C.2.1]; exact Nat.le_of_ble_eq_true rfl) rfl rfl ?_
      refine st_goto (pc := 40) (tgt := 4) C.1 dX9_lives_40 (by decide) ?_
      exact (k1 c0 c1)
    · refine st_aload_n (pc := 25) C.1 (some t) dX9_lives_25 rfl rfl ?_
      refine gR_RX9_26 (pc := 26) C.1 (some (A 909)) dX9_lives_26 (hS.k _) (hS.r _ 909) ?_
      refine st_iload_n (pc := 29) C.1 dX9_lives_29 rfl rfl ?_
      refine sv_iaload (pc := 30) C.1 (m.2 909 (x3.toNatClampNeg)) dX9_lives_30 (hS.ki _ 909) (by rw [nA909 hS]; exact (h0 c0 c1)) (congrFun (mA909 hS _) _) ?_
      refine st_goto (pc := 31) (tgt := 35) C.1 dX9_lives_31 (by decide) ?_
      refine st_iadd (pc := 35) C.1 dX9_lives_35 ?_
      refine sv_istore_n (pc := 36) (i := 2) C.1 [some (va_rf (some t)), some (.int x1), some (.int (x2 + (m.2 909 (x3.toNatClampNeg)))), some (.int x3)] dX9_lives_36 rfl (Nat.le_of_ble_eq_true rfl) (by rw [C.2.1]; exact Nat.le_of_ble_eq_true rfl) rfl rfl ?_
      refine sv_iinc (pc := 37) (i := 3) (v := x3 + 1) C.1 [some (va_rf (some t)), some (.int x1), some (.int (x2 + (m.2 909 (x3.toNatClampNeg)))), some (.int (x3 + 1))] dX9_lives_37 rfl rfl (by rw [C.2.1]; exact Nat.le_of_ble_eq_true rfl) rfl rfl ?_
      refine st_goto (pc := 40) (tgt := 4) C.1 dX9_lives_40 (by decide) ?_
      exact (k2 c0 c1)

theorem sm_freeWords_0 {X : CX} {d mc ms cells slots : Nat} {pp : Int32 → Hp → Prop} {h : Hp} {t : Nat} {ρ A : Nat → Nat} {m : Mo}  (C : CmI X mX9_freeWords d mc ms pp) (hS : MS h t ρ A)  (k0 : At X cells slots 4 [some (va_rf (some t)), some (.int 0), some (.int 0)] [] (mput h t ρ m)) : At X cells slots 0 [some (va_rf (some t)), none, none] [] (mput h t ρ m) := by
  refine st_iconst (pc := 0) (v := 0) C.1 dX9_freeWords_0 (by decide) ?_
  refine sv_istore_n (pc := 1) (i := 1) C.1 [some (va_rf (some t)), some (.int 0), none] dX9_freeWords_1 rfl (Nat.le_of_ble_eq_true rfl) (by rw [C.2.1]; exact Nat.le_of_ble_eq_true rfl) rfl rfl ?_
  refine st_iconst (pc := 2) (v := 0) C.1 dX9_freeWords_2 (by decide) ?_
  refine sv_istore_n (pc := 3) (i := 2) C.1 [some (va_rf (some t)), some (.int 0), some (.int 0)] dX9_freeWords_3 rfl (Nat.le_of_ble_eq_true rfl) (by rw [C.2.1]; exact Nat.le_of_ble_eq_true rfl) rfl rfl ?_
  exact k0

theorem sm_freeWords_4 {X : CX} {d mc ms cells slots : Nat} {pp : Int32 → Hp → Prop} {h : Hp} {t : Nat} {ρ A : Nat → Nat} {m : Mo} {x1 : Int32} {x2 : Int32} (C : CmI X mX9_freeWords d mc ms pp) (hS : MS h t ρ A) (hc : cells ≤ mc) (hs : slots ≤ ms) (h0 : ¬ m.1 915 ≤ x2 → vp_in x2 800) (k0 : m.1 915 ≤ x2 → pp x1 (mput h t ρ m)) (k1 : ¬ m.1 915 ≤ x2 → At X cells slots 4 [some (va_rf (some t)), some (.int (x1 + (m.2 914 (x2.toNatClampNeg)))), some (.int (x2 + 1))] [] (mput h t ρ m)) : At X cells slots 4 [some (va_rf (some t)), some (.int x1), some (.int x2)] [] (mput h t ρ m) := by
  refine st_iload_n (pc := 4) C.1 dX9_freeWords_4 rfl rfl ?_
  refine st_aload_n (pc := 5) C.1 (some t) dX9_freeWords_5 rfl rfl ?_
  refine gI_RX9_105 (pc := 6) C.1 (m.1 915) dX9_freeWords_6 (hS.k _) (mI915 h t ρ _) ?_
  refine st_icmp_ge (pc := 9) (tgt := 27) C.1 dX9_freeWords_9 (by decide) (fun c0 => ?_) (fun c0 => ?_)
  · refine st_iload_n (pc := 27) C.1 dX9_freeWords_27 rfl rfl ?_
    exact rt_i C (Or.inl rfl) dX9_freeWords_28 hc hs ⟨_, rfl, (k0 c0)⟩
  · refine st_iload_n (pc := 12) C.1 dX9_freeWords_12 rfl rfl ?_
    refine st_aload_n (pc := 13) C.1 (some t) dX9_freeWords_13 rfl rfl ?_
    refine gR_RX9_38 (pc := 14) C.1 (some (A 914)) dX9_freeWords_14 (hS.k _) (hS.r _ 914) ?_
    refine st_iload_n (pc := 17) C.1 dX9_freeWords_17 rfl rfl ?_
    refine sv_iaload (pc := 18) C.1 (m.2 914 (x2.toNatClampNeg)) dX9_freeWords_18 (hS.ki _ 914) (by rw [nA914 hS]; exact (h0 c0)) (congrFun (mA914 hS _) _) ?_
    refine st_iadd (pc := 19) C.1 dX9_freeWords_19 ?_
    refine sv_istore_n (pc := 20) (i := 1) C.1 [some (va_rf (some t)), some (.int (x1 + (m.2 914 (x2.toNatClampNeg)))), some (.int x2)] dX9_freeWords_20 rfl (Nat.le_of_ble_eq_true rfl) (by rw [C.2.1]; exact Nat.le_of_ble_eq_true rfl) rfl rfl ?_
    refine sv_iinc (pc := 21) (i := 2) (v := x2 + 1) C.1 [some (va_rf (some t)), some (.int (x1 + (m.2 914 (x2.toNatClampNeg)))), some (.int (x2 + 1))] dX9_freeWords_21 rfl rfl (by rw [C.2.1]; exact Nat.le_of_ble_eq_true rfl) rfl rfl ?_
    refine st_goto (pc := 24) (tgt := 4) C.1 dX9_freeWords_24 (by decide) ?_
    exact (k1 c0)

theorem sm_count_0 {X : CX} {d mc ms cells slots : Nat} {pp : Int32 → Hp → Prop} {h : Hp} {t : Nat} {ρ A : Nat → Nat} {m : Mo} {x1 : Int32} (C : CmI X mX9_count d mc ms pp) (hS : MS h t ρ A) (hc : cells ≤ mc) (hs : slots ≤ ms)  (k0 : x1.toInt < 0 ∨ 16 < x1.toInt → pp (-1) (mput h t ρ (up1 m.1 903 0, m.2))) (k1 : x1 = 0 → pp (m.1 905) (mput h t ρ (up1 m.1 903 0, m.2))) (k2 : x1 = 1 → At X cells slots 95 [some (va_rf (some t)), some (.int x1)] [.int 0, va_rf (some t)] (mput h t ρ (up1 m.1 903 0, m.2))) (k3 : x1 = 2 → At X cells slots 101 [some (va_rf (some t)), some (.int x1)] [.int 1, va_rf (some t)] (mput h t ρ (up1 m.1 903 0, m.2))) (k4 : x1 = 3 → At X cells slots 111 [some (va_rf (some t)), some (.int x1)] [.int 0, va_rf (some t), .int (m.1 912)] (mput h t ρ (up1 m.1 903 0, m.2))) (k5 : x1 = 4 → At X cells slots 117 [some (va_rf (some t)), some (.int x1)] [va_rf (some t)] (mput h t ρ (up1 m.1 903 0, m.2))) (k6 : x1 = 5 → pp (m.1 915) (mput h t ρ (up1 m.1 903 0, m.2))) (k7 : x1 = 6 → At X cells slots 127 [some (va_rf (some t)), some (.int x1)] [va_rf (some t)] (mput h t ρ (up1 m.1 903 0, m.2))) (k8 : x1 = 7 → pp (m.1 916) (mput h t ρ (up1 m.1 903 0, m.2))) (k9 : x1 = 8 → pp (m.1 917) (mput h t ρ (up1 m.1 903 0, m.2))) (k10 : x1 = 9 → pp (m.1 918) (mput h t ρ (up1 m.1 903 0, m.2))) (k11 : x1 = 10 → pp (m.1 919) (mput h t ρ (up1 m.1 903 0, m.2))) (k12 : x1 = 11 → pp (m.1 920) (mput h t ρ (up1 m.1 903 0, m.2))) (k13 : x1 = 12 → pp (m.1 906) (mput h t ρ (up1 m.1 903 0, m.2))) (k14 : x1 = 13 → pp (m.1 921) (mput h t ρ (up1 m.1 903 0, m.2))) (k15 : x1 = 14 → pp (m.1 900) (mput h t ρ (up1 m.1 903 0, m.2))) (k16 : x1 = 15 → pp (m.1 901) (mput h t ρ (up1 m.1 903 0, m.2))) (k17 : x1 = 16 → pp (m.1 902) (mput h t ρ (up1 m.1 903 0, m.2))) : At X cells slots 0 [some (va_rf (some t)), some (.int x1)] [] (mput h t ρ m) := by
  refine st_aload_n (pc := 0) C.1 (some t) dX9_count_0 rfl rfl ?_
  refine st_iconst (pc := 1) (v := 0) C.1 dX9_count_1 (by decide) ?_
  refine pI_RX9_85 (pc := 2) C.1 dX9_count_2 (hS.k _) ?_
  rw [pI903]
  refine st_iload_n (pc := 5) C.1 dX9_count_5 rfl rfl ?_
  by_cases c0o : x1.toInt < 0 ∨ 16 < x1.toInt
  · refine st_tableOut (pc := 6) (tgt := 181) C.1 dX9_count_6 c0o (by decide) ?_
    refine st_iconst (pc := 181) (v := (-1)) C.1 dX9_count_181 (by decide) ?_
    exact rt_i C (Or.inl rfl) dX9_count_182 hc hs ⟨_, rfl, (k0 c0o)⟩
  · rcases (show x1.toInt = 0 ∨ x1.toInt = 1 ∨ x1.toInt = 2 ∨ x1.toInt = 3 ∨ x1.toInt = 4 ∨ x1.toInt = 5 ∨ x1.toInt = 6 ∨ x1.toInt = 7 ∨ x1.toInt = 8 ∨ x1.toInt = 9 ∨ x1.toInt = 10 ∨ x1.toInt = 11 ∨ x1.toInt = 12 ∨ x1.toInt = 13 ∨ x1.toInt = 14 ∨ x1.toInt = 15 ∨ x1.toInt = 16 by omega) with c0 | c0 | c0 | c0 | c0 | c0 | c0 | c0 | c0 | c0 | c0 | c0 | c0 | c0 | c0 | c0 | c0
    · have c0e : x1 = 0 := Int32.toInt_inj.mp (by rw [c0]; rfl)
      refine st_tableIn (pc := 6) (off := 82) (tgt := 88) C.1 dX9_count_6 (by omega) (by omega) (by rw [c0]; rfl) (by decide) ?_
      refine st_aload_n (pc := 88) C.1 (some t) dX9_count_88 rfl rfl ?_
      refine gI_RX9_13 (pc := 89) C.1 (m.1 905) dX9_count_89 (hS.k _) (mI905 h t ρ _) ?_
      exact rt_i C (Or.inl rfl) dX9_count_92 hc hs ⟨_, rfl, (k1 c0e)⟩
    · have c0e : x1 = 1 := Int32.toInt_inj.mp (by rw [c0]; rfl)
      refine st_tableIn (pc := 6) (off := 87) (tgt := 93) C.1 dX9_count_6 (by omega) (by omega) (by rw [c0]; rfl) (by decide) ?_
      refine st_aload_n (pc := 93) C.1 (some t) dX9_count_93 rfl rfl ?_
      refine st_iconst (pc := 94) (v := 0) C.1 dX9_count_94 (by decide) ?_
      exact (k2 c0e)
    · have c0e : x1 = 2 := Int32.toInt_inj.mp (by rw [c0]; rfl)
      refine st_tableIn (pc := 6) (off := 93) (tgt := 99) C.1 dX9_count_6 (by omega) (by omega) (by rw [c0]; rfl) (by decide) ?_
      refine st_aload_n (pc := 99) C.1 (some t) dX9_count_99 rfl rfl ?_
      refine st_iconst (pc := 100) (v := 1) C.1 dX9_count_100 (by decide) ?_
      exact (k3 c0e)
    · have c0e : x1 = 3 := Int32.toInt_inj.mp (by rw [c0]; rfl)
      refine st_tableIn (pc := 6) (off := 99) (tgt := 105) C.1 dX9_count_6 (by omega) (by omega) (by rw [c0]; rfl) (by decide) ?_
      refine st_aload_n (pc := 105) C.1 (some t) dX9_count_105 rfl rfl ?_
      refine gI_RX9_88 (pc := 106) C.1 (m.1 912) dX9_count_106 (hS.k _) (mI912 h t ρ _) ?_
      refine st_aload_n (pc := 109) C.1 (some t) dX9_count_109 rfl rfl ?_
      refine st_iconst (pc := 110) (v := 0) C.1 dX9_count_110 (by decide) ?_
      exact (k4 c0e)
    · have c0e : x1 = 4 := Int32.toInt_inj.mp (by rw [c0]; rfl)
      refine st_tableIn (pc := 6) (off := 110) (tgt := 116) C.1 dX9_count_6 (by omega) (by omega) (by rw [c0]; rfl) (by decide) ?_
      refine st_aload_n (pc := 116) C.1 (some t) dX9_count_116 rfl rfl ?_
      exact (k5 c0e)
    · have c0e : x1 = 5 := Int32.toInt_inj.mp (by rw [c0]; rfl)
      refine st_tableIn (pc := 6) (off := 115) (tgt := 121) C.1 dX9_count_6 (by omega) (by omega) (by rw [c0]; rfl) (by decide) ?_
      refine st_aload_n (pc := 121) C.1 (some t) dX9_count_121 rfl rfl ?_
      refine gI_RX9_105 (pc := 122) C.1 (m.1 915) dX9_count_122 (hS.k _) (mI915 h t ρ _) ?_
      exact rt_i C (Or.inl rfl) dX9_count_125 hc hs ⟨_, rfl, (k6 c0e)⟩
    · have c0e : x1 = 6 := Int32.toInt_inj.mp (by rw [c0]; rfl)
      refine st_tableIn (pc := 6) (off := 120) (tgt := 126) C.1 dX9_count_6 (by omega) (by omega) (by rw [c0]; rfl) (by decide) ?_
      refine st_aload_n (pc := 126) C.1 (some t) dX9_count_126 rfl rfl ?_
      exact (k7 c0e)
    · have c0e : x1 = 7 := Int32.toInt_inj.mp (by rw [c0]; rfl)
      refine st_tableIn (pc := 6) (off := 125) (tgt := 131) C.1 dX9_count_6 (by omega) (by omega) (by rw [c0]; rfl) (by decide) ?_
      refine st_aload_n (pc := 131) C.1 (some t) dX9_count_131 rfl rfl ?_
      refine gI_RX9_157 (pc := 132) C.1 (m.1 916) dX9_count_132 (hS.k _) (mI916 h t ρ _) ?_
      exact rt_i C (Or.inl rfl) dX9_count_135 hc hs ⟨_, rfl, (k8 c0e)⟩
    · have c0e : x1 = 8 := Int32.toInt_inj.mp (by rw [c0]; rfl)
      refine st_tableIn (pc := 6) (off := 130) (tgt := 136) C.1 dX9_count_6 (by omega) (by omega) (by rw [c0]; rfl) (by decide) ?_
      refine st_aload_n (pc := 136) C.1 (some t) dX9_count_136 rfl rfl ?_
      refine gI_RX9_160 (pc := 137) C.1 (m.1 917) dX9_count_137 (hS.k _) (mI917 h t ρ _) ?_
      exact rt_i C (Or.inl rfl) dX9_count_140 hc hs ⟨_, rfl, (k9 c0e)⟩
    · have c0e : x1 = 9 := Int32.toInt_inj.mp (by rw [c0]; rfl)
      refine st_tableIn (pc := 6) (off := 135) (tgt := 141) C.1 dX9_count_6 (by omega) (by omega) (by rw [c0]; rfl) (by decide) ?_
      refine st_aload_n (pc := 141) C.1 (some t) dX9_count_141 rfl rfl ?_
      refine gI_RX9_139 (pc := 142) C.1 (m.1 918) dX9_count_142 (hS.k _) (mI918 h t ρ _) ?_
      exact rt_i C (Or.inl rfl) dX9_count_145 hc hs ⟨_, rfl, (k10 c0e)⟩
    · have c0e : x1 = 10 := Int32.toInt_inj.mp (by rw [c0]; rfl)
      refine st_tableIn (pc := 6) (off := 140) (tgt := 146) C.1 dX9_count_6 (by omega) (by omega) (by rw [c0]; rfl) (by decide) ?_
      refine st_aload_n (pc := 146) C.1 (some t) dX9_count_146 rfl rfl ?_
      refine gI_RX9_126 (pc := 147) C.1 (m.1 919) dX9_count_147 (hS.k _) (mI919 h t ρ _) ?_
      exact rt_i C (Or.inl rfl) dX9_count_150 hc hs ⟨_, rfl, (k11 c0e)⟩
    · have c0e : x1 = 11 := Int32.toInt_inj.mp (by rw [c0]; rfl)
      refine st_tableIn (pc := 6) (off := 145) (tgt := 151) C.1 dX9_count_6 (by omega) (by omega) (by rw [c0]; rfl) (by decide) ?_
      refine st_aload_n (pc := 151) C.1 (some t) dX9_count_151 rfl rfl ?_
      refine gI_RX9_120 (pc := 152) C.1 (m.1 920) dX9_count_152 (hS.k _) (mI920 h t ρ _) ?_
      exact rt_i C (Or.inl rfl) dX9_count_155 hc hs ⟨_, rfl, (k12 c0e)⟩
    · have c0e : x1 = 12 := Int32.toInt_inj.mp (by rw [c0]; rfl)
      refine st_tableIn (pc := 6) (off := 150) (tgt := 156) C.1 dX9_count_6 (by omega) (by omega) (by rw [c0]; rfl) (by decide) ?_
      refine st_aload_n (pc := 156) C.1 (some t) dX9_count_156 rfl rfl ?_
      refine gI_RX9_17 (pc := 157) C.1 (m.1 906) dX9_count_157 (hS.k _) (mI906 h t ρ _) ?_
      exact rt_i C (Or.inl rfl) dX9_count_160 hc hs ⟨_, rfl, (k13 c0e)⟩
    · have c0e : x1 = 13 := Int32.toInt_inj.mp (by rw [c0]; rfl)
      refine st_tableIn (pc := 6) (off := 155) (tgt := 161) C.1 dX9_count_6 (by omega) (by omega) (by rw [c0]; rfl) (by decide) ?_
      refine st_aload_n (pc := 161) C.1 (some t) dX9_count_161 rfl rfl ?_
      refine gI_RX9_102 (pc := 162) C.1 (m.1 921) dX9_count_162 (hS.k _) (mI921 h t ρ _) ?_
      exact rt_i C (Or.inl rfl) dX9_count_165 hc hs ⟨_, rfl, (k14 c0e)⟩
    · have c0e : x1 = 14 := Int32.toInt_inj.mp (by rw [c0]; rfl)
      refine st_tableIn (pc := 6) (off := 160) (tgt := 166) C.1 dX9_count_6 (by omega) (by omega) (by rw [c0]; rfl) (by decide) ?_
      refine st_aload_n (pc := 166) C.1 (some t) dX9_count_166 rfl rfl ?_
      refine gI_RX9_76 (pc := 167) C.1 (m.1 900) dX9_count_167 (hS.k _) (mI900 h t ρ _) ?_
      exact rt_i C (Or.inl rfl) dX9_count_170 hc hs ⟨_, rfl, (k15 c0e)⟩
    · have c0e : x1 = 15 := Int32.toInt_inj.mp (by rw [c0]; rfl)
      refine st_tableIn (pc := 6) (off := 165) (tgt := 171) C.1 dX9_count_6 (by omega) (by omega) (by rw [c0]; rfl) (by decide) ?_
      refine st_aload_n (pc := 171) C.1 (some t) dX9_count_171 rfl rfl ?_
      refine gI_RX9_79 (pc := 172) C.1 (m.1 901) dX9_count_172 (hS.k _) (mI901 h t ρ _) ?_
      exact rt_i C (Or.inl rfl) dX9_count_175 hc hs ⟨_, rfl, (k16 c0e)⟩
    · have c0e : x1 = 16 := Int32.toInt_inj.mp (by rw [c0]; rfl)
      refine st_tableIn (pc := 6) (off := 170) (tgt := 176) C.1 dX9_count_6 (by omega) (by omega) (by rw [c0]; rfl) (by decide) ?_
      refine st_aload_n (pc := 176) C.1 (some t) dX9_count_176 rfl rfl ?_
      refine gI_RX9_82 (pc := 177) C.1 (m.1 902) dX9_count_177 (hS.k _) (mI902 h t ρ _) ?_
      exact rt_i C (Or.inl rfl) dX9_count_180 hc hs ⟨_, rfl, (k17 c0e)⟩

theorem sm_count_98 {X : CX} {d mc ms cells slots : Nat} {pp : Int32 → Hp → Prop} {h : Hp} {t : Nat} {ρ A : Nat → Nat} {m : Mo} {x1 : Int32} {u0 : Int32} (C : CmI X mX9_count d mc ms pp) (hS : MS h t ρ A) (hc : cells ≤ mc) (hs : slots ≤ ms)  (k0 : pp u0 (mput h t ρ m)) : At X cells slots 98 [some (va_rf (some t)), some (.int x1)] [.int u0] (mput h t ρ m) := by
  exact rt_i C (Or.inl rfl) dX9_count_98 hc hs ⟨_, rfl, k0⟩

theorem sm_count_104 {X : CX} {d mc ms cells slots : Nat} {pp : Int32 → Hp → Prop} {h : Hp} {t : Nat} {ρ A : Nat → Nat} {m : Mo} {x1 : Int32} {u0 : Int32} (C : CmI X mX9_count d mc ms pp) (hS : MS h t ρ A) (hc : cells ≤ mc) (hs : slots ≤ ms)  (k0 : pp u0 (mput h t ρ m)) : At X cells slots 104 [some (va_rf (some t)), some (.int x1)] [.int u0] (mput h t ρ m) := by
  exact rt_i C (Or.inl rfl) dX9_count_104 hc hs ⟨_, rfl, k0⟩

theorem sm_count_114 {X : CX} {d mc ms cells slots : Nat} {pp : Int32 → Hp → Prop} {h : Hp} {t : Nat} {ρ A : Nat → Nat} {m : Mo} {x1 : Int32} {u0 : Int32} {u1 : Int32} (C : CmI X mX9_count d mc ms pp) (hS : MS h t ρ A) (hc : cells ≤ mc) (hs : slots ≤ ms)  (k0 : pp (u1 - u0) (mput h t ρ m)) : At X cells slots 114 [some (va_rf (some t)), some (.int x1)] [.int u0, .int u1] (mput h t ρ m) := by
  refine st_isub (pc := 114) C.1 dX9_count_114 ?_
  exact rt_i C (Or.inl rfl) dX9_count_115 hc hs ⟨_, rfl, k0⟩

theorem sm_count_120 {X : CX} {d mc ms cells slots : Nat} {pp : Int32 → Hp → Prop} {h : Hp} {t : Nat} {ρ A : Nat → Nat} {m : Mo} {x1 : Int32} {u0 : Int32} (C : CmI X mX9_count d mc ms pp) (hS : MS h t ρ A) (hc : cells ≤ mc) (hs : slots ≤ ms)  (k0 : pp u0 (mput h t ρ m)) : At X cells slots 120 [some (va_rf (some t)), some (.int x1)] [.int u0] (mput h t ρ m) := by
  exact rt_i C (Or.inl rfl) dX9_count_120 hc hs ⟨_, rfl, k0⟩

theorem sm_count_130 {X : CX} {d mc ms cells slots : Nat} {pp : Int32 → Hp → Prop} {h : Hp} {t : Nat} {ρ A : Nat → Nat} {m : Mo} {x1 : Int32} {u0 : Int32} (C : CmI X mX9_count d mc ms pp) (hS : MS h t ρ A) (hc : cells ≤ mc) (hs : slots ≤ ms)  (k0 : pp u0 (mput h t ρ m)) : At X cells slots 130 [some (va_rf (some t)), some (.int x1)] [.int u0] (mput h t ρ m) := by
  exact rt_i C (Or.inl rfl) dX9_count_130 hc hs ⟨_, rfl, k0⟩

theorem sm_freeMany_0 {X : CX} {d mc ms cells slots : Nat} {pp : Int32 → Hp → Prop} {h : Hp} {t : Nat} {ρ A : Nat → Nat} {m : Mo} {x1 : Int32} (C : CmI X mX9_freeMany d mc ms pp) (hS : MS h t ρ A)  (k0 : At X cells slots 9 [some (va_rf (some t)), some (.int x1), some (.int 0), some (.int 0)] [] (mput h t ρ (up1 m.1 903 0, m.2))) : At X cells slots 0 [some (va_rf (some t)), some (.int x1), none, none] [] (mput h t ρ m) := by
  refine st_aload_n (pc := 0) C.1 (some t) dX9_freeMany_0 rfl rfl ?_
  refine st_iconst (pc := 1) (v := 0) C.1 dX9_freeMany_1 (by decide) ?_
  refine pI_RX9_85 (pc := 2) C.1 dX9_freeMany_2 (hS.k _) ?_
  rw [pI903]
  refine st_iconst (pc := 5) (v := 0) C.1 dX9_freeMany_5 (by decide) ?_
  refine sv_istore_n (pc := 6) (i := 2) C.1 [some (va_rf (some t)), some (.int x1), some (.int 0), none] dX9_freeMany_6 rfl (Nat.le_of_ble_eq_true rfl) (by rw [C.2.1]; exact Nat.le_of_ble_eq_true rfl) rfl rfl ?_
  refine st_iconst (pc := 7) (v := 0) C.1 dX9_freeMany_7 (by decide) ?_
  refine sv_istore_n (pc := 8) (i := 3) C.1 [some (va_rf (some t)), some (.int x1), some (.int 0), some (.int 0)] dX9_freeMany_8 rfl (Nat.le_of_ble_eq_true rfl) (by rw [C.2.1]; exact Nat.le_of_ble_eq_true rfl) rfl rfl ?_
  exact k0

theorem sm_freeMany_9 {X : CX} {d mc ms cells slots : Nat} {pp : Int32 → Hp → Prop} {h : Hp} {t : Nat} {ρ A : Nat → Nat} {m : Mo} {x1 : Int32} {x2 : Int32} {x3 : Int32} (C : CmI X mX9_freeMany d mc ms pp) (hS : MS h t ρ A) (hc : cells ≤ mc) (hs : slots ≤ ms) (h0 : ¬ m.1 915 ≤ x3 → vp_in x3 800) (k0 : m.1 915 ≤ x3 → pp x2 (mput h t ρ m)) (k1 : ¬ m.1 915 ≤ x3 → ¬ m.2 914 (x3.toNatClampNeg) = x1 → At X cells slots 9 [some (va_rf (some t)), some (.int x1), some (.int (x2 + 0)), some (.int (x3 + 1))] [] (mput h t ρ m)) (k2 : ¬ m.1 915 ≤ x3 → m.2 914 (x3.toNatClampNeg) = x1 → At X cells slots 9 [some (va_rf (some t)), some (.int x1), some (.int (x2 + 1)), some (.int (x3 + 1))] [] (mput h t ρ m)) : At X cells slots 9 [some (va_rf (some t)), some (.int x1), some (.int x2), some (.int x3)] [] (mput h t ρ m) := by
  refine st_iload_n (pc := 9) C.1 dX9_freeMany_9 rfl rfl ?_
  refine st_aload_n (pc := 10) C.1 (some t) dX9_freeMany_10 rfl rfl ?_
  refine gI_RX9_105 (pc := 11) C.1 (m.1 915) dX9_freeMany_11 (hS.k _) (mI915 h t ρ _) ?_
  refine st_icmp_ge (pc := 14) (tgt := 41) C.1 dX9_freeMany_14 (by decide) (fun c0 => ?_) (fun c0 => ?_)
  · refine st_iload_n (pc := 41) C.1 dX9_freeMany_41 rfl rfl ?_
    exact rt_i C (Or.inl rfl) dX9_freeMany_42 hc hs ⟨_, rfl, (k0 c0)⟩
  · refine st_iload_n (pc := 17) C.1 dX9_freeMany_17 rfl rfl ?_
    refine st_aload_n (pc := 18) C.1 (some t) dX9_freeMany_18 rfl rfl ?_
    refine gR_RX9_38 (pc := 19) C.1 (some (A 914)) dX9_freeMany_19 (hS.k _) (hS.r _ 914) ?_
    refine st_iload_n (pc := 22) C.1 dX9_freeMany_22 rfl rfl ?_
    refine sv_iaload (pc := 23) C.1 (m.2 914 (x3.toNatClampNeg)) dX9_freeMany_23 (hS.ki _ 914) (by rw [nA914 hS]; exact (h0 c0)) (congrFun (mA914 hS _) _) ?_
    refine st_iload_n (pc := 24) C.1 dX9_freeMany_24 rfl rfl ?_
    refine st_icmp_ne (pc := 25) (tgt := 32) C.1 dX9_freeMany_25 (by decide) (fun c1 => ?_) (fun c1 => ?_)
    · refine st_iconst (pc := 32) (v := 0) C.1 dX9_freeMany_32 (by decide) ?_
      refine st_iadd (pc := 33) C.1 dX9_freeMany_33 ?_
      refine sv_istore_n (pc := 34) (i := 2) C.1 [some (va_rf (some t)), some (.int x1), some (.int (x2 + 0)), some (.int x3)] dX9_freeMany_34 rfl (Nat.le_of_ble_eq_true rfl) (by rw [C.2.1]; exact Nat.le_of_ble_eq_true rfl) rfl rfl ?_
      refine sv_iinc (pc := 35) (i := 3) (v := x3 + 1) C.1 [some (va_rf (some t)), some (.int x1), some (.int (x2 + 0)), some (.int (x3 + 1))] dX9_freeMany_35 rfl rfl (by rw [C.2.1]; exact Nat.le_of_ble_eq_true rfl) rfl rfl ?_
      refine st_goto (pc := 38) (tgt := 9) C.1 dX9_freeMany_38 (by decide) ?_
      exact (k1 c0 c1)
    · refine st_iconst (pc := 28) (v := 1) C.1 dX9_freeMany_28 (by decide) ?_
      refine st_goto (pc := 29) (tgt := 33) C.1 dX9_freeMany_29 (by decide) ?_
      refine st_iadd (pc := 33) C.1 dX9_freeMany_33 ?_
      refine sv_istore_n (pc := 34) (i := 2) C.1 [some (va_rf (some t)), some (.int x1), some (.int (x2 + 1)), some (.int x3)] dX9_freeMany_34 rfl (Nat.le_of_ble_eq_true rfl) (by rw [C.2.1]; exact Nat.le_of_ble_eq_true rfl) rfl rfl ?_
      refine sv_iinc (pc := 35) (i := 3) (v := x3 + 1) C.1 [some (va_rf (some t)), some (.int x1), some (.int (x2 + 1)), some (.int (x3 + 1))] dX9_freeMany_35 rfl rfl (by rw [C.2.1]; exact Nat.le_of_ble_eq_true rfl) rfl rfl ?_
      refine st_goto (pc := 38) (tgt := 9) C.1 dX9_freeMany_38 (by decide) ?_
      exact (k2 c0 c1)

theorem sm_freeAt_0 {X : CX} {d mc ms cells slots : Nat} {pp : Int32 → Hp → Prop} {h : Hp} {t : Nat} {ρ A : Nat → Nat} {m : Mo} {x1 : Int32} {x2 : Int32} (C : CmI X mX9_freeAt d mc ms pp) (hS : MS h t ρ A) (hc : cells ≤ mc) (hs : slots ≤ ms)  (k0 : 0 ≤ x2 → 64 < x1 → At X cells slots 71 [some (va_rf (some t)), some (.int x1), some (.int x2), some (.int 0), none, none] [] (mput h t ρ (up1 m.1 903 0, m.2))) (k1 : 0 ≤ x2 → ¬ 64 < x1 → At X cells slots 27 [some (va_rf (some t)), some (.int x1), some (.int x2), some (.int x2), some (.int ((m.1 915) - 1)), none] [] (mput h t ρ (up1 m.1 903 0, m.2))) (k2 : ¬ 0 ≤ x2 → pp (-1) (mput h t ρ (up1 m.1 903 0, m.2))) : At X cells slots 0 [some (va_rf (some t)), some (.int x1), some (.int x2), none, none, none] [] (mput h t ρ m) := by
  refine st_aload_n (pc := 0) C.1 (some t) dX9_freeAt_0 rfl rfl ?_
  refine st_iconst (pc := 1) (v := 0) C.1 dX9_freeAt_1 (by decide) ?_
  refine pI_RX9_85 (pc := 2) C.1 dX9_freeAt_2 (hS.k _) ?_
  rw [pI903]
  refine st_iload_n (pc := 5) C.1 dX9_freeAt_5 rfl rfl ?_
  refine st_if_ge (pc := 6) (tgt := 11) C.1 dX9_freeAt_6 (by decide) (fun c0 => ?_) (fun c0 => ?_)
  · refine st_iload_n (pc := 11) C.1 dX9_freeAt_11 rfl rfl ?_
    refine st_bipush (pc := 12) (v := 64) C.1 dX9_freeAt_12 (by decide) ?_
    refine st_icmp_gt (pc := 14) (tgt := 69) C.1 dX9_freeAt_14 (by decide) (fun c1 => ?_) (fun c1 => ?_)
    · refine st_iconst (pc := 69) (v := 0) C.1 dX9_freeAt_69 (by decide) ?_
      refine sv_istore_n (pc := 70) (i := 3) C.1 [some (va_rf (some t)), some (.int x1), some (.int x2), some (.int 0), none, none] dX9_freeAt_70 rfl (Nat.le_of_ble_eq_true rfl) (by rw [C.2.1]; exact Nat.le_of_ble_eq_true rfl) rfl rfl ?_
      exact (k0 c0 c1)
    · refine st_iload_n (pc := 17) C.1 dX9_freeAt_17 rfl rfl ?_
      refine sv_istore_n (pc := 18) (i := 3) C.1 [some (va_rf (some t)), some (.int x1), some (.int x2), some (.int x2), none, none] dX9_freeAt_18 rfl (Nat.le_of_ble_eq_true rfl) (by rw [C.2.1]; exact Nat.le_of_ble_eq_true rfl) rfl rfl ?_
      refine st_aload_n (pc := 19) C.1 (some t) dX9_freeAt_19 rfl rfl ?_
      refine gI_RX9_105 (pc := 20) C.1 (m.1 915) dX9_freeAt_20 (hS.k _) (mI915 h t ρ _) ?_
      refine st_iconst (pc := 23) (v := 1) C.1 dX9_freeAt_23 (by decide) ?_
      refine st_isub (pc := 24) C.1 dX9_freeAt_24 ?_
      refine sv_istore (pc := 25) (i := 4) C.1 [some (va_rf (some t)), some (.int x1), some (.int x2), some (.int x2), some (.int ((m.1 915) - 1)), none] dX9_freeAt_25 (Nat.le_of_ble_eq_true rfl) (by rw [C.2.1]; exact Nat.le_of_ble_eq_true rfl) rfl rfl ?_
      exact (k1 c0 c1)
  · refine st_iconst (pc := 9) (v := (-1)) C.1 dX9_freeAt_9 (by decide) ?_
    exact rt_i C (Or.inl rfl) dX9_freeAt_10 hc hs ⟨_, rfl, (k2 c0)⟩

theorem sm_freeAt_27 {X : CX} {d mc ms cells slots : Nat} {pp : Int32 → Hp → Prop} {h : Hp} {t : Nat} {ρ A : Nat → Nat} {m : Mo} {x1 : Int32} {x2 : Int32} {x3 : Int32} {x4 : Int32} (C : CmI X mX9_freeAt d mc ms pp) (hS : MS h t ρ A) (hc : cells ≤ mc) (hs : slots ≤ ms) (h0 : ¬ x4 < 0 → vp_in x4 800) (h1 : ¬ x4 < 0 → m.2 914 (x4.toNatClampNeg) = x1 → x3 = 0 → vp_in x4 800) (k0 : x4 < 0 → pp (-1) (mput h t ρ m)) (k1 : ¬ x4 < 0 → m.2 914 (x4.toNatClampNeg) = x1 → ¬ x3 = 0 → At X cells slots 27 [some (va_rf (some t)), some (.int x1), some (.int x2), some (.int (x3 + (-1))), some (.int (x4 + (-1))), none] [] (mput h t ρ m)) (k2 : ¬ x4 < 0 → m.2 914 (x4.toNatClampNeg) = x1 → x3 = 0 → pp (m.2 913 (x4.toNatClampNeg)) (mput h t ρ m)) (k3 : ¬ x4 < 0 → ¬ m.2 914 (x4.toNatClampNeg) = x1 → At X cells slots 27 [some (va_rf (some t)), some (.int x1), some (.int x2), some (.int x3), some (.int (x4 + (-1))), none] [] (mput h t ρ m)) : At X cells slots 27 [some (va_rf (some t)), some (.int x1), some (.int x2), some (.int x3), some (.int x4), none] [] (mput h t ρ m) := by
  refine st_iload (pc := 27) C.1 dX9_freeAt_27 rfl ?_
  refine st_if_lt (pc := 29) (tgt := 67) C.1 dX9_freeAt_29 (by decide) (fun c0 => ?_) (fun c0 => ?_)
  · refine st_iconst (pc := 67) (v := (-1)) C.1 dX9_freeAt_67 (by decide) ?_
    exact rt_i C (Or.inl rfl) dX9_freeAt_68 hc hs ⟨_, rfl, (k0 c0)⟩
  · refine st_aload_n (pc := 32) C.1 (some t) dX9_freeAt_32 rfl rfl ?_
    refine gR_RX9_38 (pc := 33) C.1 (some (A 914)) dX9_freeAt_33 (hS.k _) (hS.r _ 914) ?_
    refine st_iload (pc := 36) C.1 dX9_freeAt_36 rfl ?_
    refine sv_iaload (pc := 38) C.1 (m.2 914 (x4.toNatClampNeg)) dX9_freeAt_38 (hS.ki _ 914) (by rw [nA914 hS]; exact (h0 c0)) (congrFun (mA914 hS _) _) ?_
    refine st_iload_n (pc := 39) C.1 dX9_freeAt_39 rfl rfl ?_
    refine st_icmp_eq (pc := 40) (tgt := 46) C.1 dX9_freeAt_40 (by decide) (fun c1 => ?_) (fun c1 => ?_)
    · refine st_iload_n (pc := 46) C.1 dX9_freeAt_46 rfl rfl ?_
      refine st_if_ne (pc := 47) (tgt := 58) C.1 dX9_freeAt_47 (by decide) (fun c2 => ?_) (fun c2 => ?_)
      · refine sv_iinc (pc := 58) (i := 3) (v := x3 + (-1)) C.1 [some (va_rf (some t)), some (.int x1), some (.int x2), some (.int (x3 + (-1))), some (.int x4), none] dX9_freeAt_58 rfl rfl (by rw [C.2.1]; exact Nat.le_of_ble_eq_true rfl) rfl rfl ?_
        refine sv_iinc (pc := 61) (i := 4) (v := x4 + (-1)) C.1 [some (va_rf (some t)), some (.int x1), some (.int x2), some (.int (x3 + (-1))), some (.int (x4 + (-1))), none] dX9_freeAt_61 rfl rfl (by rw [C.2.1]; exact Nat.le_of_ble_eq_true rfl) rfl rfl ?_
        refine st_goto (pc := 64) (tgt := 27) C.1 dX9_freeAt_64 (by decide) ?_
        exact (k1 c0 c1 c2)
      · refine st_aload_n (pc := 50) C.1 (some t) dX9_freeAt_50 rfl rfl ?_
        refine gR_RX9_35 (pc := 51) C.1 (some (A 913)) dX9_freeAt_51 (hS.k _) (hS.r _ 913) ?_
        refine st_iload (pc := 54) C.1 dX9_freeAt_54 rfl ?_
        refine sv_iaload (pc := 56) C.1 (m.2 913 (x4.toNatClampNeg)) dX9_freeAt_56 (hS.ki _ 913) (by rw [nA913 hS]; exact (h1 c0 c1 c2)) (congrFun (mA913 hS _) _) ?_
        exact rt_i C (Or.inl rfl) dX9_freeAt_57 hc hs ⟨_, rfl, (k2 c0 c1 c2)⟩
    · refine st_goto (pc := 43) (tgt := 61) C.1 dX9_freeAt_43 (by decide) ?_
      refine sv_iinc (pc := 61) (i := 4) (v := x4 + (-1)) C.1 [some (va_rf (some t)), some (.int x1), some (.int x2), some (.int x3), some (.int (x4 + (-1))), none] dX9_freeAt_61 rfl rfl (by rw [C.2.1]; exact Nat.le_of_ble_eq_true rfl) rfl rfl ?_
      refine st_goto (pc := 64) (tgt := 27) C.1 dX9_freeAt_64 (by decide) ?_
      exact (k3 c0 c1)

theorem sm_freeAt_71 {X : CX} {d mc ms cells slots : Nat} {pp : Int32 → Hp → Prop} {h : Hp} {t : Nat} {ρ A : Nat → Nat} {m : Mo} {x1 : Int32} {x2 : Int32} {x3 : Int32} (C : CmI X mX9_freeAt d mc ms pp) (hS : MS h t ρ A) (hc : cells ≤ mc) (hs : slots ≤ ms)  (k0 : m.1 915 ≤ x3 → pp (-1) (mput h t ρ m)) (k1 : ¬ m.1 915 ≤ x3 → At X cells slots 85 [some (va_rf (some t)), some (.int x1), some (.int x2), some (.int x3), some (.int 0), some (.int 0)] [] (mput h t ρ m)) : At X cells slots 71 [some (va_rf (some t)), some (.int x1), some (.int x2), some (.int x3), none, none] [] (mput h t ρ m) := by
  refine st_iload_n (pc := 71) C.1 dX9_freeAt_71 rfl rfl ?_
  refine st_aload_n (pc := 72) C.1 (some t) dX9_freeAt_72 rfl rfl ?_
  refine gI_RX9_105 (pc := 73) C.1 (m.1 915) dX9_freeAt_73 (hS.k _) (mI915 h t ρ _) ?_
  refine st_icmp_ge (pc := 76) (tgt := 166) C.1 dX9_freeAt_76 (by decide) (fun c0 => ?_) (fun c0 => ?_)
  · refine st_iconst (pc := 166) (v := (-1)) C.1 dX9_freeAt_166 (by decide) ?_
    exact rt_i C (Or.inl rfl) dX9_freeAt_167 hc hs ⟨_, rfl, (k0 c0)⟩
  · refine st_iconst (pc := 79) (v := 0) C.1 dX9_freeAt_79 (by decide) ?_
    refine sv_istore (pc := 80) (i := 4) C.1 [some (va_rf (some t)), some (.int x1), some (.int x2), some (.int x3), some (.int 0), none] dX9_freeAt_80 (Nat.le_of_ble_eq_true rfl) (by rw [C.2.1]; exact Nat.le_of_ble_eq_true rfl) rfl rfl ?_
    refine st_iconst (pc := 82) (v := 0) C.1 dX9_freeAt_82 (by decide) ?_
    refine sv_istore (pc := 83) (i := 5) C.1 [some (va_rf (some t)), some (.int x1), some (.int x2), some (.int x3), some (.int 0), some (.int 0)] dX9_freeAt_83 (Nat.le_of_ble_eq_true rfl) (by rw [C.2.1]; exact Nat.le_of_ble_eq_true rfl) rfl rfl ?_
    exact (k1 c0)

theorem sm_freeAt_85 {X : CX} {d mc ms cells slots : Nat} {pp : Int32 → Hp → Prop} {h : Hp} {t : Nat} {ρ A : Nat → Nat} {m : Mo} {x1 : Int32} {x2 : Int32} {x3 : Int32} {x4 : Int32} {x5 : Int32} (C : CmI X mX9_freeAt d mc ms pp) (hS : MS h t ρ A) (hc : cells ≤ mc) (hs : slots ≤ ms) (h0 : m.1 915 ≤ x5 → vp_in x3 800) (h1 : m.1 915 ≤ x5 → m.2 914 (x3.toNatClampNeg) = x1 → x4 = x2 → vp_in x3 800) (h2 : ¬ m.1 915 ≤ x5 → vp_in x5 800) (h3 : ¬ m.1 915 ≤ x5 → m.2 914 (x5.toNatClampNeg) = x1 → vp_in x5 800) (h4 : ¬ m.1 915 ≤ x5 → m.2 914 (x5.toNatClampNeg) = x1 → vp_in x3 800) (k0 : m.1 915 ≤ x5 → ¬ m.2 914 (x3.toNatClampNeg) = x1 → At X cells slots 71 [some (va_rf (some t)), some (.int x1), some (.int x2), some (.int (x3 + 1)), some (.int x4), some (.int x5)] [] (mput h t ρ m)) (k1 : m.1 915 ≤ x5 → m.2 914 (x3.toNatClampNeg) = x1 → ¬ x4 = x2 → At X cells slots 71 [some (va_rf (some t)), some (.int x1), some (.int x2), some (.int (x3 + 1)), some (.int x4), some (.int x5)] [] (mput h t ρ m)) (k2 : m.1 915 ≤ x5 → m.2 914 (x3.toNatClampNeg) = x1 → x4 = x2 → pp (m.2 913 (x3.toNatClampNeg)) (mput h t ρ m)) (k3 : ¬ m.1 915 ≤ x5 → ¬ m.2 914 (x5.toNatClampNeg) = x1 → At X cells slots 85 [some (va_rf (some t)), some (.int x1), some (.int x2), some (.int x3), some (.int (x4 + 0)), some (.int (x5 + 1))] [] (mput h t ρ m)) (k4 : ¬ m.1 915 ≤ x5 → m.2 914 (x5.toNatClampNeg) = x1 → m.2 913 (x3.toNatClampNeg) ≤ m.2 913 (x5.toNatClampNeg) → At X cells slots 85 [some (va_rf (some t)), some (.int x1), some (.int x2), some (.int x3), some (.int (x4 + 0)), some (.int (x5 + 1))] [] (mput h t ρ m)) (k5 : ¬ m.1 915 ≤ x5 → m.2 914 (x5.toNatClampNeg) = x1 → ¬ m.2 913 (x3.toNatClampNeg) ≤ m.2 913 (x5.toNatClampNeg) → At X cells slots 85 [some (va_rf (some t)), some (.int x1), some (.int x2), some (.int x3), some (.int (x4 + 1)), some (.int (x5 + 1))] [] (mput h t ρ m)) : At X cells slots 85 [some (va_rf (some t)), some (.int x1), some (.int x2), some (.int x3), some (.int x4), some (.int x5)] [] (mput h t ρ m) := by
  refine st_iload (pc := 85) C.1 dX9_freeAt_85 rfl ?_
  refine st_aload_n (pc := 87) C.1 (some t) dX9_freeAt_87 rfl rfl ?_
  refine gI_RX9_105 (pc := 88) C.1 (m.1 915) dX9_freeAt_88 (hS.k _) (mI915 h t ρ _) ?_
  refine st_icmp_ge (pc := 91) (tgt := 137) C.1 dX9_freeAt_91 (by decide) (fun c0 => ?_) (fun c0 => ?_)
  · refine st_aload_n (pc := 137) C.1 (some t) dX9_freeAt_137 rfl rfl ?_
    refine gR_RX9_38 (pc := 138) C.1 (some (A 914)) dX9_freeAt_138 (hS.k _) (hS.r _ 914) ?_
    refine st_iload_n (pc := 141) C.1 dX9_freeAt_141 rfl rfl ?_
    refine sv_iaload (pc := 142) C.1 (m.2 914 (x3.toNatClampNeg)) dX9_freeAt_142 (hS.ki _ 914) (by rw [nA914 hS]; exact (h0 c0)) (congrFun (mA914 hS _) _) ?_
    refine st_iload_n (pc := 143) C.1 dX9_freeAt_143 rfl rfl ?_
    refine st_icmp_ne (pc := 144) (tgt := 160) C.1 dX9_freeAt_144 (by decide) (fun c1 => ?_) (fun c1 => ?_)
    · refine sv_iinc (pc := 160) (i := 3) (v := x3 + 1) C.1 [some (va_rf (some t)), some (.int x1), some (.int x2), some (.int (x3 + 1)), some (.int x4), some (.int x5)] dX9_freeAt_160 rfl rfl (by rw [C.2.1]; exact Nat.le_of_ble_eq_true rfl) rfl rfl ?_
      refine st_goto (pc := 163) (tgt := 71) C.1 dX9_freeAt_163 (by decide) ?_
      exact (k0 c0 c1)
    · refine st_iload (pc := 147) C.1 dX9_freeAt_147 rfl ?_
      refine st_iload_n (pc := 149) C.1 dX9_freeAt_149 rfl rfl ?_
      refine st_icmp_ne (pc := 150) (tgt := 160) C.1 dX9_freeAt_150 (by decide) (fun c2 => ?_) (fun c2 => ?_)
      · refine sv_iinc (pc := 160) (i := 3) (v := x3 + 1) C.1 [some (va_rf (some t)), some (.int x1), some (.int x2), some (.int (x3 + 1)), some (.int x4), some (.int x5)] dX9_freeAt_160 rfl rfl (by rw [C.2.1]; exact Nat.le_of_ble_eq_true rfl) rfl rfl ?_
        refine st_goto (pc := 163) (tgt := 71) C.1 dX9_freeAt_163 (by decide) ?_
        exact (k1 c0 c1 c2)
      · refine st_aload_n (pc := 153) C.1 (some t) dX9_freeAt_153 rfl rfl ?_
        refine gR_RX9_35 (pc := 154) C.1 (some (A 913)) dX9_freeAt_154 (hS.k _) (hS.r _ 913) ?_
        refine st_iload_n (pc := 157) C.1 dX9_freeAt_157 rfl rfl ?_
        refine sv_iaload (pc := 158) C.1 (m.2 913 (x3.toNatClampNeg)) dX9_freeAt_158 (hS.ki _ 913) (by rw [nA913 hS]; exact (h1 c0 c1 c2)) (congrFun (mA913 hS _) _) ?_
        exact rt_i C (Or.inl rfl) dX9_freeAt_159 hc hs ⟨_, rfl, (k2 c0 c1 c2)⟩
  · refine st_iload (pc := 94) C.1 dX9_freeAt_94 rfl ?_
    refine st_aload_n (pc := 96) C.1 (some t) dX9_freeAt_96 rfl rfl ?_
    refine gR_RX9_38 (pc := 97) C.1 (some (A 914)) dX9_freeAt_97 (hS.k _) (hS.r _ 914) ?_
    refine st_iload (pc := 100) C.1 dX9_freeAt_100 rfl ?_
    refine sv_iaload (pc := 102) C.1 (m.2 914 (x5.toNatClampNeg)) dX9_freeAt_102 (hS.ki _ 914) (by rw [nA914 hS]; exact (h2 c0)) (congrFun (mA914 hS _) _) ?_
    refine st_iload_n (pc := 103) C.1 dX9_freeAt_103 rfl rfl ?_
    refine st_icmp_ne (pc := 104) (tgt := 127) C.1 dX9_freeAt_104 (by decide) (fun c3 => ?_) (fun c3 => ?_)
    · refine st_iconst (pc := 127) (v := 0) C.1 dX9_freeAt_127 (by decide) ?_
      refine st_iadd (pc := 128) C.1 dX9_freeAt_128 ?_
      refine sv_istore (pc := 129) (i := 4) C.1 [some (va_rf (some t)), some (.int x1), some (.int x2), some (.int x3), some (.int (x4 + 0)), some (.int x5)] dX9_freeAt_129 (Nat.le_of_ble_eq_true rfl) (by rw [C.2.1]; exact Nat.le_of_ble_eq_true rfl) rfl rfl ?_
      refine sv_iinc (pc := 131) (i := 5) (v := x5 + 1) C.1 [some (va_rf (some t)), some (.int x1), some (.int x2), some (.int x3), some (.int (x4 + 0)), some (.int (x5 + 1))] dX9_freeAt_131 rfl rfl (by rw [C.2.1]; exact Nat.le_of_ble_eq_true rfl) rfl rfl ?_
      refine st_goto (pc := 134) (tgt := 85) C.1 dX9_freeAt_134 (by decide) ?_
      exact (k3 c0 c3)
    · refine st_aload_n (pc := 107) C.1 (some t) dX9_freeAt_107 rfl rfl ?_
      refine gR_RX9_35 (pc := 108) C.1 (some (A 913)) dX9_freeAt_108 (hS.k _) (hS.r _ 913) ?_
      refine st_iload (pc := 111) C.1 dX9_freeAt_111 rfl ?_
      refine sv_iaload (pc := 113) C.1 (m.2 913 (x5.toNatClampNeg)) dX9_freeAt_113 (hS.ki _ 913) (by rw [nA913 hS]; exact (h3 c0 c3)) (congrFun (mA913 hS _) _) ?_
      refine st_aload_n (pc := 114) C.1 (some t) dX9_freeAt_114 rfl rfl ?_
      refine gR_RX9_35 (pc := 115) C.1 (some (A 913)) dX9_freeAt_115 (hS.k _) (hS.r _ 913) ?_
      refine st_iload_n (pc := 118) C.1 dX9_freeAt_118 rfl rfl ?_
      refine sv_iaload (pc := 119) C.1 (m.2 913 (x3.toNatClampNeg)) dX9_freeAt_119 (hS.ki _ 913) (by rw [nA913 hS]; exact (h4 c0 c3)) (congrFun (mA913 hS _) _) ?_
      refine st_icmp_ge (pc := 120) (tgt := 127) C.1 dX9_freeAt_120 (by decide) (fun c4 => ?_) (fun c4 => ?_)
      · refine st_iconst (pc := 127) (v := 0) C.1 dX9_freeAt_127 (by decide) ?_
        refine st_iadd (pc := 128) C.1 dX9_freeAt_128 ?_
        refine sv_istore (pc := 129) (i := 4) C.1 [some (va_rf (some t)), some (.int x1), some (.int x2), some (.int x3), some (.int (x4 + 0)), some (.int x5)] dX9_freeAt_129 (Nat.le_of_ble_eq_true rfl) (by rw [C.2.1]; exact Nat.le_of_ble_eq_true rfl) rfl rfl ?_
        refine sv_iinc (pc := 131) (i := 5) (v := x5 + 1) C.1 [some (va_rf (some t)), some (.int x1), some (.int x2), some (.int x3), some (.int (x4 + 0)), some (.int (x5 + 1))] dX9_freeAt_131 rfl rfl (by rw [C.2.1]; exact Nat.le_of_ble_eq_true rfl) rfl rfl ?_
        refine st_goto (pc := 134) (tgt := 85) C.1 dX9_freeAt_134 (by decide) ?_
        exact (k4 c0 c3 c4)
      · refine st_iconst (pc := 123) (v := 1) C.1 dX9_freeAt_123 (by decide) ?_
        refine st_goto (pc := 124) (tgt := 128) C.1 dX9_freeAt_124 (by decide) ?_
        refine st_iadd (pc := 128) C.1 dX9_freeAt_128 ?_
        refine sv_istore (pc := 129) (i := 4) C.1 [some (va_rf (some t)), some (.int x1), some (.int x2), some (.int x3), some (.int (x4 + 1)), some (.int x5)] dX9_freeAt_129 (Nat.le_of_ble_eq_true rfl) (by rw [C.2.1]; exact Nat.le_of_ble_eq_true rfl) rfl rfl ?_
        refine sv_iinc (pc := 131) (i := 5) (v := x5 + 1) C.1 [some (va_rf (some t)), some (.int x1), some (.int x2), some (.int x3), some (.int (x4 + 1)), some (.int (x5 + 1))] dX9_freeAt_131 rfl rfl (by rw [C.2.1]; exact Nat.le_of_ble_eq_true rfl) rfl rfl ?_
        refine st_goto (pc := 134) (tgt := 85) C.1 dX9_freeAt_134 (by decide) ?_
        exact (k5 c0 c3 c4)

theorem sm_waiting_0 {X : CX} {d mc ms cells slots : Nat} {pp : Int32 → Hp → Prop} {h : Hp} {t : Nat} {ρ A : Nat → Nat} {m : Mo} {x1 : Int32} (C : CmI X mX9_waiting d mc ms pp) (hS : MS h t ρ A)  (k0 : At X cells slots 7 [some (va_rf (some t)), some (.int x1), some (.int 0), none, none] [] (mput h t ρ (up1 m.1 903 0, m.2))) : At X cells slots 0 [some (va_rf (some t)), some (.int x1), none, none, none] [] (mput h t ρ m) := by
  refine st_aload_n (pc := 0) C.1 (some t) dX9_waiting_0 rfl rfl ?_
  refine st_iconst (pc := 1) (v := 0) C.1 dX9_waiting_1 (by decide) ?_
  refine pI_RX9_85 (pc := 2) C.1 dX9_waiting_2 (hS.k _) ?_
  rw [pI903]
  refine st_iconst (pc := 5) (v := 0) C.1 dX9_waiting_5 (by decide) ?_
  refine sv_istore_n (pc := 6) (i := 2) C.1 [some (va_rf (some t)), some (.int x1), some (.int 0), none, none] dX9_waiting_6 rfl (Nat.le_of_ble_eq_true rfl) (by rw [C.2.1]; exact Nat.le_of_ble_eq_true rfl) rfl rfl ?_
  exact k0

theorem sm_waiting_7 {X : CX} {d mc ms cells slots : Nat} {pp : Int32 → Hp → Prop} {h : Hp} {t : Nat} {ρ A : Nat → Nat} {m : Mo} {x1 : Int32} {x2 : Int32} (C : CmI X mX9_waiting d mc ms pp) (hS : MS h t ρ A) (hc : cells ≤ mc) (hs : slots ≤ ms)  (k0 : m.1 912 ≤ x2 → pp (-1) (mput h t ρ m)) (k1 : ¬ m.1 912 ≤ x2 → At X cells slots 17 [some (va_rf (some t)), some (.int x1), some (.int x2), none, none] [.int x2, va_rf (some t)] (mput h t ρ m)) : At X cells slots 7 [some (va_rf (some t)), some (.int x1), some (.int x2), none, none] [] (mput h t ρ m) := by
  refine st_iload_n (pc := 7) C.1 dX9_waiting_7 rfl rfl ?_
  refine st_aload_n (pc := 8) C.1 (some t) dX9_waiting_8 rfl rfl ?_
  refine gI_RX9_88 (pc := 9) C.1 (m.1 912) dX9_waiting_9 (hS.k _) (mI912 h t ρ _) ?_
  refine st_icmp_ge (pc := 12) (tgt := 96) C.1 dX9_waiting_12 (by decide) (fun c0 => ?_) (fun c0 => ?_)
  · refine st_iconst (pc := 96) (v := (-1)) C.1 dX9_waiting_96 (by decide) ?_
    exact rt_i C (Or.inl rfl) dX9_waiting_97 hc hs ⟨_, rfl, (k0 c0)⟩
  · refine st_aload_n (pc := 15) C.1 (some t) dX9_waiting_15 rfl rfl ?_
    refine st_iload_n (pc := 16) C.1 dX9_waiting_16 rfl rfl ?_
    exact (k1 c0)

theorem sm_waiting_20 {X : CX} {d mc ms cells slots : Nat} {pp : Int32 → Hp → Prop} {h : Hp} {t : Nat} {ρ A : Nat → Nat} {m : Mo} {x1 : Int32} {x2 : Int32} {u0 : Int32} (C : CmI X mX9_waiting d mc ms pp) (hS : MS h t ρ A)  (k0 : u0 = 0 → At X cells slots 31 [some (va_rf (some t)), some (.int x1), some (.int x2), some (.int 0), some (.int 0)] [] (mput h t ρ m)) (k1 : ¬ u0 = 0 → At X cells slots 7 [some (va_rf (some t)), some (.int x1), some (.int (x2 + 1)), none, none] [] (mput h t ρ m)) : At X cells slots 20 [some (va_rf (some t)), some (.int x1), some (.int x2), none, none] [.int u0] (mput h t ρ m) := by
  refine st_if_eq (pc := 20) (tgt := 26) C.1 dX9_waiting_20 (by decide) (fun c0 => ?_) (fun c0 => ?_)
  · refine st_iconst (pc := 26) (v := 0) C.1 dX9_waiting_26 (by decide) ?_
    refine sv_istore_n (pc := 27) (i := 3) C.1 [some (va_rf (some t)), some (.int x1), some (.int x2), some (.int 0), none] dX9_waiting_27 rfl (Nat.le_of_ble_eq_true rfl) (by rw [C.2.1]; exact Nat.le_of_ble_eq_true rfl) rfl rfl ?_
    refine st_iconst (pc := 28) (v := 0) C.1 dX9_waiting_28 (by decide) ?_
    refine sv_istore (pc := 29) (i := 4) C.1 [some (va_rf (some t)), some (.int x1), some (.int x2), some (.int 0), some (.int 0)] dX9_waiting_29 (Nat.le_of_ble_eq_true rfl) (by rw [C.2.1]; exact Nat.le_of_ble_eq_true rfl) rfl rfl ?_
    exact (k0 c0)
  · refine st_goto (pc := 23) (tgt := 90) C.1 dX9_waiting_23 (by decide) ?_
    refine sv_iinc (pc := 90) (i := 2) (v := x2 + 1) C.1 [some (va_rf (some t)), some (.int x1), some (.int (x2 + 1)), none, none] dX9_waiting_90 rfl rfl (by rw [C.2.1]; exact Nat.le_of_ble_eq_true rfl) rfl rfl ?_
    refine st_goto (pc := 93) (tgt := 7) C.1 dX9_waiting_93 (by decide) ?_
    exact (k1 c0)

theorem sm_waiting_31 {X : CX} {d mc ms cells slots : Nat} {pp : Int32 → Hp → Prop} {h : Hp} {t : Nat} {ρ A : Nat → Nat} {m : Mo} {x1 : Int32} {x2 : Int32} {x3 : Int32} {x4 : Int32} (C : CmI X mX9_waiting d mc ms pp) (hS : MS h t ρ A)  (k0 : m.1 912 ≤ x4 → ¬ x3 = x1 → At X cells slots 7 [some (va_rf (some t)), some (.int x1), some (.int (x2 + 1)), some (.int x3), some (.int x4)] [] (mput h t ρ m)) (k1 : m.1 912 ≤ x4 → x3 = x1 → At X cells slots 86 [some (va_rf (some t)), some (.int x1), some (.int x2), some (.int x3), some (.int x4)] [.int x2, va_rf (some t)] (mput h t ρ m)) (k2 : ¬ m.1 912 ≤ x4 → At X cells slots 44 [some (va_rf (some t)), some (.int x1), some (.int x2), some (.int x3), some (.int x4)] [.int x4, va_rf (some t), .int x3] (mput h t ρ m)) : At X cells slots 31 [some (va_rf (some t)), some (.int x1), some (.int x2), some (.int x3), some (.int x4)] [] (mput h t ρ m) := by
  refine st_iload (pc := 31) C.1 dX9_waiting_31 rfl ?_
  refine st_aload_n (pc := 33) C.1 (some t) dX9_waiting_33 rfl rfl ?_
  refine gI_RX9_88 (pc := 34) C.1 (m.1 912) dX9_waiting_34 (hS.k _) (mI912 h t ρ _) ?_
  refine st_icmp_ge (pc := 37) (tgt := 79) C.1 dX9_waiting_37 (by decide) (fun c0 => ?_) (fun c0 => ?_)
  · refine st_iload_n (pc := 79) C.1 dX9_waiting_79 rfl rfl ?_
    refine st_iload_n (pc := 80) C.1 dX9_waiting_80 rfl rfl ?_
    refine st_icmp_ne (pc := 81) (tgt := 90) C.1 dX9_waiting_81 (by decide) (fun c1 => ?_) (fun c1 => ?_)
    · refine sv_iinc (pc := 90) (i := 2) (v := x2 + 1) C.1 [some (va_rf (some t)), some (.int x1), some (.int (x2 + 1)), some (.int x3), some (.int x4)] dX9_waiting_90 rfl rfl (by rw [C.2.1]; exact Nat.le_of_ble_eq_true rfl) rfl rfl ?_
      refine st_goto (pc := 93) (tgt := 7) C.1 dX9_waiting_93 (by decide) ?_
      exact (k0 c0 c1)
    · refine st_aload_n (pc := 84) C.1 (some t) dX9_waiting_84 rfl rfl ?_
      refine st_iload_n (pc := 85) C.1 dX9_waiting_85 rfl rfl ?_
      exact (k1 c0 c1)
  · refine st_iload_n (pc := 40) C.1 dX9_waiting_40 rfl rfl ?_
    refine st_aload_n (pc := 41) C.1 (some t) dX9_waiting_41 rfl rfl ?_
    refine st_iload (pc := 42) C.1 dX9_waiting_42 rfl ?_
    exact (k2 c0)

theorem sm_waiting_47 {X : CX} {d mc ms cells slots : Nat} {pp : Int32 → Hp → Prop} {h : Hp} {t : Nat} {ρ A : Nat → Nat} {m : Mo} {x1 : Int32} {x2 : Int32} {x3 : Int32} {x4 : Int32} {u0 : Int32} {u1 : Int32} (C : CmI X mX9_waiting d mc ms pp) (hS : MS h t ρ A) (h0 : u0 = 0 → vp_in x4 800) (h1 : u0 = 0 → vp_in x2 800) (k0 : ¬ u0 = 0 → At X cells slots 31 [some (va_rf (some t)), some (.int x1), some (.int x2), some (.int (u1 + 0)), some (.int (x4 + 1))] [] (mput h t ρ m)) (k1 : u0 = 0 → m.2 911 (x2.toNatClampNeg) ≤ m.2 911 (x4.toNatClampNeg) → At X cells slots 31 [some (va_rf (some t)), some (.int x1), some (.int x2), some (.int (u1 + 0)), some (.int (x4 + 1))] [] (mput h t ρ m)) (k2 : u0 = 0 → ¬ m.2 911 (x2.toNatClampNeg) ≤ m.2 911 (x4.toNatClampNeg) → At X cells slots 31 [some (va_rf (some t)), some (.int x1), some (.int x2), some (.int (u1 + 1)), some (.int (x4 + 1))] [] (mput h t ρ m)) : At X cells slots 47 [some (va_rf (some t)), some (.int x1), some (.int x2), some (.int x3), some (.int x4)] [.int u0, .int u1] (mput h t ρ m) := by
  refine st_if_ne (pc := 47) (tgt := 70) C.1 dX9_waiting_47 (by decide) (fun c0 => ?_) (fun c0 => ?_)
  · refine st_iconst (pc := 70) (v := 0) C.1 dX9_waiting_70 (by decide) ?_
    refine st_iadd (pc := 71) C.1 dX9_waiting_71 ?_
    refine sv_istore_n (pc := 72) (i := 3) C.1 [some (va_rf (some t)), some (.int x1), some (.int x2), some (.int (u1 + 0)), some (.int x4)] dX9_waiting_72 rfl (Nat.le_of_ble_eq_true rfl) (by rw [C.2.1]; exact Nat.le_of_ble_eq_true rfl) rfl rfl ?_
    refine sv_iinc (pc := 73) (i := 4) (v := x4 + 1) C.1 [some (va_rf (some t)), some (.int x1), some (.int x2), some (.int (u1 + 0)), some (.int (x4 + 1))] dX9_waiting_73 rfl rfl (by rw [C.2.1]; exact Nat.le_of_ble_eq_true rfl) rfl rfl ?_
    refine st_goto (pc := 76) (tgt := 31) C.1 dX9_waiting_76 (by decide) ?_
    exact (k0 c0)
  · refine st_aload_n (pc := 50) C.1 (some t) dX9_waiting_50 rfl rfl ?_
    refine gR_RX9_32 (pc := 51) C.1 (some (A 911)) dX9_waiting_51 (hS.k _) (hS.r _ 911) ?_
    refine st_iload (pc := 54) C.1 dX9_waiting_54 rfl ?_
    refine sv_iaload (pc := 56) C.1 (m.2 911 (x4.toNatClampNeg)) dX9_waiting_56 (hS.ki _ 911) (by rw [nA911 hS]; exact (h0 c0)) (congrFun (mA911 hS _) _) ?_
    refine st_aload_n (pc := 57) C.1 (some t) dX9_waiting_57 rfl rfl ?_
    refine gR_RX9_32 (pc := 58) C.1 (some (A 911)) dX9_waiting_58 (hS.k _) (hS.r _ 911) ?_
    refine st_iload_n (pc := 61) C.1 dX9_waiting_61 rfl rfl ?_
    refine sv_iaload (pc := 62) C.1 (m.2 911 (x2.toNatClampNeg)) dX9_waiting_62 (hS.ki _ 911) (by rw [nA911 hS]; exact (h1 c0)) (congrFun (mA911 hS _) _) ?_
    refine st_icmp_ge (pc := 63) (tgt := 70) C.1 dX9_waiting_63 (by decide) (fun c1 => ?_) (fun c1 => ?_)
    · refine st_iconst (pc := 70) (v := 0) C.1 dX9_waiting_70 (by decide) ?_
      refine st_iadd (pc := 71) C.1 dX9_waiting_71 ?_
      refine sv_istore_n (pc := 72) (i := 3) C.1 [some (va_rf (some t)), some (.int x1), some (.int x2), some (.int (u1 + 0)), some (.int x4)] dX9_waiting_72 rfl (Nat.le_of_ble_eq_true rfl) (by rw [C.2.1]; exact Nat.le_of_ble_eq_true rfl) rfl rfl ?_
      refine sv_iinc (pc := 73) (i := 4) (v := x4 + 1) C.1 [some (va_rf (some t)), some (.int x1), some (.int x2), some (.int (u1 + 0)), some (.int (x4 + 1))] dX9_waiting_73 rfl rfl (by rw [C.2.1]; exact Nat.le_of_ble_eq_true rfl) rfl rfl ?_
      refine st_goto (pc := 76) (tgt := 31) C.1 dX9_waiting_76 (by decide) ?_
      exact (k1 c0 c1)
    · refine st_iconst (pc := 66) (v := 1) C.1 dX9_waiting_66 (by decide) ?_
      refine st_goto (pc := 67) (tgt := 71) C.1 dX9_waiting_67 (by decide) ?_
      refine st_iadd (pc := 71) C.1 dX9_waiting_71 ?_
      refine sv_istore_n (pc := 72) (i := 3) C.1 [some (va_rf (some t)), some (.int x1), some (.int x2), some (.int (u1 + 1)), some (.int x4)] dX9_waiting_72 rfl (Nat.le_of_ble_eq_true rfl) (by rw [C.2.1]; exact Nat.le_of_ble_eq_true rfl) rfl rfl ?_
      refine sv_iinc (pc := 73) (i := 4) (v := x4 + 1) C.1 [some (va_rf (some t)), some (.int x1), some (.int x2), some (.int (u1 + 1)), some (.int (x4 + 1))] dX9_waiting_73 rfl rfl (by rw [C.2.1]; exact Nat.le_of_ble_eq_true rfl) rfl rfl ?_
      refine st_goto (pc := 76) (tgt := 31) C.1 dX9_waiting_76 (by decide) ?_
      exact (k2 c0 c1)

theorem sm_waiting_89 {X : CX} {d mc ms cells slots : Nat} {pp : Int32 → Hp → Prop} {h : Hp} {t : Nat} {ρ A : Nat → Nat} {m : Mo} {x1 : Int32} {x2 : Int32} {x3 : Int32} {x4 : Int32} {u0 : Int32} (C : CmI X mX9_waiting d mc ms pp) (hS : MS h t ρ A) (hc : cells ≤ mc) (hs : slots ≤ ms)  (k0 : pp u0 (mput h t ρ m)) : At X cells slots 89 [some (va_rf (some t)), some (.int x1), some (.int x2), some (.int x3), some (.int x4)] [.int u0] (mput h t ρ m) := by
  exact rt_i C (Or.inl rfl) dX9_waiting_89 hc hs ⟨_, rfl, k0⟩

theorem sm_fault_0 {X : CX} {d mc ms cells slots : Nat} {pp : Int32 → Hp → Prop} {h : Hp} {t : Nat} {ρ A : Nat → Nat} {m : Mo} {x1 : Int32} {x2 : Int32} (C : CmI X mX9_fault d mc ms pp) (hS : MS h t ρ A) (hc : cells ≤ mc) (hs : slots ≤ ms) (h0 : ¬ x1 < 0 → ¬ m.1 921 ≤ x1 → ¬ 32 ≤ x1 → x2 = 0 → ¬ x2 = 0 → vp_in ((((m.1 921) - 1) - x1) - (((m.1 921) - 1) - x1) / 32 * 32) 32) (h1 : ¬ x1 < 0 → ¬ m.1 921 ≤ x1 → ¬ 32 ≤ x1 → x2 = 0 → x2 = 0 → vp_in ((((m.1 921) - 1) - x1) - (((m.1 921) - 1) - x1) / 32 * 32) 32) (h2 : ¬ x1 < 0 → ¬ m.1 921 ≤ x1 → ¬ 32 ≤ x1 → ¬ x2 = 0 → x2 = 1 → ¬ x2 = 0 → vp_in ((((m.1 921) - 1) - x1) - (((m.1 921) - 1) - x1) / 32 * 32) 32) (h3 : ¬ x1 < 0 → ¬ m.1 921 ≤ x1 → ¬ 32 ≤ x1 → ¬ x2 = 0 → x2 = 1 → x2 = 0 → vp_in ((((m.1 921) - 1) - x1) - (((m.1 921) - 1) - x1) / 32 * 32) 32) (k0 : x1 < 0 → pp 0 (mput h t ρ (up1 m.1 903 1, m.2))) (k1 : ¬ x1 < 0 → m.1 921 ≤ x1 → pp 0 (mput h t ρ (up1 m.1 903 1, m.2))) (k2 : ¬ x1 < 0 → ¬ m.1 921 ≤ x1 → 32 ≤ x1 → pp 0 (mput h t ρ (up1 m.1 903 1, m.2))) (k3 : ¬ x1 < 0 → ¬ m.1 921 ≤ x1 → ¬ 32 ≤ x1 → x2 = 0 → ¬ x2 = 0 → pp (m.2 924 (((((m.1 921) - 1) - x1) - (((m.1 921) - 1) - x1) / 32 * 32).toNatClampNeg)) (mput h t ρ (up1 m.1 903 0, m.2))) (k4 : ¬ x1 < 0 → ¬ m.1 921 ≤ x1 → ¬ 32 ≤ x1 → x2 = 0 → x2 = 0 → pp (m.2 923 (((((m.1 921) - 1) - x1) - (((m.1 921) - 1) - x1) / 32 * 32).toNatClampNeg)) (mput h t ρ (up1 m.1 903 0, m.2))) (k5 : ¬ x1 < 0 → ¬ m.1 921 ≤ x1 → ¬ 32 ≤ x1 → ¬ x2 = 0 → ¬ x2 = 1 → pp 0 (mput h t ρ (up1 m.1 903 1, m.2))) (k6 : ¬ x1 < 0 → ¬ m.1 921 ≤ x1 → ¬ 32 ≤ x1 → ¬ x2 = 0 → x2 = 1 → ¬ x2 = 0 → pp (m.2 924 (((((m.1 921) - 1) - x1) - (((m.1 921) - 1) - x1) / 32 * 32).toNatClampNeg)) (mput h t ρ (up1 m.1 903 0, m.2))) (k7 : ¬ x1 < 0 → ¬ m.1 921 ≤ x1 → ¬ 32 ≤ x1 → ¬ x2 = 0 → x2 = 1 → x2 = 0 → pp (m.2 923 (((((m.1 921) - 1) - x1) - (((m.1 921) - 1) - x1) / 32 * 32).toNatClampNeg)) (mput h t ρ (up1 m.1 903 0, m.2))) : At X cells slots 0 [some (va_rf (some t)), some (.int x1), some (.int x2), none, none] [] (mput h t ρ m) := by
  refine st_iload_n (pc := 0) C.1 dX9_fault_0 rfl rfl ?_
  refine st_if_lt (pc := 1) (tgt := 31) C.1 dX9_fault_1 (by decide) (fun c0 => ?_) (fun c0 => ?_)
  · refine st_iconst (pc := 31) (v := 0) C.1 dX9_fault_31 (by decide) ?_
    refine sv_istore_n (pc := 32) (i := 3) C.1 [some (va_rf (some t)), some (.int x1), some (.int x2), some (.int 0), none] dX9_fault_32 rfl (Nat.le_of_ble_eq_true rfl) (by rw [C.2.1]; exact Nat.le_of_ble_eq_true rfl) rfl rfl ?_
    refine st_aload_n (pc := 33) C.1 (some t) dX9_fault_33 rfl rfl ?_
    refine st_iload_n (pc := 34) C.1 dX9_fault_34 rfl rfl ?_
    refine st_if_eq (pc := 35) (tgt := 42) C.1 dX9_fault_35 (by decide) (fun c1 => ?_) (fun c1 => ?_)
    · refine st_iconst (pc := 42) (v := 1) C.1 dX9_fault_42 (by decide) ?_
      refine pI_RX9_85 (pc := 43) C.1 dX9_fault_43 (hS.k _) ?_
      rw [pI903]
      refine st_iload_n (pc := 46) C.1 dX9_fault_46 rfl rfl ?_
      refine st_if_ne (pc := 47) (tgt := 52) C.1 dX9_fault_47 (by decide) (fun c2 => ?_) (fun c2 => ?_)
      · exact absurd c2 (by decide)
      · refine st_iconst (pc := 50) (v := 0) C.1 dX9_fault_50 (by decide) ?_
        exact rt_i C (Or.inl rfl) dX9_fault_51 hc hs ⟨_, rfl, (k0 c0)⟩
    · exact absurd c1 (by decide)
  · refine st_iload_n (pc := 4) C.1 dX9_fault_4 rfl rfl ?_
    refine st_aload_n (pc := 5) C.1 (some t) dX9_fault_5 rfl rfl ?_
    refine gI_RX9_102 (pc := 6) C.1 (m.1 921) dX9_fault_6 (hS.k _) (mI921 h t ρ _) ?_
    refine st_icmp_ge (pc := 9) (tgt := 31) C.1 dX9_fault_9 (by decide) (fun c3 => ?_) (fun c3 => ?_)
    · refine st_iconst (pc := 31) (v := 0) C.1 dX9_fault_31 (by decide) ?_
      refine sv_istore_n (pc := 32) (i := 3) C.1 [some (va_rf (some t)), some (.int x1), some (.int x2), some (.int 0), none] dX9_fault_32 rfl (Nat.le_of_ble_eq_true rfl) (by rw [C.2.1]; exact Nat.le_of_ble_eq_true rfl) rfl rfl ?_
      refine st_aload_n (pc := 33) C.1 (some t) dX9_fault_33 rfl rfl ?_
      refine st_iload_n (pc := 34) C.1 dX9_fault_34 rfl rfl ?_
      refine st_if_eq (pc := 35) (tgt := 42) C.1 dX9_fault_35 (by decide) (fun c4 => ?_) (fun c4 => ?_)
      · refine st_iconst (pc := 42) (v := 1) C.1 dX9_fault_42 (by decide) ?_
        refine pI_RX9_85 (pc := 43) C.1 dX9_fault_43 (hS.k _) ?_
        rw [pI903]
        refine st_iload_n (pc := 46) C.1 dX9_fault_46 rfl rfl ?_
        refine st_if_ne (pc := 47) (tgt := 52) C.1 dX9_fault_47 (by decide) (fun c5 => ?_) (fun c5 => ?_)
        · exact absurd c5 (by decide)
        · refine st_iconst (pc := 50) (v := 0) C.1 dX9_fault_50 (by decide) ?_
          exact rt_i C (Or.inl rfl) dX9_fault_51 hc hs ⟨_, rfl, (k1 c0 c3)⟩
      · exact absurd c4 (by decide)
    · refine st_iload_n (pc := 12) C.1 dX9_fault_12 rfl rfl ?_
      refine st_bipush (pc := 13) (v := 32) C.1 dX9_fault_13 (by decide) ?_
      refine st_icmp_ge (pc := 15) (tgt := 31) C.1 dX9_fault_15 (by decide) (fun c6 => ?_) (fun c6 => ?_)
      · refine st_iconst (pc := 31) (v := 0) C.1 dX9_fault_31 (by decide) ?_
        refine sv_istore_n (pc := 32) (i := 3) C.1 [some (va_rf (some t)), some (.int x1), some (.int x2), some (.int 0), none] dX9_fault_32 rfl (Nat.le_of_ble_eq_true rfl) (by rw [C.2.1]; exact Nat.le_of_ble_eq_true rfl) rfl rfl ?_
        refine st_aload_n (pc := 33) C.1 (some t) dX9_fault_33 rfl rfl ?_
        refine st_iload_n (pc := 34) C.1 dX9_fault_34 rfl rfl ?_
        refine st_if_eq (pc := 35) (tgt := 42) C.1 dX9_fault_35 (by decide) (fun c7 => ?_) (fun c7 => ?_)
        · refine st_iconst (pc := 42) (v := 1) C.1 dX9_fault_42 (by decide) ?_
          refine pI_RX9_85 (pc := 43) C.1 dX9_fault_43 (hS.k _) ?_
          rw [pI903]
          refine st_iload_n (pc := 46) C.1 dX9_fault_46 rfl rfl ?_
          refine st_if_ne (pc := 47) (tgt := 52) C.1 dX9_fault_47 (by decide) (fun c8 => ?_) (fun c8 => ?_)
          · exact absurd c8 (by decide)
          · refine st_iconst (pc := 50) (v := 0) C.1 dX9_fault_50 (by decide) ?_
            exact rt_i C (Or.inl rfl) dX9_fault_51 hc hs ⟨_, rfl, (k2 c0 c3 c6)⟩
        · exact absurd c7 (by decide)
      · refine st_iload_n (pc := 18) C.1 dX9_fault_18 rfl rfl ?_
        refine st_if_eq (pc := 19) (tgt := 27) C.1 dX9_fault_19 (by decide) (fun c9 => ?_) (fun c9 => ?_)
        · refine st_iconst (pc := 27) (v := 1) C.1 dX9_fault_27 (by decide) ?_
          refine st_goto (pc := 28) (tgt := 32) C.1 dX9_fault_28 (by decide) ?_
          refine sv_istore_n (pc := 32) (i := 3) C.1 [some (va_rf (some t)), some (.int x1), some (.int x2), some (.int 1), none] dX9_fault_32 rfl (Nat.le_of_ble_eq_true rfl) (by rw [C.2.1]; exact Nat.le_of_ble_eq_true rfl) rfl rfl ?_
          refine st_aload_n (pc := 33) C.1 (some t) dX9_fault_33 rfl rfl ?_
          refine st_iload_n (pc := 34) C.1 dX9_fault_34 rfl rfl ?_
          refine st_if_eq (pc := 35) (tgt := 42) C.1 dX9_fault_35 (by decide) (fun c10 => ?_) (fun c10 => ?_)
          · exact absurd c10 (by decide)
          · refine st_iconst (pc := 38) (v := 0) C.1 dX9_fault_38 (by decide) ?_
            refine st_goto (pc := 39) (tgt := 43) C.1 dX9_fault_39 (by decide) ?_
            refine pI_RX9_85 (pc := 43) C.1 dX9_fault_43 (hS.k _) ?_
            rw [pI903]
            refine st_iload_n (pc := 46) C.1 dX9_fault_46 rfl rfl ?_
            refine st_if_ne (pc := 47) (tgt := 52) C.1 dX9_fault_47 (by decide) (fun c11 => ?_) (fun c11 => ?_)
            · refine st_aload_n (pc := 52) C.1 (some t) dX9_fault_52 rfl rfl ?_
              refine gI_RX9_102 (pc := 53) C.1 (m.1 921) dX9_fault_53 (hS.k _) (mI921 h t ρ _) ?_
              refine st_iconst (pc := 56) (v := 1) C.1 dX9_fault_56 (by decide) ?_
              refine st_isub (pc := 57) C.1 dX9_fault_57 ?_
              refine st_iload_n (pc := 58) C.1 dX9_fault_58 rfl rfl ?_
              refine st_isub (pc := 59) C.1 dX9_fault_59 ?_
              refine st_bipush (pc := 60) (v := 32) C.1 dX9_fault_60 (by decide) ?_
              refine st_irem (pc := 62) C.1 dX9_fault_62 (by decide) ?_
              refine sv_istore (pc := 63) (i := 4) C.1 [some (va_rf (some t)), some (.int x1), some (.int x2), some (.int 1), some (.int ((((m.1 921) - 1) - x1) - (((m.1 921) - 1) - x1) / 32 * 32))] dX9_fault_63 (Nat.le_of_ble_eq_true rfl) (by rw [C.2.1]; exact Nat.le_of_ble_eq_true rfl) rfl rfl ?_
              refine st_iload_n (pc := 65) C.1 dX9_fault_65 rfl rfl ?_
              refine st_if_ne (pc := 66) (tgt := 79) C.1 dX9_fault_66 (by decide) (fun c12 => ?_) (fun c12 => ?_)
              · refine st_aload_n (pc := 79) C.1 (some t) dX9_fault_79 rfl rfl ?_
                refine gR_RX9_47 (pc := 80) C.1 (some (A 924)) dX9_fault_80 (hS.k _) (hS.r _ 924) ?_
                refine st_iload (pc := 83) C.1 dX9_fault_83 rfl ?_
                refine sv_iaload (pc := 85) C.1 (m.2 924 (((((m.1 921) - 1) - x1) - (((m.1 921) - 1) - x1) / 32 * 32).toNatClampNeg)) dX9_fault_85 (hS.ki _ 924) (by rw [nA924 hS]; exact (h0 c0 c3 c6 c9 c12)) (congrFun (mA924 hS _) _) ?_
                exact rt_i C (Or.inl rfl) dX9_fault_86 hc hs ⟨_, rfl, (k3 c0 c3 c6 c9 c12)⟩
              · refine st_aload_n (pc := 69) C.1 (some t) dX9_fault_69 rfl rfl ?_
                refine gR_RX9_44 (pc := 70) C.1 (some (A 923)) dX9_fault_70 (hS.k _) (hS.r _ 923) ?_
                refine st_iload (pc := 73) C.1 dX9_fault_73 rfl ?_
                refine sv_iaload (pc := 75) C.1 (m.2 923 (((((m.1 921) - 1) - x1) - (((m.1 921) - 1) - x1) / 32 * 32).toNatClampNeg)) dX9_fault_75 (hS.ki _ 923) (by rw [nA923 hS]; exact (h1 c0 c3 c6 c9 c12)) (congrFun (mA923 hS _) _) ?_
                refine st_goto (pc := 76) (tgt := 86) C.1 dX9_fault_76 (by decide) ?_
                exact rt_i C (Or.inl rfl) dX9_fault_86 hc hs ⟨_, rfl, (k4 c0 c3 c6 c9 c12)⟩
            · exact absurd c11 (by decide)
        · refine st_iload_n (pc := 22) C.1 dX9_fault_22 rfl rfl ?_
          refine st_iconst (pc := 23) (v := 1) C.1 dX9_fault_23 (by decide) ?_
          refine st_icmp_ne (pc := 24) (tgt := 31) C.1 dX9_fault_24 (by decide) (fun c13 => ?_) (fun c13 => ?_)
          · refine st_iconst (pc := 31) (v := 0) C.1 dX9_fault_31 (by decide) ?_
            refine sv_istore_n (pc := 32) (i := 3) C.1 [some (va_rf (some t)), some (.int x1), some (.int x2), some (.int 0), none] dX9_fault_32 rfl (Nat.le_of_ble_eq_true rfl) (by rw [C.2.1]; exact Nat.le_of_ble_eq_true rfl) rfl rfl ?_
            refine st_aload_n (pc := 33) C.1 (some t) dX9_fault_33 rfl rfl ?_
            refine st_iload_n (pc := 34) C.1 dX9_fault_34 rfl rfl ?_
            refine st_if_eq (pc := 35) (tgt := 42) C.1 dX9_fault_35 (by decide) (fun c14 => ?_) (fun c14 => ?_)
            · refine st_iconst (pc := 42) (v := 1) C.1 dX9_fault_42 (by decide) ?_
              refine pI_RX9_85 (pc := 43) C.1 dX9_fault_43 (hS.k _) ?_
              rw [pI903]
              refine st_iload_n (pc := 46) C.1 dX9_fault_46 rfl rfl ?_
              refine st_if_ne (pc := 47) (tgt := 52) C.1 dX9_fault_47 (by decide) (fun c15 => ?_) (fun c15 => ?_)
              · exact absurd c15 (by decide)
              · refine st_iconst (pc := 50) (v := 0) C.1 dX9_fault_50 (by decide) ?_
                exact rt_i C (Or.inl rfl) dX9_fault_51 hc hs ⟨_, rfl, (k5 c0 c3 c6 c9 c13)⟩
            · exact absurd c14 (by decide)
          · refine st_iconst (pc := 27) (v := 1) C.1 dX9_fault_27 (by decide) ?_
            refine st_goto (pc := 28) (tgt := 32) C.1 dX9_fault_28 (by decide) ?_
            refine sv_istore_n (pc := 32) (i := 3) C.1 [some (va_rf (some t)), some (.int x1), some (.int x2), some (.int 1), none] dX9_fault_32 rfl (Nat.le_of_ble_eq_true rfl) (by rw [C.2.1]; exact Nat.le_of_ble_eq_true rfl) rfl rfl ?_
            refine st_aload_n (pc := 33) C.1 (some t) dX9_fault_33 rfl rfl ?_
            refine st_iload_n (pc := 34) C.1 dX9_fault_34 rfl rfl ?_
            refine st_if_eq (pc := 35) (tgt := 42) C.1 dX9_fault_35 (by decide) (fun c16 => ?_) (fun c16 => ?_)
            · exact absurd c16 (by decide)
            · refine st_iconst (pc := 38) (v := 0) C.1 dX9_fault_38 (by decide) ?_
              refine st_goto (pc := 39) (tgt := 43) C.1 dX9_fault_39 (by decide) ?_
              refine pI_RX9_85 (pc := 43) C.1 dX9_fault_43 (hS.k _) ?_
              rw [pI903]
              refine st_iload_n (pc := 46) C.1 dX9_fault_46 rfl rfl ?_
              refine st_if_ne (pc := 47) (tgt := 52) C.1 dX9_fault_47 (by decide) (fun c17 => ?_) (fun c17 => ?_)
              · refine st_aload_n (pc := 52) C.1 (some t) dX9_fault_52 rfl rfl ?_
                refine gI_RX9_102 (pc := 53) C.1 (m.1 921) dX9_fault_53 (hS.k _) (mI921 h t ρ _) ?_
                refine st_iconst (pc := 56) (v := 1) C.1 dX9_fault_56 (by decide) ?_
                refine st_isub (pc := 57) C.1 dX9_fault_57 ?_
                refine st_iload_n (pc := 58) C.1 dX9_fault_58 rfl rfl ?_
                refine st_isub (pc := 59) C.1 dX9_fault_59 ?_
                refine st_bipush (pc := 60) (v := 32) C.1 dX9_fault_60 (by decide) ?_
                refine st_irem (pc := 62) C.1 dX9_fault_62 (by decide) ?_
                refine sv_istore (pc := 63) (i := 4) C.1 [some (va_rf (some t)), some (.int x1), some (.int x2), some (.int 1), some (.int ((((m.1 921) - 1) - x1) - (((m.1 921) - 1) - x1) / 32 * 32))] dX9_fault_63 (Nat.le_of_ble_eq_true rfl) (by rw [C.2.1]; exact Nat.le_of_ble_eq_true rfl) rfl rfl ?_
                refine st_iload_n (pc := 65) C.1 dX9_fault_65 rfl rfl ?_
                refine st_if_ne (pc := 66) (tgt := 79) C.1 dX9_fault_66 (by decide) (fun c18 => ?_) (fun c18 => ?_)
                · refine st_aload_n (pc := 79) C.1 (some t) dX9_fault_79 rfl rfl ?_
                  refine gR_RX9_47 (pc := 80) C.1 (some (A 924)) dX9_fault_80 (hS.k _) (hS.r _ 924) ?_
                  refine st_iload (pc := 83) C.1 dX9_fault_83 rfl ?_
                  refine sv_iaload (pc := 85) C.1 (m.2 924 (((((m.1 921) - 1) - x1) - (((m.1 921) - 1) - x1) / 32 * 32).toNatClampNeg)) dX9_fault_85 (hS.ki _ 924) (by rw [nA924 hS]; exact (h2 c0 c3 c6 c9 c13 c18)) (congrFun (mA924 hS _) _) ?_
                  exact rt_i C (Or.inl rfl) dX9_fault_86 hc hs ⟨_, rfl, (k6 c0 c3 c6 c9 c13 c18)⟩
                · refine st_aload_n (pc := 69) C.1 (some t) dX9_fault_69 rfl rfl ?_
                  refine gR_RX9_44 (pc := 70) C.1 (some (A 923)) dX9_fault_70 (hS.k _) (hS.r _ 923) ?_
                  refine st_iload (pc := 73) C.1 dX9_fault_73 rfl ?_
                  refine sv_iaload (pc := 75) C.1 (m.2 923 (((((m.1 921) - 1) - x1) - (((m.1 921) - 1) - x1) / 32 * 32).toNatClampNeg)) dX9_fault_75 (hS.ki _ 923) (by rw [nA923 hS]; exact (h3 c0 c3 c6 c9 c13 c18)) (congrFun (mA923 hS _) _) ?_
                  refine st_goto (pc := 76) (tgt := 86) C.1 dX9_fault_76 (by decide) ?_
                  exact rt_i C (Or.inl rfl) dX9_fault_86 hc hs ⟨_, rfl, (k7 c0 c3 c6 c9 c13 c18)⟩
              · exact absurd c17 (by decide)

