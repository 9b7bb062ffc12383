/-! describe and fault of the class: the roads -/
section SGX
def CmXI (X : CX) (M : MD) (d mc ms : Nat) (post : Int32 → Hp → Prop) (px : Hp → Prop) : Prop := CmX X M d mc ms (fun v h' => ∃ r, v = some (.int r) ∧ post r h') px
def CtXI (M : MD) (d mc ms : Nat) (av : List Value) (h : Hp) (post : Int32 → Hp → Prop) (px : Hp → Prop) : Prop := CtX M d mc ms av h (fun v h' => ∃ r, v = some (.int r) ∧ post r h') px
theorem sxX8_describe_0 {X : CX} {d mc ms cells slots : Nat} {pp : Int32 → Hp → Prop} {px : Hp → Prop} {h : Hp} {t : Nat} {x1 : Int32} {x2 : Int32}  (C : CmXI X mX8_describe d mc ms pp px) (hc : cells ≤ mc) (hs : slots ≤ ms) (h0 : h.K t = 9) (k0 : x2 < 0 → pp (-1) h) (k1 : ¬ x2 < 0 → x2 ≤ 5 → At X cells slots 16 [some (va_rf (some t)), some (.int x1), some (.int x2), none] [.int x1, va_rf (h.R 804 t)] h) (k2 : ¬ x2 < 0 → ¬ x2 ≤ 5 → pp (-1) h) : At X cells slots 0 [some (va_rf (some t)), some (.int x1), some (.int x2), none] [] h := by
  refine st_iload_n (pc := 0) C.1 dX8_describe_0 rfl rfl ?_
  refine st_if_lt (pc := 1) (tgt := 9) C.1 dX8_describe_1 (by decide) (fun c0 => ?_) (fun c0 => ?_)
  · refine st_iconst (pc := 9) (v := (-1)) C.1 dX8_describe_9 (by decide) ?_
    exact rtx_i C rfl dX8_describe_10 hc hs ⟨_, rfl, (k0 c0)⟩
  · refine st_iload_n (pc := 4) C.1 dX8_describe_4 rfl rfl ?_
    refine st_iconst (pc := 5) (v := 5) C.1 dX8_describe_5 (by decide) ?_
    refine st_icmp_le (pc := 6) (tgt := 11) C.1 dX8_describe_6 (by decide) (fun c1 => ?_) (fun c1 => ?_)
    · refine st_aload_n (pc := 11) C.1 (some t) dX8_describe_11 rfl rfl ?_
      refine gR_RX8_39 (pc := 12) C.1 (h.R 804 t) dX8_describe_12 h0 rfl ?_
      refine st_iload_n (pc := 15) C.1 dX8_describe_15 rfl rfl ?_
      exact (k1 c0 c1)
    · refine st_iconst (pc := 9) (v := (-1)) C.1 dX8_describe_9 (by decide) ?_
      exact rtx_i C rfl dX8_describe_10 hc hs ⟨_, rfl, (k2 c0 c1)⟩
set_option maxHeartbeats 1000000 in
theorem sxX8_describe_19 {X : CX} {d mc ms cells slots : Nat} {pp : Int32 → Hp → Prop} {px : Hp → Prop} {h : Hp} {t : Nat} {x1 : Int32} {x2 : Int32} {p0 : Option Nat}  (C : CmXI X mX8_describe d mc ms pp px) (hc : cells ≤ mc) (hs : slots ≤ ms) (h0 : ∀ z0 : Nat, p0 = some z0 → x2.toInt < 0 ∨ 4 < x2.toInt → h.K z0 = 1) (h1 : ∀ z0 : Nat, p0 = some z0 → x2 = 0 → h.K z0 = 1) (h2 : ∀ z0 : Nat, p0 = some z0 → x2 = 1 → h.K z0 = 1) (h3 : ∀ z0 : Nat, p0 = some z0 → x2 = 2 → h.K z0 = 1) (h4 : ∀ z0 : Nat, p0 = some z0 → x2 = 3 → h.K z0 = 1) (h5 : ∀ z0 : Nat, p0 = some z0 → x2 = 4 → h.K z0 = 1) (k0 : ∀ z0 : Nat, p0 = some z0 → x2.toInt < 0 ∨ 4 < x2.toInt → pp (x1 - (h.I 2 z0)) h) (k1 : ∀ z0 : Nat, p0 = some z0 → x2 = 0 → pp (h.I 2 z0) h) (k2 : ∀ z0 : Nat, p0 = some z0 → x2 = 1 → pp (h.I 3 z0) h) (k3 : ∀ z0 : Nat, p0 = some z0 → x2 = 2 → pp (h.I 1 z0) h) (k4 : ∀ z0 : Nat, p0 = some z0 → x2 = 3 → pp (h.I 4 z0) h) (k5 : ∀ z0 : Nat, p0 = some z0 → x2 = 4 → h.I 5 z0 = 0 → pp 0 h) (k6 : ∀ z0 : Nat, p0 = some z0 → x2 = 4 → ¬ h.I 5 z0 = 0 → pp 1 h) (k7 : p0 = none → At X cells slots 24 [some (va_rf (some t)), some (.int x1), some (.int x2), some (va_rf none)] [] h) : At X cells slots 19 [some (va_rf (some t)), some (.int x1), some (.int x2), none] [va_rf p0] h := by
  refine sv_astore_n (pc := 19) (i := 3) C.1 [some (va_rf (some t)), some (.int x1), some (.int x2), some (va_rf p0)] p0 dX8_describe_19 rfl (Nat.le_of_ble_eq_true rfl) (by rw [C.2.1]; exact Nat.le_of_ble_eq_true rfl) rfl rfl ?_
  refine st_aload_n (pc := 20) C.1 p0 dX8_describe_20 rfl rfl ?_
  refine st_ifnonnull (pc := 21) (o := p0) (tgt := 34) C.1 dX8_describe_21 (by decide) (fun z0 c0 => ?_) (fun c0 => ?_)
  · try rw [c0]
    refine st_iload_n (pc := 34) C.1 dX8_describe_34 rfl rfl ?_
    by_cases c1o : x2.toInt < 0 ∨ 4 < x2.toInt
    · refine st_tableOut (pc := 35) (tgt := 101) C.1 dX8_describe_35 c1o (by decide) ?_
      refine st_iload_n (pc := 101) C.1 dX8_describe_101 rfl rfl ?_
      refine st_aload_n (pc := 102) C.1 (some z0) dX8_describe_102 rfl rfl ?_
      refine gI_RX8_74 (pc := 103) C.1 (h.I 2 z0) dX8_describe_103 (h0 z0 c0 c1o) rfl ?_
      refine st_isub (pc := 106) C.1 dX8_describe_106 ?_
      exact rtx_i C rfl dX8_describe_107 hc hs ⟨_, rfl, (k0 z0 c0 c1o)⟩
    · rcases (show x2.toInt = 0 ∨ x2.toInt = 1 ∨ x2.toInt = 2 ∨ x2.toInt = 3 ∨ x2.toInt = 4 by omega) with c1 | c1 | c1 | c1 | c1
      · have c1e : x2 = 0 := Int32.toInt_inj.mp (by rw [c1]; rfl)
        refine st_tableIn (pc := 35) (off := 33) (tgt := 68) C.1 dX8_describe_35 (by omega) (by omega) (by rw [c1]; rfl) (by decide) ?_
        refine st_aload_n (pc := 68) C.1 (some z0) dX8_describe_68 rfl rfl ?_
        refine gI_RX8_74 (pc := 69) C.1 (h.I 2 z0) dX8_describe_69 (h1 z0 c0 c1e) rfl ?_
        exact rtx_i C rfl dX8_describe_72 hc hs ⟨_, rfl, (k1 z0 c0 c1e)⟩
      · have c1e : x2 = 1 := Int32.toInt_inj.mp (by rw [c1]; rfl)
        refine st_tableIn (pc := 35) (off := 38) (tgt := 73) C.1 dX8_describe_35 (by omega) (by omega) (by rw [c1]; rfl) (by decide) ?_
        refine st_aload_n (pc := 73) C.1 (some z0) dX8_describe_73 rfl rfl ?_
        refine gI_RX8_90 (pc := 74) C.1 (h.I 3 z0) dX8_describe_74 (h2 z0 c0 c1e) rfl ?_
        exact rtx_i C rfl dX8_describe_77 hc hs ⟨_, rfl, (k2 z0 c0 c1e)⟩
      · have c1e : x2 = 2 := Int32.toInt_inj.mp (by rw [c1]; rfl)
        refine st_tableIn (pc := 35) (off := 43) (tgt := 78) C.1 dX8_describe_35 (by omega) (by omega) (by rw [c1]; rfl) (by decide) ?_
        refine st_aload_n (pc := 78) C.1 (some z0) dX8_describe_78 rfl rfl ?_
        refine gI_RX8_132 (pc := 79) C.1 (h.I 1 z0) dX8_describe_79 (h3 z0 c0 c1e) rfl ?_
        exact rtx_i C rfl dX8_describe_82 hc hs ⟨_, rfl, (k3 z0 c0 c1e)⟩
      · have c1e : x2 = 3 := Int32.toInt_inj.mp (by rw [c1]; rfl)
        refine st_tableIn (pc := 35) (off := 48) (tgt := 83) C.1 dX8_describe_35 (by omega) (by omega) (by rw [c1]; rfl) (by decide) ?_
        refine st_aload_n (pc := 83) C.1 (some z0) dX8_describe_83 rfl rfl ?_
        refine gI_RX8_135 (pc := 84) C.1 (h.I 4 z0) dX8_describe_84 (h4 z0 c0 c1e) rfl ?_
        exact rtx_i C rfl dX8_describe_87 hc hs ⟨_, rfl, (k4 z0 c0 c1e)⟩
      · have c1e : x2 = 4 := Int32.toInt_inj.mp (by rw [c1]; rfl)
        refine st_tableIn (pc := 35) (off := 53) (tgt := 88) C.1 dX8_describe_35 (by omega) (by omega) (by rw [c1]; rfl) (by decide) ?_
        refine st_aload_n (pc := 88) C.1 (some z0) dX8_describe_88 rfl rfl ?_
        refine gI_RX8_138 (pc := 89) C.1 (h.I 5 z0) dX8_describe_89 (h5 z0 c0 c1e) rfl ?_
        refine st_if_eq (pc := 92) (tgt := 99) C.1 dX8_describe_92 (by decide) (fun c2 => ?_) (fun c2 => ?_)
        · refine st_iconst (pc := 99) (v := 0) C.1 dX8_describe_99 (by decide) ?_
          exact rtx_i C rfl dX8_describe_100 hc hs ⟨_, rfl, (k5 z0 c0 c1e c2)⟩
        · refine st_iconst (pc := 95) (v := 1) C.1 dX8_describe_95 (by decide) ?_
          refine st_goto (pc := 96) (tgt := 100) C.1 dX8_describe_96 (by decide) ?_
          exact rtx_i C rfl dX8_describe_100 hc hs ⟨_, rfl, (k6 z0 c0 c1e c2)⟩
  · try rw [c0]
    exact (k7 c0)
theorem cyX8_describe_16 {X : CX} {d0 mc0 ms0 d mc ms cells slots : Nat} {pp : Int32 → Hp → Prop} {px : Hp → Prop} {h : Hp} {ls : List (Option Value)} {rest : List Value} {b : Nat} {a0 : Value} {post : Option Nat → Hp → Prop} (C : CmXI X mX8_describe d0 mc0 ms0 pp px) (hct : CtR mX1_at d mc ms [va_rf (some b), a0] h post) (hK : h.K b = 2) (hdd : d < d0) (hmc : cells + mc ≤ mc0) (hms : slots + ms ≤ ms0) (hcat : (rest.map fun v => v.category).sum ≤ 8) (kk : ∀ o h', post o h' → At X (cells + mc) (slots + ms) 19 ls (va_rf o :: rest) h') : At X cells slots 16 ls (a0 :: va_rf (some b) :: rest) h :=
  st_callV (pc := 16) (M := mX1_at) (idx := 122) (As := [a0]) C.1 C.2.2.1 C.2.2.2.2.2.2 ⟨wM_RX8_122, wC_X1_at, wI_RX1, by decide +kernel, by decide⟩ wV_X1_at wS_X1_at (ci := 1) (n := 1) rfl rfl (by decide) dX8_describe_16 rfl hdd hcat hK hct hmc hms (fun v h2 hp => by obtain ⟨o, rfl, hp⟩ := hp; exact kk o h2 hp)
theorem sxX8_fault_0 {X : CX} {d mc ms cells slots : Nat} {pp : Int32 → Hp → Prop} {px : Hp → Prop} {h : Hp} {t : Nat} {x1 : Int32} {x2 : Int32}  (C : CmXI X mX8_fault d mc ms pp px) (h0 : h.K t = 9) (k0 : At X cells slots 5 [some (va_rf (some t)), some (.int x1), some (.int x2)] [.int x1, va_rf (h.R 807 t)] h) : At X cells slots 0 [some (va_rf (some t)), some (.int x1), some (.int x2)] [] h := by
  refine st_aload_n (pc := 0) C.1 (some t) dX8_fault_0 rfl rfl ?_
  refine gR_RX8_57 (pc := 1) C.1 (h.R 807 t) dX8_fault_1 h0 rfl ?_
  refine st_iload_n (pc := 4) C.1 dX8_fault_4 rfl rfl ?_
  exact k0
set_option maxHeartbeats 1000000 in
theorem sxX8_fault_8 {X : CX} {d mc ms cells slots : Nat} {pp : Int32 → Hp → Prop} {px : Hp → Prop} {h : Hp} {t : Nat} {x1 : Int32} {x2 : Int32} {u0 : Int32}  (C : CmXI X mX8_fault d mc ms pp px) (h0 : h.K t = 9) (k0 : u0 = 0 → At X cells slots 20 [some (va_rf (some t)), some (.int x1), some (.int x2)] [] h) (k1 : ¬ u0 = 0 → x2 < 0 → At X cells slots 20 [some (va_rf (some t)), some (.int x1), some (.int x2)] [] h) (k2 : ¬ u0 = 0 → ¬ x2 < 0 → x2 ≤ 1 → ¬ x2 = 0 → At X cells slots 50 [some (va_rf (some t)), some (.int x1), some (.int x2)] [.int x1, va_rf (h.R 807 t)] h) (k3 : ¬ u0 = 0 → ¬ x2 < 0 → x2 ≤ 1 → x2 = 0 → At X cells slots 39 [some (va_rf (some t)), some (.int x1), some (.int x2)] [.int x1, va_rf (h.R 807 t)] h) (k4 : ¬ u0 = 0 → ¬ x2 < 0 → ¬ x2 ≤ 1 → At X cells slots 20 [some (va_rf (some t)), some (.int x1), some (.int x2)] [] h) : At X cells slots 8 [some (va_rf (some t)), some (.int x1), some (.int x2)] [.int u0] h := by
  refine st_if_eq (pc := 8) (tgt := 20) C.1 dX8_fault_8 (by decide) (fun c0 => ?_) (fun c0 => ?_)
  · exact (k0 c0)
  · refine st_iload_n (pc := 11) C.1 dX8_fault_11 rfl rfl ?_
    refine st_if_lt (pc := 12) (tgt := 20) C.1 dX8_fault_12 (by decide) (fun c1 => ?_) (fun c1 => ?_)
    · exact (k1 c0 c1)
    · refine st_iload_n (pc := 15) C.1 dX8_fault_15 rfl rfl ?_
      refine st_iconst (pc := 16) (v := 1) C.1 dX8_fault_16 (by decide) ?_
      refine st_icmp_le (pc := 17) (tgt := 30) C.1 dX8_fault_17 (by decide) (fun c2 => ?_) (fun c2 => ?_)
      · refine st_iload_n (pc := 30) C.1 dX8_fault_30 rfl rfl ?_
        refine st_if_ne (pc := 31) (tgt := 45) C.1 dX8_fault_31 (by decide) (fun c3 => ?_) (fun c3 => ?_)
        · refine st_aload_n (pc := 45) C.1 (some t) dX8_fault_45 rfl rfl ?_
          refine gR_RX8_57 (pc := 46) C.1 (h.R 807 t) dX8_fault_46 h0 rfl ?_
          refine st_iload_n (pc := 49) C.1 dX8_fault_49 rfl rfl ?_
          exact (k2 c0 c1 c2 c3)
        · refine st_aload_n (pc := 34) C.1 (some t) dX8_fault_34 rfl rfl ?_
          refine gR_RX8_57 (pc := 35) C.1 (h.R 807 t) dX8_fault_35 h0 rfl ?_
          refine st_iload_n (pc := 38) C.1 dX8_fault_38 rfl rfl ?_
          exact (k3 c0 c1 c2 c3)
      · exact (k4 c0 c1 c2)
theorem sxX8_fault_42 {X : CX} {d mc ms cells slots : Nat} {pp : Int32 → Hp → Prop} {px : Hp → Prop} {h : Hp} {t : Nat} {x1 : Int32} {x2 : Int32} {u0 : Int32}  (C : CmXI X mX8_fault d mc ms pp px) (hc : cells ≤ mc) (hs : slots ≤ ms)  (k0 : pp u0 h) : At X cells slots 42 [some (va_rf (some t)), some (.int x1), some (.int x2)] [.int u0] h := by
  refine st_goto (pc := 42) (tgt := 53) C.1 dX8_fault_42 (by decide) ?_
  exact rtx_i C rfl dX8_fault_53 hc hs ⟨_, rfl, k0⟩
theorem sxX8_fault_53 {X : CX} {d mc ms cells slots : Nat} {pp : Int32 → Hp → Prop} {px : Hp → Prop} {h : Hp} {t : Nat} {x1 : Int32} {x2 : Int32} {u0 : Int32}  (C : CmXI X mX8_fault d mc ms pp px) (hc : cells ≤ mc) (hs : slots ≤ ms)  (k0 : pp u0 h) : At X cells slots 53 [some (va_rf (some t)), some (.int x1), some (.int x2)] [.int u0] h := by
  exact rtx_i C rfl dX8_fault_53 hc hs ⟨_, rfl, k0⟩
theorem cyX8_fault_5 {X : CX} {d0 mc0 ms0 d mc ms cells slots : Nat} {pp : Int32 → Hp → Prop} {px : Hp → Prop} {h : Hp} {ls : List (Option Value)} {rest : List Value} {b : Nat} {a0 : Value} {post : Int32 → Hp → Prop} (C : CmXI X mX8_fault d0 mc0 ms0 pp px) (hct : CtI mX4_has d mc ms [va_rf (some b), a0] h post) (hK : h.K b = 5) (hdd : d < d0) (hmc : cells + mc ≤ mc0) (hms : slots + ms ≤ ms0) (hcat : (rest.map fun v => v.category).sum ≤ 8) (kk : ∀ r h', post r h' → At X (cells + mc) (slots + ms) 8 ls (.int r :: rest) h') : At X cells slots 5 ls (a0 :: va_rf (some b) :: rest) h :=
  st_callV (pc := 5) (M := mX4_has) (idx := 205) (As := [a0]) C.1 C.2.2.1 C.2.2.2.2.2.2 ⟨wM_RX8_205, wC_X4_has, wI_RX4, by decide +kernel, by decide⟩ wV_X4_has wS_X4_has (ci := 4) (n := 1) rfl rfl (by decide) dX8_fault_5 rfl hdd hcat hK hct hmc hms (fun v h2 hp => by obtain ⟨r, rfl, hp⟩ := hp; exact kk r h2 hp)
theorem cyX8_fault_39 {X : CX} {d0 mc0 ms0 d mc ms cells slots : Nat} {pp : Int32 → Hp → Prop} {px : Hp → Prop} {h : Hp} {ls : List (Option Value)} {rest : List Value} {b : Nat} {a0 : Value} {post : Int32 → Hp → Prop} (C : CmXI X mX8_fault d0 mc0 ms0 pp px) (hct : CtI mX4_kindOf d mc ms [va_rf (some b), a0] h post) (hK : h.K b = 5) (hdd : d < d0) (hmc : cells + mc ≤ mc0) (hms : slots + ms ≤ ms0) (hcat : (rest.map fun v => v.category).sum ≤ 8) (kk : ∀ r h', post r h' → At X (cells + mc) (slots + ms) 42 ls (.int r :: rest) h') : At X cells slots 39 ls (a0 :: va_rf (some b) :: rest) h :=
  st_callV (pc := 39) (M := mX4_kindOf) (idx := 211) (As := [a0]) C.1 C.2.2.1 C.2.2.2.2.2.2 ⟨wM_RX8_211, wC_X4_kindOf, wI_RX4, by decide +kernel, by decide⟩ wV_X4_kindOf wS_X4_kindOf (ci := 4) (n := 1) rfl rfl (by decide) dX8_fault_39 rfl hdd hcat hK hct hmc hms (fun v h2 hp => by obtain ⟨r, rfl, hp⟩ := hp; exact kk r h2 hp)
theorem cyX8_fault_50 {X : CX} {d0 mc0 ms0 d mc ms cells slots : Nat} {pp : Int32 → Hp → Prop} {px : Hp → Prop} {h : Hp} {ls : List (Option Value)} {rest : List Value} {b : Nat} {a0 : Value} {post : Int32 → Hp → Prop} (C : CmXI X mX8_fault d0 mc0 ms0 pp px) (hct : CtI mX4_addressOf d mc ms [va_rf (some b), a0] h post) (hK : h.K b = 5) (hdd : d < d0) (hmc : cells + mc ≤ mc0) (hms : slots + ms ≤ ms0) (hcat : (rest.map fun v => v.category).sum ≤ 8) (kk : ∀ r h', post r h' → At X (cells + mc) (slots + ms) 53 ls (.int r :: rest) h') : At X cells slots 50 ls (a0 :: va_rf (some b) :: rest) h :=
  st_callV (pc := 50) (M := mX4_addressOf) (idx := 214) (As := [a0]) C.1 C.2.2.1 C.2.2.2.2.2.2 ⟨wM_RX8_214, wC_X4_addressOf, wI_RX4, by decide +kernel, by decide⟩ wV_X4_addressOf wS_X4_addressOf (ci := 4) (n := 1) rfl rfl (by decide) dX8_fault_50 rfl hdd hcat hK hct hmc hms (fun v h2 hp => by obtain ⟨r, rfl, hp⟩ := hp; exact kk r h2 hp)
end SGX
section CTD
variable {h : Hp} {x : Nat} {E : Nat → Nat} {W r c g f k : Nat} {s : St} {nd kn : Nat → Nat}
def desV (B : List Blk) (r : Nat) (y w : Int32) (b : Nat) : Int32 := if w = 0 then nI ((bat B b).1 + r) else if w = 1 then nI (bat B b).2.2.1 else if w = 2 then nI (bat B b).2.1 else if w = 3 then nI (bat B b).2.2.2.1 else if w = 4 then (if (bat B b).2.2.2.2 = 0 then 1 else 0) else y - nI ((bat B b).1 + r)
set_option maxHeartbeats 1000000 in
theorem ct8_describe (hC : CB h x E W r c s nd kn g f) (y w : Int32) : CtXI mX8_describe 6 1 6 [va_rf (some x), .int y, .int w] h
    (fun z h' => h' = h ∧ (((w < 0 ∨ ¬ w ≤ 5) ∧ z = -1) ∨ ∃ b, ¬ w < 0 ∧ w ≤ 5 ∧ bIx s.1 y = some b ∧ z = desV s.1 r y w b)) (fun h' => h' = h ∧ ¬ w < 0 ∧ w ≤ 5 ∧ bIx s.1 y = none) := by
  obtain ⟨hCC, hI, hBW, hT, hr, hc, hW, hf, -⟩ := hC
  obtain ⟨hX, hB, -⟩ := hCC
  obtain ⟨x1, x2, x3, x4, xm, xb, xf, -⟩ := id hX
  refine CtX.of (by decide +kernel) (Nat.le_of_ble_eq_true rfl) (fun v hv => ?_) (fun X C => ?_)
  · simp only [List.mem_cons, List.not_mem_nil, or_false] at hv
    rcases hv with rfl | rfl | rfl <;> rfl
  refine sxX8_describe_0 C (Nat.zero_le _) (Nat.zero_le _) x1 (fun c1 => ⟨rfl, Or.inl ⟨Or.inl c1, rfl⟩⟩) (fun c1 c2 => ?_) (fun c1 c2 => ⟨rfl, Or.inl ⟨Or.inr c2, rfl⟩⟩)
  rw [x2 804 (by decide)]
  refine cyX8_describe_16 C (ct1_at xb hB hI.gb rfl (by omega) y) xb.1 (by decide) (Nat.zero_le _) (Nat.zero_le _) (Nat.le_of_ble_eq_true rfl) (fun o h' ⟨e1, e2⟩ => ?_)
  subst e1
  cases hq : bIx s.1 y with
  | none =>
    rw [hq] at e2
    subst e2
    obtain ⟨sa, hsa⟩ := C.2.2.2.2.2.1.2.1.2.2.1
    exact sxX8_describe_19 C (by decide) (by decide) (fun z hz => by cases hz) (fun z hz => by cases hz) (fun z hz => by cases hz) (fun z hz => by cases hz) (fun z hz => by cases hz) (fun z hz => by cases hz) (fun z hz => by cases hz) (fun z hz => by cases hz) (fun z hz => by cases hz) (fun z hz => by cases hz) (fun z hz => by cases hz) (fun z hz => by cases hz) (fun z hz => by cases hz)
      (fun _ => st_throw C rfl (by decide) hsa dX8_describe_24 dX8_describe_27 dX8_describe_28 dX8_describe_30 dX8_describe_33 (by decide) (by decide) ⟨rfl, c1, c2, hq⟩)
  | some b =>
    rw [hq] at e2
    subst e2
    obtain ⟨n0, n1, n2, n3, n4, n5, n6⟩ := hB.1 b (bIx_lt hq)
    have key : ∀ z : Int32, z = desV s.1 r y w b → h' = h' ∧ (((w < 0 ∨ ¬ w ≤ 5) ∧ z = -1) ∨ ∃ b, ¬ w < 0 ∧ w ≤ 5 ∧ bIx s.1 y = some b ∧ z = desV s.1 r y w b) := fun z hz => ⟨rfl, Or.inr ⟨b, c1, c2, hq, hz⟩⟩
    have kK : ∀ z0 : Nat, Option.map (ndB nd s.1) (some b) = some z0 → z0 = ndB nd s.1 b := fun z0 hz => (Option.some.inj hz).symm
    refine sxX8_describe_19 C (by decide) (by decide) (fun z hz _ => by rw [kK z hz]; exact n0) (fun z hz _ => by rw [kK z hz]; exact n0) (fun z hz _ => by rw [kK z hz]; exact n0) (fun z hz _ => by rw [kK z hz]; exact n0) (fun z hz _ => by rw [kK z hz]; exact n0) (fun z hz _ => by rw [kK z hz]; exact n0)
      (fun z hz e => ?_) (fun z hz e => ?_) (fun z hz e => ?_) (fun z hz e => ?_) (fun z hz e => ?_) (fun z hz e e5 => ?_) (fun z hz e e5 => ?_) (fun hz => by cases hz)
    · rw [kK z hz, n3]
      refine key _ ?_
      have q0 : ¬ w = 0 := fun e0 => by subst e0; revert e; decide
      have q1 : ¬ w = 1 := fun e0 => by subst e0; revert e; decide
      have q2 : ¬ w = 2 := fun e0 => by subst e0; revert e; decide
      have q3 : ¬ w = 3 := fun e0 => by subst e0; revert e; decide
      have q4 : ¬ w = 4 := fun e0 => by subst e0; revert e; decide
      simp only [desV, if_neg q0, if_neg q1, if_neg q2, if_neg q3, if_neg q4]
    · rw [kK z hz, n3]; subst e; exact key _ rfl
    · rw [kK z hz, n4]; subst e; exact key _ rfl
    · rw [kK z hz, n2]; subst e; exact key _ rfl
    · rw [kK z hz, n5]; subst e; exact key _ rfl
    · rw [kK z hz, n6] at e5
      subst e
      refine key _ ?_
      by_cases q : (bat s.1 b).2.2.2.2 = 0
      · rw [if_pos q] at e5; cases e5
      · show (0 : Int32) = if (bat s.1 b).2.2.2.2 = 0 then 1 else 0
        rw [if_neg q]
    · rw [kK z hz, n6] at e5
      subst e
      refine key _ ?_
      by_cases q : (bat s.1 b).2.2.2.2 = 0
      · show (1 : Int32) = if (bat s.1 b).2.2.2.2 = 0 then 1 else 0
        rw [if_pos q]
      · rw [if_neg q] at e5; exact absurd rfl e5
def fltV (K k : Nat) (h : Hp) (fk fd : Nat) (w : Int32) : Int32 := if w = 0 then h.AI fk ((k - 1 - K) % 32) else h.AI fd ((k - 1 - K) % 32)
set_option maxHeartbeats 1000000 in
theorem ct8_fault (hC : CB h x E W r c s nd kn g f) (hk : h.I 402 (E 807) = nI k) (hk6 : k ≤ 600) (y w : Int32) : CtXI mX8_fault 6 1 6 [va_rf (some x), .int y, .int w] h
    (fun z h' => h' = h ∧ ∃ K, y = nI K ∧ K < k ∧ K < 32 ∧ (w = 0 ∨ w = 1) ∧ z = fltV K k h (E 400) (E 401) w) (fun h' => h' = h ∧ (y < 0 ∨ nI k ≤ y ∨ 32 ≤ y ∨ (¬ w = 0 ∧ ¬ w = 1))) := by
  obtain ⟨hCC, hI, hBW, hT, hr, hc, hW, hf, -⟩ := hC
  obtain ⟨hX, hB, -⟩ := hCC
  obtain ⟨x1, x2, x3, x4, xm, xb, xf, -⟩ := id hX
  refine CtX.of (by decide +kernel) (Nat.le_of_ble_eq_true rfl) (fun v hv => ?_) (fun X C => ?_)
  · simp only [List.mem_cons, List.not_mem_nil, or_false] at hv
    rcases hv with rfl | rfl | rfl <;> rfl
  have thr : (y < 0 ∨ nI k ≤ y ∨ 32 ≤ y ∨ (¬ w = 0 ∧ ¬ w = 1)) → At X 0 0 20 [some (va_rf (some x)), some (.int y), some (.int w)] [] h := fun e => by
    obtain ⟨sa, hsa⟩ := C.2.2.2.2.2.1.2.1.2.2.2.1
    exact st_throw C rfl (by decide) hsa dX8_fault_20 dX8_fault_23 dX8_fault_24 dX8_fault_26 dX8_fault_29 (by decide) (by decide) ⟨rfl, e⟩
  have w01 : ¬ w < 0 → w ≤ 1 → w = 0 ∨ w = 1 := fun a1 a2 => by
    rw [Int32.lt_iff_toInt_lt] at a1
    rw [Int32.le_iff_toInt_le] at a2
    have q0 : (0 : Int32).toInt = 0 := rfl
    have q1 : (1 : Int32).toInt = 1 := rfl
    rcases (show w.toInt = 0 ∨ w.toInt = 1 by omega) with e | e
    · exact Or.inl (Int32.toInt_inj.mp e)
    · exact Or.inr (Int32.toInt_inj.mp e)
  refine sxX8_fault_0 C x1 ?_
  rw [x2 807 (by decide)]
  refine cyX8_fault_5 C (ct4_has xf hk y) xf.1 (by decide) (Nat.zero_le _) (Nat.zero_le _) (Nat.le_of_ble_eq_true rfl) (fun u h' ⟨e1, e2⟩ => ?_)
  subst e1
  have e2' : ¬ u = 0 → ∃ K, y = nI K ∧ K < k ∧ K < 32 := fun hu => by
    by_cases q : ¬ y < 0 ∧ ¬ 32 ≤ y ∧ ¬ nI k ≤ y
    · obtain ⟨q1, q2, q3⟩ := q
      rw [Int32.lt_iff_toInt_lt] at q1
      rw [Int32.le_iff_toInt_le] at q2 q3
      have q0 : (0 : Int32).toInt = 0 := rfl
      have q4 : (32 : Int32).toInt = 32 := rfl
      have q5 : (nI k).toInt = k := nI_toInt (by omega)
      refine ⟨y.toInt.toNat, ?_, by omega, by omega⟩
      refine Int32.toInt_inj.mp ?_
      rw [nI_toInt (by omega)]
      omega
    · rw [if_neg q] at e2
      exact absurd e2 hu
  have e0' : u = 0 → (y < 0 ∨ nI k ≤ y ∨ 32 ≤ y ∨ (¬ w = 0 ∧ ¬ w = 1)) := fun hu => by
    by_cases q : ¬ y < 0 ∧ ¬ 32 ≤ y ∧ ¬ nI k ≤ y
    · rw [if_pos q] at e2
      rw [e2] at hu
      cases hu
    · by_cases q1 : y < 0
      · exact Or.inl q1
      · by_cases q2 : nI k ≤ y
        · exact Or.inr (Or.inl q2)
        · exact Or.inr (Or.inr (Or.inl (Classical.byContradiction fun q3 => q ⟨q1, q3, q2⟩)))
  refine sxX8_fault_8 C x1 (fun c1 => thr (e0' c1)) (fun c1 c2 => thr ?_) (fun c1 c2 c3 c4 => ?_) (fun c1 c2 c3 c4 => ?_) (fun c1 c2 c3 => thr ?_)
  · refine Or.inr (Or.inr (Or.inr ⟨fun e => ?_, fun e => ?_⟩)) <;> · rw [e] at c2; exact absurd c2 (by decide)
  · obtain ⟨K, rfl, hK, hK32⟩ := e2' c1
    rw [x2 807 (by decide)]
    refine cyX8_fault_50 C (ct4_addressOf xf hk (by omega) hK) xf.1 (by decide) (Nat.zero_le _) (Nat.zero_le _) (Nat.le_of_ble_eq_true rfl) (fun z h' ⟨e1, e3⟩ => ?_)
    exact sxX8_fault_53 C (by decide) (by decide) ⟨e1, K, rfl, hK, hK32, w01 c2 c3, by rw [e3, fltV, if_neg c4]⟩
  · obtain ⟨K, rfl, hK, hK32⟩ := e2' c1
    rw [x2 807 (by decide)]
    refine cyX8_fault_39 C (ct4_kindOf xf hk (by omega) hK) xf.1 (by decide) (Nat.zero_le _) (Nat.zero_le _) (Nat.le_of_ble_eq_true rfl) (fun z h' ⟨e1, e3⟩ => ?_)
    exact sxX8_fault_42 C (by decide) (by decide) ⟨e1, K, rfl, hK, hK32, w01 c2 c3, by rw [e3, fltV, if_pos c4]⟩
  · refine Or.inr (Or.inr (Or.inr ⟨fun e => ?_, fun e => ?_⟩)) <;> · rw [e] at c3; exact absurd c3 (by decide)
end CTD
