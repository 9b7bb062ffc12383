/-! STATES through calls: what the class's relation asks of the new state -/
section PURE
variable {W r c g f N a b k : Nat} {s s' : St}
def SB (W r : Nat) (s : St) (g f : Nat) : Prop := SInv W s ∧ BW r s.1 ∧ (∀ b, b ∈ s.1 → b.2.2.2.2 ≤ f) ∧ (Bl s.1).length + f = g
theorem Bl_mem {B : List Blk} {b : Blk} : b ∈ Bl B ↔ b ∈ B ∧ b.2.2.2.2 = 0 := by
  simp [Bl, wtg, List.mem_filter]
theorem Bl_same {B B' : List Blk} (h1 : B.Nodup) (h2 : B'.Nodup) (h3 : ∀ b ∈ B, b.2.2.2.2 = 0 → b ∈ B') (h4 : ∀ b ∈ B', b ∈ B) : (Bl B').length = (Bl B).length := by
  refine (List.perm_ext_iff_of_nodup (h2.sublist List.filter_sublist) (h1.sublist List.filter_sublist)).mpr (fun b => ?_) |>.length_eq
  show b ∈ Bl B' ↔ b ∈ Bl B
  rw [Bl_mem, Bl_mem]
  exact ⟨fun ⟨e1, e2⟩ => ⟨h4 b e1, e2⟩, fun ⟨e1, e2⟩ => ⟨h3 b e1 e2, e2⟩⟩
theorem SB.shr (h : SB W r s g f) (hI : SInv W s') (h3 : ∀ b ∈ s.1, b.2.2.2.2 = 0 → b ∈ s'.1) (h4 : ∀ b ∈ s'.1, b ∈ s.1) : SB W r s' g f :=
  ⟨hI, fun b hb => h.2.1 b (h4 b hb), fun b hb => h.2.2.1 b (h4 b hb), by rw [Bl_same h.1.gb.nodup hI.gb.nodup h3 h4]; exact h.2.2.2⟩
theorem SB.seek0 (h : SB W r s g f) {c' : Nat} (hc : c' % 4 = 0 ∧ 4 ≤ c') (he : sSeek W c' s = (none, s')) : SB W r s' g f :=
  h.shr ((sSeek_ok hc.1 hc.2 h.1 he).1 rfl) (sSeek_B he).1 (sSeek_B he).2
theorem SB.new (h : SB W r s g f) {c' : Nat} (he : sSeek W c' s = (some a, s')) (hI : SInv W (s'.1 ++ [(a, c', N, g, 0)], s'.2)) (hN : 1 ≤ N) (hl : N + 2 * r ≤ c') : SB W r (s'.1 ++ [(a, c', N, g, 0)], s'.2) (g + 1) f := by
  have hnd := hI.gb.nodup
  have hn1 : s'.1.Nodup := (List.nodup_append.mp hnd).1
  have h4 := (sSeek_B he).2
  refine ⟨hI, fun b hb => ?_, fun b hb => ?_, ?_⟩
  · rcases List.mem_append.mp hb with hb | hb
    · exact h.2.1 b (h4 b hb)
    · rw [List.mem_singleton.mp hb]; exact ⟨hN, hl⟩
  · rcases List.mem_append.mp hb with hb | hb
    · exact h.2.2.1 b (h4 b hb)
    · rw [List.mem_singleton.mp hb]; exact Nat.zero_le _
  · have e : (Bl (s'.1 ++ [(a, c', N, g, 0)])).length = (Bl s'.1).length + 1 := by simp [Bl, wtg]
    show (Bl (s'.1 ++ [(a, c', N, g, 0)])).length + f = g + 1
    rw [e, Bl_same h.1.gb.nodup hn1 (sSeek_B he).1 h4]
    have := h.2.2.2
    omega
theorem SB.trim : ∀ (k : Nat) {s : St}, SB W r s g f → SB W r (sTrim c k s) g f
  | 0, s, h => h
  | k + 1, s, h => by
    rw [sTrim]
    by_cases q : sWt s.1 s.1.length ≤ c
    · rw [if_pos q]; exact h
    · rw [if_neg q]
      cases hg : sGo s with
      | none => exact h
      | some s' => exact SB.trim k (h.shr (geo_go h.1 hg).1 (sGo_live hg) (sGo_sub hg))
set_option maxHeartbeats 1000000 in
theorem SB.free (h : SB W r s g f) (hb : b < s.1.length) (hl : (bat s.1 b).2.2.2.2 = 0) : SB W r (setT s.1 b (f + 1), s.2) g (f + 1) := by
  obtain ⟨h1, h2, h3, h4⟩ := h
  have hp := setT_perm (f := f + 1) hb
  have hp0 : (bat s.1 b :: s.1.eraseIdx b).Perm s.1 := (erB_perm hb).symm
  refine ⟨?_, fun z hz => ?_, fun z hz => ?_, ?_⟩
  · obtain ⟨i1, i2⟩ := h1
    refine ⟨?_, i2⟩
    show Geo (chB (setT s.1 b (f + 1)) ++ s.2.1) s.2.2.1
    rw [setT_ch hb]
    exact i1
  · rcases List.mem_cons.mp (hp.mem_iff.mp hz) with rfl | hz
    · exact h2 (bat s.1 b) (bat_mem hb)
    · exact h2 z (hp0.mem_iff.mp (List.mem_cons_of_mem _ hz))
  · rcases List.mem_cons.mp (hp.mem_iff.mp hz) with rfl | hz
    · exact Nat.le_refl _
    · exact Nat.le_succ_of_le (h3 z (hp0.mem_iff.mp (List.mem_cons_of_mem _ hz)))
  · have e1 : (Bl (setT s.1 b (f + 1))).length = (Bl (s.1.eraseIdx b)).length := by
      rw [show (Bl (setT s.1 b (f + 1))).length = (Bl (frB (bat s.1 b) (f + 1) :: s.1.eraseIdx b)).length from (hp.filter _).length_eq]
      simp [Bl, wtg, frB]
    have e2 : (Bl s.1).length = (Bl (s.1.eraseIdx b)).length + 1 := by
      rw [show (Bl s.1).length = (Bl (bat s.1 b :: s.1.eraseIdx b)).length from (hp0.symm.filter _).length_eq]
      simp [Bl, wtg, hl]
    show (Bl (setT s.1 b (f + 1))).length + (f + 1) = g
    omega
/-- who waits was freed, each at a time of its own -/
theorem Bw_le {B Q : List Blk} (hQ : QS B Q) (hT : ∀ b, b ∈ B → b.2.2.2.2 ≤ f) : (Bw B).length ≤ f := by
  rw [← hQ.2.length_eq, ← List.length_map (f := fun b : Blk => b.2.2.2.2 - 1)]
  refine nodup_lt f _ ?_ (fun i hi => ?_)
  · rw [List.nodup_iff_pairwise_ne, List.pairwise_map]
    have hm : ∀ b, b ∈ Q → ¬ b.2.2.2.2 = 0 := fun b hb => ((hQ.mem b).mp hb).2
    refine List.Pairwise.imp_of_mem (fun {a b} ha hb hab => ?_) hQ.1
    have h1 := hm a ha
    have h2 := hm b hb
    omega
  · obtain ⟨b, hb, rfl⟩ := List.mem_map.mp hi
    have h1 := (hQ.mem b).mp hb
    have h2 := hT b h1.1
    omega
end PURE
