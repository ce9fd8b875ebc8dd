/-! The state behind a step -/
variable {h : Hp}
theorem t_M_isNeeded {r n : Nat} {S : Nat → Int32} {Q : Bool → Hp → Prop} (hM : Mrc h r n) (hS : SU h S) (hq : Q (allB (fun k => decide (S k = gI h 86 (32 + k))) r) h) : w_M_isNeeded 81 h Q := by
  obtain ⟨a1, a2, a3⟩ := M_sums hM.1
  have hr := hM.2.2.2.2.1
  unfold w_M_isNeeded
  refine loop_0 (fun m i (s : Bool) => w_M_isNeeded_L4 Q 81 m (b2i s) (nI i) h) (fun i s => s = allB (fun k => decide (S k = gI h 86 (32 + k))) i) r true rfl ?_ ?_
  · rintro m s rfl
    unfold w_M_isNeeded_L4
    refine ⟨M_K hM.1, fun _ => ⟨b2i_B _, ?_⟩, fun a => absurd (loop_le hM.2.1) a⟩
    rw [i2b_b2i]
    exact hq
  · rintro m i s hi rfl ih
    unfold w_M_isNeeded_L4
    refine ⟨M_K hM.1, fun a => absurd (hM.2.1 ▸ a) (nI_ge hi (by omega)), fun _ => ?_⟩
    rw [nI_1]
    cases e : allB (fun k => decide (S k = gI h 86 (32 + k))) i
    · exact ⟨fun _ => ih false (by rw [allB, e]; rfl), fun z => absurd rfl z⟩
    · refine ⟨fun z => absurd z (by decide), fun _ => ?_⟩
      rw [a1, a3, ix_nI (by omega), hS i (by omega)]
      refine ⟨a2, vp_in_nI (by omega) (by omega), t_M_needOf hM.1 (by omega) ⟨fun z => ?_, fun z => ?_⟩⟩
      · exact ih true (by rw [allB, e, decide_eq_true z]; rfl)
      · exact ih false (by rw [allB, e, decide_eq_false z]; rfl)
/-- a slot that is empty though a state is looked for: there is none -/
theorem t_M_slotIn {N lo hi l k : Nat} {fd ky L : Nat → Nat} {Q : Int32 → Hp → Prop} (hM : MS h) (hH : HS h N fd ky) (hR : HR N fd ky L) (hl : l < 14) (hk : k < 1771561) (hlo : gI h 95 l = nI lo) (hhi : gI h 95 (l + 1) = nI hi) (hlo2 : lo ≤ 262144) (hhi1 : 1 ≤ hi) (hhi2 : hi ≤ 262144) (hL : ∀ i, i < N → lo ≤ i → i < hi → L i = l)
    (hq0 : ∀ s, s < 262144 → fd s = 0 → (¬ ∃ i, lo ≤ i ∧ i < hi ∧ i < N ∧ ky i = k) → Q (nI s) h)
    (hq1 : ∀ s i, s < 262144 → fd s = i + 1 → lo ≤ i → i < hi → i < N → ky i = k → Q (nI s) h) : w_M_slotOf 81 (nI l) (nI k) h Q := by
  have hN := hH.2.2
  refine t_M_slotOf hM hH hl hk hlo hhi hlo2 hhi1 hhi2 (HR_ex hR (by omega) (fun s hs => (hH.1 s hs).2)) (fun d hd1 hd2 => ?_)
  have hs : (st0 l k + d) % 262144 < 262144 := Nat.mod_lt _ (by decide)
  have hfs := hH.1 _ hs
  by_cases z : fd ((st0 l k + d) % 262144) = 0
  · refine hq0 _ hs z ?_
    rintro ⟨i, i1, i4, i2, i3⟩
    obtain ⟨d2, e1, e2⟩ := hR.1 i i2
    rw [hL i i2 i1 i4, i3] at e1 e2
    by_cases g : d2 < d
    · exact (hd1 d2 g).2 ⟨by rw [e1]; omega, by rw [e1]; exact i3, by rw [e1]; omega, by rw [e1]; omega⟩
    · by_cases g2 : d2 = d
      · rw [g2, z] at e1; omega
      · exact e2 d (by omega) z
  · have hm := hd2.resolve_left z
    exact hq1 _ (fd ((st0 l k + d) % 262144) - 1) hs (by omega) hm.2.2.1 hm.2.2.2 (by have := hfs.2; omega) hm.2.1
theorem t_M_behind {r n N lo hi l i c : Nat} {fd ky L X : Nat → Nat} {Q : Int32 → Hp → Prop} (hM : Mrc h r n) (hH : HS h N fd ky) (hR : HR N fd ky L) (hl : l < 13) (hi0 : i < N) (hc : c < 8) (hlo : gI h 95 (l + 1) = nI lo) (hhi : gI h 95 (l + 1 + 1) = nI hi) (hlo2 : lo ≤ 262144) (hhi1 : 1 ≤ hi) (hhi2 : hi ≤ 262144) (hL : ∀ i, i < N → lo ≤ i → i < hi → L i = l + 1)
    (hX : ∀ j, j < 3 → adR (fun j => of60 (upk (ky i) j)) (gI h 86) c r j = of60 (X j)) (hX2 : ∀ j, X j < 121)
    (hq0 : ∀ h', Fr [92] [] [] [] h h' → (¬ ∃ j, lo ≤ j ∧ j < hi ∧ j < N ∧ ky j = kNo (X 0) (X 1) (X 2)) → Q (-1) h')
    (hq1 : ∀ h' j, Fr [92] [] [] [] h h' → lo ≤ j → j < hi → j < N → ky j = kNo (X 0) (X 1) (X 2) → Q (nI j) h') : w_M_behind 81 (nI i) (nI l) (nI c) h Q := by
  obtain ⟨b1, b2, b3⟩ := M_key hM.1
  have hki := hH.2.1 i hi0
  have hN := hH.2.2
  unfold w_M_behind
  rw [b1, b3, ix_nI (by omega), hki.1]
  refine ⟨M_K hM.1, b2, vp_in_nI (by omega) (by omega), t_M_unpacks hM.1 hki.2 (fun h1 f1 s1 => ?_)⟩
  have hM1 := fr_Mrc f1 (by decide) (by decide) (by decide) hM
  refine ⟨M_K hM1.1, t_M_adds hM1 hc s1 (fun h2 f2 s2 => ?_)⟩
  have hM2 := fr_Mrc f2 (by decide) (by decide) (by decide) hM1
  have f12 := fr_trans f1 f2
  rw [fr_I f1 (x := 86) (by decide) (by decide)] at s2
  refine ⟨M_K hM2.1, t_M_keyNow (X := X) hM2.1 (fun j hj => (s2 j hj).trans (hX j hj)) ⟨M_K hM2.1, ?_⟩⟩
  have hH2 : HS h2 N fd ky := by
    unfold HS
    rw [fr_I f12 (x := 96) (by decide) (by decide), fr_I f12 (x := 93) (by decide) (by decide)]
    exact hH
  have e95 : gI h2 95 = gI h 95 := fr_I f12 (by decide) (by decide)
  obtain ⟨a1, a2, a3⟩ := M_found hM2.1
  rw [nI_1]
  refine t_M_slotIn hM2.1 hH2 hR (by omega) (kNo_lt (hX2 0) (hX2 1) (hX2 2)) (by rw [e95]; exact hlo) (by rw [e95]; exact hhi) hlo2 hhi1 hhi2 hL (fun s hs z hno => ⟨M_K hM2.1, ?_⟩) (fun s j hs z j1 j2 j3 j4 => ⟨M_K hM2.1, ?_⟩)
  · rw [a1, a3, ix_nI (by omega), (hH2.1 s hs).1, z]
    exact ⟨a2, vp_in_nI (by omega) (by omega), hq0 h2 f12 hno⟩
  · rw [a1, a3, ix_nI (by omega), (hH2.1 s hs).1, z, nI_s1]
    exact ⟨a2, vp_in_nI (by omega) (by omega), hq1 h2 j f12 j1 j2 j3 j4⟩
