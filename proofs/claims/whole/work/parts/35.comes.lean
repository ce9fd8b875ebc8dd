/-! A state of the reference comes, if it isn't there -/
variable {h : Hp}
/-- each state is found from where its search begins; no two slots have one state -/
def HR (N : Nat) (fd ky L : Nat → Nat) : Prop := (∀ i, i < N → ∃ d, fd ((st0 (L i) (ky i) + d) % 262144) = i + 1 ∧ ∀ d', d' < d → fd ((st0 (L i) (ky i) + d') % 262144) ≠ 0) ∧ ∀ s s', s < 262144 → s' < 262144 → fd s ≠ 0 → fd s = fd s' → s = s'
theorem HR_ex {N : Nat} {fd ky L : Nat → Nat} (hR : HR N fd ky L) (hN : N < 262144) (hb : ∀ s, s < 262144 → fd s ≤ N) : ∃ e, e < 262144 ∧ fd e = 0 := by
  by_cases e : ∃ e, e < 262144 ∧ fd e = 0
  · exact e
  · have hz : ∀ s, s < 262144 → fd s ≠ 0 := fun s hs g => e ⟨s, hs, g⟩
    have := nodup_map_le (N := N) (F := fun s => fd s - 1) (l := List.range 262144) ?_ (fun s hs => by
      have h1 := hz s (List.mem_range.mp hs)
      have h2 := hb s (List.mem_range.mp hs)
      omega)
    · rw [List.length_range] at this
      omega
    · rw [List.nodup_iff_pairwise_ne, List.pairwise_map]
      refine List.Pairwise.imp_of_mem ?_ List.nodup_range
      intro s s' hs hs' hne g
      have h1 := hz s (List.mem_range.mp hs)
      have h2 := hz s' (List.mem_range.mp hs')
      exact hne (hR.2 s s' (List.mem_range.mp hs) (List.mem_range.mp hs') h1 (by omega))
def up1 (F : Nat → Nat) (a v : Nat) : Nat → Nat := fun i => if i = a then v else F i
theorem up1_a (F : Nat → Nat) (a v : Nat) : up1 F a v a = v := if_pos rfl
theorem up1_n {F : Nat → Nat} {a v i : Nat} (hi : i ≠ a) : up1 F a v i = F i := if_neg hi
theorem t_M_comes {N l lo : Nat} {fd ky L X : Nat → Nat} {Q : Hp → Prop} (hM : MS h) (hH : HS h N fd ky) (hR : HR N fd ky L) (hN : gI h 81 38 = nI N) (hN2 : N < 126000) (hl : l < 14) (hlo : gI h 95 l = nI lo) (hhi : gI h 95 (l + 1) = nI 262144) (hlo2 : lo ≤ N) (hL : ∀ i, i < N → lo ≤ i → L i = l) (hS : SU h (fun j => of60 (X j))) (hX : ∀ j, X j < 121)
    (hq1 : (∃ i, lo ≤ i ∧ i < N ∧ ky i = kNo (X 0) (X 1) (X 2)) → Q h)
    (hq2 : (¬ ∃ i, lo ≤ i ∧ i < N ∧ ky i = kNo (X 0) (X 1) (X 2)) → ∀ h' fd', Fr [93, 96] [38] [] [] h h' → gI h' 81 38 = nI (N + 1) → HS h' (N + 1) fd' (up1 ky N (kNo (X 0) (X 1) (X 2))) → HR (N + 1) fd' (up1 ky N (kNo (X 0) (X 1) (X 2))) (up1 L N l) → Q h') : w_M_comes 81 (nI l) h Q := by
  obtain ⟨a1, a2, a3⟩ := M_found hM
  obtain ⟨b1, b2, b3⟩ := M_key hM
  have hk := kNo_lt (hX 0) (hX 1) (hX 2)
  unfold w_M_comes
  refine ⟨M_K hM, t_M_keyNow hM hS ⟨M_K hM, ?_⟩⟩
  revert hq1 hq2 hk
  generalize kNo (X 0) (X 1) (X 2) = k
  intro hq1 hq2 hk
  refine t_M_slotOf hM hH hl hk hlo hhi (by omega) (by omega) (Nat.le_refl _) (HR_ex hR (by omega) (fun s hs => (hH.1 s hs).2)) (fun d hd1 hd2 => ⟨M_K hM, ?_⟩)
  have hs : (st0 l k + d) % 262144 < 262144 := Nat.mod_lt _ (by decide)
  have hfs := hH.1 _ hs
  rw [a1, a3, ix_nI (by omega), hfs.1]
  refine ⟨a2, vp_in_nI (by omega) (by omega), fun z => ?_, fun z => hq1 ?_⟩
  · have z : fd ((st0 l k + d) % 262144) = 0 := (nI_eq (b := 0) (by omega) (by omega)).mp z
    have hno : ¬ ∃ i, lo ≤ i ∧ i < N ∧ ky i = k := by
      rintro ⟨i, i1, i2, i3⟩
      obtain ⟨d2, e1, e2⟩ := hR.1 i i2
      rw [hL i i2 i1, i3] at e1 e2
      by_cases g : d2 < d
      · exact (hd1 d2 g).2 ⟨by rw [e1]; omega, by rw [e1]; exact i3, by rw [e1]; omega, by rw [e1]; omega⟩
      · by_cases g2 : d2 = d
        · rw [g2, z] at e1; omega
        · exact e2 d (by omega) z
    have e38 : ∀ v, gI (sI h 93 N v) 81 38 = nI N := fun v => by rw [gI_sI, if_neg (fun y => absurd y.1 (by decide))]; exact hN
    rw [hN, b1, b3, ix_nI (n := N) (by omega), e38, nI_1, gI_sI, if_pos ⟨rfl, rfl⟩]
    refine ⟨b2, vp_in_nI (by omega) (by omega), hq2 hno _ (up1 fd ((st0 l k + d) % 262144) (N + 1)) (fr_trans (fr_trans (fr_sI _ _ (Or.inl (by simp))) (fr_sI _ _ (Or.inr ⟨rfl, by simp⟩))) (fr_sI _ _ (Or.inl (by simp)))) ?_ ⟨fun s hs2 => ?_, fun i hi => ?_, by omega⟩ ⟨fun i hi => ?_, fun s s' h1 h2 h3 h4 => ?_⟩⟩
    · rw [gI_sI, if_neg (fun y => absurd y.1 (by decide)), gI_sI, if_pos ⟨rfl, rfl⟩]
    · by_cases g : s = (st0 l k + d) % 262144
      · rw [g, up1_a, gI_sI, if_pos ⟨rfl, rfl⟩]
        exact ⟨rfl, Nat.le_refl _⟩
      · rw [up1_n g, gI_sI, if_neg (fun y => g y.2), gI_sI, if_neg (fun y => absurd y.1 (by decide)), gI_sI, if_neg (fun y => absurd y.1 (by decide))]
        have := hH.1 s hs2
        exact ⟨this.1, by omega⟩
    · rw [gI_sI, if_neg (fun y => absurd y.1 (by decide)), gI_sI, if_neg (fun y => absurd y.1 (by decide)), gI_sI]
      by_cases g : i = N
      · rw [g, up1_a, if_pos ⟨rfl, rfl⟩]
        exact ⟨rfl, hk⟩
      · rw [up1_n g, if_neg (fun y => g y.2)]
        exact hH.2.1 i (by omega)
    · by_cases g : i = N
      · subst g
        refine ⟨d, ?_, fun d' hd' => ?_⟩
        · rw [up1_a, up1_a, up1_a]
        · rw [up1_a, up1_a]
          by_cases g2 : (st0 l k + d') % 262144 = (st0 l k + d) % 262144
          · rw [g2, up1_a]; omega
          · rw [up1_n g2]; exact (hd1 d' hd').1
      · obtain ⟨d2, e1, e2⟩ := hR.1 i (by omega)
        refine ⟨d2, ?_, fun d' hd' => ?_⟩
        · rw [up1_n g, up1_n g, up1_n (fun y => by rw [y, z] at e1; omega)]
          exact e1
        · rw [up1_n g, up1_n g]
          by_cases g2 : (st0 (L i) (ky i) + d') % 262144 = (st0 l k + d) % 262144
          · rw [g2, up1_a]; omega
          · rw [up1_n g2]; exact e2 d' hd'
    · by_cases g : s = (st0 l k + d) % 262144
      · by_cases g2 : s' = (st0 l k + d) % 262144
        · rw [g, g2]
        · rw [g, up1_a, up1_n g2] at h4
          have := (hH.1 s' h2).2
          omega
      · by_cases g2 : s' = (st0 l k + d) % 262144
        · rw [g2, up1_a, up1_n g] at h4
          have := (hH.1 s h1).2
          omega
        · rw [up1_n g] at h3
          rw [up1_n g, up1_n g2] at h4
          exact hR.2 s s' h1 h2 h3 h4
  · have z : fd ((st0 l k + d) % 262144) ≠ 0 := fun g => z (by rw [g]; rfl)
    have hm := hd2.resolve_left z
    exact ⟨_, hm.2.2.1, by have := hfs.2; omega, hm.2.1⟩
