/-! The slots of the reference's states -/
variable {h : Hp}
/-- where the search for a state begins -/
def st0 (l k : Nat) : Nat := ((nI k * 31 + nI l * 7919) * 40503 : Int32).toBitVec.toNat % 2 ^ 18
theorem st0_eq (l k : Nat) : ((nI k * 31 + nI l * 7919) * 40503 : Int32) &&& 262143 = nI (st0 l k) := pk_and _ 18 (by decide)
theorem st0_lt (l k : Nat) : st0 l k < 262144 := Nat.mod_lt _ (by decide)
theorem nxt_eq {s : Nat} (hs : s < 262144) : (nI s + 1) &&& 262143 = nI ((s + 1) % 262144) := by
  rw [nI_1]
  exact pk_andN (by omega) 18 (by decide)
/-- the slots and the keys stand: N states, none with a greater number -/
def HS (h : Hp) (N : Nat) (fd ky : Nat → Nat) : Prop := (∀ s, s < 262144 → gI h 96 s = nI (fd s) ∧ fd s ≤ N) ∧ (∀ i, i < N → gI h 93 i = nI (ky i) ∧ ky i < 1771561) ∧ N ≤ 126000
def mtc (fd ky : Nat → Nat) (lo hi k s : Nat) : Prop := fd s ≠ 0 ∧ ky (fd s - 1) = k ∧ lo ≤ fd s - 1 ∧ fd s - 1 < hi
theorem t_M_slotOf {N lo hi l k : Nat} {fd ky : Nat → Nat} {Q : Int32 → Hp → Prop} (hM : MS h) (hH : HS h N fd ky) (hl : l < 14) (hk : k < 1771561) (hlo : gI h 95 l = nI lo) (hhi : gI h 95 (l + 1) = nI hi) (hlo2 : lo ≤ 262144) (hhi1 : 1 ≤ hi) (hhi2 : hi ≤ 262144) (hex : ∃ e, e < 262144 ∧ fd e = 0)
    (hq : ∀ d, (∀ d', d' < d → fd ((st0 l k + d') % 262144) ≠ 0 ∧ ¬ mtc fd ky lo hi k ((st0 l k + d') % 262144)) → (fd ((st0 l k + d) % 262144) = 0 ∨ mtc fd ky lo hi k ((st0 l k + d) % 262144)) → Q (nI ((st0 l k + d) % 262144)) h) : w_M_slotOf 81 (nI l) (nI k) h Q := by
  obtain ⟨a1, a2, a3⟩ := M_found hM
  obtain ⟨b1, b2, b3⟩ := M_key hM
  obtain ⟨c1, c2, c3⟩ := M_layer hM
  have h0 := st0_lt l k
  have stp : ∃ d, fd ((st0 l k + d) % 262144) = 0 ∨ mtc fd ky lo hi k ((st0 l k + d) % 262144) := by
    obtain ⟨e, he, hf⟩ := hex
    refine ⟨(e + 262144 - st0 l k) % 262144, Or.inl ?_⟩
    rw [show (st0 l k + (e + 262144 - st0 l k) % 262144) % 262144 = e from by omega]
    exact hf
  obtain ⟨D, hD, hmin⟩ := pk_least _ stp
  unfold w_M_slotOf
  rw [st0_eq]
  have key : ∀ m d, d + m = D → w_M_slotOf_L19 Q 81 (nI l) (nI k) (m + 1) (nI ((st0 l k + d) % 262144)) h := by
    intro m
    induction m with
    | zero =>
      intro d hd
      have hs : (st0 l k + d) % 262144 < 262144 := Nat.mod_lt _ (by decide)
      have hd : d = D := by omega
      have fin := hq d (fun d' h' => ⟨fun g => hmin d' (by omega) (Or.inl g), fun g => hmin d' (by omega) (Or.inr g)⟩) (by rw [hd]; exact hD)
      rw [← hd] at hD
      revert fin hD hs
      generalize (st0 l k + d) % 262144 = s
      intro hD hs fin
      have hfs := hH.1 s hs
      have hN := hH.2.2
      unfold w_M_slotOf_L19
      rw [a1, a3, ix_nI (by omega), hfs.1]
      refine ⟨M_K hM, a2, vp_in_nI (by omega) (by omega), fun _ => fin, fun z => ?_⟩
      have z : fd s ≠ 0 := fun g => z (by rw [g]; rfl)
      have hm := hD.resolve_left z
      obtain ⟨f, hf⟩ : ∃ f, fd s = f + 1 := ⟨fd s - 1, by omega⟩
      have hkf := hH.2.1 f (by omega)
      unfold mtc at hm
      rw [hf, Nat.add_sub_cancel] at hm
      rw [hf, nI_s1, b1, b3, ix_nI (by omega), hkf.1, c1, c3]
      refine ⟨b2, vp_in_nI (by omega) (by omega), fun y => ⟨c2, vp_in_nI (by omega) (by omega), by rw [nI_1]; exact vp_in_nI (by omega) (by omega), t_M_isIn ?_⟩, fun y => absurd (by rw [hm.2.1]) y⟩
      rw [nI_1, ix_nI (n := l) (by omega), ix_nI (n := l + 1) (by omega), hlo, hhi]
      refine ⟨fun x => ?_, fun _ => fin⟩
      obtain ⟨u, hu⟩ : ∃ u, hi = u + 1 := ⟨hi - 1, by omega⟩
      rw [hu, nI_s1, decide_eq_true (nI_le hm.2.2.1 (by omega)), decide_eq_true (nI_le (show f ≤ u by omega) (by omega))] at x
      cases x
    | succ m ih =>
      intro d hd
      have hs : (st0 l k + d) % 262144 < 262144 := Nat.mod_lt _ (by decide)
      have nx := ih (d + 1) (by omega)
      rw [show (st0 l k + (d + 1)) % 262144 = ((st0 l k + d) % 262144 + 1) % 262144 from by omega] at nx
      have hno := hmin d (by omega)
      revert nx hno hs
      generalize (st0 l k + d) % 262144 = s
      intro hs nx hno
      have hfs := hH.1 s hs
      have hN := hH.2.2
      have z : fd s ≠ 0 := fun g => hno (Or.inl g)
      obtain ⟨f, hf⟩ : ∃ f, fd s = f + 1 := ⟨fd s - 1, by omega⟩
      have hkf := hH.2.1 f (by omega)
      unfold w_M_slotOf_L19
      rw [a1, a3, ix_nI (by omega), hfs.1]
      refine ⟨M_K hM, a2, vp_in_nI (by omega) (by omega), fun g => absurd g (nI_ne0 (by omega) (by omega)), fun _ => ?_⟩
      rw [hf, nI_s1, b1, b3, ix_nI (by omega), hkf.1, c1, c3, nxt_eq hs]
      refine ⟨b2, vp_in_nI (by omega) (by omega), fun y => ⟨c2, vp_in_nI (by omega) (by omega), by rw [nI_1]; exact vp_in_nI (by omega) (by omega), t_M_isIn ?_⟩, fun _ => nx⟩
      rw [nI_1, ix_nI (n := l) (by omega), ix_nI (n := l + 1) (by omega), hlo, hhi]
      refine ⟨fun _ => nx, fun x => ?_⟩
      have y := (nI_eq (by omega) (by omega)).mp y
      have x := ntf x
      obtain ⟨u, hu⟩ : ∃ u, hi = u + 1 := ⟨hi - 1, by omega⟩
      rw [hu, nI_s1, Bool.and_eq_true, decide_eq_true_eq, decide_eq_true_eq, nI_leI (by omega) (by omega), nI_leI (by omega) (by omega)] at x
      exact absurd (Or.inr ⟨z, by rw [hf, Nat.add_sub_cancel]; exact y, by omega, by omega⟩) hno
  have := key D 0 (by omega)
  rw [show (st0 l k + 0) % 262144 = st0 l k from by omega] at this
  exact ⟨D + 1, this⟩
