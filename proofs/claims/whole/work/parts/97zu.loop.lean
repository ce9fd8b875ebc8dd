/-! The law: the two answer alike, call after call -/
variable {h : Hp}
theorem JJ_K {c ρ : Nat} (j : JJ c ρ h) : gK h 16 = 11 := by
  obtain ⟨f, r, n, gg, fi, A, U, K, s, tm, N, B, e1, e2, bx, b, a, hb, jc, jm, jp⟩ := j
  exact X_k16 jc.1.1
theorem JJ_X {c ρ : Nat} (j : JJ c ρ h) : 120 ≤ gX h := by
  obtain ⟨f, r, n, gg, fi, A, U, K, s, tm, N, B, e1, e2, bx, b, a, hb, jc, jm, jp⟩ := j
  exact jc.2.1
theorem sub6_lt {L k : Nat} (hL : L ≤ 3072) (hk : k ≤ 4000) : (Int32.ofNat L - 6 < nI k) ↔ L < k + 6 := by
  show (nI L - 6 < nI k) ↔ L < k + 6
  have e : (6 : Int32).toInt = 6 := rfl
  rw [Int32.lt_iff_toInt_lt, Jvm.Kit.i32_sub (by rw [nI_toInt (by omega), e]; omega) (by rw [nI_toInt (by omega), e]; omega), nI_toInt (by omega), nI_toInt (by omega), e]
  omega
theorem lb_232 {L : Nat} {xs : Nat → Int32} {Q : Bool → Hp → Prop} {k18 : Int32 → Nat → Nat → Hp → Prop} {v3 : Int32} {c ρ bc bs : Nat} (hc : c < 2 ^ 30) (p1 : vp_in (v3 + 1) L) (p2 : vp_in (v3 + 2) L) (p3 : vp_in (v3 + 3) L) (p4 : vp_in (v3 + 4) L) (p5 : vp_in (v3 + 5) L) (j : JJ c ρ h) (hb1 : ptC ρ ≤ bc) (hb2 : ptS ρ ≤ bs) (hk : ∀ bc' bs' ρ' h2, ptC ρ' ≤ bc' → ptS ρ' ≤ bs' → JJ (c + 8) ρ' h2 → k18 (v3 + 6) bc' bs' h2) : w_L_law_B232 L xs Q k18 16 81 v3 bc bs h := by
  unfold w_L_law_B232
  exact ⟨p1, p2, p3, p4, p5, JJ_K j, c_feed hc j (fun q h1 k1 hM => ⟨p1, p2, p3, p4, p5, k1, hM _ (fun h2 j2 => ⟨fun _ => hk bc bs ρ h2 hb1 hb2 (JJ_mono j2 (by omega)), fun z => absurd rfl z⟩)⟩)⟩
theorem lb_295 {L : Nat} {xs : Nat → Int32} {Q : Bool → Hp → Prop} {k18 : Int32 → Nat → Nat → Hp → Prop} {v3 : Int32} {c ρ bc bs : Nat} (hc : c < 2 ^ 30) (p1 : vp_in (v3 + 1) L) (p2 : vp_in (v3 + 2) L) (p3 : vp_in (v3 + 3) L) (p4 : vp_in (v3 + 4) L) (p5 : vp_in (v3 + 5) L) (j : JJ c ρ h) (hb1 : ptC ρ ≤ bc) (hb2 : ptS ρ ≤ bs) (hk : ∀ bc' bs' ρ' h2, ptC ρ' ≤ bc' → ptS ρ' ≤ bs' → JJ (c + 8) ρ' h2 → k18 (v3 + 6) bc' bs' h2) : w_L_law_B295 L xs Q k18 16 81 v3 bc bs h := by
  unfold w_L_law_B295
  exact ⟨p1, JJ_K j, c_end hc j (fun q h1 k1 hM => ⟨p1, k1, hM _ (fun h2 j2 => ⟨fun _ => hk bc bs ρ h2 hb1 hb2 (JJ_mono j2 (by omega)), fun z => absurd rfl z⟩)⟩)⟩
theorem lb_318 {L : Nat} {xs : Nat → Int32} {Q : Bool → Hp → Prop} {k18 : Int32 → Nat → Nat → Hp → Prop} {v3 : Int32} {c ρ bc bs : Nat} (hc : c < 2 ^ 30) (p1 : vp_in (v3 + 1) L) (p2 : vp_in (v3 + 2) L) (p3 : vp_in (v3 + 3) L) (p4 : vp_in (v3 + 4) L) (p5 : vp_in (v3 + 5) L) (j : JJ c ρ h) (hb1 : ptC ρ ≤ bc) (hb2 : ptS ρ ≤ bs) (hk : ∀ bc' bs' ρ' h2, ptC ρ' ≤ bc' → ptS ρ' ≤ bs' → JJ (c + 8) ρ' h2 → k18 (v3 + 6) bc' bs' h2) : w_L_law_B318 L xs Q k18 16 81 v3 bc bs h := by
  unfold w_L_law_B318
  exact ⟨JJ_K j, c_program hc j (fun q h1 k1 hM => ⟨k1, hM _ (fun h2 j2 => ⟨fun _ => hk bc bs ρ h2 hb1 hb2 (JJ_mono j2 (by omega)), fun z => absurd rfl z⟩)⟩)⟩
theorem lb_331 {L : Nat} {xs : Nat → Int32} {Q : Bool → Hp → Prop} {k18 : Int32 → Nat → Nat → Hp → Prop} {v3 : Int32} {c ρ bc bs : Nat} (hc : c < 2 ^ 30) (p1 : vp_in (v3 + 1) L) (p2 : vp_in (v3 + 2) L) (p3 : vp_in (v3 + 3) L) (p4 : vp_in (v3 + 4) L) (p5 : vp_in (v3 + 5) L) (j : JJ c ρ h) (hb1 : ptC ρ ≤ bc) (hb2 : ptS ρ ≤ bs) (hk : ∀ bc' bs' ρ' h2, ptC ρ' ≤ bc' → ptS ρ' ≤ bs' → JJ (c + 8) ρ' h2 → k18 (v3 + 6) bc' bs' h2) : w_L_law_B331 L xs Q k18 16 81 v3 bc bs h := by
  unfold w_L_law_B331
  exact ⟨p1, JJ_K j, c_fault j (fun q h1 k1 hM => ⟨p1, k1, hM _ (fun h2 j2 => ⟨fun _ => hk bc bs ρ h2 hb1 hb2 (JJ_mono j2 (by omega)), fun z => absurd rfl z⟩)⟩)⟩
theorem lb_354 {L : Nat} {xs : Nat → Int32} {Q : Bool → Hp → Prop} {k18 : Int32 → Nat → Nat → Hp → Prop} {v3 : Int32} {c ρ bc bs : Nat} (hc : c < 2 ^ 30) (p1 : vp_in (v3 + 1) L) (p2 : vp_in (v3 + 2) L) (p3 : vp_in (v3 + 3) L) (p4 : vp_in (v3 + 4) L) (p5 : vp_in (v3 + 5) L) (j : JJ c ρ h) (hb1 : ptC ρ ≤ bc) (hb2 : ptS ρ ≤ bs) (hk : ∀ bc' bs' ρ' h2, ptC ρ' ≤ bc' → ptS ρ' ≤ bs' → JJ (c + 8) ρ' h2 → k18 (v3 + 6) bc' bs' h2) : w_L_law_B354 L xs Q k18 16 81 v3 bc bs h := by
  unfold w_L_law_B354
  exact ⟨p1, p2, JJ_K j, c_number j (fun q h1 k1 hM => ⟨p1, p2, k1, hM _ (fun h2 j2 => ⟨fun _ => hk bc bs ρ h2 hb1 hb2 (JJ_mono j2 (by omega)), fun z => absurd rfl z⟩)⟩)⟩
theorem lb_387 {L : Nat} {xs : Nat → Int32} {Q : Bool → Hp → Prop} {k18 : Int32 → Nat → Nat → Hp → Prop} {v3 : Int32} {c ρ bc bs : Nat} (hc : c < 2 ^ 30) (p1 : vp_in (v3 + 1) L) (p2 : vp_in (v3 + 2) L) (p3 : vp_in (v3 + 3) L) (p4 : vp_in (v3 + 4) L) (p5 : vp_in (v3 + 5) L) (j : JJ c ρ h) (hb1 : ptC ρ ≤ bc) (hb2 : ptS ρ ≤ bs) (hk : ∀ bc' bs' ρ' h2, ptC ρ' ≤ bc' → ptS ρ' ≤ bs' → JJ (c + 8) ρ' h2 → k18 (v3 + 6) bc' bs' h2) : w_L_law_B387 L xs Q k18 16 81 v3 bc bs h := by
  unfold w_L_law_B387
  exact ⟨p1, JJ_K j, c_gain j (fun q h1 k1 hM => ⟨p1, k1, hM _ (fun h2 j2 => ⟨fun _ => hk bc bs ρ h2 hb1 hb2 (JJ_mono j2 (by omega)), fun z => absurd rfl z⟩)⟩)⟩
theorem lb_410 {L : Nat} {xs : Nat → Int32} {Q : Bool → Hp → Prop} {k18 : Int32 → Nat → Nat → Hp → Prop} {v3 : Int32} {c ρ bc bs : Nat} (hc : c < 2 ^ 30) (p1 : vp_in (v3 + 1) L) (p2 : vp_in (v3 + 2) L) (p3 : vp_in (v3 + 3) L) (p4 : vp_in (v3 + 4) L) (p5 : vp_in (v3 + 5) L) (j : JJ c ρ h) (hb1 : ptC ρ ≤ bc) (hb2 : ptS ρ ≤ bs) (hk : ∀ bc' bs' ρ' h2, ptC ρ' ≤ bc' → ptS ρ' ≤ bs' → JJ (c + 8) ρ' h2 → k18 (v3 + 6) bc' bs' h2) : w_L_law_B410 L xs Q k18 16 81 v3 bc bs h := by
  unfold w_L_law_B410
  exact ⟨p1, JJ_K j, c_need j (fun q h1 k1 hM => ⟨p1, k1, hM _ (fun h2 j2 => ⟨fun _ => hk bc bs ρ h2 hb1 hb2 (JJ_mono j2 (by omega)), fun z => absurd rfl z⟩)⟩)⟩
theorem lb_433 {L : Nat} {xs : Nat → Int32} {Q : Bool → Hp → Prop} {k18 : Int32 → Nat → Nat → Hp → Prop} {v3 : Int32} {c ρ bc bs : Nat} (hc : c < 2 ^ 30) (p1 : vp_in (v3 + 1) L) (p2 : vp_in (v3 + 2) L) (p3 : vp_in (v3 + 3) L) (p4 : vp_in (v3 + 4) L) (p5 : vp_in (v3 + 5) L) (j : JJ c ρ h) (hb1 : ptC ρ ≤ bc) (hb2 : ptS ρ ≤ bs) (hk : ∀ bc' bs' ρ' h2, ptC ρ' ≤ bc' → ptS ρ' ≤ bs' → JJ (c + 8) ρ' h2 → k18 (v3 + 6) bc' bs' h2) : w_L_law_B433 L xs Q k18 16 81 v3 bc bs h := by
  unfold w_L_law_B433
  exact ⟨p1, p2, p3, JJ_K j, c_change hc j (fun q h1 k1 hM => ⟨p1, p2, p3, k1, hM _ (fun h2 j2 => ⟨fun _ => hk bc bs ρ h2 hb1 hb2 (JJ_mono j2 (by omega)), fun z => absurd rfl z⟩)⟩)⟩
theorem lb_476 {L : Nat} {xs : Nat → Int32} {Q : Bool → Hp → Prop} {k18 : Int32 → Nat → Nat → Hp → Prop} {v3 : Int32} {c ρ bc bs : Nat} (hc : c < 2 ^ 30) (p1 : vp_in (v3 + 1) L) (p2 : vp_in (v3 + 2) L) (p3 : vp_in (v3 + 3) L) (p4 : vp_in (v3 + 4) L) (p5 : vp_in (v3 + 5) L) (j : JJ c ρ h) (hb1 : ptC ρ ≤ bc) (hb2 : ptS ρ ≤ bs) (hk : ∀ bc' bs' ρ' h2, ptC ρ' ≤ bc' → ptS ρ' ≤ bs' → JJ (c + 8) ρ' h2 → k18 (v3 + 6) bc' bs' h2) : w_L_law_B476 L xs Q k18 16 81 v3 bc bs h := by
  unfold w_L_law_B476
  exact ⟨p1, p2, JJ_K j, c_worth hc j (fun q h1 k1 hM => ⟨p1, p2, k1, hM _ (fun h2 j2 => ⟨fun _ => hk bc bs ρ h2 hb1 hb2 (JJ_mono j2 (by omega)), fun z => absurd rfl z⟩)⟩)⟩
theorem lb_509 {L : Nat} {xs : Nat → Int32} {Q : Bool → Hp → Prop} {k18 : Int32 → Nat → Nat → Hp → Prop} {v3 : Int32} {c ρ bc bs : Nat} (hc : c < 2 ^ 30) (p1 : vp_in (v3 + 1) L) (p2 : vp_in (v3 + 2) L) (p3 : vp_in (v3 + 3) L) (p4 : vp_in (v3 + 4) L) (p5 : vp_in (v3 + 5) L) (j : JJ c ρ h) (hb1 : ptC ρ ≤ bc) (hb2 : ptS ρ ≤ bs) (hk : ∀ bc' bs' ρ' h2, ptC ρ' ≤ bc' → ptS ρ' ≤ bs' → JJ (c + 8) ρ' h2 → k18 (v3 + 6) bc' bs' h2) : w_L_law_B509 L xs Q k18 16 81 v3 bc bs h := by
  unfold w_L_law_B509
  exact ⟨p1, p2, JJ_K j, c_want hc j (fun q h1 k1 hM => ⟨p1, p2, k1, hM _ (fun h2 j2 => ⟨fun _ => hk bc bs ρ h2 hb1 hb2 (JJ_mono j2 (by omega)), fun z => absurd rfl z⟩)⟩)⟩
theorem lb_542 {L : Nat} {xs : Nat → Int32} {Q : Bool → Hp → Prop} {k18 : Int32 → Nat → Nat → Hp → Prop} {v3 : Int32} {c ρ bc bs : Nat} (hc : c < 2 ^ 30) (p1 : vp_in (v3 + 1) L) (p2 : vp_in (v3 + 2) L) (p3 : vp_in (v3 + 3) L) (p4 : vp_in (v3 + 4) L) (p5 : vp_in (v3 + 5) L) (j : JJ c ρ h) (hb1 : ptC ρ ≤ bc) (hb2 : ptS ρ ≤ bs) (hk : ∀ bc' bs' ρ' h2, ptC ρ' ≤ bc' → ptS ρ' ≤ bs' → JJ (c + 8) ρ' h2 → k18 (v3 + 6) bc' bs' h2) : w_L_law_B542 L xs Q k18 16 81 v3 bc bs h := by
  unfold w_L_law_B542
  exact ⟨p1, JJ_K j, c_allow hc j (fun q h1 k1 hM => ⟨p1, k1, hM _ (fun h2 j2 => ⟨fun _ => hk bc bs ρ h2 hb1 hb2 (JJ_mono j2 (by omega)), fun z => absurd rfl z⟩)⟩)⟩
theorem lb_565 {L : Nat} {xs : Nat → Int32} {Q : Bool → Hp → Prop} {k18 : Int32 → Nat → Nat → Hp → Prop} {v3 : Int32} {c ρ bc bs : Nat} (hc : c < 2 ^ 30) (p1 : vp_in (v3 + 1) L) (p2 : vp_in (v3 + 2) L) (p3 : vp_in (v3 + 3) L) (p4 : vp_in (v3 + 4) L) (p5 : vp_in (v3 + 5) L) (j : JJ c ρ h) (hb1 : ptC ρ ≤ bc) (hb2 : ptS ρ ≤ bs) (hk : ∀ bc' bs' ρ' h2, ptC ρ' ≤ bc' → ptS ρ' ≤ bs' → JJ (c + 8) ρ' h2 → k18 (v3 + 6) bc' bs' h2) : w_L_law_B565 L xs Q k18 16 81 v3 bc bs h := by
  unfold w_L_law_B565
  exact ⟨p1, p2, JJ_K j, c_hold hc j (fun q h1 k1 hM => ⟨p1, p2, k1, hM _ (fun h2 j2 => ⟨fun _ => hk bc bs ρ h2 hb1 hb2 (JJ_mono j2 (by omega)), fun z => absurd rfl z⟩)⟩)⟩
theorem lb_598 {L : Nat} {xs : Nat → Int32} {Q : Bool → Hp → Prop} {k18 : Int32 → Nat → Nat → Hp → Prop} {v3 : Int32} {c ρ bc bs : Nat} (hc : c < 2 ^ 30) (p1 : vp_in (v3 + 1) L) (p2 : vp_in (v3 + 2) L) (p3 : vp_in (v3 + 3) L) (p4 : vp_in (v3 + 4) L) (p5 : vp_in (v3 + 5) L) (j : JJ c ρ h) (hb1 : ptC ρ ≤ bc) (hb2 : ptS ρ ≤ bs) (hk : ∀ bc' bs' ρ' h2, ptC ρ' ≤ bc' → ptS ρ' ≤ bs' → JJ (c + 8) ρ' h2 → k18 (v3 + 6) bc' bs' h2) : w_L_law_B598 L xs Q k18 16 81 v3 bc bs h := by
  unfold w_L_law_B598
  exact ⟨p1, JJ_K j, c_better hc j (fun q h1 k1 hM => ⟨p1, k1, hM _ (fun h2 j2 => ⟨fun _ => hk bc bs ρ h2 hb1 hb2 (JJ_mono j2 (by omega)), fun z => absurd rfl z⟩)⟩)⟩
theorem lb_621 {L : Nat} {xs : Nat → Int32} {Q : Bool → Hp → Prop} {k18 : Int32 → Nat → Nat → Hp → Prop} {v3 : Int32} {c ρ bc bs : Nat} (hc : c < 2 ^ 30) (p1 : vp_in (v3 + 1) L) (p2 : vp_in (v3 + 2) L) (p3 : vp_in (v3 + 3) L) (p4 : vp_in (v3 + 4) L) (p5 : vp_in (v3 + 5) L) (j : JJ c ρ h) (hb1 : ptC ρ ≤ bc) (hb2 : ptS ρ ≤ bs) (hk : ∀ bc' bs' ρ' h2, ptC ρ' ≤ bc' → ptS ρ' ≤ bs' → JJ (c + 8) ρ' h2 → k18 (v3 + 6) bc' bs' h2) : w_L_law_B621 L xs Q k18 16 81 v3 bc bs h := by
  unfold w_L_law_B621
  exact ⟨JJ_K j, c_undo hc j (fun q h1 k1 hM => ⟨k1, hM _ (fun h2 j2 => ⟨fun _ => hk bc bs ρ h2 hb1 hb2 (JJ_mono j2 (by omega)), fun z => absurd rfl z⟩)⟩)⟩
theorem lb_634 {L : Nat} {xs : Nat → Int32} {Q : Bool → Hp → Prop} {k18 : Int32 → Nat → Nat → Hp → Prop} {v3 : Int32} {c ρ bc bs : Nat} (hc : c < 2 ^ 30) (p1 : vp_in (v3 + 1) L) (p2 : vp_in (v3 + 2) L) (p3 : vp_in (v3 + 3) L) (p4 : vp_in (v3 + 4) L) (p5 : vp_in (v3 + 5) L) (j : JJ c ρ h) (hb1 : ptC ρ ≤ bc) (hb2 : ptS ρ ≤ bs) (hk : ∀ bc' bs' ρ' h2, ptC ρ' ≤ bc' → ptS ρ' ≤ bs' → JJ (c + 8) ρ' h2 → k18 (v3 + 6) bc' bs' h2) : w_L_law_B634 L xs Q k18 16 81 v3 bc bs h := by
  unfold w_L_law_B634
  exact ⟨JJ_K j, c_redo hc j (fun q h1 k1 hM => ⟨k1, hM _ (fun h2 j2 => ⟨fun _ => hk bc bs ρ h2 hb1 hb2 (JJ_mono j2 (by omega)), fun z => absurd rfl z⟩)⟩)⟩
theorem lb_647 {L : Nat} {xs : Nat → Int32} {Q : Bool → Hp → Prop} {k18 : Int32 → Nat → Nat → Hp → Prop} {v3 : Int32} {c ρ bc bs : Nat} (hc : c < 2 ^ 30) (p1 : vp_in (v3 + 1) L) (p2 : vp_in (v3 + 2) L) (p3 : vp_in (v3 + 3) L) (p4 : vp_in (v3 + 4) L) (p5 : vp_in (v3 + 5) L) (j : JJ c ρ h) (hb1 : ptC ρ ≤ bc) (hb2 : ptS ρ ≤ bs) (hk : ∀ bc' bs' ρ' h2, ptC ρ' ≤ bc' → ptS ρ' ≤ bs' → JJ (c + 8) ρ' h2 → k18 (v3 + 6) bc' bs' h2) : w_L_law_B647 L xs Q k18 16 81 v3 bc bs h := by
  unfold w_L_law_B647
  exact ⟨p1, JJ_K j, c_held j (fun q h1 k1 hM => ⟨p1, k1, hM _ (fun h2 j2 => ⟨fun _ => hk bc bs ρ h2 hb1 hb2 (JJ_mono j2 (by omega)), fun z => absurd rfl z⟩)⟩)⟩
theorem lb_670 {L : Nat} {xs : Nat → Int32} {Q : Bool → Hp → Prop} {k18 : Int32 → Nat → Nat → Hp → Prop} {v3 : Int32} {c ρ bc bs : Nat} (hc : c < 2 ^ 30) (p1 : vp_in (v3 + 1) L) (p2 : vp_in (v3 + 2) L) (p3 : vp_in (v3 + 3) L) (p4 : vp_in (v3 + 4) L) (p5 : vp_in (v3 + 5) L) (j : JJ c ρ h) (hb1 : ptC ρ ≤ bc) (hb2 : ptS ρ ≤ bs) (hk : ∀ bc' bs' ρ' h2, ptC ρ' ≤ bc' → ptS ρ' ≤ bs' → JJ (c + 8) ρ' h2 → k18 (v3 + 6) bc' bs' h2) : w_L_law_B670 L xs Q k18 16 81 v3 bc bs h := by
  unfold w_L_law_B670
  exact ⟨p1, JJ_K j, c_holding j (fun q h1 k1 hM => ⟨p1, k1, hM _ (fun h2 j2 => ⟨fun _ => hk bc bs ρ h2 hb1 hb2 (JJ_mono j2 (by omega)), fun z => absurd rfl z⟩)⟩)⟩
theorem lb_693 {L : Nat} {xs : Nat → Int32} {Q : Bool → Hp → Prop} {k18 : Int32 → Nat → Nat → Hp → Prop} {v3 : Int32} {c ρ bc bs : Nat} (hc : c < 2 ^ 30) (p1 : vp_in (v3 + 1) L) (p2 : vp_in (v3 + 2) L) (p3 : vp_in (v3 + 3) L) (p4 : vp_in (v3 + 4) L) (p5 : vp_in (v3 + 5) L) (j : JJ c ρ h) (hb1 : ptC ρ ≤ bc) (hb2 : ptS ρ ≤ bs) (hk : ∀ bc' bs' ρ' h2, ptC ρ' ≤ bc' → ptS ρ' ≤ bs' → JJ (c + 8) ρ' h2 → k18 (v3 + 6) bc' bs' h2) : w_L_law_B693 L xs Q k18 16 81 v3 bc bs h := by
  unfold w_L_law_B693
  exact ⟨p1, p2, JJ_K j, c_exchange hc j (fun q h1 k1 hM => ⟨p1, p2, k1, hM _ (fun h2 j2 => ⟨fun _ => hk bc bs ρ h2 hb1 hb2 (JJ_mono j2 (by omega)), fun z => absurd rfl z⟩)⟩)⟩
theorem lb_726 {L : Nat} {xs : Nat → Int32} {Q : Bool → Hp → Prop} {k18 : Int32 → Nat → Nat → Hp → Prop} {v3 : Int32} {c ρ bc bs : Nat} (hc : c < 2 ^ 30) (p1 : vp_in (v3 + 1) L) (p2 : vp_in (v3 + 2) L) (p3 : vp_in (v3 + 3) L) (p4 : vp_in (v3 + 4) L) (p5 : vp_in (v3 + 5) L) (j : JJ c ρ h) (hb1 : ptC ρ ≤ bc) (hb2 : ptS ρ ≤ bs) (hk : ∀ bc' bs' ρ' h2, ptC ρ' ≤ bc' → ptS ρ' ≤ bs' → JJ (c + 8) ρ' h2 → k18 (v3 + 6) bc' bs' h2) : w_L_law_B726 L xs Q k18 16 81 v3 bc bs h := by
  have X := JJ_X j
  obtain ⟨mc, ms, a1, a2, W⟩ := c_strip (x := xs (ix (v3 + 1))) (y := xs (ix (v3 + 2))) (z := xs (ix (v3 + 3))) hc j
  unfold w_L_law_B726
  exact ⟨p1, p2, p3, by omega, by omega, by omega, JJ_K j, bc - mc, bs - ms, mc, ms, by omega, by omega, W _ (fun q h1 ρ' b1 b2 k1 hM => ⟨p1, p2, p3, k1, hM _ (fun h2 j2 => ⟨fun _ => hk _ _ ρ' h2 (by omega) (by omega) (JJ_mono j2 (by omega)), fun z => absurd rfl z⟩)⟩)⟩
theorem lb_769 {L : Nat} {xs : Nat → Int32} {Q : Bool → Hp → Prop} {k18 : Int32 → Nat → Nat → Hp → Prop} {v3 : Int32} {c ρ bc bs : Nat} (hc : c < 2 ^ 30) (p1 : vp_in (v3 + 1) L) (p2 : vp_in (v3 + 2) L) (p3 : vp_in (v3 + 3) L) (p4 : vp_in (v3 + 4) L) (p5 : vp_in (v3 + 5) L) (j : JJ c ρ h) (hb1 : ptC ρ ≤ bc) (hb2 : ptS ρ ≤ bs) (hk : ∀ bc' bs' ρ' h2, ptC ρ' ≤ bc' → ptS ρ' ≤ bs' → JJ (c + 8) ρ' h2 → k18 (v3 + 6) bc' bs' h2) : w_L_law_B769 L xs Q k18 16 81 v3 bc bs h := by
  have X := JJ_X j
  obtain ⟨mc, ms, a1, a2, W⟩ := c_walks (x := xs (ix (v3 + 1))) (y := xs (ix (v3 + 2))) hc j
  unfold w_L_law_B769
  exact ⟨p1, p2, by omega, by omega, by omega, JJ_K j, bc - mc, bs - ms, mc, ms, by omega, by omega, W _ (fun q h1 ρ' b1 b2 k1 hM => ⟨p1, p2, k1, hM _ (fun h2 j2 => ⟨fun _ => hk _ _ ρ' h2 (by omega) (by omega) (JJ_mono j2 (by omega)), fun z => absurd rfl z⟩)⟩)⟩
theorem lb_803 {L : Nat} {xs : Nat → Int32} {Q : Bool → Hp → Prop} {k18 : Int32 → Nat → Nat → Hp → Prop} {v3 : Int32} {c ρ bc bs : Nat} (hc : c < 2 ^ 30) (p1 : vp_in (v3 + 1) L) (p2 : vp_in (v3 + 2) L) (p3 : vp_in (v3 + 3) L) (p4 : vp_in (v3 + 4) L) (p5 : vp_in (v3 + 5) L) (j : JJ c ρ h) (hb1 : ptC ρ ≤ bc) (hb2 : ptS ρ ≤ bs) (hk : ∀ bc' bs' ρ' h2, ptC ρ' ≤ bc' → ptS ρ' ≤ bs' → JJ (c + 8) ρ' h2 → k18 (v3 + 6) bc' bs' h2) : w_L_law_B803 L xs Q k18 16 81 v3 bc bs h := by
  have X := JJ_X j
  obtain ⟨mc, ms, a1, a2, W⟩ := c_best (x := xs (ix (v3 + 1))) (y := xs (ix (v3 + 2))) hc j
  unfold w_L_law_B803
  exact ⟨p1, p2, by omega, by omega, by omega, JJ_K j, bc - mc, bs - ms, mc, ms, by omega, by omega, W _ (fun q h1 ρ' b1 b2 k1 hM => ⟨p1, p2, k1, hM _ (fun h2 j2 => ⟨fun _ => hk _ _ ρ' h2 (by omega) (by omega) (JJ_mono j2 (by omega)), fun z => absurd rfl z⟩)⟩)⟩
theorem lb_836 {L : Nat} {xs : Nat → Int32} {Q : Bool → Hp → Prop} {k18 : Int32 → Nat → Nat → Hp → Prop} {v3 : Int32} {c ρ bc bs : Nat} (hc : c < 2 ^ 30) (p1 : vp_in (v3 + 1) L) (p2 : vp_in (v3 + 2) L) (p3 : vp_in (v3 + 3) L) (p4 : vp_in (v3 + 4) L) (p5 : vp_in (v3 + 5) L) (j : JJ c ρ h) (hb1 : ptC ρ ≤ bc) (hb2 : ptS ρ ≤ bs) (hk : ∀ bc' bs' ρ' h2, ptC ρ' ≤ bc' → ptS ρ' ≤ bs' → JJ (c + 8) ρ' h2 → k18 (v3 + 6) bc' bs' h2) : w_L_law_B836 L xs Q k18 16 81 v3 bc bs h := by
  have X := JJ_X j
  obtain ⟨mc, ms, a1, a2, W⟩ := c_step (x := xs (ix (v3 + 1))) (y := xs (ix (v3 + 2))) (z := xs (ix (v3 + 3))) hc j
  unfold w_L_law_B836
  exact ⟨p1, p2, p3, by omega, by omega, by omega, JJ_K j, bc - mc, bs - ms, mc, ms, by omega, by omega, W _ (fun q h1 ρ' b1 b2 k1 hM => ⟨p1, p2, p3, k1, hM _ (fun h2 j2 => ⟨fun _ => hk _ _ ρ' h2 (by omega) (by omega) (JJ_mono j2 (by omega)), fun z => absurd rfl z⟩)⟩)⟩
theorem lb_879 {L : Nat} {xs : Nat → Int32} {Q : Bool → Hp → Prop} {k18 : Int32 → Nat → Nat → Hp → Prop} {v3 : Int32} {c ρ bc bs : Nat} (hc : c < 2 ^ 30) (p1 : vp_in (v3 + 1) L) (p2 : vp_in (v3 + 2) L) (p3 : vp_in (v3 + 3) L) (p4 : vp_in (v3 + 4) L) (p5 : vp_in (v3 + 5) L) (j : JJ c ρ h) (hb1 : ptC ρ ≤ bc) (hb2 : ptS ρ ≤ bs) (hk : ∀ bc' bs' ρ' h2, ptC ρ' ≤ bc' → ptS ρ' ≤ bs' → JJ (c + 8) ρ' h2 → k18 (v3 + 6) bc' bs' h2) : w_L_law_B879 L xs Q k18 16 81 v3 bc bs h := by
  have X := JJ_X j
  obtain ⟨mc, ms, a1, a2, W⟩ := c_narrow (x := xs (ix (v3 + 1))) hc j
  unfold w_L_law_B879
  exact ⟨p1, by omega, by omega, by omega, JJ_K j, bc - mc, bs - ms, mc, ms, by omega, by omega, W _ (fun q h1 ρ' b1 b2 k1 hM => ⟨p1, k1, hM _ (fun h2 j2 => ⟨fun _ => hk _ _ ρ' h2 (by omega) (by omega) (JJ_mono j2 (by omega)), fun z => absurd rfl z⟩)⟩)⟩
theorem lb_902 {L : Nat} {xs : Nat → Int32} {Q : Bool → Hp → Prop} {k18 : Int32 → Nat → Nat → Hp → Prop} {v3 : Int32} {c ρ bc bs : Nat} (hc : c < 2 ^ 30) (p1 : vp_in (v3 + 1) L) (p2 : vp_in (v3 + 2) L) (p3 : vp_in (v3 + 3) L) (p4 : vp_in (v3 + 4) L) (p5 : vp_in (v3 + 5) L) (j : JJ c ρ h) (hb1 : ptC ρ ≤ bc) (hb2 : ptS ρ ≤ bs) (hk : ∀ bc' bs' ρ' h2, ptC ρ' ≤ bc' → ptS ρ' ≤ bs' → JJ (c + 8) ρ' h2 → k18 (v3 + 6) bc' bs' h2) : w_L_law_B902 L xs Q k18 16 81 v3 bc bs h := by
  unfold w_L_law_B902
  exact ⟨JJ_K j, c_fewest j (fun q h1 k1 hM => ⟨k1, hM _ (fun h2 j2 => ⟨fun _ => hk bc bs ρ h2 hb1 hb2 (JJ_mono j2 (by omega)), fun z => absurd rfl z⟩)⟩)⟩
theorem lb_915 {L : Nat} {xs : Nat → Int32} {Q : Bool → Hp → Prop} {k18 : Int32 → Nat → Nat → Hp → Prop} {v3 : Int32} {c ρ bc bs : Nat} (hc : c < 2 ^ 30) (p1 : vp_in (v3 + 1) L) (p2 : vp_in (v3 + 2) L) (p3 : vp_in (v3 + 3) L) (p4 : vp_in (v3 + 4) L) (p5 : vp_in (v3 + 5) L) (j : JJ c ρ h) (hb1 : ptC ρ ≤ bc) (hb2 : ptS ρ ≤ bs) (hk : ∀ bc' bs' ρ' h2, ptC ρ' ≤ bc' → ptS ρ' ≤ bs' → JJ (c + 8) ρ' h2 → k18 (v3 + 6) bc' bs' h2) : w_L_law_B915 L xs Q k18 16 81 v3 bc bs h := by
  unfold w_L_law_B915
  exact ⟨p1, JJ_K j, c_optimum hc j (fun q h1 k1 hM => ⟨p1, k1, hM _ (fun h2 j2 => ⟨fun _ => hk bc bs ρ h2 hb1 hb2 (JJ_mono j2 (by omega)), fun z => absurd rfl z⟩)⟩)⟩
theorem lb_938 {L : Nat} {xs : Nat → Int32} {Q : Bool → Hp → Prop} {k18 : Int32 → Nat → Nat → Hp → Prop} {v3 : Int32} {c ρ bc bs : Nat} (hc : c < 2 ^ 30) (p1 : vp_in (v3 + 1) L) (p2 : vp_in (v3 + 2) L) (p3 : vp_in (v3 + 3) L) (p4 : vp_in (v3 + 4) L) (p5 : vp_in (v3 + 5) L) (j : JJ c ρ h) (hb1 : ptC ρ ≤ bc) (hb2 : ptS ρ ≤ bs) (hk : ∀ bc' bs' ρ' h2, ptC ρ' ≤ bc' → ptS ρ' ≤ bs' → JJ (c + 8) ρ' h2 → k18 (v3 + 6) bc' bs' h2) : w_L_law_B938 L xs Q k18 16 81 v3 bc bs h := by
  unfold w_L_law_B938
  exact ⟨p1, JJ_K j, c_plan hc j (fun q h1 k1 hM => ⟨p1, k1, hM _ (fun h2 j2 => ⟨fun _ => hk bc bs ρ h2 hb1 hb2 (JJ_mono j2 (by omega)), fun z => absurd rfl z⟩)⟩)⟩
theorem lb_961 {L : Nat} {xs : Nat → Int32} {Q : Bool → Hp → Prop} {k18 : Int32 → Nat → Nat → Hp → Prop} {v3 : Int32} {c ρ bc bs : Nat} (hc : c < 2 ^ 30) (p1 : vp_in (v3 + 1) L) (p2 : vp_in (v3 + 2) L) (p3 : vp_in (v3 + 3) L) (p4 : vp_in (v3 + 4) L) (p5 : vp_in (v3 + 5) L) (j : JJ c ρ h) (hb1 : ptC ρ ≤ bc) (hb2 : ptS ρ ≤ bs) (hk : ∀ bc' bs' ρ' h2, ptC ρ' ≤ bc' → ptS ρ' ≤ bs' → JJ (c + 8) ρ' h2 → k18 (v3 + 6) bc' bs' h2) : w_L_law_B961 L xs Q k18 16 81 v3 bc bs h := by
  unfold w_L_law_B961
  exact ⟨p1, JJ_K j, c_plans hc j (fun q h1 k1 hM => ⟨p1, k1, hM _ (fun h2 j2 => ⟨fun _ => hk bc bs ρ h2 hb1 hb2 (JJ_mono j2 (by omega)), fun z => absurd rfl z⟩)⟩)⟩
theorem lb_984 {L : Nat} {xs : Nat → Int32} {Q : Bool → Hp → Prop} {k18 : Int32 → Nat → Nat → Hp → Prop} {v3 : Int32} {c ρ bc bs : Nat} (hc : c < 2 ^ 30) (p1 : vp_in (v3 + 1) L) (p2 : vp_in (v3 + 2) L) (p3 : vp_in (v3 + 3) L) (p4 : vp_in (v3 + 4) L) (p5 : vp_in (v3 + 5) L) (j : JJ c ρ h) (hb1 : ptC ρ ≤ bc) (hb2 : ptS ρ ≤ bs) (hk : ∀ bc' bs' ρ' h2, ptC ρ' ≤ bc' → ptS ρ' ≤ bs' → JJ (c + 8) ρ' h2 → k18 (v3 + 6) bc' bs' h2) : w_L_law_B984 L xs Q k18 16 81 v3 bc bs h := by
  unfold w_L_law_B984
  exact ⟨p1, JJ_K j, c_order hc j (fun q h1 k1 hM => ⟨p1, k1, hM _ (fun h2 j2 => ⟨fun _ => hk bc bs ρ h2 hb1 hb2 (JJ_mono j2 (by omega)), fun z => absurd rfl z⟩)⟩)⟩
theorem lb_1007 {L : Nat} {xs : Nat → Int32} {Q : Bool → Hp → Prop} {k18 : Int32 → Nat → Nat → Hp → Prop} {v3 : Int32} {c ρ bc bs : Nat} (hc : c < 2 ^ 30) (p1 : vp_in (v3 + 1) L) (p2 : vp_in (v3 + 2) L) (p3 : vp_in (v3 + 3) L) (p4 : vp_in (v3 + 4) L) (p5 : vp_in (v3 + 5) L) (j : JJ c ρ h) (hb1 : ptC ρ ≤ bc) (hb2 : ptS ρ ≤ bs) (hk : ∀ bc' bs' ρ' h2, ptC ρ' ≤ bc' → ptS ρ' ≤ bs' → JJ (c + 8) ρ' h2 → k18 (v3 + 6) bc' bs' h2) : w_L_law_B1007 L xs Q k18 16 81 v3 bc bs h := by
  unfold w_L_law_B1007
  exact ⟨JJ_K j, c_strays hc j (fun q h1 k1 hM => ⟨k1, hM _ (fun h2 j2 => ⟨fun _ => hk bc bs ρ h2 hb1 hb2 (JJ_mono j2 (by omega)), fun z => absurd rfl z⟩)⟩)⟩
theorem lb_1020 {L : Nat} {xs : Nat → Int32} {Q : Bool → Hp → Prop} {k18 : Int32 → Nat → Nat → Hp → Prop} {v3 : Int32} {c ρ bc bs : Nat} (hc : c < 2 ^ 30) (p1 : vp_in (v3 + 1) L) (p2 : vp_in (v3 + 2) L) (p3 : vp_in (v3 + 3) L) (p4 : vp_in (v3 + 4) L) (p5 : vp_in (v3 + 5) L) (j : JJ c ρ h) (hb1 : ptC ρ ≤ bc) (hb2 : ptS ρ ≤ bs) (hk : ∀ bc' bs' ρ' h2, ptC ρ' ≤ bc' → ptS ρ' ≤ bs' → JJ (c + 8) ρ' h2 → k18 (v3 + 6) bc' bs' h2) : w_L_law_B1020 L xs Q k18 16 81 v3 bc bs h := by
  unfold w_L_law_B1020
  exact ⟨JJ_K j, c_sorted hc j (fun q h1 k1 hM => ⟨k1, hM _ (fun h2 j2 => ⟨fun _ => hk bc bs ρ h2 hb1 hb2 (JJ_mono j2 (by omega)), fun z => absurd rfl z⟩)⟩)⟩
theorem lb_1033 {L : Nat} {xs : Nat → Int32} {Q : Bool → Hp → Prop} {k18 : Int32 → Nat → Nat → Hp → Prop} {v3 : Int32} {c ρ bc bs : Nat} (hc : c < 2 ^ 30) (p1 : vp_in (v3 + 1) L) (p2 : vp_in (v3 + 2) L) (p3 : vp_in (v3 + 3) L) (p4 : vp_in (v3 + 4) L) (p5 : vp_in (v3 + 5) L) (j : JJ c ρ h) (hb1 : ptC ρ ≤ bc) (hb2 : ptS ρ ≤ bs) (hk : ∀ bc' bs' ρ' h2, ptC ρ' ≤ bc' → ptS ρ' ≤ bs' → JJ (c + 8) ρ' h2 → k18 (v3 + 6) bc' bs' h2) : w_L_law_B1033 L xs Q k18 16 81 v3 bc bs h := by
  unfold w_L_law_B1033
  exact ⟨p1, p2, p3, JJ_K j, c_doubled hc j (fun q h1 k1 hM => ⟨p1, p2, p3, k1, hM _ (fun h2 j2 => ⟨fun _ => hk bc bs ρ h2 hb1 hb2 (JJ_mono j2 (by omega)), fun z => absurd rfl z⟩)⟩)⟩
theorem lb_1076 {L : Nat} {xs : Nat → Int32} {Q : Bool → Hp → Prop} {k18 : Int32 → Nat → Nat → Hp → Prop} {v3 : Int32} {c ρ bc bs : Nat} (hc : c < 2 ^ 30) (p1 : vp_in (v3 + 1) L) (p2 : vp_in (v3 + 2) L) (p3 : vp_in (v3 + 3) L) (p4 : vp_in (v3 + 4) L) (p5 : vp_in (v3 + 5) L) (j : JJ c ρ h) (hb1 : ptC ρ ≤ bc) (hb2 : ptS ρ ≤ bs) (hk : ∀ bc' bs' ρ' h2, ptC ρ' ≤ bc' → ptS ρ' ≤ bs' → JJ (c + 8) ρ' h2 → k18 (v3 + 6) bc' bs' h2) : w_L_law_B1076 L xs Q k18 16 81 v3 bc bs h := by
  unfold w_L_law_B1076
  exact ⟨p1, JJ_K j, c_relaxed hc j (fun q h1 k1 hM => ⟨p1, k1, hM _ (fun h2 j2 => ⟨fun _ => hk bc bs ρ h2 hb1 hb2 (JJ_mono j2 (by omega)), fun z => absurd rfl z⟩)⟩)⟩
theorem lb_1099 {L : Nat} {xs : Nat → Int32} {Q : Bool → Hp → Prop} {k18 : Int32 → Nat → Nat → Hp → Prop} {v3 : Int32} {c ρ bc bs : Nat} (hc : c < 2 ^ 30) (p1 : vp_in (v3 + 1) L) (p2 : vp_in (v3 + 2) L) (p3 : vp_in (v3 + 3) L) (p4 : vp_in (v3 + 4) L) (p5 : vp_in (v3 + 5) L) (j : JJ c ρ h) (hb1 : ptC ρ ≤ bc) (hb2 : ptS ρ ≤ bs) (hk : ∀ bc' bs' ρ' h2, ptC ρ' ≤ bc' → ptS ρ' ≤ bs' → JJ (c + 8) ρ' h2 → k18 (v3 + 6) bc' bs' h2) : w_L_law_B1099 L xs Q k18 16 81 v3 bc bs h := by
  unfold w_L_law_B1099
  exact ⟨p1, p2, JJ_K j, c_fraction hc j (fun q h1 k1 hM => ⟨p1, p2, k1, hM _ (fun h2 j2 => ⟨fun _ => hk bc bs ρ h2 hb1 hb2 (JJ_mono j2 (by omega)), fun z => absurd rfl z⟩)⟩)⟩
theorem lb_1132 {L : Nat} {xs : Nat → Int32} {Q : Bool → Hp → Prop} {k18 : Int32 → Nat → Nat → Hp → Prop} {v3 : Int32} {c ρ bc bs : Nat} (hc : c < 2 ^ 30) (p1 : vp_in (v3 + 1) L) (p2 : vp_in (v3 + 2) L) (p3 : vp_in (v3 + 3) L) (p4 : vp_in (v3 + 4) L) (p5 : vp_in (v3 + 5) L) (j : JJ c ρ h) (hb1 : ptC ρ ≤ bc) (hb2 : ptS ρ ≤ bs) (hk : ∀ bc' bs' ρ' h2, ptC ρ' ≤ bc' → ptS ρ' ≤ bs' → JJ (c + 8) ρ' h2 → k18 (v3 + 6) bc' bs' h2) : w_L_law_B1132 L xs Q k18 16 81 v3 bc bs h := by
  unfold w_L_law_B1132
  exact ⟨p1, JJ_K j, c_apart hc j (fun q h1 k1 hM => ⟨p1, k1, hM _ (fun h2 j2 => ⟨fun _ => hk bc bs ρ h2 hb1 hb2 (JJ_mono j2 (by omega)), fun z => absurd rfl z⟩)⟩)⟩
theorem lb_1155 {L : Nat} {xs : Nat → Int32} {Q : Bool → Hp → Prop} {k18 : Int32 → Nat → Nat → Hp → Prop} {v3 : Int32} {c ρ bc bs : Nat} (hc : c < 2 ^ 30) (p1 : vp_in (v3 + 1) L) (p2 : vp_in (v3 + 2) L) (p3 : vp_in (v3 + 3) L) (p4 : vp_in (v3 + 4) L) (p5 : vp_in (v3 + 5) L) (j : JJ c ρ h) (hb1 : ptC ρ ≤ bc) (hb2 : ptS ρ ≤ bs) (hk : ∀ bc' bs' ρ' h2, ptC ρ' ≤ bc' → ptS ρ' ≤ bs' → JJ (c + 8) ρ' h2 → k18 (v3 + 6) bc' bs' h2) : w_L_law_B1155 L xs Q k18 16 81 v3 bc bs h := by
  unfold w_L_law_B1155
  exact ⟨JJ_K j, c_corners hc j (fun q h1 k1 hM => ⟨k1, hM _ (fun h2 j2 => ⟨fun _ => hk bc bs ρ h2 hb1 hb2 (JJ_mono j2 (by omega)), fun z => absurd rfl z⟩)⟩)⟩
theorem lb_1168 {L : Nat} {xs : Nat → Int32} {Q : Bool → Hp → Prop} {k18 : Int32 → Nat → Nat → Hp → Prop} {v3 : Int32} {c ρ bc bs : Nat} (hc : c < 2 ^ 30) (p1 : vp_in (v3 + 1) L) (p2 : vp_in (v3 + 2) L) (p3 : vp_in (v3 + 3) L) (p4 : vp_in (v3 + 4) L) (p5 : vp_in (v3 + 5) L) (j : JJ c ρ h) (hb1 : ptC ρ ≤ bc) (hb2 : ptS ρ ≤ bs) (hk : ∀ bc' bs' ρ' h2, ptC ρ' ≤ bc' → ptS ρ' ≤ bs' → JJ (c + 8) ρ' h2 → k18 (v3 + 6) bc' bs' h2) : w_L_law_B1168 L xs Q k18 16 81 v3 bc bs h := by
  unfold w_L_law_B1168
  exact ⟨p1, p2, p3, JJ_K j, c_drawn hc j (fun q h1 k1 hM => ⟨p1, p2, p3, k1, hM _ (fun h2 j2 => ⟨fun _ => hk bc bs ρ h2 hb1 hb2 (JJ_mono j2 (by omega)), fun z => absurd rfl z⟩)⟩)⟩
theorem lb_1211 {L : Nat} {xs : Nat → Int32} {Q : Bool → Hp → Prop} {k18 : Int32 → Nat → Nat → Hp → Prop} {v3 : Int32} {c ρ bc bs : Nat} (hc : c < 2 ^ 30) (p1 : vp_in (v3 + 1) L) (p2 : vp_in (v3 + 2) L) (p3 : vp_in (v3 + 3) L) (p4 : vp_in (v3 + 4) L) (p5 : vp_in (v3 + 5) L) (j : JJ c ρ h) (hb1 : ptC ρ ≤ bc) (hb2 : ptS ρ ≤ bs) (hk : ∀ bc' bs' ρ' h2, ptC ρ' ≤ bc' → ptS ρ' ≤ bs' → JJ (c + 8) ρ' h2 → k18 (v3 + 6) bc' bs' h2) : w_L_law_B1211 L xs Q k18 16 81 v3 bc bs h := by
  unfold w_L_law_B1211
  exact ⟨p1, p2, JJ_K j, c_chance hc j (fun q h1 k1 hM => ⟨p1, p2, k1, hM _ (fun h2 j2 => ⟨fun _ => hk bc bs ρ h2 hb1 hb2 (JJ_mono j2 (by omega)), fun z => absurd rfl z⟩)⟩)⟩
theorem lb_1315 {L : Nat} {xs : Nat → Int32} {Q : Bool → Hp → Prop} {k18 : Int32 → Nat → Nat → Hp → Prop} {v3 : Int32} {c ρ bc bs : Nat} (hc : c < 2 ^ 30) (p1 : vp_in (v3 + 1) L) (p2 : vp_in (v3 + 2) L) (p3 : vp_in (v3 + 3) L) (p4 : vp_in (v3 + 4) L) (p5 : vp_in (v3 + 5) L) (j : JJ c ρ h) (hb1 : ptC ρ ≤ bc) (hb2 : ptS ρ ≤ bs) (hk : ∀ bc' bs' ρ' h2, ptC ρ' ≤ bc' → ptS ρ' ≤ bs' → JJ (c + 8) ρ' h2 → k18 (v3 + 6) bc' bs' h2) {q : Int32} {h1 : Hp} {t x y z w : Int32} (k1 : gK h1 81 = 12) (hM : ∀ S : Int32 → Hp → Prop, (∀ h2, JJ (c + 8) ρ h2 → S q h2) → w_M_seen 81 t x y z w h1 S) : w_L_law_B1315 L xs Q k18 16 81 v3 q 81 t x y z w bc bs h1 := by
  unfold w_L_law_B1315
  exact ⟨k1, hM _ (fun h2 j2 => ⟨fun _ => hk bc bs ρ h2 hb1 hb2 j2, fun z => absurd rfl z⟩)⟩
theorem lb_1244 {L : Nat} {xs : Nat → Int32} {Q : Bool → Hp → Prop} {k18 : Int32 → Nat → Nat → Hp → Prop} {v3 : Int32} {c ρ bc bs : Nat} (hc : c < 2 ^ 30) (p1 : vp_in (v3 + 1) L) (p2 : vp_in (v3 + 2) L) (p3 : vp_in (v3 + 3) L) (p4 : vp_in (v3 + 4) L) (p5 : vp_in (v3 + 5) L) (j : JJ c ρ h) (hb1 : ptC ρ ≤ bc) (hb2 : ptS ρ ≤ bs) (hk : ∀ bc' bs' ρ' h2, ptC ρ' ≤ bc' → ptS ρ' ≤ bs' → JJ (c + 8) ρ' h2 → k18 (v3 + 6) bc' bs' h2) : w_L_law_B1244 L xs Q k18 16 81 v3 bc bs h := by
  unfold w_L_law_B1244
  refine ⟨p1, p2, p3, p4, p5, fun z => ?_, fun z => ?_⟩
  · unfold w_L_law_B1278
    exact ⟨JJ_K j, c_seen (d := false) hc j (fun q h1 k1 hM => ⟨p1, p2, p3, p4, p5, fun _ => lb_1315 hc p1 p2 p3 p4 p5 j hb1 hb2 hk k1 hM, fun z' => absurd z z'⟩)⟩
  · unfold w_L_law_B1278
    exact ⟨JJ_K j, c_seen (d := true) hc j (fun q h1 k1 hM => ⟨p1, p2, p3, p4, p5, fun z' => absurd z' z, fun _ => lb_1315 hc p1 p2 p3 p4 p5 j hb1 hb2 hk k1 hM⟩)⟩
theorem lb_1323 {L : Nat} {xs : Nat → Int32} {Q : Bool → Hp → Prop} {k18 : Int32 → Nat → Nat → Hp → Prop} {v3 : Int32} {c ρ bc bs : Nat} (hc : c < 2 ^ 30) (p1 : vp_in (v3 + 1) L) (p2 : vp_in (v3 + 2) L) (p3 : vp_in (v3 + 3) L) (p4 : vp_in (v3 + 4) L) (p5 : vp_in (v3 + 5) L) (j : JJ c ρ h) (hb1 : ptC ρ ≤ bc) (hb2 : ptS ρ ≤ bs) (hk : ∀ bc' bs' ρ' h2, ptC ρ' ≤ bc' → ptS ρ' ≤ bs' → JJ (c + 8) ρ' h2 → k18 (v3 + 6) bc' bs' h2) : w_L_law_B1323 L xs Q k18 16 81 v3 bc bs h := by
  unfold w_L_law_B1323
  exact ⟨p1, JJ_K j, c_untell hc j (fun q h1 k1 hM => ⟨p1, k1, hM _ (fun h2 j2 => ⟨fun _ => hk bc bs ρ h2 hb1 hb2 (JJ_mono j2 (by omega)), fun z => absurd rfl z⟩)⟩)⟩
theorem lb_1346 {L : Nat} {xs : Nat → Int32} {Q : Bool → Hp → Prop} {k18 : Int32 → Nat → Nat → Hp → Prop} {v3 : Int32} {c ρ bc bs : Nat} (hc : c < 2 ^ 30) (p1 : vp_in (v3 + 1) L) (p2 : vp_in (v3 + 2) L) (p3 : vp_in (v3 + 3) L) (p4 : vp_in (v3 + 4) L) (p5 : vp_in (v3 + 5) L) (j : JJ c ρ h) (hb1 : ptC ρ ≤ bc) (hb2 : ptS ρ ≤ bs) (hk : ∀ bc' bs' ρ' h2, ptC ρ' ≤ bc' → ptS ρ' ≤ bs' → JJ (c + 8) ρ' h2 → k18 (v3 + 6) bc' bs' h2) : w_L_law_B1346 L xs Q k18 16 81 v3 bc bs h := by
  unfold w_L_law_B1346
  exact ⟨p1, JJ_K j, c_later hc j (fun q h1 k1 hM => ⟨p1, k1, hM _ (fun h2 j2 => ⟨fun _ => hk bc bs ρ h2 hb1 hb2 (JJ_mono j2 (by omega)), fun z => absurd rfl z⟩)⟩)⟩
theorem lb_1369 {L : Nat} {xs : Nat → Int32} {Q : Bool → Hp → Prop} {k18 : Int32 → Nat → Nat → Hp → Prop} {v3 : Int32} {c ρ bc bs : Nat} (hc : c < 2 ^ 30) (p1 : vp_in (v3 + 1) L) (p2 : vp_in (v3 + 2) L) (p3 : vp_in (v3 + 3) L) (p4 : vp_in (v3 + 4) L) (p5 : vp_in (v3 + 5) L) (j : JJ c ρ h) (hb1 : ptC ρ ≤ bc) (hb2 : ptS ρ ≤ bs) (hk : ∀ bc' bs' ρ' h2, ptC ρ' ≤ bc' → ptS ρ' ≤ bs' → JJ (c + 8) ρ' h2 → k18 (v3 + 6) bc' bs' h2) : w_L_law_B1369 L xs Q k18 16 81 v3 bc bs h := by
  unfold w_L_law_B1369
  exact ⟨p1, JJ_K j, c_fits hc j (fun q h1 k1 hM => ⟨p1, k1, hM _ (fun h2 j2 => ⟨fun _ => hk bc bs ρ h2 hb1 hb2 (JJ_mono j2 (by omega)), fun z => absurd rfl z⟩)⟩)⟩
theorem lb_1392 {L : Nat} {xs : Nat → Int32} {Q : Bool → Hp → Prop} {k18 : Int32 → Nat → Nat → Hp → Prop} {v3 : Int32} {c ρ bc bs : Nat} (hc : c < 2 ^ 30) (p1 : vp_in (v3 + 1) L) (p2 : vp_in (v3 + 2) L) (p3 : vp_in (v3 + 3) L) (p4 : vp_in (v3 + 4) L) (p5 : vp_in (v3 + 5) L) (j : JJ c ρ h) (hb1 : ptC ρ ≤ bc) (hb2 : ptS ρ ≤ bs) (hk : ∀ bc' bs' ρ' h2, ptC ρ' ≤ bc' → ptS ρ' ≤ bs' → JJ (c + 8) ρ' h2 → k18 (v3 + 6) bc' bs' h2) : w_L_law_B1392 L xs Q k18 16 81 v3 bc bs h := by
  unfold w_L_law_B1392
  exact ⟨p1, p2, JJ_K j, c_fit hc j (fun q h1 k1 hM => ⟨p1, p2, k1, hM _ (fun h2 j2 => ⟨fun _ => hk bc bs ρ h2 hb1 hb2 (JJ_mono j2 (by omega)), fun z => absurd rfl z⟩)⟩)⟩
theorem lb_1425 {L : Nat} {xs : Nat → Int32} {Q : Bool → Hp → Prop} {k18 : Int32 → Nat → Nat → Hp → Prop} {v3 : Int32} {c ρ bc bs : Nat} (hc : c < 2 ^ 30) (p1 : vp_in (v3 + 1) L) (p2 : vp_in (v3 + 2) L) (p3 : vp_in (v3 + 3) L) (p4 : vp_in (v3 + 4) L) (p5 : vp_in (v3 + 5) L) (j : JJ c ρ h) (hb1 : ptC ρ ≤ bc) (hb2 : ptS ρ ≤ bs) (hk : ∀ bc' bs' ρ' h2, ptC ρ' ≤ bc' → ptS ρ' ≤ bs' → JJ (c + 8) ρ' h2 → k18 (v3 + 6) bc' bs' h2) : w_L_law_B1425 L xs Q k18 16 81 v3 bc bs h := by
  unfold w_L_law_B1425
  exact ⟨p1, p2, p3, JJ_K j, c_ask hc j (fun q h1 k1 hM => ⟨p1, p2, p3, k1, hM _ (fun h2 j2 => ⟨fun _ => hk bc bs ρ h2 hb1 hb2 (JJ_mono j2 (by omega)), fun z => absurd rfl z⟩)⟩)⟩
theorem lb_1468 {L : Nat} {xs : Nat → Int32} {Q : Bool → Hp → Prop} {k18 : Int32 → Nat → Nat → Hp → Prop} {v3 : Int32} {c ρ bc bs : Nat} (hc : c < 2 ^ 30) (p1 : vp_in (v3 + 1) L) (p2 : vp_in (v3 + 2) L) (p3 : vp_in (v3 + 3) L) (p4 : vp_in (v3 + 4) L) (p5 : vp_in (v3 + 5) L) (j : JJ c ρ h) (hb1 : ptC ρ ≤ bc) (hb2 : ptS ρ ≤ bs) (hk : ∀ bc' bs' ρ' h2, ptC ρ' ≤ bc' → ptS ρ' ≤ bs' → JJ (c + 8) ρ' h2 → k18 (v3 + 6) bc' bs' h2) : w_L_law_B1468 L xs Q k18 16 81 v3 bc bs h := by
  unfold w_L_law_B1468
  exact ⟨p1, JJ_K j, c_image hc j (fun q h1 k1 hM => ⟨p1, k1, hM _ (fun h2 j2 => ⟨fun _ => hk bc bs ρ h2 hb1 hb2 (JJ_mono j2 (by omega)), fun z => absurd rfl z⟩)⟩)⟩
theorem lb_1491 {L : Nat} {xs : Nat → Int32} {Q : Bool → Hp → Prop} {k18 : Int32 → Nat → Nat → Hp → Prop} {v3 : Int32} {c ρ bc bs : Nat} (hc : c < 2 ^ 30) (p1 : vp_in (v3 + 1) L) (p2 : vp_in (v3 + 2) L) (p3 : vp_in (v3 + 3) L) (p4 : vp_in (v3 + 4) L) (p5 : vp_in (v3 + 5) L) (j : JJ c ρ h) (hb1 : ptC ρ ≤ bc) (hb2 : ptS ρ ≤ bs) (hk : ∀ bc' bs' ρ' h2, ptC ρ' ≤ bc' → ptS ρ' ≤ bs' → JJ (c + 8) ρ' h2 → k18 (v3 + 6) bc' bs' h2) : w_L_law_B1491 L xs Q k18 16 81 v3 bc bs h := by
  unfold w_L_law_B1491
  exact ⟨p1, JJ_K j, c_back hc j (fun q h1 k1 hM => ⟨p1, k1, hM _ (fun h2 j2 => ⟨fun _ => hk bc bs ρ h2 hb1 hb2 (JJ_mono j2 (by omega)), fun z => absurd rfl z⟩)⟩)⟩
theorem lb_1514 {L : Nat} {xs : Nat → Int32} {Q : Bool → Hp → Prop} {k18 : Int32 → Nat → Nat → Hp → Prop} {v3 : Int32} {c ρ bc bs : Nat} (hc : c < 2 ^ 30) (p1 : vp_in (v3 + 1) L) (p2 : vp_in (v3 + 2) L) (p3 : vp_in (v3 + 3) L) (p4 : vp_in (v3 + 4) L) (p5 : vp_in (v3 + 5) L) (j : JJ c ρ h) (hb1 : ptC ρ ≤ bc) (hb2 : ptS ρ ≤ bs) (hk : ∀ bc' bs' ρ' h2, ptC ρ' ≤ bc' → ptS ρ' ≤ bs' → JJ (c + 8) ρ' h2 → k18 (v3 + 6) bc' bs' h2) : w_L_law_B1514 L xs Q k18 16 81 v3 bc bs h := by
  unfold w_L_law_B1514
  exact ⟨p1, JJ_K j, c_about hc j (fun q h1 k1 hM => ⟨p1, k1, hM _ (fun h2 j2 => ⟨fun _ => hk bc bs ρ h2 hb1 hb2 (JJ_mono j2 (by omega)), fun z => absurd rfl z⟩)⟩)⟩
set_option maxRecDepth 100000 in
theorem t_law {L : Nat} {xs : Nat → Int32} {Q : Bool → Hp → Prop} (hL : L ≤ 3072) (hQ : ∀ h, Q true h) : ∀ (m k ρ bc bs : Nat) (h : Hp), L < 6 * k + 6 * m + 6 → 6 * k ≤ L → JJ (8 * k) ρ h → ptC ρ ≤ bc → ptS ρ ≤ bs → w_L_law_L18 L xs Q 16 81 (m + 1) (nI (6 * k)) bc bs h := by
  intro m
  induction m with
  | zero =>
    intro k ρ bc bs h a1 a2 j hb1 hb2
    unfold w_L_law_L18
    exact ⟨fun _ => hQ h, fun z => absurd ((sub6_lt hL (by omega)).mpr (by omega)) z⟩
  | succ m' ih =>
    intro k ρ bc bs h a1 a2 j hb1 hb2
    unfold w_L_law_L18
    by_cases g : L < 6 * k + 6
    · exact ⟨fun _ => hQ h, fun z => absurd ((sub6_lt hL (by omega)).mpr g) z⟩
    have hc : 8 * k < 2 ^ 30 := by omega
    have s : ∀ i : Nat, nI (6 * k) + nI i = nI (6 * k + i) := fun i => nI_add _ _
    have p : ∀ i : Nat, i ≤ 5 → vp_in (nI (6 * k) + nI i) L := fun i hi => by rw [s i]; exact vp_in_nI (by omega) (by omega)
    have p1 : vp_in (nI (6 * k) + 1) L := p 1 (by decide)
    have p2 : vp_in (nI (6 * k) + 2) L := p 2 (by decide)
    have p3 : vp_in (nI (6 * k) + 3) L := p 3 (by decide)
    have p4 : vp_in (nI (6 * k) + 4) L := p 4 (by decide)
    have p5 : vp_in (nI (6 * k) + 5) L := p 5 (by decide)
    have hk : ∀ bc' bs' ρ' h2, ptC ρ' ≤ bc' → ptS ρ' ≤ bs' → JJ (8 * k + 8) ρ' h2 → w_L_law_L18 L xs Q 16 81 (m' + 1) (nI (6 * k) + 6) bc' bs' h2 := fun bc' bs' ρ' h2 q1 q2 q3 => by
      rw [show nI (6 * k) + 6 = nI (6 * (k + 1)) from s 6]
      exact ih (k + 1) ρ' bc' bs' h2 (by omega) (by omega) q3 q1 q2
    refine ⟨fun z => absurd ((sub6_lt hL (by omega)).mp z) g, fun _ => ⟨vp_in_nI (by omega) (by omega), fun _ => hk bc bs ρ h hb1 hb2 (JJ_mono j (by omega)),
      fun _ => lb_232 hc p1 p2 p3 p4 p5 j hb1 hb2 hk,
      fun _ => lb_295 hc p1 p2 p3 p4 p5 j hb1 hb2 hk,
      fun _ => lb_318 hc p1 p2 p3 p4 p5 j hb1 hb2 hk,
      fun _ => lb_331 hc p1 p2 p3 p4 p5 j hb1 hb2 hk,
      fun _ => lb_354 hc p1 p2 p3 p4 p5 j hb1 hb2 hk,
      fun _ => lb_387 hc p1 p2 p3 p4 p5 j hb1 hb2 hk,
      fun _ => lb_410 hc p1 p2 p3 p4 p5 j hb1 hb2 hk,
      fun _ => lb_433 hc p1 p2 p3 p4 p5 j hb1 hb2 hk,
      fun _ => lb_476 hc p1 p2 p3 p4 p5 j hb1 hb2 hk,
      fun _ => lb_509 hc p1 p2 p3 p4 p5 j hb1 hb2 hk,
      fun _ => lb_542 hc p1 p2 p3 p4 p5 j hb1 hb2 hk,
      fun _ => lb_565 hc p1 p2 p3 p4 p5 j hb1 hb2 hk,
      fun _ => lb_598 hc p1 p2 p3 p4 p5 j hb1 hb2 hk,
      fun _ => lb_621 hc p1 p2 p3 p4 p5 j hb1 hb2 hk,
      fun _ => lb_634 hc p1 p2 p3 p4 p5 j hb1 hb2 hk,
      fun _ => lb_647 hc p1 p2 p3 p4 p5 j hb1 hb2 hk,
      fun _ => lb_670 hc p1 p2 p3 p4 p5 j hb1 hb2 hk,
      fun _ => lb_693 hc p1 p2 p3 p4 p5 j hb1 hb2 hk,
      fun _ => lb_726 hc p1 p2 p3 p4 p5 j hb1 hb2 hk,
      fun _ => lb_769 hc p1 p2 p3 p4 p5 j hb1 hb2 hk,
      fun _ => lb_803 hc p1 p2 p3 p4 p5 j hb1 hb2 hk,
      fun _ => lb_836 hc p1 p2 p3 p4 p5 j hb1 hb2 hk,
      fun _ => lb_879 hc p1 p2 p3 p4 p5 j hb1 hb2 hk,
      fun _ => lb_902 hc p1 p2 p3 p4 p5 j hb1 hb2 hk,
      fun _ => lb_915 hc p1 p2 p3 p4 p5 j hb1 hb2 hk,
      fun _ => lb_938 hc p1 p2 p3 p4 p5 j hb1 hb2 hk,
      fun _ => lb_961 hc p1 p2 p3 p4 p5 j hb1 hb2 hk,
      fun _ => lb_984 hc p1 p2 p3 p4 p5 j hb1 hb2 hk,
      fun _ => lb_1007 hc p1 p2 p3 p4 p5 j hb1 hb2 hk,
      fun _ => lb_1020 hc p1 p2 p3 p4 p5 j hb1 hb2 hk,
      fun _ => lb_1033 hc p1 p2 p3 p4 p5 j hb1 hb2 hk,
      fun _ => lb_1076 hc p1 p2 p3 p4 p5 j hb1 hb2 hk,
      fun _ => lb_1099 hc p1 p2 p3 p4 p5 j hb1 hb2 hk,
      fun _ => lb_1132 hc p1 p2 p3 p4 p5 j hb1 hb2 hk,
      fun _ => lb_1155 hc p1 p2 p3 p4 p5 j hb1 hb2 hk,
      fun _ => lb_1168 hc p1 p2 p3 p4 p5 j hb1 hb2 hk,
      fun _ => lb_1211 hc p1 p2 p3 p4 p5 j hb1 hb2 hk,
      fun _ => lb_1244 hc p1 p2 p3 p4 p5 j hb1 hb2 hk,
      fun _ => lb_1323 hc p1 p2 p3 p4 p5 j hb1 hb2 hk,
      fun _ => lb_1346 hc p1 p2 p3 p4 p5 j hb1 hb2 hk,
      fun _ => lb_1369 hc p1 p2 p3 p4 p5 j hb1 hb2 hk,
      fun _ => lb_1392 hc p1 p2 p3 p4 p5 j hb1 hb2 hk,
      fun _ => lb_1425 hc p1 p2 p3 p4 p5 j hb1 hb2 hk,
      fun _ => lb_1468 hc p1 p2 p3 p4 p5 j hb1 hb2 hk,
      fun _ => lb_1491 hc p1 p2 p3 p4 p5 j hb1 hb2 hk,
      fun _ => lb_1514 hc p1 p2 p3 p4 p5 j hb1 hb2 hk⟩⟩
