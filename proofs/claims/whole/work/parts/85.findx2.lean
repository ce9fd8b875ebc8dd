/-! The class's corners, kept -/
variable {h : Hp}
theorem KC_keep {f : Nat → Int32} {n : Nat} {o : Option (Nat × (Nat → Int) × Int)} {h' : Hp} (a : KC f n o h) (h1 : gI h' 56 10 = gI h 56 10) (h2 : gL h' 56 11 = gL h 56 11) (h3 : gL h' 56 12 = gL h 56 12) (h4 : gL h' 59 = gL h 59) : KC f n o h' := fun v hv => by
  have := a v hv
  rw [h1, h2, h3, h4]
  exact this
/-- the corners stand, and whether gains have no end -/
def VC (f : Nat → Int32) (n : Nat) (h : Hp) : Prop := gI h 56 8 = nI (crF f n (2 ^ n)).1 ∧ KC f n (crF f n (2 ^ n)).2 h ∧ ∃ e : Bool, gI h 56 9 = b2i e ∧ (e = true ↔ (crF f n (2 ^ n)).1 ≠ 0 ∧ rndP f n)
def KK (f : Nat → Int32) (n b : Nat) (h : Hp) : Prop := gI h 56 6 = 0 ∨ ∃ a, a ≤ b ∧ gI h 56 7 = nI a ∧ (a = b → VC f n h)
theorem brS_eq {f : Nat → Int32} {n s : Nat} : brS f (bN f) n s = if cnS (bS s) n ≤ 3 then barS f (if (3 : Nat) = 4 then fun _ => 0 else bN f) (bS s) n 3 else none := by
  unfold brS
  rw [if_neg (show ¬ (3 : Nat) = 4 by decide)]
theorem Gn_bd4 {f : Nat → Int32} {n : Nat} {Y : Nat → Int} (hG : GB f n) (hn : n ≤ 8) (wb : ∀ c, 0 ≤ Y c ∧ Y c ≤ 3840000) : (Gn f Y n).natAbs ≤ 3041280000 := by
  have h1 := Gn_bd (K := 3840000) hG (fun c => by have := wb c; omega : ∀ c, (Y c).natAbs ≤ 3840000) n (Nat.le_refl _)
  have h2 := Nat.mul_le_mul_right (99 * 3840000) hn
  exact Nat.le_trans h1 (Nat.le_trans h2 (by decide))
theorem t_Cr_find {f : Nat → Int32} {r n b : Nat} {Q : Hp → Prop} (c0 : CN f r n h) (hb : gI h 21 3 = nI b) (hb2 : b < 2 ^ 31) (kk : KK f n b h) (hq : ∀ h', Fx [56, 58] [56, 57, 59] h h' → VC f n h' → KK f n b h' → Q h') : w_Cr_find 56 h Q := by
  have m := c0.1
  have hn := c0.2.1.2.2.2.2.2
  have hr := c0.2.1.2.2.2.2.1
  have hF := c0.2.2.2.1
  have hN := c0.2.2.2.2.1
  have hG := c0.2.2.2.2.2.1
  have p8 := pow8 hn
  have hbb := bN_bd hN
  have lay : w_Cr_find_B22 Q 56 h := by
    unfold w_Cr_find_B22
    rw [X_r56_0 m, gI_sI, if_neg (by decide), hb]
    have f0 : Fx [56, 58] [56, 57, 59] h (sI (sI (sI (sI h 56 6 1) 56 7 (nI b)) 56 8 0) 56 9 0) := fx_trans (fx_trans (fx_trans (fx_sI _ _ (by simp)) (fx_sI _ _ (by simp))) (fx_sI _ _ (by simp))) (fx_sI _ _ (by simp))
    have e7 : gI (sI (sI (sI (sI h 56 6 1) 56 7 (nI b)) 56 8 0) 56 9 0) 56 7 = nI b := by rw [gI_sI, if_neg (by decide), gI_sI, if_neg (by decide), gI_sI, if_pos ⟨rfl, rfl⟩]
    have e8 : gI (sI (sI (sI (sI h 56 6 1) 56 7 (nI b)) 56 8 0) 56 9 0) 56 8 = 0 := by rw [gI_sI, if_neg (by decide), gI_sI, if_pos ⟨rfl, rfl⟩]
    have e9 : gI (sI (sI (sI (sI h 56 6 1) 56 7 (nI b)) 56 8 0) 56 9 0) 56 9 = 0 := by rw [gI_sI, if_pos ⟨rfl, rfl⟩]
    refine ⟨X_k56 m, c0.2.1.1.1, ?_⟩
    refine loop_0 (fun a s y => w_Cr_find_L50 Q 56 a (nI s) y) (fun s y => Fx [56, 58] [56, 57, 59] h y ∧ gI y 56 7 = nI b ∧ gI y 56 9 = 0 ∧ gI y 56 8 = nI (crF f n s).1 ∧ KC f n (crF f n s).2 y) (2 ^ n) _ ⟨f0, e7, e9, e8, fun v hv => by cases hv⟩ ?_ ?_
    · rintro a y ⟨fy, y7, y9, y8, ky⟩
      have cy := CN_fx c0 fy (by decide) (by decide)
      have cle := crF_le f n (2 ^ n)
      unfold w_Cr_find_L50
      rw [X_r56_0 cy.1, cy.2.1.2.2.1, shl8 hn]
      refine ⟨X_k56 cy.1, cy.2.1.1.1, fun _ => ?_, fun z => absurd (Int32.le_refl _) z⟩
      have pw : 0 < 2 ^ n := Nat.two_pow_pos n
      have er := end_rnd (r := r) hF hn hr
      have done : ∀ (e : Bool) (z : Hp), Fx [56, 58] [56, 57, 59] h z → gI z 56 7 = nI b → gI z 56 8 = nI (crF f n (2 ^ n)).1 → KC f n (crF f n (2 ^ n)).2 z → gI z 56 9 = b2i e → (e = true ↔ (crF f n (2 ^ n)).1 ≠ 0 ∧ rndP f n) → Q z := fun e z fz z7 z8 kz z9 he => by
        have vc : VC f n z := ⟨z8, kz, e, z9, he⟩
        exact hq z fz vc (Or.inr ⟨b, Nat.le_refl _, z7, fun _ => vc⟩)
      refine loop_0 (fun a s z => w_Cr_find_L95 Q 56 a (nI (s + 1)) z) (fun s z => Fx [56, 58] [56, 57, 59] h z ∧ gI z 56 7 = nI b ∧ gI z 56 8 = nI (crF f n (2 ^ n)).1 ∧ KC f n (crF f n (2 ^ n)).2 z ∧ ∃ e : Bool, gI z 56 9 = b2i e ∧ ((∃ s', 1 ≤ s' ∧ s' < s + 1 ∧ ∃ w, br4 f n s' = some w ∧ 0 < Gn f w.1 n) → e = true) ∧ (e = true → (crF f n (2 ^ n)).1 ≠ 0 ∧ endX f n)) (2 ^ n - 1) y ⟨fy, y7, y8, ky, false, y9, fun ⟨s', h1, h2, _⟩ => by omega, fun g => absurd g (by decide)⟩ ?_ ?_
      · rintro a z ⟨fz, z7, z8, kz, e, z9, ze1, ze2⟩
        have cz := CN_fx c0 fz (by decide) (by decide)
        unfold w_Cr_find_L95
        rw [X_r56_0 cz.1, cz.2.1.2.2.1, shl8 hn, show 2 ^ n - 1 + 1 = 2 ^ n from by omega]
        refine ⟨X_k56 cz.1, cz.2.1.1.1, fun _ => ?_, fun w => absurd (Int32.le_refl _) w⟩
        by_cases k0 : (crF f n (2 ^ n)).1 = 0
        · refine done false z fz z7 z8 kz ?_ ⟨fun g => absurd g (by decide), fun g => absurd k0 g.1⟩
          cases e
          · exact z9
          · exact absurd k0 (ze2 rfl).1
        · refine done e z fz z7 z8 kz z9 ⟨fun g => ⟨k0, er.mp (ze2 g).2⟩, fun g => ze1 ?_⟩
          obtain ⟨s', h1, h2, h3⟩ := er.mpr g.2
          exact ⟨s', h1, by omega, h3⟩
      · rintro a s z hs ⟨fz, z7, z8, kz, e, z9, ze1, ze2⟩ ih
        have cz := CN_fx c0 fz (by decide) (by decide)
        unfold w_Cr_find_L95
        rw [X_r56_0 cz.1, cz.2.1.2.2.1, shl8 hn, z8, z9, nI_1]
        refine ⟨X_k56 cz.1, cz.2.1.1.1, fun w => absurd w (nI_ge (by omega) (by omega)), fun _ => ⟨fun w => ?_, fun w => ?_⟩⟩
        · have k0 : (crF f n (2 ^ n)).1 = 0 := by
            by_cases g : (crF f n (2 ^ n)).1 = 0
            · exact g
            · exact absurd w (nI_nle (by omega) (by omega))
          refine done false z fz z7 z8 kz ?_ ⟨fun g => absurd g (by decide), fun g => absurd k0 g.1⟩
          cases e
          · exact z9
          · exact absurd k0 (ze2 rfl).1
        · have k0 : (crF f n (2 ^ n)).1 ≠ 0 := fun g => w (by rw [g]; exact Int32.le_refl _)
          refine ⟨fun x => ?_, fun x => ?_⟩
          · have e0 : e = false := by
              cases e
              · rfl
              · exact absurd x (by decide)
            have next : ∀ (e' : Bool) (z' : Hp), Fx [56, 58] [56, 57, 59] z z' → (∀ k, k ≠ 4 → k ≠ 9 → gI z' 56 k = gI z 56 k) → (∀ k, k ≠ 5 → gL z' 56 k = gL z 56 k) → gL z' 59 = gL z 59 → gI z' 56 9 = b2i e' → (e' = true ↔ ∃ w, br4 f n (s + 1) = some w ∧ 0 < Gn f w.1 n) → w_Cr_find_L95 Q 56 a (nI (s + 1 + 1)) z' := fun e' z' f' kI kL k59 k9 he => by
              refine ih z' ⟨fx_trans fz f', (kI 7 (by decide) (by decide)).trans z7, (kI 8 (by decide) (by decide)).trans z8, KC_keep kz (kI 10 (by decide) (by decide)) (kL 11 (by decide)) (kL 12 (by decide)) k59, e', k9, fun g => ?_, fun g => ⟨k0, s + 1, by omega, by omega, he.mp g⟩⟩
              obtain ⟨s', h1, h2, h3⟩ := g
              by_cases g2 : s' = s + 1
              · rw [g2] at h3; exact he.mpr h3
              · have := ze1 ⟨s', h1, by omega, h3⟩
                rw [e0] at this
                cases this
            refine t_Cr_solve (lines := 4) cz (by omega) (Or.inr rfl) (fun z' f' kI kL hno => ⟨fun _ => ⟨X_k56 (fx_XS f' cz.1), ?_⟩, fun y => absurd rfl y⟩) (fun z' w' f' kI kL le hyes so => ⟨fun y => absurd y (by decide), fun _ => ⟨X_k56 (fx_XS f' cz.1), ?_⟩⟩)
            · refine next false _ (fx_trans (fx_mono f' (by simp) (by simp)) (fx_sI _ _ (by simp))) (fun k h4 h9 => by rw [gI_sI, if_neg (fun y => h9 y.2)]; exact kI k h4) (fun k hk => by rw [gL_sI]; exact kL k hk) (by rw [gL_sI]; exact fx_L f' (by decide)) (by rw [gI_sI, if_pos ⟨rfl, rfl⟩]; rfl) ⟨fun g => absurd g (by decide), fun ⟨w2, g, _⟩ => ?_⟩
              unfold br4 at g
              by_cases le : cnS (bS (s + 1)) n ≤ 4
              · have := hno le
                rw [if_pos rfl] at this
                rw [if_pos le, this] at g
                cases g
              · rw [if_neg le] at g; cases g
            · rw [if_pos rfl] at hyes
              obtain ⟨-, -, w0, -, -, wb⟩ := barS_some hF (fun o _ => Nat.zero_le _) (by omega) le hyes
              have eb : br4 f n (s + 1) = some w' := by unfold br4; rw [if_pos le]; exact hyes
              have c' := CN_fx cz f' (by decide) (by decide)
              have gb : (Gn f w'.1 n).natAbs ≤ 3041280000 := Gn_bd4 hG hn wb
              refine t_Cr_solvedGain c' so le wb w0 ⟨fun y => ⟨X_k56 c'.1, ?_⟩, fun y => ⟨X_k56 c'.1, ?_⟩⟩
              · have y := (lI_le0 (by omega)).mp y
                refine next false _ (fx_trans (fx_mono f' (by simp) (by simp)) (fx_sI _ _ (by simp))) (fun k h4 h9 => by rw [gI_sI, if_neg (fun y => h9 y.2)]; exact kI k h4) (fun k hk => by rw [gL_sI]; exact kL k hk) (by rw [gL_sI]; exact fx_L f' (by decide)) (by rw [gI_sI, if_pos ⟨rfl, rfl⟩]; rfl) ⟨fun g => absurd g (by decide), fun ⟨w2, g, g2⟩ => ?_⟩
                rw [eb] at g
                injection g with g
                rw [← g] at g2
                omega
              · have y : ¬ Gn f w'.1 n ≤ 0 := fun g => y ((lI_le0 (by omega)).mpr g)
                exact next true _ (fx_trans (fx_mono f' (by simp) (by simp)) (fx_sI _ _ (by simp))) (fun k h4 h9 => by rw [gI_sI, if_neg (fun y => h9 y.2)]; exact kI k h4) (fun k hk => by rw [gL_sI]; exact kL k hk) (by rw [gL_sI]; exact fx_L f' (by decide)) (by rw [gI_sI, if_pos ⟨rfl, rfl⟩]; rfl) ⟨fun _ => ⟨w', eb, by omega⟩, fun _ => rfl⟩
          · have e1 : e = true := by
              cases e
              · exact absurd rfl x
              · rfl
            have := ze2 e1
            exact done e z fz z7 z8 kz z9 ⟨fun _ => ⟨this.1, er.mp this.2⟩, fun _ => e1⟩
    · rintro a s y hs ⟨fy, y7, y9, y8, ky⟩ ih
      have cy := CN_fx c0 fy (by decide) (by decide)
      have clS := crF_le f n s
      unfold w_Cr_find_L50
      rw [X_r56_0 cy.1, cy.2.1.2.2.1, shl8 hn, nI_1]
      refine ⟨X_k56 cy.1, cy.2.1.1.1, fun z => absurd z (nI_ge hs (by omega)), fun _ => t_Cr_solve (lines := 3) cy hs (Or.inl rfl) (fun z f' kI kL hno => ⟨fun _ => ih z ?_, fun w => absurd rfl w⟩) (fun z w f' kI kL le hyes so => ⟨fun x => absurd x (by decide), fun _ => ?_⟩)⟩
      · have e : brS f (bN f) n s = none := by
          rw [brS_eq]
          by_cases le : cnS (bS s) n ≤ 3
          · rw [if_pos le]; exact hno le
          · rw [if_neg le]
        refine ⟨fx_trans fy (fx_mono f' (by simp) (by simp)), (kI 7 (by decide)).trans y7, (kI 9 (by decide)).trans y9, ?_, ?_⟩
        · rw [crF, e]; exact (kI 8 (by decide)).trans y8
        · rw [crF, e]; exact KC_keep ky (kI 10 (by decide)) (kL 11 (by decide)) (kL 12 (by decide)) (fx_L f' (by decide))
      · have ew : brS f (bN f) n s = some w := by rw [brS_eq, if_pos le]; exact hyes
        obtain ⟨-, eb, w1, w2, w3⟩ := barS_w hF hbb ew
        obtain ⟨-, -, w0, -⟩ := barS_some hF hbb (by omega) le eb
        have cz := CN_fx cy f' (by decide) (by decide)
        have z8 : gI z 56 8 = nI (crF f n s).1 := (kI 8 (by decide)).trans y8
        have f2 : Fx [56] [] z (sI z 56 8 (nI (crF f n s).1 + 1)) := fx_sI _ _ (by simp)
        have c2 := CN_fx cz f2 (by decide) (by decide)
        have nb : ∀ (Y : Nat → Int), (∀ c, 0 ≤ Y c ∧ Y c ≤ 48000) → (Gn f Y n).natAbs ≤ 38016000 := fun Y hY => by
          have h1 := Gn_bd (K := 48000) hG (fun c => by have := hY c; omega : ∀ c, (Y c).natAbs ≤ 48000) n (Nat.le_refl _)
          have h2 : n * (99 * 48000) ≤ 8 * (99 * 48000) := Nat.mul_le_mul_right _ hn
          omega
        rw [z8]
        have so2 : SO f (bS s) n w (sI z 56 8 (nI (crF f n s).1 + 1)) := by
          obtain ⟨⟨a1, a2⟩, a3, a4⟩ := so
          refine ⟨⟨?_, ?_⟩, ?_, ?_⟩
          · rw [gI_sI, if_neg (by decide)]; exact a1
          · rw [fx_I f2 (x := 58) (by decide)]; exact a2
          · rw [gL_sI]; exact a3
          · rw [gL_sI]; exact a4
        have i8 : gI (sI z 56 8 (nI (crF f n s).1 + 1)) 56 8 = nI ((crF f n s).1 + 1) := by rw [gI_sI, if_pos ⟨rfl, rfl⟩, nI_1]
        have iK : ∀ k, k ≠ 4 → k ≠ 8 → gI (sI z 56 8 (nI (crF f n s).1 + 1)) 56 k = gI y 56 k := fun k h4 h8 => by rw [gI_sI, if_neg (fun y => h8 y.2)]; exact kI k h4
        have fz2 : Fx [56, 58] [56, 57, 59] h (sI z 56 8 (nI (crF f n s).1 + 1)) := fx_trans fy (fx_trans (fx_mono f' (by simp) (by simp)) (fx_mono f2 (by simp) (by simp)))
        have kz : KC f n (crF f n s).2 (sI z 56 8 (nI (crF f n s).1 + 1)) := KC_keep ky (iK 10 (by decide) (by decide)) (by rw [gL_sI]; exact kL 11 (by decide)) (by rw [gL_sI]; exact kL 12 (by decide)) (by rw [gL_sI]; exact fx_L f' (by decide))
        have l5 : gL (sI z 56 8 (nI (crF f n s).1 + 1)) 56 5 = lI w.2 := by rw [gL_sI]; exact so.2.1
        revert fz2 kz c2 so2 i8 iK l5
        generalize sI z 56 8 (nI (crF f n s).1 + 1) = z2
        intro c2 so2 i8 iK fz2 kz l5
        have c1eq : (crF f n (s + 1)).1 = (crF f n s).1 + 1 := by rw [crF, ew]
        have take : (crF f n (s + 1)).2 = some (s, w) → w_Cr_takeIfBetter_B33 (fun h20 => w_Cr_find_L50 Q 56 a (nI (s + 1)) h20) 56 (nI s) (lI (Gn f w.1 n)) z2 := fun e => by
          refine t_Cr_take c2 (by omega) so2 le ⟨w1, w2, w3⟩ w0 (fun z3 f3 k3 kc3 => ih z3 ⟨fx_trans fz2 (fx_mono f3 (by simp) (by simp)), ?_, ?_, ?_, by rw [e]; exact kc3⟩)
          · rw [k3 7 (by decide), iK 7 (by decide) (by decide)]; exact y7
          · rw [k3 9 (by decide), iK 9 (by decide) (by decide)]; exact y9
          · rw [k3 8 (by decide), i8, c1eq]
        refine ⟨X_k56 cz.1, ?_⟩
        unfold w_Cr_takeIfBetter
        refine ⟨X_k56 c2.1, t_Cr_solvedGain c2 so2 (by omega) (fun c => ⟨(w3 c).1, by have := (w3 c).2; omega⟩) w0 ⟨X_k56 c2.1, ?_⟩⟩
        rw [i8]
        refine ⟨fun x => take ?_, fun x => ?_⟩
        · have k0 : (crF f n s).1 = 0 := by
            have := (nI_leI (b := 1) (by omega) (by omega)).mp x
            omega
          have e0 := clS.2.mp k0
          rw [crF, ew]
          dsimp only
          rw [e0]
        · have k0 : (crF f n s).1 ≠ 0 := fun g => x (by rw [g]; exact Int32.le_refl _)
          cases ev : (crF f n s).2 with
          | none => exact absurd (clS.2.mpr ev) k0
          | some v =>
            obtain ⟨b1, b2, b3, b4, b5, b6, b7, b8⟩ := kz v ev
            have n1 := nb w.1 w3
            have n2 := nb v.2.1 b7
            have m1 := mulA (a := Gn f v.2.1 n) (b := w.2) (A := 38016000) (B := 48000) n2 (by omega)
            have m2 := mulA (a := Gn f w.1 n) (b := v.2.2) (A := 38016000) (B := 48000) n1 (by omega)
            have e2 : (crF f n (s + 1)).2 = if Gn f w.1 n * v.2.2 ≤ Gn f v.2.1 n * w.2 then some v else some (s, w) := by
              rw [crF, ew]
              dsimp only
              rw [ev]
            rw [b2, b3, l5, lI_mul (by omega) (by omega) (by omega), lI_mul (by omega) (by omega) (by omega)]
            have lt : lI (Gn f v.2.1 n * w.2) < lI (Gn f w.1 n * v.2.2) ↔ ¬ Gn f w.1 n * v.2.2 ≤ Gn f v.2.1 n * w.2 := by
              rw [← Int64.not_le, lI_le (by omega) (by omega)]
            refine ⟨fun x2 => take ?_, fun x2 => ih z2 ⟨fz2, ?_, ?_, ?_, ?_⟩⟩
            · rw [e2, if_neg (lt.mp x2)]
            · rw [iK 7 (by decide) (by decide)]; exact y7
            · rw [iK 9 (by decide) (by decide)]; exact y9
            · rw [i8, c1eq]
            · have x3 : Gn f w.1 n * v.2.2 ≤ Gn f v.2.1 n * w.2 := by
                by_cases g : Gn f w.1 n * v.2.2 ≤ Gn f v.2.1 n * w.2
                · exact g
                · exact absurd (lt.mpr g) x2
              rw [e2, if_pos x3, ← ev]
              exact kz
  unfold w_Cr_find
  refine ⟨X_k56 m, fun _ => lay, fun z => ?_⟩
  rw [X_r56_0 m, hb]
  rcases kk with k | ⟨a, ha, ka, kv⟩
  · exact absurd k z
  · rw [ka]
    refine ⟨c0.2.1.1.1, fun y => ?_, fun _ => lay⟩
    have e : a = b := (nI_eq (by omega) (by omega)).mp y
    exact hq h (fx_refl _ _ _) (kv e) (Or.inr ⟨a, ha, ka, kv⟩)
