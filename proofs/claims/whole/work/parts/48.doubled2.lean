/-! The reference's doubled sums, all levels -/
variable {h : Hp}
theorem nI_subN {a b : Nat} (h : b ≤ a) : nI a - nI b = nI (a - b) := by
  rw [Int32.sub_eq_iff_eq_add, nI_add, Nat.sub_add_cancel h]
theorem of60_of60 {x y : Nat} (hx : x < 200) (hy : y < 200) (h : 60 ≤ x + y) : of60 x + of60 y = of60 (x + y - 60) := by
  rw [← Int32.toInt_inj, Jvm.Kit.i32_add (by rw [of60_toInt (by omega), of60_toInt (by omega)]; omega) (by rw [of60_toInt (by omega), of60_toInt (by omega)]; omega), of60_toInt (by omega), of60_toInt (by omega), of60_toInt (by omega)]
  omega
/-- all levels stand -/
def DC (lv : Nat → List Nat) (L : Nat) (h : Hp) : Prop := (∀ m, m ≤ L + 1 → gI h 99 m = nI (off lv m)) ∧ ∀ m i j, m ≤ L → i < (lv m).length → j < 3 → gI h 98 (3 * (off lv m + i) + j) = of60 (upk ((lv m).getD i 0) j)
theorem t_dbl_in {f : Nat → Int32} {h0 : Hp} {r n L w l a b : Nat} {acc : List Nat} {Q : Hp → Prop} {k66 k99 k110 : Int32 → Hp → Prop} (hM : Mrc h0 r n) (hf : gI h0 86 = f) (hF : FB f n) (hN : NB f) (hZ : ZB f r) (hL : L ≤ 4) (hw : w ≤ 3) (hl : l < L) (ha : a < (lev f r n L w l).length) (hb : b < (lev f r n L w l).length) (hA : dOK f r w (2 ^ (L - (l + 1))) acc) (o : DO (lev f r n L w) h0 h (l + 1) acc)
    (hq : ∀ h', DO (lev f r n L w) h0 h' (l + 1) (addk (nrK f w (2 ^ (L - (l + 1))) (kpl ((lev f r n L w l).getD a 0) ((lev f r n L w l).getD b 0))) acc (kpl ((lev f r n L w l).getD a 0) ((lev f r n L w l).getD b 0))) → k110 (nI (off (lev f r n L w) l + (b + 1))) h') : ∃ m, w_M_laysDoubled_L120 Q k66 k99 k110 81 (nI L) (nI w) (nI (l + 1)) (nI (off (lev f r n L w) (l + 1))) (nI (off (lev f r n L w) l + a)) (nI (off (lev f r n L w) l + b)) m 0 h := by
  have hn := hM.2.2.2.2.2
  have hp := dOK_lev (r := r) (n := n) hF hN hZ hn hL hw l (by omega)
  have ka := hp.2 _ (getD_mem (d := 0) ha)
  have kb := hp.2 _ (getD_mem (d := 0) hb)
  have hoff := off_lev (r := r) (n := n) hF hN hZ hn hL hw (l + 1) (by omega)
  have hlen := dOK_len hN hw (e := L - (l + 1)) (by omega) hA
  have hoff2 : off (lev f r n L w) (l + 1) = off (lev f r n L w) l + (lev f r n L w l).length := rfl
  obtain ⟨k1, k2, k3⟩ := kpl_ok hN hw (by omega) ka kb
  refine loop_0 (fun m q s => w_M_laysDoubled_L120 Q k66 k99 k110 81 (nI L) (nI w) (nI (l + 1)) (nI (off (lev f r n L w) (l + 1))) (nI (off (lev f r n L w) l + a)) (nI (off (lev f r n L w) l + b)) m (nI q) s) (fun q s => DO (lev f r n L w) h0 s (l + 1) acc ∧ ∀ j, j < q → gI s 92 j = of60 (upk (kpl ((lev f r n L w l).getD a 0) ((lev f r n L w l).getD b 0)) j)) 3 _ ⟨o, fun j hj => absurd hj (Nat.not_lt_zero _)⟩ ?_ ?_
  · rintro m s ⟨o2, s2⟩
    have hM2 := fr_Mrc o2.1 (by decide) (by decide) (by decide) hM
    unfold w_M_laysDoubled_L120
    refine ⟨fun _ => ⟨M_K hM2.1, ?_⟩, fun z => absurd (Int32.le_refl _) z⟩
    rw [o2.2.1, nI_subN (by omega), shl1 (by omega), nI_1]
    refine DO_comesTo hM hf hN hZ (by omega) hw o2 (by omega) (fun j hj => s2 j hj) (fun j hj => ?_) k3 (fun x hx j hj => ?_) (fun h' o' => hq h' o')
    · have := (upk_kpl hN hw (by omega) ka kb hj).2
      omega
    · have := kL_up hN hw (e := L - (l + 1)) (by omega) (hA.2 x hx) hj
      omega
  · rintro m q s hq2 ⟨o2, s2⟩ ih
    have hM2 := fr_Mrc o2.1 (by decide) (by decide) (by decide) hM
    obtain ⟨a1, a2, a3⟩ := M_sums hM2.1
    obtain ⟨b1, b2, b3⟩ := M_levelSums hM2.1
    have ua := kL_up hN hw (by omega) ka hq2
    have ub := kL_up hN hw (by omega) kb hq2
    unfold w_M_laysDoubled_L120
    refine ⟨fun z => absurd z (nI_ge (b := 3) hq2 (by omega)), fun _ => ?_⟩
    rw [a1, a3, b1, b3, show (3 : Int32) = nI 3 from rfl, pk_mul, pk_mul, nI_add, nI_add, nI_1, ix_nI (n := 3 * (off (lev f r n L w) l + a) + q) (by omega), ix_nI (n := 3 * (off (lev f r n L w) l + b) + q) (by omega), ix_nI (n := q) (by omega), o2.2.2.2.1 l a q (by omega) ha hq2, o2.2.2.2.1 l b q (by omega) hb hq2, of60_of60 (by omega) (by omega) (by omega), ← (upk_kpl hN hw (by omega) ka kb hq2).1]
    have f3 : Fr [92] [] [] [] s (sI s 92 q (of60 (upk (kpl ((lev f r n L w l).getD a 0) ((lev f r n L w l).getD b 0)) q))) := fr_sI _ _ (Or.inl (by simp))
    refine ⟨M_K hM2.1, b2, vp_in_nI (by omega) (by omega), vp_in_nI (by omega) (by omega), a2, vp_in_nI (by omega) (by omega), ih _ ⟨DO_fr o2 f3, fun j hj => ?_⟩⟩
    rw [gI_sI]
    by_cases g : j = q
    · rw [if_pos ⟨rfl, g⟩, g]
    · rw [if_neg (fun y => g y.2)]; exact s2 j (by omega)
theorem t_M_laysDoubled {f : Nat → Int32} {r n L w : Nat} {Q : Hp → Prop} (hM : Mrc h r n) (hf : gI h 86 = f) (hF : FB f n) (hN : NB f) (hZ : ZB f r) (hL : L ≤ 4) (hw : w ≤ 3) (hq : ∀ h', Fr [92, 98, 99] [44] [] [] h h' → DC (lev f r n L w) L h' → Q h') : w_M_laysDoubled 81 (nI L) (nI w) h Q := by
  have hn := hM.2.2.2.2.2
  obtain ⟨c1, c2, c3⟩ := M_levelFrom hM.1
  unfold w_M_laysDoubled
  rw [c1, c3, show ix (0 : Int32) = 0 from rfl, shl1 hL]
  have f1 : Fr [92, 98, 99] [44] [] [] h (sI (sI h 81 44 0) 99 0 0) := fr_trans (fr_sI _ _ (Or.inr ⟨rfl, by simp⟩)) (fr_sI _ _ (Or.inl (by simp)))
  refine ⟨M_K hM.1, c2, vp_in_nI (n := 0) (by omega) (by omega), t_M_noSums (fr_MS f1 hM.1) (fun h4 f4 s4 => ?_)⟩
  have o1 : DO (lev f r n L w) h (sI (sI h 81 44 0) 99 0 0) 0 [] := by
    refine ⟨f1, ?_, fun m hm => ?_, fun m i j hm => absurd hm (Nat.not_lt_zero _), fun i j hi => absurd hi (Nat.not_lt_zero _)⟩
    · rw [gI_sI, if_neg (by decide), gI_sI, if_pos ⟨rfl, rfl⟩]; rfl
    · rw [show m = 0 from by omega, gI_sI, if_pos ⟨rfl, rfl⟩]; rfl
  have o4 := DO_fr o1 f4
  have hM4 := fr_Mrc o4.1 (by decide) (by decide) (by decide) hM
  refine ⟨M_K hM4.1, ?_⟩
  have nx := DO_comesTo (e := L) (k := kNo 60 60 60) (Q := fun h5 => ∃ n32, w_M_laysDoubled_L28 Q 81 (nI L) (nI w) n32 0 h5) hM hf hN hZ hL hw o4 (by show 0 + 0 < 2000; omega) (fun j hj => by dsimp only; rw [upk_0]; exact s4 j hj) (fun j hj => by rw [upk_0]; omega) (fun j _ _ => Zk_0 j) (fun x hx => absurd hx List.not_mem_nil)
  refine nx (fun h5 o5 => ?_)
  refine loop_0 (fun m c s => w_M_laysDoubled_L28 Q 81 (nI L) (nI w) m (nI c) s) (fun c s => DO (lev f r n L w) h s 0 (lev0 f r (nrK f w (2 ^ L)) c)) n _ o5 ?_ ?_
  · rintro m s o
    have hM2 := fr_Mrc o.1 (by decide) (by decide) (by decide) hM
    unfold w_M_laysDoubled_L28
    refine ⟨M_K hM2.1, fun _ => ?_, fun z => absurd (loop_le hM2.2.2.1) z⟩
    refine loop_0 (fun m l s => w_M_laysDoubled_L66 Q 81 (nI L) (nI w) m (nI (l + 1)) s) (fun l s => DO (lev f r n L w) h s l (lev f r n L w l)) L _ o ?_ ?_
    · rintro m s o
      have hM2 := fr_Mrc o.1 (by decide) (by decide) (by decide) hM
      unfold w_M_laysDoubled_L66
      refine ⟨fun _ => ?_, fun z => absurd (nI_lt (by omega) (by omega)) z⟩
      rw [fr_R o.1, fr_K o.1, fr_N o.1, c1, c3, nI_1, ix_nI (by omega), o.2.1]
      refine ⟨M_K hM.1, c2, vp_in_nI (by omega) (by omega), hq _ (fr_trans o.1 (fr_sI _ _ (Or.inl (by simp)))) ⟨fun m hm => ?_, fun m i j hm hi hj => ?_⟩⟩
      · rw [gI_sI]
        by_cases g : m = L + 1
        · rw [if_pos ⟨rfl, g⟩, g, off]
        · rw [if_neg (fun y => g y.2)]; exact o.2.2.1 m (by omega)
      · rw [gI_sI, if_neg (fun y => absurd y.1 (by decide))]
        by_cases g : m = L
        · subst g; exact o.2.2.2.2 i j hi hj
        · exact o.2.2.2.1 m i j (by omega) hi hj
    · rintro m l s hl o ih
      have hM2 := fr_Mrc o.1 (by decide) (by decide) (by decide) hM
      have hoff := off_lev (r := r) (n := n) hF hN hZ hn hL hw (l + 1) (by omega)
      have hoff2 : off (lev f r n L w) (l + 1) = off (lev f r n L w) l + (lev f r n L w l).length := rfl
      unfold w_M_laysDoubled_L66
      refine ⟨fun z => absurd z (nI_nlt (by omega) (by omega)), fun _ => ?_⟩
      rw [fr_R o.1, fr_K o.1, fr_N o.1, c1, c3, nI_s1, ix_nI (n := l) (by omega), ix_nI (n := l + 1) (by omega), o.2.1, o.2.2.1 l (Nat.le_refl _), ← hoff2]
      refine ⟨M_K hM.1, c2, vp_in_nI (by omega) (by omega), vp_in_nI (by omega) (by omega), ?_⟩
      have o2 : DO (lev f r n L w) h (sI s 99 (l + 1) (nI (off (lev f r n L w) (l + 1)))) (l + 1) [] := by
        refine ⟨fr_trans o.1 (fr_sI _ _ (Or.inl (by simp))), ?_, fun m hm => ?_, fun m i j hm hi hj => ?_, fun i j hi => absurd hi (Nat.not_lt_zero _)⟩
        · rw [gI_sI, if_neg (fun y => absurd y.1 (by decide)), o.2.1, ← hoff2]; rfl
        · rw [gI_sI]
          by_cases g : m = l + 1
          · rw [if_pos ⟨rfl, g⟩, g]
          · rw [if_neg (fun y => g y.2)]; exact o.2.2.1 m (by omega)
        · rw [gI_sI, if_neg (fun y => absurd y.1 (by decide))]
          by_cases g : m = l
          · subst g; exact o.2.2.2.2 i j hi hj
          · exact o.2.2.2.1 m i j (by omega) hi hj
      have hp := dOK_lev (r := r) (n := n) hF hN hZ hn hL hw l (by omega)
      refine loop_0 (fun m a s => w_M_laysDoubled_L99 Q (w_M_laysDoubled_L66 Q 81 (nI L) (nI w) _) 81 (nI L) (nI w) (nI (l + 1)) (nI (off (lev f r n L w) (l + 1))) m (nI (off (lev f r n L w) l + a)) s) (fun a s => DO (lev f r n L w) h s (l + 1) (dpI (nrK f w (2 ^ (L - (l + 1)))) (lev f r n L w l) a)) (lev f r n L w l).length _ o2 ?_ ?_
      · rintro m s o3
        unfold w_M_laysDoubled_L99
        rw [← hoff2, nI_1]
        exact ⟨fun _ => ih s o3, fun z => absurd (Int32.le_refl _) z⟩
      · rintro m a s ha o3 ih2
        unfold w_M_laysDoubled_L99
        refine ⟨fun z => absurd z (nI_ge (by omega) (by omega)), fun _ => ?_⟩
        refine loop_0 (fun m b s => w_M_laysDoubled_L110 Q (w_M_laysDoubled_L66 Q 81 (nI L) (nI w) _) (w_M_laysDoubled_L99 Q (w_M_laysDoubled_L66 Q 81 (nI L) (nI w) _) 81 (nI L) (nI w) (nI (l + 1)) (nI (off (lev f r n L w) (l + 1))) _) 81 (nI L) (nI w) (nI (l + 1)) (nI (off (lev f r n L w) (l + 1))) (nI (off (lev f r n L w) l + a)) m (nI (off (lev f r n L w) l + (a + b))) s) (fun b s => DO (lev f r n L w) h s (l + 1) (dpJ (nrK f w (2 ^ (L - (l + 1)))) (lev f r n L w l) a (dpI (nrK f w (2 ^ (L - (l + 1)))) (lev f r n L w l) a) b)) ((lev f r n L w l).length - a) _ o3 ?_ ?_
        · rintro m s o4
          unfold w_M_laysDoubled_L110
          rw [show off (lev f r n L w) l + (a + ((lev f r n L w l).length - a)) = off (lev f r n L w) (l + 1) from by omega, nI_1]
          exact ⟨fun _ => ih2 s o4, fun z => absurd (Int32.le_refl _) z⟩
        · rintro m b s hb o4 ih3
          unfold w_M_laysDoubled_L110
          refine ⟨fun z => absurd z (nI_ge (by omega) (by omega)), fun _ => ?_⟩
          exact t_dbl_in hM hf hF hN hZ hL hw hl ha (by omega) (dOK_J hN hw (e := L - l) (by omega) hp ha (dOK_I hN hw (e := L - l) (by omega) hp a (by omega)) b (by omega)) o4 (fun h' o' => ih3 h' o')
  · rintro m c s hc o ih
    have hM2 := fr_Mrc o.1 (by decide) (by decide) (by decide) hM
    have hf2 := (fr_I o.1 (x := 86) (by decide) (by decide)).trans hf
    have hA := dOK_0 (w := w) (T := 2 ^ L) (r := r) hF hZ hn c (by omega)
    have hlen := dOK_len hN hw hL hA
    obtain ⟨k1, k2, k3⟩ := kst0_ok hF hZ hn hc
    unfold w_M_laysDoubled_L28
    refine ⟨M_K hM2.1, fun z => absurd (hM2.2.2.1 ▸ z) (nI_ge hc (by omega)), fun _ => t_M_noSums hM2.1 (fun h6 f6 s6 => ?_)⟩
    have hM6 := fr_Mrc f6 (by decide) (by decide) (by decide) hM2
    refine ⟨M_K hM6.1, t_M_adds hM6 (by omega) s6 (fun h7 f7 s7 => ?_)⟩
    have hM7 := fr_Mrc f7 (by decide) (by decide) (by decide) hM6
    have o7 := DO_fr (DO_fr o f6) f7
    rw [fr_I f6 (x := 86) (by decide) (by decide), hf2] at s7
    have s8 : SU h7 (fun j => of60 (upk (kst f r (kNo 60 60 60) c) j)) := fun j hj => by
      have hfb := hF c j hc hj
      rw [s7 j hj]
      dsimp only
      rw [(upk_1 (r := r) hF hc hj).1]
      unfold adR sX
      rw [upk_0]
      by_cases g : j < r
      · rw [if_pos g, if_pos g, ← of60_add (by omega) hfb.1 hfb.2 (by omega)]
        rfl
      · rw [if_neg g, if_neg g]
        rfl
    refine ⟨M_K hM7.1, ?_⟩
    rw [o7.2.1, shl1 hL, nI_1]
    refine DO_comesTo (l := 0) hM hf hN hZ hL hw o7 (by show 0 + _ < 2000; omega) s8 (fun j hj => ?_) k3 (fun x hx j hj => ?_) (fun h' o' => ih h' o')
    · have := upk_1 (r := r) hF hc hj
      omega
    · have := kL_up hN hw hL (hA.2 x hx) hj
      omega
theorem t_M_isOfLevel {f : Nat → Int32} {r n L w : Nat} {Q : Bool → Hp → Prop} (hM : Mrc h r n) (hf : gI h 86 = f) (hF : FB f n) (hN : NB f) (hZ : ZB f r) (hL : L ≤ 4) (hw : w ≤ 3) (o : DC (lev f r n L w) L h) (hq : Q ((lev f r n L w L).any (fun k => ndZ f r (Zk k))) h) : w_M_isOfLevel 81 (nI L) h Q := by
  have hn := hM.2.2.2.2.2
  have hr := hM.2.2.2.2.1
  obtain ⟨c1, c2, c3⟩ := M_levelFrom hM.1
  obtain ⟨b1, b2, b3⟩ := M_levelSums hM.1
  have hp := dOK_lev (r := r) (n := n) hF hN hZ hn hL hw L (Nat.le_refl _)
  have hoff := off_lev (r := r) (n := n) hF hN hZ hn hL hw (L + 1) (by omega)
  have hoff2 : off (lev f r n L w) (L + 1) = off (lev f r n L w) L + (lev f r n L w L).length := rfl
  unfold w_M_isOfLevel
  rw [c1, c3, ix_nI (by omega), o.1 L (by omega)]
  refine ⟨M_K hM.1, c2, vp_in_nI (by omega) (by omega), ?_⟩
  refine loop_0 (fun m i s => w_M_isOfLevel_L7 Q 81 (nI L) m (nI (off (lev f r n L w) L + i)) s) (fun i s => s = h ∧ ∀ i', i' < i → ndZ f r (Zk ((lev f r n L w L).getD i' 0)) = false) (lev f r n L w L).length h ⟨rfl, fun i' hi' => absurd hi' (Nat.not_lt_zero _)⟩ ?_ ?_
  · rintro m s ⟨rfl, hne⟩
    unfold w_M_isOfLevel_L7
    rw [c1, c3, nI_1, ix_nI (by omega), o.1 (L + 1) (by omega), hoff2]
    refine ⟨M_K hM.1, c2, vp_in_nI (by omega) (by omega), fun _ => ?_, fun z => absurd (Int32.le_refl _) z⟩
    have : (lev f r n L w L).any (fun k => ndZ f r (Zk k)) = false := by
      rw [List.any_eq_false]
      intro k hk
      obtain ⟨i, hi, e⟩ := mem_getD (d := 0) hk
      rw [← e, hne i hi]
      decide
    rw [this] at hq
    exact hq
  · rintro m i s hi ⟨rfl, hne⟩ ih
    unfold w_M_isOfLevel_L7
    rw [c1, c3, nI_1, ix_nI (by omega), o.1 (L + 1) (by omega), hoff2]
    refine ⟨M_K hM.1, c2, vp_in_nI (by omega) (by omega), fun z => absurd z (nI_ge (by omega) (by omega)), fun _ => ?_⟩
    have kk := hp.2 _ (getD_mem (d := 0) hi)
    have ee : ∀ j, j < 3 → (gI s 98 (3 * (off (lev f r n L w) L + i) + j) = f (32 + j) ↔ Zk ((lev f r n L w L).getD i 0) j = (f (32 + j)).toInt) := fun j hj => by
      have := kL_up hN hw (e := L - L) (by omega) kk hj
      rw [o.2 L i j (Nat.le_refl _) hi hj, ← Int32.toInt_inj, of60_toInt (by omega)]
      rfl
    refine loop_0 (fun m2 j (x : Bool) => w_M_isOfLevel_L24 Q (w_M_isOfLevel_L7 Q 81 (nI L) m) 81 (nI L) (nI (off (lev f r n L w) L + i)) m2 (b2i x) (nI j) s) (fun j x => x = ndZ f j (Zk ((lev f r n L w L).getD i 0))) r true rfl ?_ ?_
    · rintro m2 x rfl
      unfold w_M_isOfLevel_L24
      rw [nI_1]
      refine ⟨M_K hM.1, fun _ => ⟨fun z => ih s ⟨rfl, fun i' hi' => ?_⟩, fun z => ?_⟩, fun a => absurd (loop_le hM.2.1) a⟩
      · by_cases g : i' = i
        · rw [g]
          cases e : ndZ f r (Zk ((lev f r n L w L).getD i 0))
          · rfl
          · rw [e] at z; cases z
        · exact hne i' (by omega)
      · have : (lev f r n L w L).any (fun k => ndZ f r (Zk k)) = true := by
          rw [List.any_eq_true]
          refine ⟨_, getD_mem (d := 0) hi, ?_⟩
          cases e : ndZ f r (Zk ((lev f r n L w L).getD i 0))
          · rw [e] at z; exact absurd rfl z
          · rfl
        rw [this] at hq
        exact hq
    · rintro m2 j x hj rfl ih2
      unfold w_M_isOfLevel_L24
      refine ⟨M_K hM.1, fun a => absurd (hM.2.1 ▸ a) (nI_ge hj (by omega)), fun _ => ?_⟩
      rw [nI_1]
      have e2 : ndZ f (j + 1) (Zk ((lev f r n L w L).getD i 0)) = (ndZ f j (Zk ((lev f r n L w L).getD i 0)) && decide (Zk ((lev f r n L w L).getD i 0) j = (f (32 + j)).toInt)) := rfl
      cases e : ndZ f j (Zk ((lev f r n L w L).getD i 0))
      · exact ⟨fun _ => ih2 false (by rw [e2, e]; rfl), fun z => absurd rfl z⟩
      · refine ⟨fun z => absurd z (by decide), fun _ => ?_⟩
        rw [b1, b3, show (3 : Int32) = nI 3 from rfl, pk_mul, nI_add, ix_nI (n := 3 * (off (lev f r n L w) L + i) + j) (by omega)]
        refine ⟨b2, vp_in_nI (by omega) (by omega), t_M_needOf hM.1 (by omega) ⟨fun z => ?_, fun z => ?_⟩⟩
        · rw [hf] at z
          exact ih2 true (by rw [e2, e, decide_eq_true ((ee j (by omega)).mp z)]; rfl)
        · rw [hf] at z
          exact ih2 false (by rw [e2, e, decide_eq_false (fun g => z ((ee j (by omega)).mpr g))]; rfl)
theorem t_M_doubled {f : Nat → Int32} {r n : Nat} {l w v : Int32} {Q : Int32 → Hp → Prop} (hM : Mrc h r n) (hf : gI h 86 = f) (hF : FB f n) (hN : NB f) (hZ : ZB f r)
    (hq0 : ((decide (0 ≤ l) && decide (l ≤ 4)) && ((decide (0 ≤ w) && decide (w ≤ 3)) && ((decide (0 ≤ v) && decide (v ≤ 5)) && (decide (5 ≤ v) || decide (v ≤ l))))) = false → Q (-1) h)
    (hq : ∀ h' L w', L ≤ 4 → w' ≤ 3 → l = nI L → w = nI w' → Fr [92, 98, 99] [44] [] [] h h' → (v = 5 → Q (b2i ((lev f r n L w' L).any (fun k => ndZ f r (Zk k)))) h') ∧ ∀ x, x ≤ L → v = nI x → Q (nI (lev f r n L w' x).length) h') : w_M_doubled 81 l w v h Q := by
  have hn := hM.2.2.2.2.2
  unfold w_M_doubled
  refine t_M_isIn ⟨fun z => hq0 (by rw [z]; rfl), fun z => t_M_isIn ⟨fun z2 => hq0 (by rw [z2, Bool.false_and, Bool.and_false]), fun z2 => t_M_isIn ⟨fun z3 => hq0 (by rw [z3, Bool.false_and, Bool.and_false, Bool.and_false]), fun z3 => ?_⟩⟩⟩
  obtain ⟨L, hL, rfl⟩ := in_nI (k := 4) (v := l) (M := 4) rfl z
  obtain ⟨w', hw, rfl⟩ := in_nI (k := 3) (v := w) (M := 3) rfl z2
  obtain ⟨x, hx, rfl⟩ := in_nI (k := 5) (v := v) (M := 5) rfl z3
  have main : (x = 5 ∨ x ≤ L) → w_M_doubled_B39 Q 81 (nI L) (nI w') (nI x) h := by
    intro hxx
    unfold w_M_doubled_B39
    refine ⟨M_K hM.1, t_M_laysDoubled hM hf hF hN hZ hL hw (fun h2 f2 o2 => ?_)⟩
    have hM2 := fr_Mrc f2 (by decide) (by decide) (by decide) hM
    have hf2 := (fr_I f2 (x := 86) (by decide) (by decide)).trans hf
    obtain ⟨c1, c2, c3⟩ := M_levelFrom hM2.1
    have hq := hq h2 L w' hL hw rfl rfl f2
    refine ⟨fun z5 => ⟨M_K hM2.1, t_M_isOfLevel hM2 hf2 hF hN hZ hL hw o2 (t_M_truth (hq.1 z5))⟩, fun z5 => ?_⟩
    have hx5 : x ≠ 5 := fun g => z5 (by rw [g]; rfl)
    have hoff := off_lev (r := r) (n := n) hF hN hZ hn hL hw (x + 1) (by omega)
    have hoff2 : off (lev f r n L w') (x + 1) = off (lev f r n L w') x + (lev f r n L w' x).length := rfl
    rw [c1, c3, nI_1, ix_nI (n := x) (by omega), ix_nI (n := x + 1) (by omega), o2.1 x (by omega), o2.1 (x + 1) (by omega), nI_subN (by omega), show off (lev f r n L w') (x + 1) - off (lev f r n L w') x = (lev f r n L w' x).length from by omega]
    exact ⟨M_K hM2.1, c2, vp_in_nI (by omega) (by omega), vp_in_nI (by omega) (by omega), hq.2 x (by omega) rfl⟩
  refine ⟨fun z5 => main (Or.inl ?_), fun z5 => ⟨fun z6 => main (Or.inr ((nI_leI (by omega) (by omega)).mp z6)), fun z6 => hq0 ?_⟩⟩
  · have := (nI_leI (a := 5) (by omega) (by omega)).mp z5
    omega
  · rw [decide_eq_false z5, decide_eq_false z6, Bool.or_false, Bool.and_false, Bool.and_false, Bool.and_false]
