/-! The class's reader: lines -/
variable {h : Hp}
theorem sgs_err {B : Nat → Int32} {N base p : Nat} {most : Int32} {f : Nat → Int32} {e : ER} {k : Nat} (hk : sgs B N base most p f k = .error e) : ∀ d, sgs B N base most p f (k + d) = .error e := by
  intro d
  induction d with
  | zero => exact hk
  | succ d ih => rw [← Nat.add_assoc, sgs, ih]
theorem sgs_s {B : Nat → Int32} {N base p : Nat} {most : Int32} {f : Nat → Int32} {k : Nat} {x : Nat × (Nat → Int32)} {y : Int32 × Nat} (hk : sgs B N base most p f k = .ok x) (hy : sgn B N x.1 most = .ok y) : sgs B N base most p f (k + 1) = .ok (y.2, upd x.2 (base + k) y.1) := by
  rw [sgs, hk]
  dsimp only
  rw [hy]
theorem sgs_e {B : Nat → Int32} {N base p : Nat} {most : Int32} {f : Nat → Int32} {k : Nat} {x : Nat × (Nat → Int32)} {e : ER} (hk : sgs B N base most p f k = .ok x) (hy : sgn B N x.1 most = .error e) : sgs B N base most p f (k + 1) = .error e := by
  rw [sgs, hk]
  dsimp only
  rw [hy]
theorem t_Rd_readNeed {B : Nat → Int32} {N : Nat} {h0 : Hp} {s : PSt} {Q : Bool → Hp → Prop} (m0 : XS h0) (a : AY B N h0 s h) (hk0 : bodL B N s = needL B N s) (hf : s.2.2.2.2.2.1 = false) (hqE : ∀ e h', lineL B N s = .error e → EE e h0 h' → Q false h') (hqO : ∀ s' h', lineL B N s = .ok s' → AY B N h0 s' h' → Q true h') : w_Rd_readNeed 23 h Q := by
  obtain ⟨ds, x, o, d, r⟩ := a
  have m := fx_XS x m0
  have r3 := ds.2.2.1
  have nf : ¬ s.2.2.2.2.2.1 = true := fun q => by rw [hf] at q; cases q
  have err : ∀ e, sgs B N 32 20 (sp B N s.1) s.2.1 s.2.2.1 = .error e → lineL B N s = .error e := fun e he => by
    unfold lineL
    rw [hk0]
    unfold needL
    rw [if_neg nf, he]
  have x1 : Fx [23] [] h (sI h 23 4 1) := fx_sI _ _ (by simp)
  have a1 : AY B N h0 (s.1, s.2.1, s.2.2.1, s.2.2.2.1, s.2.2.2.2.1, true, s.2.2.2.2.2.2) (sI h 23 4 1) := by
    refine ⟨ds, fx_trans x (fx_mono x1 (by simp) (by simp)), TY_eq o (by rw [fx_I x1 (by decide)]) (fx_I x1 (by decide)), ⟨?_, ?_, ?_, ?_, ?_, ?_, ?_, ?_⟩, ?_⟩
    · rw [fx_I x1 (x := 25) (by decide)]; exact d.1
    · rw [fx_I x1 (x := 24) (by decide)]; exact d.2.1
    · rw [fx_I x1 (x := 24) (by decide)]; exact d.2.2.1
    · rw [fx_I x1 (x := 26) (by decide), fx_I x1 (x := 27) (by decide)]; exact d.2.2.2.1
    · rw [gI_sI, if_pos ⟨rfl, rfl⟩]; rfl
    · rw [gI_sI, if_neg (by decide)]; exact d.2.2.2.2.2.1
    · rw [gI_sI, if_neg (by decide)]; exact d.2.2.2.2.2.2.1
    · rw [gI_sI, if_neg (by decide)]; exact d.2.2.2.2.2.2.2
    · unfold RY
      rw [fx_I x1 (x := 17) (by decide)]
      exact r
  unfold w_Rd_readNeed
  rw [X_r23_0 m]
  refine ⟨X_k23 m, X_k17 m, t_Rd_adv m0 a1 (fun h2 x2 a2 => ?_)⟩
  refine loop_0 (fun q i st => w_Rd_readNeed_L14 Q 23 q (nI i) st) (fun i st => ∃ y, sgs B N 32 20 (sp B N s.1) s.2.1 i = .ok y ∧ AY B N h0 (y.1, y.2, s.2.2.1, s.2.2.2.1, s.2.2.2.2.1, true, s.2.2.2.2.2.2) st) s.2.2.1 h2 ⟨(sp B N s.1, s.2.1), rfl, a2⟩ ?_ ?_
  · rintro q st ⟨y, hy, ay⟩
    have ms := fx_XS ay.2.1 m0
    unfold w_Rd_readNeed_L14
    rw [X_r23_1 ms, show gI st 24 1 = nI s.2.2.1 from ay.2.2.2.1.2.1]
    refine ⟨X_k23 ms, X_k24 ms, fun _ => t_Rd_endLine m0 ay ?_ hqE hqO, fun z => absurd (Int32.le_refl _) z⟩
    rw [hk0]
    unfold needL
    rw [if_neg nf, hy]
  · rintro q i st hi ⟨y, hy, ay⟩ ih
    have ms := fx_XS ay.2.1 m0
    unfold w_Rd_readNeed_L14
    rw [X_r23_1 ms, show gI st 24 1 = nI s.2.2.1 from ay.2.2.2.1.2.1, show (32 : Int32) = nI 32 from rfl, nI_add, show (20 : Int32) = nI 20 from rfl]
    refine ⟨X_k23 ms, X_k24 ms, fun z => absurd z (nI_ge (by omega) (by omega)), fun _ => t_Rd_readSigned m0 ay (by omega) (fun e' h' he ee => ⟨fun _ => ?_, fun z => absurd rfl z⟩) (fun y' h' he x' a' => ⟨fun z => absurd z (by decide), fun _ => ?_⟩)⟩
    · refine hqE e' h' (err e' ?_) ee
      have := sgs_err (sgs_e hy he) (s.2.2.1 - (i + 1))
      rwa [show i + 1 + (s.2.2.1 - (i + 1)) = s.2.2.1 from by omega] at this
    · rw [nI_1]
      exact ih h' ⟨(y'.2, upd y.2 (32 + i) y'.1), sgs_s hy he, a'⟩
theorem t_Rd_readSteps {B : Nat → Int32} {N : Nat} {h0 : Hp} {s : PSt} {Q : Bool → Hp → Prop} (m0 : XS h0) (a : AY B N h0 s h) (hk0 : bodL B N s = stepL B N s) (hf : s.2.2.2.2.2.2 = false) (hqE : ∀ e h', lineL B N s = .error e → EE e h0 h' → Q false h') (hqO : ∀ s' h', lineL B N s = .ok s' → AY B N h0 s' h' → Q true h') : w_Rd_readSteps 23 h Q := by
  obtain ⟨ds, x, o, d, r⟩ := a
  have m := fx_XS x m0
  have nf : ¬ s.2.2.2.2.2.2 = true := fun q => by rw [hf] at q; cases q
  have x1 : Fx [23] [] h (sI h 23 5 1) := fx_sI _ _ (by simp)
  have a1 : AY B N h0 (s.1, s.2.1, s.2.2.1, s.2.2.2.1, s.2.2.2.2.1, s.2.2.2.2.2.1, true) (sI h 23 5 1) := by
    refine ⟨ds, fx_trans x (fx_mono x1 (by simp) (by simp)), TY_eq o (by rw [fx_I x1 (by decide)]) (fx_I x1 (by decide)), ⟨?_, ?_, ?_, ?_, ?_, ?_, ?_, ?_⟩, ?_⟩
    · rw [fx_I x1 (x := 25) (by decide)]; exact d.1
    · rw [fx_I x1 (x := 24) (by decide)]; exact d.2.1
    · rw [fx_I x1 (x := 24) (by decide)]; exact d.2.2.1
    · rw [fx_I x1 (x := 26) (by decide), fx_I x1 (x := 27) (by decide)]; exact d.2.2.2.1
    · rw [gI_sI, if_neg (by decide)]; exact d.2.2.2.2.1
    · rw [gI_sI, if_pos ⟨rfl, rfl⟩]; rfl
    · rw [gI_sI, if_neg (by decide)]; exact d.2.2.2.2.2.2.1
    · rw [gI_sI, if_neg (by decide)]; exact d.2.2.2.2.2.2.2
    · unfold RY
      rw [fx_I x1 (x := 17) (by decide)]
      exact r
  unfold w_Rd_readSteps
  rw [X_r23_0 m]
  refine ⟨X_k23 m, X_k17 m, t_Rd_adv m0 a1 (fun h2 x2 a2 => ?_)⟩
  have m2 := fx_XS a2.2.1 m0
  refine ⟨X_k23 m2, t_Rd_isNumber m0 a2 (fun e h' he ee => ⟨fun _ => hqE e h' ?_ ee, fun z => absurd rfl z⟩) (fun ok => ⟨fun z => absurd z (by decide), fun _ => ⟨X_k23 m2, ?_⟩⟩)⟩
  · have he : nIn B N (sp B N s.1) 1 12 = .error e := he
    unfold lineL
    rw [hk0]
    unfold stepL
    rw [if_neg nf, he]
  · have ok : nIn B N (sp B N s.1) 1 12 = .ok (vl B N (sp B N s.1), sp B N (sp B N s.1)) := ok
    have hb : bodL B N s = .ok (sp B N (sp B N s.1), upd s.2.1 35 (vl B N (sp B N s.1)), s.2.2.1, s.2.2.2.1, s.2.2.2.2.1, s.2.2.2.2.2.1, true) := by
      rw [hk0]
      unfold stepL
      rw [if_neg nf, ok]
    obtain ⟨d2, x02, o2, dr2, r2⟩ := a2
    rw [X_r23_0 m2, X_r23_1 m2]
    refine ⟨X_k17 m2, t_Tp_value m2 o2 r2 (nIn_sp ok).1 ⟨X_k24 m2, t_Co_put (i := 35) (CO_24 m2) (by decide) ?_⟩⟩
    have x3 : Fx [24, 25] [] h2 (sI (sI h2 (24 + 1) 35 (vl B N (sp B N s.1))) 24 3 (gI h2 24 3 + 1)) := fx_trans (fx_sI _ _ (by simp)) (fx_sI _ _ (by simp))
    have a3 : AY B N h0 (sp B N s.1, upd s.2.1 35 (vl B N (sp B N s.1)), s.2.2.1, s.2.2.2.1, s.2.2.2.2.1, s.2.2.2.2.2.1, true) (sI (sI h2 (24 + 1) 35 (vl B N (sp B N s.1))) 24 3 (gI h2 24 3 + 1)) := by
      refine ⟨d2, fx_trans x02 (fx_mono x3 (by simp) (by simp)), TY_eq o2 (by rw [fx_I x3 (by decide)]) (fx_I x3 (by decide)), ⟨fun k hk => ?_, ?_, ?_, ?_, ?_⟩, ?_⟩
      · rw [gI_sI, if_neg (by omega), gI_sI]
        by_cases g : k = 35
        · rw [if_pos ⟨rfl, g⟩, g]
          show _ = upd s.2.1 35 (vl B N (sp B N s.1)) 35
          rw [pk_us]
        · rw [if_neg (fun q => g q.2)]
          show _ = upd s.2.1 35 (vl B N (sp B N s.1)) k
          rw [pk_un g]
          exact dr2.1 k hk
      · rw [gI_sI, if_neg (by decide), gI_sI, if_neg (by decide)]
        exact dr2.2.1
      · rw [gI_sI, if_neg (by decide), gI_sI, if_neg (by decide)]
        exact dr2.2.2.1
      · rw [fx_I x3 (x := 26) (by decide), fx_I x3 (x := 27) (by decide)]
        exact dr2.2.2.2.1
      · rw [fx_I x3 (x := 23) (by decide)]
        exact dr2.2.2.2.2
      · unfold RY
        rw [fx_I x3 (x := 17) (by decide)]
        exact r2
    generalize sI (sI h2 (24 + 1) 35 (vl B N (sp B N s.1))) 24 3 (gI h2 24 3 + 1) = h3 at x3 a3 ⊢
    have m3 := fx_XS a3.2.1 m0
    rw [X_r23_0 m3]
    refine ⟨X_k23 m3, X_k17 m3, t_Rd_adv m0 a3 (fun h4 x4 a4 => ⟨X_k23 (fx_XS a4.2.1 m0), t_Rd_endLine m0 a4 hb hqE hqO⟩)⟩
theorem t_Rd_readRows {B : Nat → Int32} {N : Nat} {h0 : Hp} {s : PSt} {Q : Bool → Hp → Prop} (m0 : XS h0) (a : AY B N h0 s h) (hk0 : bodL B N s = rowL B N s) (hf : s.2.2.2.2.1 = false) (hqE : ∀ e h', lineL B N s = .error e → EE e h0 h' → Q false h') (hqO : ∀ s' h', lineL B N s = .ok s' → AY B N h0 s' h' → Q true h') : w_Rd_readRows 23 h Q := by
  have a0 := a
  obtain ⟨ds, x, o, d, r⟩ := a
  have m := fx_XS x m0
  have nf : ¬ s.2.2.2.2.1 = true := fun q => by rw [hf] at q; cases q
  unfold w_Rd_readRows
  rw [X_r23_0 m]
  refine ⟨X_k23 m, X_k17 m, t_Rd_adv m0 a0 (fun h2 x2 a2 => ?_)⟩
  have m2 := fx_XS a2.2.1 m0
  refine ⟨X_k23 m2, t_Rd_isNumber m0 a2 (fun e h' he ee => ⟨fun _ => hqE e h' ?_ ee, fun z => absurd rfl z⟩) (fun ok => ⟨fun z => absurd z (by decide), fun _ => ⟨X_k23 m2, ?_⟩⟩)⟩
  · have he : nIn B N (sp B N s.1) 1 3 = .error e := he
    unfold lineL
    rw [hk0]
    unfold rowL
    rw [if_neg nf, he]
  · have ok : nIn B N (sp B N s.1) 1 3 = .ok (vl B N (sp B N s.1), sp B N (sp B N s.1)) := ok
    have hb : bodL B N s = .ok (sp B N (sp B N s.1), s.2.1, ix (vl B N (sp B N s.1)), s.2.2.2.1, s.2.2.2.2.1, s.2.2.2.2.2.1, s.2.2.2.2.2.2) := by
      rw [hk0]
      unfold rowL
      rw [if_neg nf, ok]
    have dx := (bodL_sp ds hb).1
    obtain ⟨-, -, l3, l4⟩ := nIn_sp ok
    obtain ⟨v, hv, ev⟩ := nI_of2 (M := 3) (n := 3) rfl (fun g => absurd (Int32.lt_of_le_of_lt l3 g) (by decide)) l4
    have ev : vl B N (sp B N s.1) = nI v := ev
    have ei : nI (ix (vl B N (sp B N s.1))) = vl B N (sp B N s.1) := by rw [ev, ix_nI (by omega)]
    obtain ⟨d2, x02, o2, dr2, r2⟩ := a2
    rw [X_r23_0 m2, X_r23_1 m2]
    refine ⟨X_k17 m2, t_Tp_value m2 o2 r2 (nIn_sp ok).1 ⟨X_k24 m2, X_k23 m2, ?_⟩⟩
    have x3 : Fx [24] [] h2 (sI h2 24 1 (vl B N (sp B N s.1))) := fx_sI _ _ (by simp)
    have a3 : AY B N h0 (sp B N s.1, s.2.1, ix (vl B N (sp B N s.1)), s.2.2.2.1, s.2.2.2.2.1, s.2.2.2.2.2.1, s.2.2.2.2.2.2) (sI h2 24 1 (vl B N (sp B N s.1))) := by
      refine ⟨⟨d2.1, dx.2⟩, fx_trans x02 (fx_mono x3 (by simp) (by simp)), TY_eq o2 (by rw [fx_I x3 (by decide)]) (fx_I x3 (by decide)), ⟨?_, ?_, ?_, ?_, ?_⟩, ?_⟩
      · rw [fx_I x3 (x := 25) (by decide)]
        exact dr2.1
      · rw [gI_sI, if_pos ⟨rfl, rfl⟩]
        exact ei.symm
      · rw [gI_sI, if_neg (by decide)]
        exact dr2.2.2.1
      · rw [fx_I x3 (x := 26) (by decide), fx_I x3 (x := 27) (by decide)]
        exact dr2.2.2.2.1
      · rw [fx_I x3 (x := 23) (by decide)]
        exact dr2.2.2.2.2
      · unfold RY
        rw [fx_I x3 (x := 17) (by decide)]
        exact r2
    rw [X_r23_0 m2]
    generalize sI h2 24 1 (vl B N (sp B N s.1)) = h3 at x3 a3 ⊢
    refine ⟨X_k17 m2, t_Rd_adv m0 a3 (fun h4 x4 a4 => ⟨X_k23 (fx_XS a4.2.1 m0), t_Rd_endLine m0 a4 hb hqE hqO⟩)⟩
