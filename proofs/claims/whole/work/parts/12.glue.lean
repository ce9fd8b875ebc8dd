/-! THE CLAIM OUT OF ONE WALK OF THE LAW'S BODY. Your part is whole_start (and what it stands on); all else here is the same for every law, but numbers. -/
def R_law : String := "RowWalksLaw"
def lw_P (b : Addr) (xs : List Int32) (args : Array Value) (s : State) : Prop := args = #[.ref b] ∧ s.IntsAt b xs ∧ xs.length ≤ 3072 ∧ (Jvm.Cond.and given_1 narrow_1).before args s = true
def lw_Q (_ : Array Value) (s : State) (o : Outcome) (t : State) : Prop := o = .returned (some (.int 1)) ∧ Framed s o t [] 600000 7302250
def lw_Z (below : List Frame) (a : Array Value) (s : State) : State → Prop := fun t => ∃ o, t.status = .running ∧ Ended t below o ∧ lw_Q a s o t
/-- the law's own end, with 1 on the stack, nothing written that was there before, its room as the claim has it -/
theorem lw_ret {p : Program} {l : Launch} {e : Env} {s : State} {m : MethodId} {below : List Frame} {meth : Method} {c : Code} {b : Nat} (hx : p.tables.exec = Jvm.exec) (hb : c.code = code) (hr : meth.sig.returnType = ret) (hlocks : meth.locks = false) {pc : Nat} {H : Heap} {ls : Array Slot} (hdg : decode code pc = .ok (.ireturn, 1)) : W p l e room_1 s m #[Value.ref b] below meth c H [] 600000 7302250 (lw_Z below #[Value.ref b] s) (F0 m pc ls [.int 1]) := by
  intro T hT X
  obtain ⟨fs, hret, hrun, hended, hW, hframe⟩ := X.leave (v := some (.int 1)) (hlocks := hlocks) (fun h => by rw [hr] at h; cases h)
  have hmeth' : T.vm.method? m = some meth := X.method'
  refine ⟨T.setFrames fs, ?_, .returned (some (.int 1)), hrun, hended, rfl, ⟨_, rfl⟩, hW, hframe⟩
  jvm_step X.here [X.here.top, hx, hb, hdg, hmeth', hr, ret, narrow_b1]
  (try refine ⟨rfl, ?_⟩); (try refine ⟨rfl, ?_⟩)
  first | (intro acts; rw [hret _ acts rfl rfl rfl]) | rw [hret _ _ rfl rfl rfl]
  exact Steps.refl _
/-- what holds at the law's entry: the machine, the code, the tables' words (any of lw_tbl by 'hts w (by decide +kernel)'), the script of L ints xs at the cell b, what the Statement gives of the start (any of its parts by flat_of_before) -/
def lw_At (p : Program) (s : State) (m : MethodId) (meth : Method) (c : Code) (b L : Nat) (xs : Nat → Int32) : Prop :=
  p.tables.exec = Jvm.exec ∧ c.code = code ∧ meth.sig.returnType = ret ∧ c.maxLocals = 4 ∧ s.vm.findClass R_law = some m.cls ∧ (∀ w ∈ lw_tbl, w.before #[Value.ref b] s = true) ∧ va_X b L xs s s.heap ∧ b < s.heap.size ∧ meth.locks = false ∧ (Jvm.Cond.and given_1 narrow_1).before #[Value.ref b] s = true ∧ meth.name = "law"

def h00 : Hp := (fun _ _ => 0, fun _ _ => 0, fun _ _ => 0, fun _ => 99, fun _ => 0, 16)
theorem Rg_00 : Rg h00 := ⟨Nat.le_refl _, fun a ha => absurd rfl ha, fun a k => by show 0 < 16; decide⟩
theorem wl_00 (cy : Nat → ClassId) (ad : Nat → Nat) : wl cy ad h00 = [] := rfl
def eqS (i j : Nat) : Cond := .eq (.elem (.field (.string "RowWalks$Reader" (idxS i)) "java/lang/String" "value" "[B") (.int (Int32.ofNat j))) (.int ((bytS.getD i []).getD j 0))
def neS (i j : Nat) : Cond := .not (.eq (.string "RowWalks$Reader" (idxS i)) (.string "RowWalks$Reader" (idxS j)))
abbrev GV : Cond := Jvm.Cond.and given_1 narrow_1
theorem gv_1 : (List.range 5).all (fun i => decide (Cond.exactly (.string "RowWalks$Reader" (idxS i)) "java/lang/String" ∈ flatC GV)) = true := by decide +kernel
theorem gv_2 : (List.range 5).all (fun i => decide (Cond.eq (.field (.string "RowWalks$Reader" (idxS i)) "java/lang/String" "coder" "B") (.int 0) ∈ flatC GV)) = true := by decide +kernel
theorem gv_3 : (List.range 5).all (fun i => decide (Cond.arrayOf (.field (.string "RowWalks$Reader" (idxS i)) "java/lang/String" "value" "[B") .byte ∈ flatC GV)) = true := by decide +kernel
theorem gv_4 : (List.range 5).all (fun i => decide (Cond.eq (.length (.field (.string "RowWalks$Reader" (idxS i)) "java/lang/String" "value" "[B")) (.int (Int32.ofNat (lenS.getD i 0))) ∈ flatC GV)) = true := by decide +kernel
theorem gv_5 : (List.range 5).all (fun i => (List.range (lenS.getD i 0)).all (fun j => decide (eqS i j ∈ flatC GV))) = true := by decide +kernel
theorem gv_6 : (List.range 5).all (fun i => (List.range 5).all (fun j => i == j || decide (neS i j ∈ flatC GV) || decide (neS j i ∈ flatC GV))) = true := by decide +kernel
theorem all_r {n : Nat} {f : Nat → Bool} (h : (List.range n).all f = true) {i : Nat} (hi : i < n) : f i = true := List.all_eq_true.mp h i (List.mem_range.mpr hi)
set_option maxRecDepth 100000 in
theorem kn_all {args : Array Value} {s : State} (hts : ∀ w ∈ TB, w.before args s = true) : ∃ (dC : Nat → ClassId) (dI : Nat → Nat → Nat), ∀ (k : Nat) (q : vw_C), clsT[k]? = some q → u_Kn s q.1 q.2.1 q.2.2 (dC k) (dI k) := by
  have h : ∀ k : Nat, ∃ p : ClassId × (Nat → Nat), ∀ q : vw_C, clsT[k]? = some q → u_Kn s q.1 q.2.1 q.2.2 p.1 p.2 := by
    intro k
    match k with
    | 0 => obtain ⟨c0, i0, h0⟩ := u_known (C := RX0) (T := TX0) (N := 7) (n := 7) hts ok_0.2.1 (hts _ in_0); exact ⟨(c0, i0), fun q hq => by cases hq; exact h0⟩
    | 1 => obtain ⟨c0, i0, h0⟩ := u_known (C := RX1) (T := TX1) (N := 4) (n := 4) hts ok_1.2.1 (hts _ in_1); exact ⟨(c0, i0), fun q hq => by cases hq; exact h0⟩
    | 2 => obtain ⟨c0, i0, h0⟩ := u_known (C := RX2) (T := TX2) (N := 13) (n := 13) hts ok_2.2.1 (hts _ in_2); exact ⟨(c0, i0), fun q hq => by cases hq; exact h0⟩
    | 3 => obtain ⟨c0, i0, h0⟩ := u_known (C := RX3) (T := TX3) (N := 12) (n := 12) hts ok_3.2.1 (hts _ in_3); exact ⟨(c0, i0), fun q hq => by cases hq; exact h0⟩
    | 4 => obtain ⟨c0, i0, h0⟩ := u_known (C := RX4) (T := TX4) (N := 13) (n := 13) hts ok_4.2.1 (hts _ in_4); exact ⟨(c0, i0), fun q hq => by cases hq; exact h0⟩
    | 5 => obtain ⟨c0, i0, h0⟩ := u_known (C := RX5) (T := TX5) (N := 10) (n := 10) hts ok_5.2.1 (hts _ in_5); exact ⟨(c0, i0), fun q hq => by cases hq; exact h0⟩
    | 6 => obtain ⟨c0, i0, h0⟩ := u_known (C := RX6) (T := TX6) (N := 15) (n := 15) hts ok_6.2.1 (hts _ in_6); exact ⟨(c0, i0), fun q hq => by cases hq; exact h0⟩
    | 7 => obtain ⟨c0, i0, h0⟩ := u_known (C := RX7) (T := TX7) (N := 10) (n := 10) hts ok_7.2.1 (hts _ in_7); exact ⟨(c0, i0), fun q hq => by cases hq; exact h0⟩
    | 8 => obtain ⟨c0, i0, h0⟩ := u_known (C := RX8) (T := TX8) (N := 8) (n := 8) hts ok_8.2.1 (hts _ in_8); exact ⟨(c0, i0), fun q hq => by cases hq; exact h0⟩
    | 9 => obtain ⟨c0, i0, h0⟩ := u_known (C := RX9) (T := TX9) (N := 17) (n := 17) hts ok_9.2.1 (hts _ in_9); exact ⟨(c0, i0), fun q hq => by cases hq; exact h0⟩
    | 10 => obtain ⟨c0, i0, h0⟩ := u_known (C := RX10) (T := TX10) (N := 5) (n := 5) hts ok_10.2.1 (hts _ in_10); exact ⟨(c0, i0), fun q hq => by cases hq; exact h0⟩
    | 11 => obtain ⟨c0, i0, h0⟩ := u_known (C := RX11) (T := TX11) (N := 15) (n := 15) hts ok_11.2.1 (hts _ in_11); exact ⟨(c0, i0), fun q hq => by cases hq; exact h0⟩
    | 12 => obtain ⟨c0, i0, h0⟩ := u_known (C := RX12) (T := TX12) (N := 79) (n := 79) hts ok_12.2.1 (hts _ in_12); exact ⟨(c0, i0), fun q hq => by cases hq; exact h0⟩
    | k + 13 => exact ⟨(0, fun _ => 0), fun q hq => by simp [clsT] at hq⟩
  obtain ⟨f, hf⟩ := Classical.axiomOfChoice h
  exact ⟨fun k => (f k).1, fun k => (f k).2, fun k q hq => hf k q hq⟩
theorem ky_all {args : Array Value} {s : State} {dC : Nat → ClassId} {dI : Nat → Nat → Nat} (hts : ∀ w ∈ TB, w.before args s = true) (hK : ∀ (k : Nat) (q : vw_C), clsT[k]? = some q → u_Kn s q.1 q.2.1 q.2.2 (dC k) (dI k)) (hao : va_AO "RowWalks$Columns" s) : ∃ cy : Nat → ClassId, va_K (dC, dI) clsT (tysOf cy) s := by
  obtain ⟨c1, k1, p1, a1, a2, a3⟩ := Cond.arrayClass_spec (hts _ ac_I)
  obtain ⟨c2, k2, p2, b1, b2, b3⟩ := Cond.arrayClass_spec (hts _ ac_J)
  obtain ⟨c3, k3, p3, d1, d2, d3⟩ := Cond.arrayClass_spec (hts _ ac_Z)
  obtain ⟨p4, c4, k4, e1, -, e2, e3, e4⟩ := Cond.arrayOver_spec (va_AO.use (A := #[]) hao)
  refine ⟨fun k => match k with | 0 => c1 | 1 => c2 | 2 => c3 | _ => c4, hK, fun k q hq => ?_⟩
  match k, hq with
  | 0, hq => cases hq; exact ⟨fun n z => ⟨fun k h => (by cases h), k1, a2, p1, a3⟩, a1⟩
  | 1, hq => cases hq; exact ⟨fun n z => ⟨fun k h => (by cases h), k2, b2, p2, b3⟩, b1⟩
  | 2, hq => cases hq; exact ⟨fun n z => ⟨fun k h => (by cases h), k3, d2, p3, d3⟩, d1⟩
  | 3, hq => cases hq; exact ⟨fun n z => ⟨fun k h => (by cases h), k4, e2, p4, e3⟩, ⟨k4, p4, e2, e3, e1, e4⟩⟩
  | k + 4, hq => simp [tysOf] at hq
set_option maxHeartbeats 4000000 in
set_option maxRecDepth 100000 in
/-- THE LAW from its entry, out of the pure statement on its decompiled code -/
theorem whole_open (HL : ∀ (L : Nat) (xs : Nat → Int32), L ≤ 3072 → w_L_law L xs 600000 7302250 h00 (fun r9 _ => r9 = true)) {p : Program} {e : Env} {s : State} {m : MethodId} {below : List Frame} {meth : Method} {c : Code} (l : Launch) {b L : Nat} {xs : Nat → Int32} (hL : L ≤ 3072) (C0 : lw_At p s m meth c b L xs) : W p l e room_1 s m #[Value.ref b] below meth c s.heap [] 0 0 (lw_Z below #[Value.ref b] s) (entryFrame m ([Value.ref b] : List Value).toArray 4) := by
  obtain ⟨hx, hb, hr, hml, hown, hts, hX, hbl, hlocks, hgv, hname⟩ := C0
  have hA0 : ∀ a : Nat, a < s.heap.size → ¬ (fun q : Nat => s.heap.size ≤ q) a := fun a h => Nat.not_le.mpr h
  have htb : ∀ w ∈ TB, w.before #[Value.ref b] s = true := fun w hw => hts w (List.mem_filter.mp hw).1
  have hs := flat_of_before _ hgv
  have hao : va_AO "RowWalks$Columns" s := va_AO.of (hts _ (List.mem_of_getElem? (i := 272) (by decide +kernel)))
  obtain ⟨dC, dI, hKc⟩ := kn_all htb
  obtain ⟨cy, hK⟩ := ky_all htb hKc hao
  obtain ⟨adK, adV, hvS, hvT⟩ := vk_Sof (args := #[Value.ref b]) (s := s) (N := 5) (tm := fun i => .string "RowWalks$Reader" (idxS i)) (len := lenS) (byt := bytS) (A := fun q : Nat => s.heap.size ≤ q) (fun i hi => by
      have := (by decide : ∀ i, i < 5 → lenS.getD i 0 < 2 ^ 31) i hi
      exact this) (fun i hi => hs _ (of_decide_eq_true (all_r gv_1 hi))) (fun i hi => hs _ (of_decide_eq_true (all_r gv_2 hi))) (fun i hi => hs _ (of_decide_eq_true (all_r gv_3 hi))) (fun i hi => hs _ (of_decide_eq_true (all_r gv_4 hi))) (fun i hi j hj => hs (eqS i j) (of_decide_eq_true (all_r (all_r gv_5 hi) hj))) (fun i j hi hj hij => by
      have h := all_r (all_r gv_6 hi) hj
      simp only [Bool.or_eq_true, beq_iff_eq, decide_eq_true_eq] at h
      rcases h with (h | h) | h
      · exact absurd h hij
      · exact Or.inl (hs _ h)
      · exact Or.inr (hs _ h)) hA0
  have hzc : va_Z "java/lang/String" "COMPACT_STRINGS" "Z" (.int 1) (fun q : Nat => s.heap.size ≤ q) s s.heap := va_Zof (hts _ (List.mem_of_getElem? (i := 764) (by decide +kernel))) (hts _ (List.mem_of_getElem? (i := 157) (by decide +kernel))) (va_eqi (hs _ (by decide +kernel))) hA0
  have hzf := va_Zqof (C := "jdk/internal/util/Preconditions") (n := "SIOOBE_FORMATTER") (d := "Ljava/util/function/BiFunction;") (A := fun q : Nat => s.heap.size ≤ q) (hts _ (List.mem_of_getElem? (i := 780) (by decide +kernel))) (hts _ (List.mem_of_getElem? (i := 159) (by decide +kernel))) (hs _ (by decide +kernel)) hA0
  obtain ⟨t12, hz12⟩ : ∃ t : Nat, va_Z "jdk/internal/util/Preconditions" "SIOOBE_FORMATTER" "Ljava/util/function/BiFunction;" .null (fun q : Nat => s.heap.size ≤ q) s s.heap ∨ va_Z "jdk/internal/util/Preconditions" "SIOOBE_FORMATTER" "Ljava/util/function/BiFunction;" (.ref t) (fun q : Nat => s.heap.size ≤ q) s s.heap := by
    rcases hzf with h | ⟨t, h⟩
    · exact ⟨0, Or.inl h⟩
    · exact ⟨t, Or.inr h⟩
  obtain ⟨ad, had⟩ : ∃ ad : Nat → Nat, ad = fun a => if a = 1 then b else if a < 7 then adK (a - 2) else if a < 12 then adV (a - 7) else t12 := ⟨_, rfl⟩
  have e1 : ad 1 = b := by rw [had]; simp
  have e2 : ∀ i, i < 5 → ad (2 + i) = adK i := fun i hi => by rw [had]; simp [show 2 + i ≠ 1 by omega, show 2 + i < 7 by omega]
  have e3 : ∀ i, i < 5 → ad (7 + i) = adV i := fun i hi => by rw [had]; simp [show 7 + i ≠ 1 by omega, show ¬ 7 + i < 7 by omega, show 7 + i < 12 by omega]
  have e4 : ad 12 = t12 := by rw [had]; simp
  have hE : Ext ad (fun q : Nat => s.heap.size ≤ q) s s.heap := by
    refine ⟨⟨fun i hi => ?_, fun i j hi hj h => hvS.2 i j hi hj (by simpa [e2 i hi, e2 j hj] using h)⟩, fun i hi => ?_, hzc, by rw [e4]; exact hz12, fun i hi => ?_, hao⟩
    · have := hvS.1 i hi
      simp only [e2 i hi, e3 i hi]
      exact this
    · rw [e2 i hi]
      refine vk_R.of (A := #[Value.ref b]) ?_ (hvT i hi)
      match i, hi with
      | 0, _ => exact hts _ (List.mem_of_getElem? (i := 750) (by decide +kernel))
      | 1, _ => exact hts _ (List.mem_of_getElem? (i := 824) (by decide +kernel))
      | 2, _ => exact hts _ (List.mem_of_getElem? (i := 837) (by decide +kernel))
      | 3, _ => exact hts _ (List.mem_of_getElem? (i := 838) (by decide +kernel))
      | 4, _ => exact hts _ (List.mem_of_getElem? (i := 839) (by decide +kernel))
    · match i, hi with
      | 0, _ => exact va_Nw.of rfl (hts _ (List.mem_of_getElem? (i := 174) (by decide +kernel)))
      | 1, _ => exact va_Nw.of rfl (hts _ (List.mem_of_getElem? (i := 275) (by decide +kernel)))
      | 2, _ => exact va_Nw.of rfl (hts _ (List.mem_of_getElem? (i := 306) (by decide +kernel)))
  have hl := lv_entry ([.ref b]) (n := 4) (Nat.le_of_ble_eq_true rfl)
  rw [lg_entry_eq]
  generalize (lg_sl ([.ref b]) ++ List.replicate (4 - (lg_sl ([.ref b])).length) Slot.unset).toArray = lsC at hl ⊢
  have hl : lv_has lsC 4 [(0, .ref b)] := hl
  have key := s_L_law (d := 99) (QQ := fun r _ => r = some (ai 1)) (by omega) (HL L xs hL) (fun r9 h9 hr9 => by rw [hr9]; rfl)
  have hC : Cx (some (L, xs)) m_L_law (99 + 1) (fun r _ => r = some (ai 1)) p l e room_1 s m #[Value.ref b] below meth c (dC, dI) cy ad 16 (fun q : Nat => s.heap.size ≤ q) (lw_Z below #[Value.ref b] s) 600000 7302250 := by
    refine ⟨hx, hb, hml, hown, htb, ?_, hK, ⟨Nat.le_of_ble_eq_true rfl, Nat.le_of_ble_eq_true rfl, Nat.le_refl _, Nat.le_refl _⟩, fun _ h => h, hE, Nat.le_refl _, ⟨by rw [e1]; exact hX, by rw [e1]; exact hbl, by rw [e1]; exact Nat.not_le.mpr hbl⟩, ?_⟩
    · exact hname
    · intro pc r h ad9 H9 locs9 ls9 c9 s9 q9 V9 i1 i2 g9
      subst q9
      refine va_forget (fun q hq => V9.2.2.2.2.2.2.2.2 q hq) ?_
      refine W.widen i1 i2 ?_
      exact lw_ret hx hb hr hlocks g9.1
  have W0 := key p l e room_1 s m #[Value.ref b] below meth c (dC, dI) cy ad 16 (fun q : Nat => s.heap.size ≤ q) (lw_Z below #[Value.ref b] s) 600000 7302250 hC ad s.heap [] lsC 0 0 ⟨Rg_00, fun _ => rfl, fun _ _ => rfl, Nat.le_refl _, fun k q h => by rw [wl_00] at h; simp at h, ⟨fun i j p q h => by rw [wl_00] at h; simp at h, fun k q h => by rw [wl_00] at h; simp at h⟩, va_S.rf⟩ (by show lv_has lsC 4 [(0, cv ad (ar 1))]; rw [show cv ad (ar 1) = .ref b from by show rv ad 1 = _; rw [rv_pos (by omega), e1]]; exact hl) (by omega) (by omega)
  exact W0
