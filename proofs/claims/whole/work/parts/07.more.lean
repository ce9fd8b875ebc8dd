variable {X : Option (Nat × (Nat → Int32))} {y : MI} {d pc pc2 : Nat} {ls ls2 : List (Nat × AV)} {st : List AV} {h : Hp} {bc bs : Nat} {Q : Option AV → Hp → Prop}
/-- behind a call that may make cells -/
theorem call_onA {rest : List AV} {mc2 ms2 : Nat} {p : Program} {l : Launch} {e : Env} {R : Room} {s : State} {m : MethodId} {args : Array Value} {below : List Frame} {meth : Method} {c : Code} {D : va_G} {cy : Nat → ClassId} {ad0 : Nat → Nat} {n0 : Nat} {A0 : Nat → Prop} {Z : State → Prop} {mc ms : Nat} (C : Cx X y d Q p l e R s m args below meth c D cy ad0 n0 A0 Z mc ms)
    {ad : Nat → Nat} {H : Heap} {locs : List Loc} {lsC : Array Slot} {cells slots : Nat} (V : Vx s D cy ad0 n0 A0 mc h ad H locs) (hl : lv_has lsC y.2.2.1 (lm ad ls)) (h1 : cells + (bc + mc2) ≤ mc) (h2 : slots + (bs + ms2) ≤ ms) (hs : refB (gX h) rest) (hq : refL (gX h) ls) {stC : List Value} {a : Array Value}
    (hr : va_Run p l e R s m args below meth c H locs cells slots mc2 ms2 (F0 m pc lsC stC) (rest.map (cv ad)) (cQ D cy ad H.size h mc2 (fun r h9 => aW X y d (pc + 3) ls (r.toList ++ rest) h9 bc bs Q) a) (va_A (wl cy ad h) H.size)) : W p l e R s m args below meth c H locs cells slots Z (F0 m pc lsC stC) := by
  intro T hT XX
  obtain ⟨v, st0, t, T9, L, e0, X9, hL, e1, e2, ⟨r, h9, ad9, f1, f2, f3, f4, f5, f6, f7, f8, f9, f10⟩, sp⟩ := hr T hT XX
  have ev : v = r.map (cv ad9) := by
    have := f1
    simpa using this
  subst ev
  have hfree : ∀ q, va_A (wl cy ad h) H.size q → A0 q := by
    intro q hq
    rcases hq with ⟨k, e, hk⟩ | hq
    · exact V.2.2.2.2.2.1.2 k (q, e) hk
    · exact C.2.2.2.2.2.2.2.2.1 q (Nat.le_trans V.2.2.2.2.2.2.1 hq)
  rw [e0] at f9 f10
  have S9 : va_S A0 s.heap t.heap (locs ++ L) := ⟨Nat.le_trans V.2.2.2.2.2.2.1 f9, fun q g1 g2 => by
      rw [f10 q (Nat.lt_of_lt_of_le g1 V.2.2.2.2.2.2.1) (fun z => g2 (hfree q z))]
      exact V.2.2.2.2.2.2.2.1 q g1 g2, fun q hq => by
      rcases List.mem_append.mp hq with g | g
      · exact V.2.2.2.2.2.2.2.2 q g
      · exact hfree _ (hL q g)⟩
  obtain ⟨t2, b1, b2⟩ := f2 p l e R s m args below meth c D cy ad0 n0 A0 Z mc ms C ad9 t.heap (locs ++ L) lsC (cells + mc2) (slots + ms2) ⟨f3, fun z => (f4 (by omega)).trans (V.2.1 z), fun a ha => (f5 a (Nat.lt_of_lt_of_le ha V.2.2.2.1)).trans (V.2.2.1 a ha), Nat.le_trans V.2.2.2.1 f6, f7, f8.weaken (fun _ q _ g => hfree q.1 g), S9⟩ (by rw [lm_re f5 hq]; exact hl) (by omega) (by omega) T9 e1 X9
  have e9 : (r.toList ++ rest).map (cv ad9) = (r.map (cv ad9)).toList ++ rest.map (cv ad) := by
    rw [List.map_append, st_re f5 hs]
    cases r <;> simp
  rw [e9] at b1
  exact ⟨t2, sp t2 b1, b2⟩
theorem r_callA {z : MI} {idx n a ci N mc2 ms2 : Nat} {CC : String} {T : u_T} {av rest stk : List AV} (hd : Dc y pc (.invokevirtual idx) 3 pc2) (hm : mOK z n) (hw : Cond.methodLink y.1.cls idx z.1 ∈ TB) (hi : Cond.instanceMethod z.1 ∈ TB) (hs : Cond.selects CC z.1 z.1 ∈ TB) (ok : clsT[ci]? = some (CC, T, N)) (hci : ci < 20) (hn : av.length = n) (hst : stk = av.reverse ++ ar a :: rest) (hrm : (rest.map ct).sum ≤ 8) (hb : refB (gX h) rest) (hq : refL (gX h) ls) (ha : gK h a = ci)
    (k : aCall z d (ar a :: av) h mc2 ms2 (fun r h9 => aW X y (d + 1) pc2 ls (r.toList ++ rest) h9 bc bs Q)) : aW X y (d + 1) pc ls stk h (bc + mc2) (bs + ms2) Q := by
  obtain ⟨hd, rfl⟩ := hd
  subst hst
  intro p l e R s m args below meth c D cy ad0 n0 A0 Z mc ms C ad H locs lsC cells slots V hl h1 h2
  obtain ⟨v1, v2⟩ := kd_in V.1 ha (by omega)
  have ea : cv ad (ar a) = .ref (ad a) := rv_pos (by omega)
  have he := wl_at (cy := cy) (ad := ad) v1 v2
  rw [cell_obj ha hci] at he
  have hR := C.2.2.2.2.2.2.2.1
  have hrun := va_runV (As := av.map (cv ad)) (rest := rest.map (cv ad)) (g := F0 m pc lsC ((av.reverse ++ ar a :: rest).map (cv ad))) (b := ad a) (cc := y.2.1) (nL := y.2.2.1) (Ts := TB) (locs := locs) (cells := cells) (slots := slots) (below := below) (meth := meth) (e := e) ⟨C.1, C.2.1, C.2.2.1, C.2.2.2.1, C.2.2.2.2.1⟩ (k l D cy ad H.size)
    (C := CC) (index := idx) (n := n) ⟨callB_c (d2 := d) C.2.2.2.2.1 hm (C.2.2.2.2.1 _ hw) ⟨hR.1, hR.2.1⟩, C.2.2.2.2.1 _ hi, C.2.2.2.2.1 _ hs⟩
    ⟨blind_c, va_recv C.2.2.2.2.2.2.1 V.2.2.2.2.1 ok he, fun U hU hW => ⟨by rw [List.map_cons, ea], by rw [hU], V.1, by rw [hU]; exact V.2.2.2.2.1, va_K.moved hW.alike C.2.2.2.2.2.2.1, V.2.2.2.2.2.1.weaken (fun _ _ _ _ => trivial), by rw [hU]; exact (ext_c C V).warm hW⟩⟩
    rfl (by rw [List.length_map]; exact hn) hl.1 (by rw [List.map_append, List.map_reverse, List.map_cons, ea]) (lv_room (by rw [List.map_map]; simpa [Function.comp_def, ct_cv] using hrm)) hd ⟨by have := hR.2.2.1; omega, by have := hR.2.2.2; omega⟩
  exact call_onA C V hl h1 h2 hb hq hrun
theorem r_callI {z : MI} {idx n a mc2 ms2 : Nat} {av rest stk : List AV} (hd : Dc y pc (.invokespecial idx) 3 pc2) (hm : mOK z n) (hw : Cond.methodLink y.1.cls idx z.1 ∈ TB) (hi : Cond.instanceMethod z.1 ∈ TB) (hini : z.1.name = "<init>") (hret : z.2.2.2 = none) (hn : av.length = n) (hst : stk = av.reverse ++ ar a :: rest) (hrm : (rest.map ct).sum ≤ 8) (hb : refB (gX h) rest) (hq : refL (gX h) ls) (ha : a ≠ 0)
    (k : aCall z d (ar a :: av) h mc2 ms2 (fun r h9 => aW X y (d + 1) pc2 ls (r.toList ++ rest) h9 bc bs Q)) : aW X y (d + 1) pc ls stk h (bc + mc2) (bs + ms2) Q := by
  obtain ⟨hd, rfl⟩ := hd
  subst hst
  intro p l e R s m args below meth c D cy ad0 n0 A0 Z mc ms C ad H locs lsC cells slots V hl h1 h2
  have ea : cv ad (ar a) = .ref (ad a) := rv_pos ha
  have hR := C.2.2.2.2.2.2.2.1
  obtain ⟨z1, z2, z3, z4⟩ := z
  have hret : z4 = none := hret
  subst hret
  have CB := 0
  have hrun := va_runI (As := av.map (cv ad)) (rest := rest.map (cv ad)) (g := F0 m pc lsC ((av.reverse ++ ar a :: rest).map (cv ad))) (b := ad a) (cc := y.2.1) (nL := y.2.2.1) (Ts := TB) (locs := locs) (cells := cells) (slots := slots) (below := below) (meth := meth) (e := e) ⟨C.1, C.2.1, C.2.2.1, C.2.2.2.1, C.2.2.2.2.1⟩ (k l D cy ad H.size)
    (index := idx) (n := n) ⟨callB_c (z := (z1, z2, z3, none)) (d2 := d) C.2.2.2.2.1 hm (C.2.2.2.2.1 _ hw) ⟨hR.1, hR.2.1⟩, hini, C.2.2.2.2.1 _ hi⟩
    ⟨blind_c, fun U hU hW => ⟨by rw [List.map_cons, ea], by rw [hU], V.1, by rw [hU]; exact V.2.2.2.2.1, va_K.moved hW.alike C.2.2.2.2.2.2.1, V.2.2.2.2.2.1.weaken (fun _ _ _ _ => trivial), by rw [hU]; exact (ext_c C V).warm hW⟩⟩
    rfl (by rw [List.length_map]; exact hn) hl.1 (by rw [List.map_append, List.map_reverse, List.map_cons, ea]) (lv_room (by rw [List.map_map]; simpa [Function.comp_def, ct_cv] using hrm)) hd ⟨by have := hR.2.2.1; omega, by have := hR.2.2.2; omega⟩
  exact call_onA C V hl h1 h2 hb hq hrun
theorem r_callN {z : MI} {idx n a mc2 ms2 ni : Nat} {av rest stk : List AV} (hd : Dc y pc (.invokespecial idx) 3 pc2) (hm : mOK z n) (hw : nestW ni = .methodLinkNest y.1.cls idx z.1 "RowWalks") (hni : ni < 3) (hyc : y.1.cls = "RowWalks") (hi : Cond.instanceMethod z.1 ∈ TB) (hini : z.1.name = "<init>") (hret : z.2.2.2 = none) (hn : av.length = n) (hst : stk = av.reverse ++ ar a :: rest) (hrm : (rest.map ct).sum ≤ 8) (hb : refB (gX h) rest) (hq : refL (gX h) ls) (ha : a ≠ 0)
    (k : aCall z d (ar a :: av) h mc2 ms2 (fun r h9 => aW X y (d + 1) pc2 ls (r.toList ++ rest) h9 bc bs Q)) : aW X y (d + 1) pc ls stk h (bc + mc2) (bs + ms2) Q := by
  obtain ⟨hd, rfl⟩ := hd
  subst hst
  intro p l e R s m args below meth c D cy ad0 n0 A0 Z mc ms C ad H locs lsC cells slots V hl h1 h2
  have ea : cv ad (ar a) = .ref (ad a) := rv_pos ha
  have hR := C.2.2.2.2.2.2.2.1
  obtain ⟨z1, z2, z3, z4⟩ := z
  have hret : z4 = none := hret
  subst hret
  have hNw := C.2.2.2.2.2.2.2.2.2.1.2.2.2.2.1 ni hni
  rw [hw] at hNw
  have hG : GoodIn TB (Cond.code z1 z2 z3 none :: TB) := fun w hw => by
    rcases List.mem_cons.mp hw with rfl | hw
    · exact ⟨hm.1, TB_good _ hm.1⟩
    · exact ⟨hw, TB_good _ hw⟩
  have CN := va_cnB (own := y.1.cls) (index := idx) (bytes := z2) (maxL := z3) (ret := none) (Ts := TB) (ws' := TB) (R := R) (rm := rmOf d mc2 ms2) (mc := mc2) (ms := ms2) n C.2.2.2.2.1 hG rfl rfl rfl hNw (C.2.2.2.2.1 _ hm.2.1) ⟨hm.2.2.1.1, hm.2.2.1.2, hm.2.2.2.1⟩ ⟨hR.1, by have := hm.2.2.2.2; have := hR.2.1; show 8 + (z3 + 11) + 64 * d ≤ R.locals; have h40 : z3 ≤ 40 := hm.2.2.2.2; omega⟩
  have hrun := va_runIN (As := av.map (cv ad)) (rest := rest.map (cv ad)) (g := F0 m pc lsC ((av.reverse ++ ar a :: rest).map (cv ad))) (b := ad a) (cc := y.2.1) (nL := y.2.2.1) (Ts := TB) (locs := locs) (cells := cells) (slots := slots) (below := below) (meth := meth) (e := e) ⟨C.1, C.2.1, C.2.2.1, C.2.2.2.1, C.2.2.2.2.1⟩ (k l D cy ad H.size)
    (index := idx) (n := n) ⟨CN, hini, C.2.2.2.2.1 _ hi⟩
    ⟨blind_c, fun U hU hW => ⟨by rw [List.map_cons, ea], by rw [hU], V.1, by rw [hU]; exact V.2.2.2.2.1, va_K.moved hW.alike C.2.2.2.2.2.2.1, V.2.2.2.2.2.1.weaken (fun _ _ _ _ => trivial), by rw [hU]; exact (ext_c C V).warm hW⟩⟩
    rfl (by rw [List.length_map]; exact hn) hl.1 (by rw [List.map_append, List.map_reverse, List.map_cons, ea]) (lv_room (by rw [List.map_map]; simpa [Function.comp_def, ct_cv] using hrm)) hd ⟨by have := hR.2.2.1; omega, by have := hR.2.2.2; omega⟩
  exact call_onA C V hl h1 h2 hb hq hrun
theorem r_objInit {idx a : Nat} (hd : Dc y pc (.invokespecial idx) 3 pc2) (hw : Cond.methodLink y.1.cls idx Lib.objectInit ∈ TB) (hi : Cond.instanceMethod Lib.objectInit ∈ TB) (hc : Cond.code Lib.objectInit ⟨#[0xb1]⟩ 1 none ∈ TB) (hrm : (st.map ct).sum ≤ 8) (ha : a ≠ 0) (k : aW X y (d + 1) pc2 ls st h bc bs Q) : aW X y (d + 1) pc ls (ar a :: st) h bc bs Q := by
  obtain ⟨hd, rfl⟩ := hd
  intro p l e R s m args below meth c D cy ad0 n0 A0 Z mc ms C ad H locs lsC cells slots V hl h1 h2
  have hR := C.2.2.2.2.2.2.2.1
  have hsum : ((st.map (cv ad)).map fun v => v.category).sum ≤ 8 := by rw [List.map_map]; simpa [Function.comp_def, ct_cv] using hrm
  refine W.objInit C.1 C.2.1 C.2.2.2.1 (C.2.2.2.2.1 _ hw) (C.2.2.2.2.1 _ hi) (C.2.2.2.2.1 _ hc) rfl (by rw [C.2.2.1]; exact hl.1) (a := ad a) (rest := st.map (cv ad)) (by rw [List.map_cons, show cv ad (ar a) = .ref (ad a) from rv_pos ha]) hd (by omega) (by show 2 * 0 + _ + 12 ≤ _; omega) (k p l e R s m args below meth c D cy ad0 n0 A0 Z mc ms C ad H locs lsC cells slots V hl h1 h2)
theorem r_copy {idx a b : Nat} {sp dp n : Int32} (hd : Dc y pc (.invokestatic idx) 3 pc2) (hw : Cond.methodLink y.1.cls idx arraycopyName ∈ TB) (hnat : Cond.native arraycopyName ∈ TB) (hst : Cond.static arraycopyName ∈ TB) (hini : Cond.initialized "java/lang/System" ∈ TB) (hrm : (st.map ct).sum ≤ 8) (ha : gK h a = 20) (hb : gK h b = 20) (g1 : ¬ sp < 0) (g2 : ¬ dp < 0) (g3 : ¬ n < 0) (g4 : ix sp + ix n ≤ gN h a) (g5 : ix dp + ix n ≤ gN h b)
    (k : aW X y (d + 1) pc2 ls st (sA h b (va_cpy (gI h a) (gI h b) (ix sp) (ix dp) (ix n))) bc bs Q) : aW X y (d + 1) pc ls (ai n :: ai dp :: ar b :: ai sp :: ar a :: st) h bc bs Q := by
  obtain ⟨hd, rfl⟩ := hd
  intro p l e R s m args below meth c D cy ad0 n0 A0 Z mc ms C ad H locs lsC cells slots V hl h1 h2
  have hR := C.2.2.2.2.2.2.2.1
  have hsum : ((st.map (cv ad)).map fun v => v.category).sum ≤ 8 := by rw [List.map_map]; simpa [Function.comp_def, ct_cv] using hrm
  have hnf : nativeFrameWords "java/lang/System" "arraycopy" 5 + 11 ≤ 56 := by decide
  obtain ⟨v1, v2⟩ := kd_in V.1 ha (by omega)
  obtain ⟨u1, u2⟩ := kd_in V.1 hb (by omega)
  rw [List.map_cons, List.map_cons, List.map_cons, List.map_cons, List.map_cons, show cv ad (ar a) = .ref (ad a) from rv_pos (by omega), show cv ad (ar b) = .ref (ad b) from rv_pos (by omega)]
  have he := wl_at (cy := cy) (ad := ad) v1 v2
  rw [show cellOf cy ad h a = .inl (cy 0, gN h a, .inl (gI h a)) by simp [cellOf, ha]] at he
  have he2 := wl_at (cy := cy) (ad := ad) u1 u2
  rw [show cellOf cy ad h b = .inl (cy 0, gN h b, .inl (gI h b)) by simp [cellOf, hb]] at he2
  have EE : (wl cy ad h).set (b - 16) (ad b, .inl (cy 0, gN h b, .inl (va_cpy (gI h a) (gI h b) (ix sp) (ix dp) (ix n)))) = wl cy ad (sA h b (va_cpy (gI h a) (gI h b) (ix sp) (ix dp) (ix n))) := by
    rw [← wl_set (h := h) (h' := sA h b (va_cpy (gI h a) (gI h b) (ix sp) (ix dp) (ix n))) u1 rfl (fun b2 hb2 => cell_congr rfl rfl (fun j => by simp [sA, gI, hb2]) (fun _ => rfl) (fun _ => rfl)), show cellOf cy ad (sA h b (va_cpy (gI h a) (gI h b) (ix sp) (ix dp) (ix n))) b = .inl (cy 0, gN h b, .inl (gI (sA h b (va_cpy (gI h a) (gI h b) (ix sp) (ix dp) (ix n))) b)) from by simp [cellOf, show gK (sA h b (va_cpy (gI h a) (gI h b) (ix sp) (ix dp) (ix n))) b = 20 from hb]; rfl, show gI (sA h b (va_cpy (gI h a) (gI h b) (ix sp) (ix dp) (ix n))) b = va_cpy (gI h a) (gI h b) (ix sp) (ix dp) (ix n) from funext fun j => by simp [sA, gI]]
  exact va_copyi C.1 C.2.1 (C.2.2.1.trans hl.1.symm) C.2.2.2.1 (C.2.2.2.2.1 _ hw) (C.2.2.2.2.1 _ hnat) (C.2.2.2.2.1 _ hst) (C.2.2.2.2.1 _ hini) C.2.2.2.2.2.2.1 V.2.2.2.2.1 V.2.2.2.2.2.1 V.2.2.2.2.2.2 (a - 16) (b - 16) 0 0 (ty := .int) he he2 rfl rfl rfl g1 g2 g3 g4 g5 (fun _ _ => rfl) (by omega) (by omega) hd (fun H9 locs9 P9 D9 S9 => k p l e R s m args below meth c D cy ad0 n0 A0 Z mc ms C ad H9 locs9 lsC cells slots ⟨V.1, V.2.1, V.2.2.1, V.2.2.2.1, EE ▸ P9, EE ▸ D9, S9⟩ hl h1 h2)
theorem r_sld {L : Nat} {xs : Nat → Int32} {i : Int32} (hX : X = some (L, xs)) (hd : Dc y pc .iaload 1 pc2) (hi : vp_in i L) (k : aW X y d pc2 ls (ai (xs (ix i)) :: st) h bc bs Q) : aW X y d pc ls (ai i :: ar 1 :: st) h bc bs Q := by
  obtain ⟨hd, rfl⟩ := hd
  subst hX
  intro p l e R s m args below meth c D cy ad0 n0 A0 Z mc ms C ad H locs lsC cells slots V hl h1 h2
  have hS := C.2.2.2.2.2.2.2.2.2.2.2.1
  rw [List.map_cons, List.map_cons, show cv ad (ar 1) = .ref (ad0 1) from by show rv ad 1 = _; rw [rv_pos (by omega), V.2.2.1 1 (by have := C.2.2.2.2.2.2.2.2.2.2.1; omega)]]
  exact va_sld C.1 C.2.1 hS.1 hS.2.1 hS.2.2 V.2.2.2.2.2.2 hi hd (k p l e R s m args below meth c D cy ad0 n0 A0 Z mc ms C ad H locs lsC cells slots V hl h1 h2)
theorem r_slen {L : Nat} {xs : Nat → Int32} (hX : X = some (L, xs)) (hd : Dc y pc .arraylength 1 pc2) (k : aW X y d pc2 ls (ai (Int32.ofNat L) :: st) h bc bs Q) : aW X y d pc ls (ar 1 :: st) h bc bs Q := by
  obtain ⟨hd, rfl⟩ := hd
  subst hX
  intro p l e R s m args below meth c D cy ad0 n0 A0 Z mc ms C ad H locs lsC cells slots V hl h1 h2
  have hS := C.2.2.2.2.2.2.2.2.2.2.2.1
  rw [List.map_cons, show cv ad (ar 1) = .ref (ad0 1) from by show rv ad 1 = _; rw [rv_pos (by omega), V.2.2.1 1 (by have := C.2.2.2.2.2.2.2.2.2.2.1; omega)]]
  exact va_slen C.1 C.2.1 hS.1 hS.2.1 hS.2.2 V.2.2.2.2.2.2 hd (k p l e R s m args below meth c D cy ad0 n0 A0 Z mc ms C ad H locs lsC cells slots V hl h1 h2)
theorem r_ldcS {i : Nat} (hi : i < 5) (hd : Dc y pc (.ldc (idxS i)) 2 pc2) (hy : y.1.cls = "RowWalks$Reader") (k : aW X y d pc2 ls (ar (2 + i) :: st) h bc bs Q) : aW X y d pc ls st h bc bs Q := by
  obtain ⟨hd, rfl⟩ := hd
  intro p l e R s m args below meth c D cy ad0 n0 A0 Z mc ms C ad H locs lsC cells slots V hl h1 h2
  have kk := k p l e R s m args below meth c D cy ad0 n0 A0 Z mc ms C ad H locs lsC cells slots V hl h1 h2
  rw [List.map_cons, show cv ad (ar (2 + i)) = .ref (ad0 (2 + i)) from by show rv ad _ = _; rw [rv_pos (by omega), V.2.2.1 _ (by have := C.2.2.2.2.2.2.2.2.2.2.1; omega)]] at kk
  exact va_ldcS C.1 C.2.1 (own := "RowWalks$Reader") (by rw [← hy]; exact C.2.2.2.1) (C.2.2.2.2.2.2.2.2.2.1.2.1 i hi) hd kk
theorem r_getsC {idx : Nat} (hd : Dc y pc (.getstatic idx) 3 pc2) (hw : Cond.fieldLink y.1.cls idx "java/lang/String" "COMPACT_STRINGS" "Z" ∈ TB) (k : aW X y d pc2 ls (ai 1 :: st) h bc bs Q) : aW X y d pc ls st h bc bs Q := by
  obtain ⟨hd, rfl⟩ := hd
  intro p l e R s m args below meth c D cy ad0 n0 A0 Z mc ms C ad H locs lsC cells slots V hl h1 h2
  exact va_gets C.1 C.2.1 C.2.2.2.2.2.2.2.2.2.1.2.2.1 V.2.2.2.2.2.2 C.2.2.2.1 (C.2.2.2.2.1 _ hw) (fun _ z => z) hd (k p l e R s m args below meth c D cy ad0 n0 A0 Z mc ms C ad H locs lsC cells slots V hl h1 h2)
theorem r_getsF {idx : Nat} (hd : Dc y pc (.getstatic idx) 3 pc2) (hw : Cond.fieldLink y.1.cls idx "jdk/internal/util/Preconditions" "SIOOBE_FORMATTER" "Ljava/util/function/BiFunction;" ∈ TB) (k : ∀ z, aW X y d pc2 ls (ar z :: st) h bc bs Q) : aW X y d pc ls st h bc bs Q := by
  obtain ⟨hd, rfl⟩ := hd
  intro p l e R s m args below meth c D cy ad0 n0 A0 Z mc ms C ad H locs lsC cells slots V hl h1 h2
  rcases C.2.2.2.2.2.2.2.2.2.1.2.2.2.1 with hz | hz
  · exact va_gets C.1 C.2.1 hz V.2.2.2.2.2.2 C.2.2.2.1 (C.2.2.2.2.1 _ hw) (fun _ z => z) hd (k 0 p l e R s m args below meth c D cy ad0 n0 A0 Z mc ms C ad H locs lsC cells slots V hl h1 h2)
  · have kk := k 12 p l e R s m args below meth c D cy ad0 n0 A0 Z mc ms C ad H locs lsC cells slots V hl h1 h2
    rw [List.map_cons, show cv ad (ar 12) = .ref (ad0 12) from by show rv ad _ = _; rw [rv_pos (by omega), V.2.2.1 _ (by have := C.2.2.2.2.2.2.2.2.2.2.1; omega)]] at kk
    exact va_gets C.1 C.2.1 hz V.2.2.2.2.2.2 C.2.2.2.1 (C.2.2.2.2.1 _ hw) (fun _ z => z) hd kk
theorem r_getSc {idx i : Nat} (hi : i < 5) (hd : Dc y pc (.getfield idx) 3 pc2) (hw : Cond.fieldLink y.1.cls idx "java/lang/String" "coder" "B" ∈ TB) (k : aW X y d pc2 ls (ai 0 :: st) h bc bs Q) : aW X y d pc ls (ar (2 + i) :: st) h bc bs Q := by
  obtain ⟨hd, rfl⟩ := hd
  intro p l e R s m args below meth c D cy ad0 n0 A0 Z mc ms C ad H locs lsC cells slots V hl h1 h2
  rw [List.map_cons, show cv ad (ar (2 + i)) = .ref (ad0 (2 + i)) from by show rv ad _ = _; rw [rv_pos (by omega), V.2.2.1 _ (by have := C.2.2.2.2.2.2.2.2.2.2.1; omega)]]
  exact vk_getf C.1 C.2.1 (C.2.2.2.2.2.2.2.2.2.1.1.1 i hi).2.1 V.2.2.2.2.2.2 C.2.2.2.1 (C.2.2.2.2.1 _ hw) (fun _ z => z) hd (k p l e R s m args below meth c D cy ad0 n0 A0 Z mc ms C ad H locs lsC cells slots V hl h1 h2)
theorem r_getSv {idx i : Nat} (hi : i < 5) (hd : Dc y pc (.getfield idx) 3 pc2) (hw : Cond.fieldLink y.1.cls idx "java/lang/String" "value" "[B" ∈ TB) (k : aW X y d pc2 ls (ar (7 + i) :: st) h bc bs Q) : aW X y d pc ls (ar (2 + i) :: st) h bc bs Q := by
  obtain ⟨hd, rfl⟩ := hd
  intro p l e R s m args below meth c D cy ad0 n0 A0 Z mc ms C ad H locs lsC cells slots V hl h1 h2
  have kk := k p l e R s m args below meth c D cy ad0 n0 A0 Z mc ms C ad H locs lsC cells slots V hl h1 h2
  rw [List.map_cons, show cv ad (ar (7 + i)) = .ref (ad0 (7 + i)) from by show rv ad _ = _; rw [rv_pos (by omega), V.2.2.1 _ (by have := C.2.2.2.2.2.2.2.2.2.2.1; omega)]] at kk
  rw [List.map_cons, show cv ad (ar (2 + i)) = .ref (ad0 (2 + i)) from by show rv ad _ = _; rw [rv_pos (by omega), V.2.2.1 _ (by have := C.2.2.2.2.2.2.2.2.2.2.1; omega)]]
  exact vk_getf C.1 C.2.1 (C.2.2.2.2.2.2.2.2.2.1.1.1 i hi).2.2.1 V.2.2.2.2.2.2 C.2.2.2.1 (C.2.2.2.2.1 _ hw) (fun _ z => z) hd kk
theorem r_baldS {i : Nat} {j : Int32} (hi : i < 5) (hd : Dc y pc .baload 1 pc2) (hj : vp_in j (lenS.getD i 0)) (k : aW X y d pc2 ls (ai ((bytS.getD i []).getD (ix j) 0) :: st) h bc bs Q) : aW X y d pc ls (ai j :: ar (7 + i) :: st) h bc bs Q := by
  obtain ⟨hd, rfl⟩ := hd
  intro p l e R s m args below meth c D cy ad0 n0 A0 Z mc ms C ad H locs lsC cells slots V hl h1 h2
  rw [List.map_cons, List.map_cons, show cv ad (ar (7 + i)) = .ref (ad0 (7 + i)) from by show rv ad _ = _; rw [rv_pos (by omega), V.2.2.1 _ (by have := C.2.2.2.2.2.2.2.2.2.2.1; omega)]]
  exact va_tb C.1 C.2.1 (C.2.2.2.2.2.2.2.2.2.1.1.1 i hi).2.2.2 V.2.2.2.2.2.2 hj rfl hd (k p l e R s m args below meth c D cy ad0 n0 A0 Z mc ms C ad H locs lsC cells slots V hl h1 h2)
theorem r_alenS {i : Nat} (hi : i < 5) (hd : Dc y pc .arraylength 1 pc2) (k : aW X y d pc2 ls (ai (Int32.ofNat (lenS.getD i 0)) :: st) h bc bs Q) : aW X y d pc ls (ar (7 + i) :: st) h bc bs Q := by
  obtain ⟨hd, rfl⟩ := hd
  intro p l e R s m args below meth c D cy ad0 n0 A0 Z mc ms C ad H locs lsC cells slots V hl h1 h2
  rw [List.map_cons, show cv ad (ar (7 + i)) = .ref (ad0 (7 + i)) from by show rv ad _ = _; rw [rv_pos (by omega), V.2.2.1 _ (by have := C.2.2.2.2.2.2.2.2.2.2.1; omega)]]
  exact va_tlen C.1 C.2.1 (C.2.2.2.2.2.2.2.2.2.1.1.1 i hi).2.2.2 V.2.2.2.2.2.2 rfl hd (k p l e R s m args below meth c D cy ad0 n0 A0 Z mc ms C ad H locs lsC cells slots V hl h1 h2)
theorem r_callT {z : MI} {idx n i : Nat} {av rest stk : List AV} (hi5 : i < 5) (hd : Dc y pc (.invokevirtual idx) 3 pc2) (hm : mOK z n) (hw : Cond.methodLink y.1.cls idx z.1 ∈ TB) (hi : Cond.instanceMethod z.1 ∈ TB) (hs : Cond.selects "java/lang/String" z.1 z.1 ∈ TB) (hn : av.length = n) (hst : stk = av.reverse ++ ar (2 + i) :: rest) (hrm : (rest.map ct).sum ≤ 8)
    (k : aCall z d (ar (2 + i) :: av) h 0 0 (fun r h9 => aW X y (d + 1) pc2 ls (r.toList ++ rest) h9 bc bs Q)) : aW X y (d + 1) pc ls stk h bc bs Q := by
  obtain ⟨hd, rfl⟩ := hd
  subst hst
  intro p l e R s m args below meth c D cy ad0 n0 A0 Z mc ms C ad H locs lsC cells slots V hl h1 h2
  have ea : cv ad (ar (2 + i)) = .ref (ad (2 + i)) := rv_pos (by omega)
  have hR := C.2.2.2.2.2.2.2.1
  have hrec := vk_recv C.2.2.2.2.2.2.2.2.2.1.1 hi5 V.2.2.2.2.2.2
  have hrec2 : ∃ cell : Cell, H[ad (2 + i)]? = some cell ∧ cell.vm.isStatics = false ∧ s.vm.findClass "java/lang/String" = some cell.cls := by
    rw [show ad (2 + i) = ad0 (2 + i) from V.2.2.1 _ (by have := C.2.2.2.2.2.2.2.2.2.2.1; omega)]
    exact hrec
  have hrun := va_runV (As := av.map (cv ad)) (rest := rest.map (cv ad)) (g := F0 m pc lsC ((av.reverse ++ ar (2 + i) :: rest).map (cv ad))) (b := ad (2 + i)) (cc := y.2.1) (nL := y.2.2.1) (Ts := TB) (locs := locs) (cells := cells) (slots := slots) (below := below) (meth := meth) (e := e) ⟨C.1, C.2.1, C.2.2.1, C.2.2.2.1, C.2.2.2.2.1⟩ (k l D cy ad H.size)
    (C := "java/lang/String") (index := idx) (n := n) ⟨callB_c (d2 := d) C.2.2.2.2.1 hm (C.2.2.2.2.1 _ hw) ⟨hR.1, hR.2.1⟩, C.2.2.2.2.1 _ hi, C.2.2.2.2.1 _ hs⟩
    ⟨blind_c, hrec2, fun U hU hW => ⟨by rw [List.map_cons, ea], by rw [hU], V.1, by rw [hU]; exact V.2.2.2.2.1, va_K.moved hW.alike C.2.2.2.2.2.2.1, V.2.2.2.2.2.1.weaken (fun _ _ _ _ => trivial), by rw [hU]; exact (ext_c C V).warm hW⟩⟩
    rfl (by rw [List.length_map]; exact hn) hl.1 (by rw [List.map_append, List.map_reverse, List.map_cons, ea]) (lv_room (by rw [List.map_map]; simpa [Function.comp_def, ct_cv] using hrm)) hd ⟨by have := hR.2.2.1; omega, by have := hR.2.2.2; omega⟩
  exact call_on C V hl h1 h2 hrun
