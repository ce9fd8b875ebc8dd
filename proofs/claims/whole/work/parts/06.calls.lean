variable {X : Option (Nat × (Nat → Int32))} {y : MI} {d pc pc2 : Nat} {ls ls2 : List (Nat × AV)} {st : List AV} {h : Hp} {bc bs : Nat} {Q : Option AV → Hp → Prop}
/-- references on a stack, in locals, that are in use -/
def refB (n : Nat) (st : List AV) : Prop := ∀ v ∈ st, ∀ a, v = ar a → a < n
def refL (n : Nat) (ls : List (Nat × AV)) : Prop := ∀ q ∈ ls, ∀ a, q.2 = ar a → a < n
theorem cv_re {ad ad9 : Nat → Nat} {n : Nat} {v : AV} (he : ∀ a, a < n → ad9 a = ad a) (hv : ∀ a, v = ar a → a < n) : cv ad9 v = cv ad v := by
  rcases v with x | x | a
  · rfl
  · rfl
  · show rv ad9 a = rv ad a
    unfold rv
    rw [he a (hv a rfl)]
theorem st_re {ad ad9 : Nat → Nat} {n : Nat} {st : List AV} (he : ∀ a, a < n → ad9 a = ad a) (hs : refB n st) : st.map (cv ad9) = st.map (cv ad) := List.map_congr_left fun v hv => cv_re he (hs v hv)
theorem lm_re {ad ad9 : Nat → Nat} {n : Nat} {ls : List (Nat × AV)} (he : ∀ a, a < n → ad9 a = ad a) (hs : refL n ls) : lm ad9 ls = lm ad ls := List.map_congr_left fun q hq => by rw [cv_re he (hs q hq)]
theorem cell_re {cy : Nat → ClassId} {ad ad9 : Nat → Nat} {h : Hp} {b : Nat} (hR : Rg h) (he : ∀ a, a < gX h → ad9 a = ad a) : cellOf cy ad9 h b = cellOf cy ad h b := by
  have e1 : ∀ k, rv ad9 (gR h b k) = rv ad (gR h b k) := fun k => by unfold rv; rw [he _ (hR.2.2 b k)]
  have e2 : ∀ k, ro ad9 (gR h b k) = ro ad (gR h b k) := fun k => by unfold ro; rw [he _ (hR.2.2 b k)]
  unfold cellOf flds fval
  simp only [e1, e2]
theorem wl_push {cy : Nat → ClassId} {ad ad9 : Nat → Nat} {h : Hp} {kd n : Nat} (hR : Rg h) (he : ∀ a, a < gX h → ad9 a = ad a) : wl cy ad9 (nw h kd n) = wl cy ad h ++ [(ad9 (gX h), cellOf cy ad9 (nw h kd n) (gX h))] := by
  have hz : gX (nw h kd n) - 16 = (gX h - 16) + 1 := by show gX h + 1 - 16 = _; have := hR.1; omega
  unfold wl
  rw [hz, List.range_succ, List.map_append, List.map_singleton, show gX h - 16 + 16 = gX h from by have := hR.1; omega]
  congr 1
  apply List.map_congr_left
  intro i hi
  have hi2 : i + 16 < gX h := by have := List.mem_range.mp hi; omega
  have hne : i + 16 ≠ gX h := by omega
  rw [he _ hi2, ← cell_re (ad := ad) (ad9 := ad9) hR he]
  congr 1
  exact cell_congr (by simp [nw, gK, hne]) (by simp [nw, gN, hne]) (fun j => by simp [nw, gI, hne]) (fun j => by simp [nw, gL, hne]) (fun j => by simp [nw, gR, hne])
theorem Rg_nw {h : Hp} {kd n : Nat} (hR : Rg h) : Rg (nw h kd n) := by
  refine ⟨Nat.le_succ_of_le hR.1, fun a ha => ?_, fun a k => ?_⟩
  · show 16 ≤ a ∧ a < gX h + 1
    by_cases e : a = gX h
    · have := hR.1; omega
    · have := hR.2.1 a (by simpa [nw, gK, e] using ha)
      omega
  · show (if a = gX h then 0 else gR h a k) < gX h + 1
    split
    · omega
    · exact Nat.lt_succ_of_lt (hR.2.2 a k)
def okTy (ty : FieldType) : Bool := match ty with
  | .float => false
  | .double => false
  | _ => true
theorem def_ty {ty : FieldType} (h : okTy ty = true) (ad : Nat → Nat) : defaultValue ty = if ftag ty = 0 then .int 0 else if ftag ty = 1 then .long 0 else rv ad 0 := by
  cases ty <;> simp_all [okTy, ftag, defaultValue, rv]
theorem r_newI {n : Int32} {N : Nat} (hd : Dc y pc (.newarray .int) 2 pc2) (hw : Cond.arrayClass .int ∈ TB) (hn : ¬ n < 0) (hN : n.toNatClampNeg = N) (hby : N * 8 ≤ 536870912) (hs : refB (gX h) st) (hq : refL (gX h) ls) (k : aW X y d pc2 ls (ar (gX h) :: st) (nw h 20 N) bc bs Q) : aW X y d pc ls (ai n :: st) h (bc + 1) (bs + N) Q := by
  obtain ⟨hd, rfl⟩ := hd
  intro p l e R s m args below meth c D cy ad0 n0 A0 Z mc ms C ad H locs lsC cells slots V hl h1 h2
  have hR := C.2.2.2.2.2.2.2.1
  have hKK := C.2.2.2.2.2.2.1
  refine va_newa (atype := .int) C.1 C.2.1 (C.2.2.2.2.1 _ hw) (ty := .int) rfl hKK V.2.2.2.2.1 V.2.2.2.2.2.1 V.2.2.2.2.2.2 C.2.2.2.2.2.2.2.2.1 (a0 := (N, .inl (fun _ => 0))) (fun _ => rfl) hn hN (Nat.le_trans (Nat.mul_le_mul_left N (show componentBytes .int ≤ 8 by decide)) hby) (by omega) (by omega) hd (fun q cA H9 K9 P9 D9 S9 => ?_)
  have ecA : cA = cy 0 := by
    have e1 : va_RA s cA .int := (K9.2 4 (cA, .int) rfl).2
    have e2 : va_RA s (cy 0) .int := (hKK.2 0 (cy 0, .int) rfl).2
    exact Option.some.inj ((show s.vm.findClass _ = some cA from e1).symm.trans e2)
  subst ecA
  obtain ⟨ad9, had⟩ : ∃ f : Nat → Nat, f = fun x => if x = gX h then q else ad x := ⟨_, rfl⟩
  have he : ∀ a, a < gX h → ad9 a = ad a := fun a ha => by rw [had]; simp [Nat.ne_of_lt ha]
  have hq9 : ad9 (gX h) = q := by rw [had]; simp
  have EE : (wl cy ad h) ++ [(q, .inl (cy 0, (N, .inl (fun _ => 0))))] = wl cy ad9 (nw h 20 N) := by
    rw [wl_push V.1 he, hq9]
    congr 3
    simp [cellOf, nw, gK, gN]
    first | rfl | (funext j; simp [gI, gL])
  have kk := k p l e R s m args below meth c D cy ad0 n0 A0 Z mc ms C ad9 H9 locs lsC (cells + 1) (slots + N) ⟨Rg_nw V.1, fun z => absurd z (by omega), fun a ha => (he a (Nat.lt_of_lt_of_le ha V.2.2.2.1)).trans (V.2.2.1 a ha), Nat.le_succ_of_le V.2.2.2.1, EE ▸ P9, EE ▸ D9, S9⟩ (by rw [lm_re he hq]; exact hl) (by omega) (by omega)
  rw [List.map_cons, st_re he hs, show cv ad9 (ar (gX h)) = .ref q from by show rv ad9 _ = _; rw [rv_pos (by have := V.1.1; omega), hq9]] at kk
  exact kk
theorem r_newL {n : Int32} {N : Nat} (hd : Dc y pc (.newarray .long) 2 pc2) (hw : Cond.arrayClass .long ∈ TB) (hn : ¬ n < 0) (hN : n.toNatClampNeg = N) (hby : N * 8 ≤ 536870912) (hs : refB (gX h) st) (hq : refL (gX h) ls) (k : aW X y d pc2 ls (ar (gX h) :: st) (nw h 21 N) bc bs Q) : aW X y d pc ls (ai n :: st) h (bc + 1) (bs + N) Q := by
  obtain ⟨hd, rfl⟩ := hd
  intro p l e R s m args below meth c D cy ad0 n0 A0 Z mc ms C ad H locs lsC cells slots V hl h1 h2
  have hR := C.2.2.2.2.2.2.2.1
  have hKK := C.2.2.2.2.2.2.1
  refine va_newa (atype := .long) C.1 C.2.1 (C.2.2.2.2.1 _ hw) (ty := .long) rfl hKK V.2.2.2.2.1 V.2.2.2.2.2.1 V.2.2.2.2.2.2 C.2.2.2.2.2.2.2.2.1 (a0 := (N, .inr (.inl (fun _ => 0)))) (fun _ => rfl) hn hN (Nat.le_trans (Nat.mul_le_mul_left N (show componentBytes .long ≤ 8 by decide)) hby) (by omega) (by omega) hd (fun q cA H9 K9 P9 D9 S9 => ?_)
  have ecA : cA = cy 1 := by
    have e1 : va_RA s cA .long := (K9.2 4 (cA, .long) rfl).2
    have e2 : va_RA s (cy 1) .long := (hKK.2 1 (cy 1, .long) rfl).2
    exact Option.some.inj ((show s.vm.findClass _ = some cA from e1).symm.trans e2)
  subst ecA
  obtain ⟨ad9, had⟩ : ∃ f : Nat → Nat, f = fun x => if x = gX h then q else ad x := ⟨_, rfl⟩
  have he : ∀ a, a < gX h → ad9 a = ad a := fun a ha => by rw [had]; simp [Nat.ne_of_lt ha]
  have hq9 : ad9 (gX h) = q := by rw [had]; simp
  have EE : (wl cy ad h) ++ [(q, .inl (cy 1, (N, .inr (.inl (fun _ => 0)))))] = wl cy ad9 (nw h 21 N) := by
    rw [wl_push V.1 he, hq9]
    congr 3
    simp [cellOf, nw, gK, gN]
    first | rfl | (funext j; simp [gI, gL])
  have kk := k p l e R s m args below meth c D cy ad0 n0 A0 Z mc ms C ad9 H9 locs lsC (cells + 1) (slots + N) ⟨Rg_nw V.1, fun z => absurd z (by omega), fun a ha => (he a (Nat.lt_of_lt_of_le ha V.2.2.2.1)).trans (V.2.2.1 a ha), Nat.le_succ_of_le V.2.2.2.1, EE ▸ P9, EE ▸ D9, S9⟩ (by rw [lm_re he hq]; exact hl) (by omega) (by omega)
  rw [List.map_cons, st_re he hs, show cv ad9 (ar (gX h)) = .ref q from by show rv ad9 _ = _; rw [rv_pos (by have := V.1.1; omega), hq9]] at kk
  exact kk
theorem r_newZ {n : Int32} {N : Nat} (hd : Dc y pc (.newarray .boolean) 2 pc2) (hw : Cond.arrayClass .boolean ∈ TB) (hn : ¬ n < 0) (hN : n.toNatClampNeg = N) (hby : N * 8 ≤ 536870912) (hs : refB (gX h) st) (hq : refL (gX h) ls) (k : aW X y d pc2 ls (ar (gX h) :: st) (nw h 22 N) bc bs Q) : aW X y d pc ls (ai n :: st) h (bc + 1) (bs + N) Q := by
  obtain ⟨hd, rfl⟩ := hd
  intro p l e R s m args below meth c D cy ad0 n0 A0 Z mc ms C ad H locs lsC cells slots V hl h1 h2
  have hR := C.2.2.2.2.2.2.2.1
  have hKK := C.2.2.2.2.2.2.1
  refine va_newa (atype := .boolean) C.1 C.2.1 (C.2.2.2.2.1 _ hw) (ty := .boolean) rfl hKK V.2.2.2.2.1 V.2.2.2.2.2.1 V.2.2.2.2.2.2 C.2.2.2.2.2.2.2.2.1 (a0 := (N, .inl (fun _ => 0))) (fun _ => rfl) hn hN (Nat.le_trans (Nat.mul_le_mul_left N (show componentBytes .boolean ≤ 8 by decide)) hby) (by omega) (by omega) hd (fun q cA H9 K9 P9 D9 S9 => ?_)
  have ecA : cA = cy 2 := by
    have e1 : va_RA s cA .boolean := (K9.2 4 (cA, .boolean) rfl).2
    have e2 : va_RA s (cy 2) .boolean := (hKK.2 2 (cy 2, .boolean) rfl).2
    exact Option.some.inj ((show s.vm.findClass _ = some cA from e1).symm.trans e2)
  subst ecA
  obtain ⟨ad9, had⟩ : ∃ f : Nat → Nat, f = fun x => if x = gX h then q else ad x := ⟨_, rfl⟩
  have he : ∀ a, a < gX h → ad9 a = ad a := fun a ha => by rw [had]; simp [Nat.ne_of_lt ha]
  have hq9 : ad9 (gX h) = q := by rw [had]; simp
  have EE : (wl cy ad h) ++ [(q, .inl (cy 2, (N, .inl (fun _ => 0))))] = wl cy ad9 (nw h 22 N) := by
    rw [wl_push V.1 he, hq9]
    congr 3
    simp [cellOf, nw, gK, gN]
    first | rfl | (funext j; simp [gI, gL])
  have kk := k p l e R s m args below meth c D cy ad0 n0 A0 Z mc ms C ad9 H9 locs lsC (cells + 1) (slots + N) ⟨Rg_nw V.1, fun z => absurd z (by omega), fun a ha => (he a (Nat.lt_of_lt_of_le ha V.2.2.2.1)).trans (V.2.2.1 a ha), Nat.le_succ_of_le V.2.2.2.1, EE ▸ P9, EE ▸ D9, S9⟩ (by rw [lm_re he hq]; exact hl) (by omega) (by omega)
  rw [List.map_cons, st_re he hs, show cv ad9 (ar (gX h)) = .ref q from by show rv ad9 _ = _; rw [rv_pos (by have := V.1.1; omega), hq9]] at kk
  exact kk
theorem r_newO {n : Int32} {N idx : Nat} (hd : Dc y pc (.anewarray idx) 3 pc2) (hw : Cond.classLink y.1.cls idx "RowWalks$Columns" ∈ TB) (hn : ¬ n < 0) (hN : n.toNatClampNeg = N) (hby : N * 8 ≤ 536870912) (hs : refB (gX h) st) (hq : refL (gX h) ls) (k : aW X y d pc2 ls (ar (gX h) :: st) (nw h 23 N) bc bs Q) : aW X y d pc ls (ai n :: st) h (bc + 1) (bs + N) Q := by
  obtain ⟨hd, rfl⟩ := hd
  intro p l e R s m args below meth c D cy ad0 n0 A0 Z mc ms C ad H locs lsC cells slots V hl h1 h2
  have hR := C.2.2.2.2.2.2.2.1
  have hKK := C.2.2.2.2.2.2.1
  refine va_newq C.1 C.2.1 C.2.2.2.1 (C.2.2.2.2.1 _ hw) C.2.2.2.2.2.2.2.2.2.1.2.2.2.2.2 hKK V.2.2.2.2.1 V.2.2.2.2.2.1 V.2.2.2.2.2.2 C.2.2.2.2.2.2.2.2.1 hn hN (by omega) (by omega) (by omega) hd (fun q cA H9 K9 P9 D9 S9 => ?_)
  have ecA : cA = cy 3 := by
    obtain ⟨_, _, _, _, _, e1⟩ : va_RA s cA (.object "RowWalks$Columns") := (K9.2 4 (cA, .object "RowWalks$Columns") rfl).2
    obtain ⟨_, _, _, _, _, e2⟩ : va_RA s (cy 3) (.object "RowWalks$Columns") := (hKK.2 3 (cy 3, .object "RowWalks$Columns") rfl).2
    exact Option.some.inj (e1.symm.trans e2)
  subst ecA
  obtain ⟨ad9, had⟩ : ∃ f : Nat → Nat, f = fun x => if x = gX h then q else ad x := ⟨_, rfl⟩
  have he : ∀ a, a < gX h → ad9 a = ad a := fun a ha => by rw [had]; simp [Nat.ne_of_lt ha]
  have hq9 : ad9 (gX h) = q := by rw [had]; simp
  have EE : (wl cy ad h) ++ [(q, .inl (cy 3, N, .inr (.inr (.inr (.inr (fun _ => none))))))] = wl cy ad9 (nw h 23 N) := by
    rw [wl_push V.1 he, hq9]
    congr 3
    simp [cellOf, nw, gK, gN, gR, ro]
  have kk := k p l e R s m args below meth c D cy ad0 n0 A0 Z mc ms C ad9 H9 locs lsC (cells + 1) (slots + N) ⟨Rg_nw V.1, fun z => absurd z (by omega), fun a ha => (he a (Nat.lt_of_lt_of_le ha V.2.2.2.1)).trans (V.2.2.1 a ha), Nat.le_succ_of_le V.2.2.2.1, EE ▸ P9, EE ▸ D9, S9⟩ (by rw [lm_re he hq]; exact hl) (by omega) (by omega)
  rw [List.map_cons, st_re he hs, show cv ad9 (ar (gX h)) = .ref q from by show rv ad9 _ = _; rw [rv_pos (by have := V.1.1; omega), hq9]] at kk
  exact kk
theorem r_new {idx ci N : Nat} {C : String} {T : u_T} (hd : Dc y pc (.new idx) 3 pc2) (ok : clsOK ci C T N) (hci : ci < 20) (hty : ∀ k, k < N → okTy (tyT ci k) = true) (hw : Cond.classLink y.1.cls idx C ∈ TB) (hw2 : Cond.instantiable C N ∈ TB) (hw3 : Cond.initialized C ∈ TB) (hs : refB (gX h) st) (hq : refL (gX h) ls) (k : aW X y d pc2 ls (ar (gX h) :: st) (nw h ci 0) bc bs Q) : aW X y d pc ls st h (bc + 1) (bs + N) Q := by
  obtain ⟨hd, rfl⟩ := hd
  intro p l e R s m args below meth c D cy ad0 n0 A0 Z mc ms C ad H locs lsC cells slots V hl h1 h2
  have hR := C.2.2.2.2.2.2.2.1
  have hKK := C.2.2.2.2.2.2.1
  have hfs : ∀ j, j < N → defaultValue (tyT ci j) = vp_V (flds ad (nw h ci 0) (gX h) ci) j := fun j hj => by
    unfold vp_V
    rw [List.getD_eq_getElem?_getD, flds_at (by rw [NF_of ok]; exact hj), def_ty (hty j hj) ad]
    simp [fval, nw, gI, gL, gR]
  refine va_new C.1 C.2.1 C.2.2.2.2.1 ok.2.1 (tyT ci) ok.2.2.1 C.2.2.2.1 (C.2.2.2.2.1 _ hw) (C.2.2.2.2.1 _ hw2) (C.2.2.2.2.1 _ hw3) hKK V.2.2.2.2.1 V.2.2.2.2.2.1 V.2.2.2.2.2.2 C.2.2.2.2.2.2.2.2.1 ok.1 hfs (by omega) (by omega) hd (fun q H9 P9 D9 S9 => ?_)
  obtain ⟨ad9, had⟩ : ∃ f : Nat → Nat, f = fun x => if x = gX h then q else ad x := ⟨_, rfl⟩
  have he : ∀ a, a < gX h → ad9 a = ad a := fun a ha => by rw [had]; simp [Nat.ne_of_lt ha]
  have hq9 : ad9 (gX h) = q := by rw [had]; simp
  have EE : (wl cy ad h) ++ [(q, .inr (ci, flds ad (nw h ci 0) (gX h) ci))] = wl cy ad9 (nw h ci 0) := by
    rw [wl_push V.1 he, hq9, cell_obj (h := nw h ci 0) (a := gX h) (ci := ci) (by simp [nw, gK]) hci]
    congr 4
    unfold flds
    refine congrArg (Prod.mk ci) (List.map_congr_left ?_)
    intro j _
    simp [fval, nw, gI, gL, gR, rv]
  have kk := k p l e R s m args below meth c D cy ad0 n0 A0 Z mc ms C ad9 H9 locs lsC (cells + 1) (slots + N) ⟨Rg_nw V.1, fun z => absurd z (by omega), fun a ha => (he a (Nat.lt_of_lt_of_le ha V.2.2.2.1)).trans (V.2.2.1 a ha), Nat.le_succ_of_le V.2.2.2.1, EE ▸ P9, EE ▸ D9, S9⟩ (by rw [lm_re he hq]; exact hl) (by omega) (by omega)
  rw [List.map_cons, st_re he hs, show cv ad9 (ar (gX h)) = .ref q from by show rv ad9 _ = _; rw [rv_pos (by have := V.1.1; omega), hq9]] at kk
  exact kk
/-- what is known of a method that is called: its code, its class, how many arguments -/
def mOK (z : MI) (n : Nat) : Prop := Cond.code z.1 z.2.1 z.2.2.1 z.2.2.2 ∈ TB ∧ Cond.initialized z.1.cls ∈ TB ∧ (z.1.cls ≠ "java/lang/invoke/MethodHandle" ∧ z.1.cls ≠ "java/lang/invoke/VarHandle") ∧ (parseMethodDescriptor z.1.desc).map (fun q => q.parameters.length) = some n ∧ z.2.2.1 ≤ 40
theorem blind_c {D : va_G} {cy : Nat → ClassId} {ad : Nat → Nat} {sz : Nat} {h : Hp} {av : List AV} : FrameBlind (cPc D cy ad sz h av) := by
  intro a U g mk q
  obtain ⟨q0, q1, q2, q3, q4, q5, q6⟩ := q
  exact ⟨q0, q1, q2, q3, va_K.moved (u := U) (U := U.calling g mk a) (Vm.Alike.refl U.vm) q4, q5, Ext.same (s := U) (U := U.calling g mk a) (H := U.heap) rfl q6⟩
theorem callB_c {z : MI} {n d2 mc2 ms2 index : Nat} {R : Room} {s : State} {args : Array Value} {own : String} (hts : ∀ w ∈ TB, w.before args s = true) (hm : mOK z n) (hl : (Cond.methodLink own index z.1).before args s = true) (hR : d2 + 1 ≤ R.frames ∧ 64 * (d2 + 1) ≤ R.locals) : CallB R s args own index z.1 z.2.1 z.2.2.1 z.2.2.2 (Cond.code z.1 z.2.1 z.2.2.1 z.2.2.2 :: TB) (rmOf d2 mc2 ms2) mc2 ms2 n := by
  obtain ⟨a1, a2, a3, a4, a5⟩ := hm
  have hG : GoodIn TB (Cond.code z.1 z.2.1 z.2.2.1 z.2.2.2 :: TB) := fun w hw => by
    rcases List.mem_cons.mp hw with rfl | hw
    · exact ⟨a1, TB_good _ a1⟩
    · exact ⟨hw, TB_good _ hw⟩
  refine ⟨rfl, rfl, hR.1, ?_, pay_in hts hG, List.mem_cons_self, hts _ a1, hts _ a2, a3, fun sig h => ?_, hl⟩
  · show 8 + (z.2.2.1 + 11) + 64 * d2 ≤ R.locals
    omega
  · rw [h] at a4
    exact (Option.some.inj a4).symm
/-- behind a call that makes nothing -/
theorem call_on {rest : List AV} {p : Program} {l : Launch} {e : Env} {R : Room} {s : State} {m : MethodId} {args : Array Value} {below : List Frame} {meth : Method} {c : Code} {D : va_G} {cy : Nat → ClassId} {ad0 : Nat → Nat} {n0 : Nat} {A0 : Nat → Prop} {Z : State → Prop} {mc ms : Nat} (C : Cx X y d Q p l e R s m args below meth c D cy ad0 n0 A0 Z mc ms)
    {ad : Nat → Nat} {H : Heap} {locs : List Loc} {lsC : Array Slot} {cells slots : Nat} (V : Vx s D cy ad0 n0 A0 mc h ad H locs) (hl : lv_has lsC y.2.2.1 (lm ad ls)) (h1 : cells + bc ≤ mc) (h2 : slots + bs ≤ ms) {stC : List Value} {a : Array Value}
    (hr : va_Run p l e R s m args below meth c H locs cells slots 0 0 (F0 m pc lsC stC) (rest.map (cv ad)) (cQ D cy ad H.size h 0 (fun r h9 => aW X y d (pc + 3) ls (r.toList ++ rest) h9 bc bs Q) a) (va_A (wl cy ad h) H.size)) : W p l e R s m args below meth c H locs cells slots Z (F0 m pc lsC stC) := by
  intro T hT XX
  obtain ⟨v, st0, t, T9, L, e0, X9, hL, e1, e2, ⟨r, h9, ad9, f1, f2, f3, f4, f5, f6, f7, f8, f9, f10⟩, sp⟩ := hr T hT XX
  have ead : ad9 = ad := f4 rfl
  subst ead
  have ev : v = r.map (cv ad9) := by
    have := f1
    simpa using this
  subst ev
  have hfree : ∀ q, va_A (wl cy ad9 h) H.size q → A0 q := by
    intro q hq
    rcases hq with ⟨k, e, hk⟩ | hq
    · exact V.2.2.2.2.2.1.2 k (q, e) hk
    · exact C.2.2.2.2.2.2.2.2.1 q (Nat.le_trans V.2.2.2.2.2.2.1 hq)
  rw [e0] at f9 f10
  have S9 : va_S A0 s.heap t.heap (locs ++ L) := ⟨Nat.le_trans V.2.2.2.2.2.2.1 f9, fun q g1 g2 => by
      rw [f10 q (Nat.lt_of_lt_of_le g1 V.2.2.2.2.2.2.1) (fun z => g2 (hfree q z))]
      exact V.2.2.2.2.2.2.2.1 q g1 g2, fun q hq => by
      rcases List.mem_append.mp hq with g | g
      · exact V.2.2.2.2.2.2.2.2 q g
      · exact hfree _ (hL q g)⟩
  obtain ⟨t2, b1, b2⟩ := f2 p l e R s m args below meth c D cy ad0 n0 A0 Z mc ms C ad9 t.heap (locs ++ L) lsC cells slots ⟨f3, V.2.1, V.2.2.1, Nat.le_trans V.2.2.2.1 f6, f7, f8.weaken (fun _ q _ g => hfree q.1 g), S9⟩ hl h1 h2 T9 e1 X9
  have e9 : (r.toList ++ rest).map (cv ad9) = (r.map (cv ad9)).toList ++ rest.map (cv ad9) := by cases r <;> simp
  rw [e9] at b1
  exact ⟨t2, sp t2 b1, b2⟩
theorem ext_c {p : Program} {l : Launch} {e : Env} {R : Room} {s : State} {m : MethodId} {args : Array Value} {below : List Frame} {meth : Method} {c : Code} {D : va_G} {cy : Nat → ClassId} {ad0 : Nat → Nat} {n0 : Nat} {A0 : Nat → Prop} {Z : State → Prop} {mc ms : Nat} (C : Cx X y d Q p l e R s m args below meth c D cy ad0 n0 A0 Z mc ms)
    {ad : Nat → Nat} {H : Heap} {locs : List Loc} (V : Vx s D cy ad0 n0 A0 mc h ad H locs) : Ext ad (va_A (wl cy ad h) H.size) s H := by
  have hfree : ∀ q, va_A (wl cy ad h) H.size q → A0 q := by
    intro q hq
    rcases hq with ⟨k, e, hk⟩ | hq
    · exact V.2.2.2.2.2.1.2 k (q, e) hk
    · exact C.2.2.2.2.2.2.2.2.1 q (Nat.le_trans V.2.2.2.2.2.2.1 hq)
  exact ((C.2.2.2.2.2.2.2.2.2.1.kept V.2.2.2.2.2.2.2.1).narrow hfree).re (fun a ha => V.2.2.1 a (Nat.lt_of_lt_of_le ha C.2.2.2.2.2.2.2.2.2.2.1))
theorem r_callV {z : MI} {idx n a ci N : Nat} {CC : String} {T : u_T} {av rest stk : List AV} (hd : Dc y pc (.invokevirtual idx) 3 pc2) (hm : mOK z n) (hw : Cond.methodLink y.1.cls idx z.1 ∈ TB) (hi : Cond.instanceMethod z.1 ∈ TB) (hs : Cond.selects CC z.1 z.1 ∈ TB) (ok : clsT[ci]? = some (CC, T, N)) (hci : ci < 20) (hn : av.length = n) (hst : stk = av.reverse ++ ar a :: rest) (hrm : (rest.map ct).sum ≤ 8) (ha : gK h a = ci)
    (k : aCall z d (ar a :: av) h 0 0 (fun r h9 => aW X y (d + 1) pc2 ls (r.toList ++ rest) h9 bc bs Q)) : aW X y (d + 1) pc ls stk h bc bs Q := by
  obtain ⟨hd, rfl⟩ := hd
  subst hst
  intro p l e R s m args below meth c D cy ad0 n0 A0 Z mc ms C ad H locs lsC cells slots V hl h1 h2
  obtain ⟨v1, v2⟩ := kd_in V.1 ha (by omega)
  have ea : cv ad (ar a) = .ref (ad a) := rv_pos (by omega)
  have he := wl_at (cy := cy) (ad := ad) v1 v2
  rw [cell_obj ha hci] at he
  have hR := C.2.2.2.2.2.2.2.1
  have hrun := va_runV (As := av.map (cv ad)) (rest := rest.map (cv ad)) (g := F0 m pc lsC ((av.reverse ++ ar a :: rest).map (cv ad))) (b := ad a) (cc := y.2.1) (nL := y.2.2.1) (Ts := TB) (locs := locs) (cells := cells) (slots := slots) (below := below) (meth := meth) (e := e) ⟨C.1, C.2.1, C.2.2.1, C.2.2.2.1, C.2.2.2.2.1⟩ (k l D cy ad H.size)
    (C := CC) (index := idx) (n := n) ⟨callB_c (d2 := d) C.2.2.2.2.1 hm (C.2.2.2.2.1 _ hw) ⟨hR.1, hR.2.1⟩, C.2.2.2.2.1 _ hi, C.2.2.2.2.1 _ hs⟩
    ⟨blind_c, va_recv C.2.2.2.2.2.2.1 V.2.2.2.2.1 ok he, fun U hU hW => ⟨by rw [List.map_cons, ea], by rw [hU], V.1, by rw [hU]; exact V.2.2.2.2.1, va_K.moved hW.alike C.2.2.2.2.2.2.1, V.2.2.2.2.2.1.weaken (fun _ _ _ _ => trivial), by rw [hU]; exact (ext_c C V).warm hW⟩⟩
    rfl (by rw [List.length_map]; exact hn) hl.1 (by rw [List.map_append, List.map_reverse, List.map_cons, ea]) (lv_room (by rw [List.map_map]; simpa [Function.comp_def, ct_cv] using hrm)) hd ⟨by have := hR.2.2.1; omega, by have := hR.2.2.2; omega⟩
  exact call_on C V hl h1 h2 hrun
theorem r_callS {z : MI} {idx n : Nat} {av rest stk : List AV} (hd : Dc y pc (.invokestatic idx) 3 pc2) (hm : mOK z n) (hw : Cond.methodLink y.1.cls idx z.1 ∈ TB) (hi : Cond.static z.1 ∈ TB) (hn : av.length = n) (hst : stk = av.reverse ++ rest) (hrm : (rest.map ct).sum ≤ 8)
    (k : aCall z d av h 0 0 (fun r h9 => aW X y (d + 1) pc2 ls (r.toList ++ rest) h9 bc bs Q)) : aW X y (d + 1) pc ls stk h bc bs Q := by
  obtain ⟨hd, rfl⟩ := hd
  subst hst
  intro p l e R s m args below meth c D cy ad0 n0 A0 Z mc ms C ad H locs lsC cells slots V hl h1 h2
  have hR := C.2.2.2.2.2.2.2.1
  have hrun := va_runS (As := av.map (cv ad)) (rest := rest.map (cv ad)) (g := F0 m pc lsC ((av.reverse ++ rest).map (cv ad))) (cc := y.2.1) (nL := y.2.2.1) (Ts := TB) (locs := locs) (cells := cells) (slots := slots) (below := below) (meth := meth) (e := e) ⟨C.1, C.2.1, C.2.2.1, C.2.2.2.1, C.2.2.2.2.1⟩ (k l D cy ad H.size)
    (index := idx) (n := n) ⟨callB_c (d2 := d) C.2.2.2.2.1 hm (C.2.2.2.2.1 _ hw) ⟨hR.1, hR.2.1⟩, C.2.2.2.2.1 _ hi⟩
    ⟨blind_c, fun U hU hW => ⟨rfl, by rw [hU], V.1, by rw [hU]; exact V.2.2.2.2.1, va_K.moved hW.alike C.2.2.2.2.2.2.1, V.2.2.2.2.2.1.weaken (fun _ _ _ _ => trivial), by rw [hU]; exact (ext_c C V).warm hW⟩⟩
    rfl (by rw [List.length_map]; exact hn) hl.1 (by rw [List.map_append, List.map_reverse]) (lv_room (by rw [List.map_map]; simpa [Function.comp_def, ct_cv] using hrm)) hd ⟨by have := hR.2.2.1; omega, by have := hR.2.2.2; omega⟩
  exact call_on C V hl h1 h2 hrun
theorem la_eq (ad : Nat → Nat) : ∀ (vs : List AV) (i : Nat), lv_args i (vs.map (cv ad)) = lm ad (la i vs)
  | [], _ => rfl
  | v :: vs, i => by
    show (i, cv ad v) :: lv_args (if (cv ad v).category = 2 then i + 2 else i + 1) (vs.map (cv ad)) = (i, cv ad v) :: lm ad (la (i + ct v) vs)
    rw [← la_eq ad vs (i + ct v), ct_cv]
    rcases v with x | x | a <;> rfl
def slw (vs : List AV) : Nat := (vs.map ct).sum
theorem slw_eq (ad : Nat → Nat) : ∀ vs : List AV, (lg_sl (vs.map (cv ad))).length = slw vs
  | [] => rfl
  | v :: vs => by
    have ih := slw_eq ad vs
    simp only [lg_sl, slw, List.map_cons, List.flatMap_cons, List.length_append, List.sum_cons] at ih ⊢
    rw [ih, ct_cv]
    rcases v with x | x | a <;> simp [ct]
/-- A METHOD'S CONTRACT out of its wp from the entry -/
theorem Met.ofWF {l : Launch} {y : MethodName} {ws ws' : List Cond} {rm : Room} {Pc : Array Value → State → Prop} {Qc : Array Value → State → Outcome → State → Prop} {mc ms : Nat} {free : Addr → Prop} {cc : ByteArray} {maxL : Nat} {ret : Option FieldType}
    (hy : plainFor y = true) (hw : ws = Cond.code y cc maxL ret :: ws')
    (body : ∀ p e s m args below meth c s₁, BodyLoose p l y (headSpec ws rm) cc maxL ret e s m args below meth c s₁ → c.maxLocals = maxL → Pc args s →
      W p l e (headSpec ws rm).room s m args below meth c s.heap [] 0 0 (MQ below Qc args s mc ms free) (entryFrame m args maxL)) : Met l y ws rm Pc Qc mc ms free := by
  refine MetFree.of_bodySF (code := cc) (maxLocals := maxL) (ret := ret) hy ?_ ?_
  · intro args s m h hn
    obtain ⟨meth, c, h1, h2, h3, h4, h5, h6, -, -⟩ := Cond.code_spec hn (atoms_spec (ws := ws) h _ (by rw [hw]; exact List.mem_cons_self))
    exact ⟨meth, c, h1, h2, h3, h4, h5, h6⟩
  · intro p e s m args below meth c s₁ B hml hP _
    have hh0 : s₁.heap = s.heap := by rw [B.state]; rfl
    obtain ⟨t, a1, o, b1, b2, b3⟩ := body p e s m args below meth c s₁ B hml hP s₁ hh0 (Stand.of_body B)
    exact ⟨t, o, a1, b1, b2, ⟨b3.1, b3.2⟩⟩
theorem aCall_in {mc ms : Nat} {av : List AV} (hp : plainFor y.1 = true) (hm : slw av ≤ y.2.2.1) (k : aW none y d 0 (la 0 av) [] h mc ms Q) : aCall y d av h mc ms Q := by
  intro l D cy ad sz
  refine Met.ofWF (cc := y.2.1) (maxL := y.2.2.1) (ret := y.2.2.2) hp rfl ?_
  intro p e s m args below meth c s₁ B hml hv
  obtain ⟨rfl, hsz, hRg, hP, hK, hD0, hE⟩ := hv
  subst hsz
  have hts := atoms_spec (ws := Cond.code y.1 y.2.1 y.2.2.1 y.2.2.2 :: TB) B.pre
  have hown : s.vm.findClass y.1.cls = some m.cls := findClass_of_methodNamed B.named
  have hin : meth.name = y.1.name := (name_of_methodNamed B.named B.method).1
  have hD := hD0.self (sz := s.heap.size)
  have hl := lv_entry (av.map (cv ad)) (n := y.2.2.1) (by rw [slw_eq]; exact hm)
  rw [lg_entry_eq, ]
  rw [la_eq] at hl
  generalize (lg_sl (av.map (cv ad)) ++ List.replicate (y.2.2.1 - (lg_sl (av.map (cv ad))).length) Slot.unset).toArray = lsC at hl ⊢
  refine k p l e _ s m _ below meth c D cy ad (gX h) (va_A (wl cy ad h) s.heap.size) _ mc ms ⟨B.exec, B.bytes, hml, hown, fun w hw => hts w (List.mem_cons_of_mem _ hw), hin, hK, ⟨Nat.le_refl _, Nat.le_refl _, Nat.le_refl _, Nat.le_refl _⟩, fun q hq => Or.inr hq, hE, hRg.1, trivial, ?_⟩ ad s.heap [] lsC 0 0 ⟨hRg, fun _ => rfl, fun _ _ => rfl, Nat.le_refl _, hP, hD, va_S.rf⟩ hl (by omega) (by omega)
  intro pc r h9 ad9 H9 locs9 ls9 c9 s9 q9 V9 i1 i2 g9
  refine W.widen i1 i2 ?_
  have fin : ∀ t : State, t.heap = H9 → s.WarmedH t.vm → cQ D cy ad s.heap.size h mc Q (av.map (cv ad)).toArray s (.returned (r.map (cv ad9))) t := fun t ht _ => ⟨r, h9, ad9, rfl, q9, V9.1, V9.2.1, V9.2.2.1, V9.2.2.2.1, by rw [ht]; exact V9.2.2.2.2.1, V9.2.2.2.2.2.1, V9.2.2.2.2.2.2.F ht⟩
  rcases r with _ | (v | v | v)
  · exact W.vret B.exec B.bytes (B.returns.trans g9.1) fin V9.2.2.2.2.2.2.2.2 g9.2
  · obtain ⟨g1, ty, g2, g3⟩ := g9
    exact W.zret B.exec B.bytes (B.returns.trans g2) g3 fin V9.2.2.2.2.2.2.2.2 g1
  · exact W.lret B.exec B.bytes (B.returns.trans g9.1) fin V9.2.2.2.2.2.2.2.2 g9.2
  · exact g9.elim
