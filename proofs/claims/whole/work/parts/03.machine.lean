/-! THE ABSTRACT MACHINE: values, a heap by numbers, and the wp of a method's frame (aW) over the kit's W, for all contexts at once -/
abbrev AV : Type := Int32 ⊕ Int64 ⊕ Nat
abbrev ai (x : Int32) : AV := Sum.inl x
abbrev al (x : Int64) : AV := Sum.inr (Sum.inl x)
abbrev ar (a : Nat) : AV := Sum.inr (Sum.inr a)
def rv (ad : Nat → Nat) (a : Nat) : Value := if a = 0 then .null else .ref (ad a)
def ro (ad : Nat → Nat) (a : Nat) : Option Nat := if a = 0 then none else some (ad a)
def cv (ad : Nat → Nat) (v : AV) : Value := match v with
  | Sum.inl x => .int x
  | Sum.inr (Sum.inl x) => .long x
  | Sum.inr (Sum.inr a) => rv ad a
def ct (v : AV) : Nat := match v with
  | Sum.inl _ => 1
  | Sum.inr (Sum.inl _) => 2
  | Sum.inr (Sum.inr _) => 1
theorem ct_cv (ad : Nat → Nat) (v : AV) : (cv ad v).category = ct v := by
  rcases v with x | x | a
  · rfl
  · rfl
  · show (rv ad a).category = 1
    unfold rv
    split <;> rfl
theorem rv_ro (ad : Nat → Nat) (a : Nat) : va_rf (ro ad a) = rv ad a := by
  unfold ro rv
  split <;> rfl
theorem rv_pos {ad : Nat → Nat} {a : Nat} (h : a ≠ 0) : rv ad a = .ref (ad a) := by simp [rv, h]
/-- the heap: ints, longs, references of (address, place); kind, length of an address; the next address -/
abbrev Hp : Type := (Nat → Nat → Int32) × (Nat → Nat → Int64) × (Nat → Nat → Nat) × (Nat → Nat) × (Nat → Nat) × Nat
def gI (h : Hp) : Nat → Nat → Int32 := h.1
def gL (h : Hp) : Nat → Nat → Int64 := h.2.1
def gR (h : Hp) : Nat → Nat → Nat := h.2.2.1
def gK (h : Hp) : Nat → Nat := h.2.2.2.1
def gN (h : Hp) : Nat → Nat := h.2.2.2.2.1
def gX (h : Hp) : Nat := h.2.2.2.2.2
def sI (h : Hp) (a k : Nat) (v : Int32) : Hp := (fun b j => if b = a ∧ j = k then v else gI h b j, h.2)
def sL (h : Hp) (a k : Nat) (v : Int64) : Hp := (h.1, fun b j => if b = a ∧ j = k then v else gL h b j, h.2.2)
def sR (h : Hp) (a k : Nat) (v : Nat) : Hp := (h.1, h.2.1, fun b j => if b = a ∧ j = k then v else gR h b j, h.2.2.2)
def sA (h : Hp) (a : Nat) (f : Nat → Int32) : Hp := (fun b j => if b = a then f j else gI h b j, h.2)
def sB (h : Hp) (a : Nat) (f : Nat → Int64) : Hp := (h.1, fun b j => if b = a then f j else gL h b j, h.2.2)
/-- a new address of a kind and a length: all 0 -/
def nw (h : Hp) (kd n : Nat) : Hp := (fun b j => if b = gX h then 0 else gI h b j, fun b j => if b = gX h then 0 else gL h b j, fun b j => if b = gX h then 0 else gR h b j, fun b => if b = gX h then kd else gK h b, fun b => if b = gX h then n else gN h b, gX h + 1)
def ftag (ty : FieldType) : Nat := match ty with
  | .long => 1
  | .object _ => 2
  | .array _ => 2
  | _ => 0
def fval (ad : Nat → Nat) (h : Hp) (a tag k : Nat) : Value := if tag = 0 then .int (gI h a k) else if tag = 1 then .long (gL h a k) else rv ad (gR h a k)
def NF (ci : Nat) : Nat := match clsT[ci]? with
  | some q => q.2.2
  | none => 0
def flds (ad : Nat → Nat) (h : Hp) (a ci : Nat) : List Value := (List.range (NF ci)).map (fun k => fval ad h a (ftag (tyT ci k)) k)
def cellOf (cy : Nat → ClassId) (ad : Nat → Nat) (h : Hp) (a : Nat) : va_E :=
  if gK h a = 20 then .inl (cy 0, gN h a, .inl (gI h a))
  else if gK h a = 21 then .inl (cy 1, gN h a, .inr (.inl (gL h a)))
  else if gK h a = 22 then .inl (cy 2, gN h a, .inl (gI h a))
  else if gK h a = 23 then .inl (cy 3, gN h a, .inr (.inr (.inr (.inr (fun i => ro ad (gR h a i))))))
  else .inr (gK h a, flds ad h a (gK h a))
def wl (cy : Nat → ClassId) (ad : Nat → Nat) (h : Hp) : va_W := (List.range (gX h - 16)).map (fun i => (ad (i + 16), cellOf cy ad h (i + 16)))
/-- addresses in use lie from 16 on; what is referred to is in use or below 16 -/
def Rg (h : Hp) : Prop := 16 ≤ gX h ∧ (∀ a, gK h a ≠ 99 → 16 ≤ a ∧ a < gX h) ∧ ∀ a k, gR h a k < gX h
theorem wl_len (cy : Nat → ClassId) (ad : Nat → Nat) (h : Hp) : (wl cy ad h).length = gX h - 16 := by simp [wl]
theorem wl_at {cy : Nat → ClassId} {ad : Nat → Nat} {h : Hp} {a : Nat} (h1 : 16 ≤ a) (h2 : a < gX h) : (wl cy ad h)[a - 16]? = some (ad a, cellOf cy ad h a) := by
  unfold wl
  rw [List.getElem?_map, List.getElem?_range (by omega)]
  simp only [Option.map_some]
  rw [show a - 16 + 16 = a by omega]
theorem wl_set {cy : Nat → ClassId} {ad : Nat → Nat} {h h' : Hp} {a : Nat} (h1 : 16 ≤ a) (hx : gX h' = gX h) (ho : ∀ b, b ≠ a → cellOf cy ad h' b = cellOf cy ad h b) : (wl cy ad h).set (a - 16) (ad a, cellOf cy ad h' a) = wl cy ad h' := by
  apply List.ext_getElem
  · simp [wl, hx]
  · intro i h2 h3
    rw [List.getElem_set]
    have hi : i < gX h - 16 := by simpa [wl] using h2
    split
    · rename_i e
      simp only [wl, List.getElem_map, List.getElem_range]
      rw [← e, show a - 16 + 16 = a by omega]
    · rename_i e
      simp only [wl, List.getElem_map, List.getElem_range]
      rw [ho (i + 16) (by omega)]
/-- two heaps of one kind at an address and like contents there have one cell there -/
theorem cell_congr {cy : Nat → ClassId} {ad : Nat → Nat} {h h' : Hp} {b : Nat} (hk : gK h' b = gK h b) (hn : gN h' b = gN h b) (hi : ∀ j, gI h' b j = gI h b j) (hl : ∀ j, gL h' b j = gL h b j) (hr : ∀ j, gR h' b j = gR h b j) : cellOf cy ad h' b = cellOf cy ad h b := by
  have e1 : gI h' b = gI h b := funext hi
  have e2 : gL h' b = gL h b := funext hl
  have e3 : gR h' b = gR h b := funext hr
  unfold cellOf flds fval
  rw [hk, hn, e1, e2, e3]
theorem cell_sI {cy : Nat → ClassId} {ad : Nat → Nat} {h : Hp} {a k b : Nat} {v : Int32} (hb : b ≠ a) : cellOf cy ad (sI h a k v) b = cellOf cy ad h b :=
  cell_congr rfl rfl (fun j => by simp [sI, gI, hb]) (fun _ => rfl) (fun _ => rfl)
theorem cell_sL {cy : Nat → ClassId} {ad : Nat → Nat} {h : Hp} {a k b : Nat} {v : Int64} (hb : b ≠ a) : cellOf cy ad (sL h a k v) b = cellOf cy ad h b :=
  cell_congr rfl rfl (fun _ => rfl) (fun j => by simp [sL, gL, hb]) (fun _ => rfl)
theorem cell_sR {cy : Nat → ClassId} {ad : Nat → Nat} {h : Hp} {a k b : Nat} {v : Nat} (hb : b ≠ a) : cellOf cy ad (sR h a k v) b = cellOf cy ad h b :=
  cell_congr rfl rfl (fun _ => rfl) (fun _ => rfl) (fun j => by simp [sR, gR, hb])
theorem cell_obj {cy : Nat → ClassId} {ad : Nat → Nat} {h : Hp} {a ci : Nat} (hk : gK h a = ci) (hc : ci < 20) : cellOf cy ad h a = .inr (ci, flds ad h a ci) := by
  unfold cellOf
  rw [hk, if_neg (by omega), if_neg (by omega), if_neg (by omega), if_neg (by omega)]
theorem flds_at {ad : Nat → Nat} {h : Hp} {a ci k : Nat} (hk : k < NF ci) : (flds ad h a ci)[k]? = some (fval ad h a (ftag (tyT ci k)) k) := by
  unfold flds
  rw [List.getElem?_map, List.getElem?_range hk]
  rfl
theorem flds_set {ad : Nat → Nat} {h h' : Hp} {a ci k : Nat} (ho : ∀ j, j ≠ k → gI h' a j = gI h a j ∧ gL h' a j = gL h a j ∧ gR h' a j = gR h a j) : (flds ad h a ci).set k (fval ad h' a (ftag (tyT ci k)) k) = flds ad h' a ci := by
  apply List.ext_getElem
  · simp [flds]
  · intro i h2 h3
    rw [List.getElem_set]
    split
    · rename_i e
      subst e
      simp only [flds, List.getElem_map, List.getElem_range]
    · rename_i e
      simp only [flds, List.getElem_map, List.getElem_range]
      obtain ⟨e1, e2, e3⟩ := ho i (fun z => e z.symm)
      unfold fval
      rw [e1, e2, e3]
def tysOf (cy : Nat → ClassId) : List (ClassId × FieldType) := [(cy 0, .int), (cy 1, .long), (cy 2, .boolean), (cy 3, .object "RowWalks$Columns")]
/-- the String constants of the Reader: place, text, length, bytes -/
def lenS : List Nat := [4, 6, 4, 4, 5]
def bytS : List (List Int32) := [[114, 111, 119, 115], [99, 111, 108, 117, 109, 110], [103, 97, 105, 110], [110, 101, 101, 100], [115, 116, 101, 112, 115]]
def idxS (i : Nat) : Nat := match i with
  | 0 => 61
  | 1 => 74
  | 2 => 121
  | 3 => 82
  | _ => 87
def txS (i : Nat) : String := match i with
  | 0 => "rows"
  | 1 => "column"
  | 2 => "gain"
  | 3 => "need"
  | _ => "steps"
abbrev nestW (i : Nat) : Cond := match i with
  | 0 => .methodLinkNest "RowWalks" 9 ⟨"RowWalks$Tape", "<init>", "()V"⟩ "RowWalks"
  | 1 => .methodLinkNest "RowWalks" 45 ⟨"RowWalks$Acts", "<init>", "()V"⟩ "RowWalks"
  | _ => .methodLinkNest "RowWalks" 52 ⟨"RowWalks$PlanSearch", "<init>", "()V"⟩ "RowWalks"
/-- what lies outside our cells and is read: String constants at 2 .. 6 (their bytes at 7 .. 11), two statics; three links and an array class -/
def Ext (ad : Nat → Nat) (A : Nat → Prop) (U : State) (H : Heap) : Prop :=
  vk_S 5 lenS bytS (fun i => ad (2 + i)) (fun i => ad (7 + i)) A U H ∧ (∀ i, i < 5 → vk_R "RowWalks$Reader" (idxS i) (txS i) (ad (2 + i)) U) ∧
  va_Z "java/lang/String" "COMPACT_STRINGS" "Z" (.int 1) A U H ∧ (va_Z "jdk/internal/util/Preconditions" "SIOOBE_FORMATTER" "Ljava/util/function/BiFunction;" .null A U H ∨ va_Z "jdk/internal/util/Preconditions" "SIOOBE_FORMATTER" "Ljava/util/function/BiFunction;" (.ref (ad 12)) A U H) ∧
  (∀ i, i < 3 → va_Nw (nestW i) U) ∧ va_AO "RowWalks$Columns" U
theorem nestW_warm {i : Nat} {s U : State} (hW : s.WarmedH U.vm) (h : va_Nw (nestW i) s) : va_Nw (nestW i) U := by
  match i, h with
  | 0, h => exact va_Nw.warmM hW h
  | 1, h => exact va_Nw.warmM hW h
  | _ + 2, h => exact va_Nw.warmM hW h
theorem nestW_same {i : Nat} {s U : State} (hW : s.vm = U.vm) (h : va_Nw (nestW i) s) : va_Nw (nestW i) U := by
  match i, h with
  | 0, h => exact va_Nw.same rfl hW h
  | 1, h => exact va_Nw.same rfl hW h
  | _ + 2, h => exact va_Nw.same rfl hW h
theorem Ext.warm {ad : Nat → Nat} {A : Nat → Prop} {s U : State} {H : Heap} (hW : s.WarmedH U.vm) (h : Ext ad A s H) : Ext ad A U H :=
  ⟨h.1.moved hW.alike, fun i hi => (h.2.1 i hi).warm hW, h.2.2.1.moved hW.alike, h.2.2.2.1.imp (va_Z.moved hW.alike) (va_Z.moved hW.alike), fun i hi => nestW_warm hW (h.2.2.2.2.1 i hi), va_AO.moved hW.alike h.2.2.2.2.2⟩
theorem Ext.same {ad : Nat → Nat} {A : Nat → Prop} {s U : State} {H : Heap} (hv : U.vm = s.vm) (h : Ext ad A s H) : Ext ad A U H :=
  have hA : s.vm.Alike U.vm := by rw [hv]; exact Vm.Alike.refl _
  ⟨h.1.moved hA, fun i hi => (h.2.1 i hi).same hv, h.2.2.1.moved hA, h.2.2.2.1.imp (va_Z.moved hA) (va_Z.moved hA), fun i hi => nestW_same hv.symm (h.2.2.2.2.1 i hi), va_AO.moved hA h.2.2.2.2.2⟩
theorem Ext.kept {ad : Nat → Nat} {A : Nat → Prop} {U : State} {H H1 : Heap} (h : Ext ad A U H) (hq : ∀ a : Nat, a < H.size → ¬ A a → H1[a]? = H[a]?) : Ext ad A U H1 :=
  ⟨h.1.kept hq, h.2.1, h.2.2.1.kept hq, h.2.2.2.1.imp (fun z => z.kept hq) (fun z => z.kept hq), h.2.2.2.2⟩
theorem Ext.narrow {ad : Nat → Nat} {A B : Nat → Prop} {U : State} {H : Heap} (h : Ext ad A U H) (hAB : ∀ q, B q → A q) : Ext ad B U H :=
  ⟨h.1.narrow hAB, h.2.1, h.2.2.1.narrow hAB, h.2.2.2.1.imp (fun z => z.narrow hAB) (fun z => z.narrow hAB), h.2.2.2.2⟩
theorem Ext.re {ad ad' : Nat → Nat} {A : Nat → Prop} {U : State} {H : Heap} (h : Ext ad A U H) (he : ∀ a, a < 16 → ad' a = ad a) : Ext ad' A U H := by
  have e1 : ∀ i, i < 5 → ad' (2 + i) = ad (2 + i) := fun i hi => he _ (by omega)
  have e2 : ∀ i, i < 5 → ad' (7 + i) = ad (7 + i) := fun i hi => he _ (by omega)
  refine ⟨⟨fun i hi => ?_, fun i j hi hj e => h.1.2 i j hi hj (by simpa [e1 i hi, e1 j hj] using e)⟩, fun i hi => by rw [e1 i hi]; exact h.2.1 i hi, h.2.2.1, ?_, h.2.2.2.2⟩
  · have := h.1.1 i hi
    simp only [e1 i hi, e2 i hi]
    exact this
  · rw [he 12 (by omega)]; exact h.2.2.2.1
/-- how a method ends with an answer -/
def retGood (y : MI) (pc : Nat) (r : Option AV) : Prop := match r with
  | none => y.2.2.2 = none ∧ decode y.2.1 pc = .ok (.return_, 1)
  | some (Sum.inl v) => decode y.2.1 pc = .ok (.ireturn, 1) ∧ ∃ ty, y.2.2.2 = some ty ∧ narrow ty (.int v) = .int v
  | some (Sum.inr (Sum.inl _)) => y.2.2.2 = some .long ∧ decode y.2.1 pc = .ok (.lreturn, 1)
  | some (Sum.inr (Sum.inr _)) => False
/-- the world of a frame: our cells at their addresses, apart, nothing else changed -/
def Vx (s : State) (D : va_G) (cy : Nat → ClassId) (ad0 : Nat → Nat) (n0 : Nat) (A0 : Nat → Prop) (mc : Nat) (h : Hp) (ad : Nat → Nat) (H : Heap) (locs : List Loc) : Prop :=
  Rg h ∧ (mc = 0 → ad = ad0) ∧ (∀ a, a < n0 → ad a = ad0 a) ∧ n0 ≤ gX h ∧ va_P D clsT (wl cy ad h) H ∧ va_D A0 (wl cy ad h) ∧ va_S A0 s.heap H locs
/-- what stands fixed in a frame -/
def Cx (X : Option (Nat × (Nat → Int32))) (y : MI) (d : Nat) (Q : Option AV → Hp → Prop) (p : Program) (l : Launch) (e : Env) (R : Room) (s : State) (m : MethodId) (args : Array Value) (below : List Frame) (meth : Method) (c : Code) (D : va_G) (cy : Nat → ClassId) (ad0 : Nat → Nat) (n0 : Nat) (A0 : Nat → Prop) (Z : State → Prop) (mc ms : Nat) : Prop :=
  p.tables.exec = Jvm.exec ∧ c.code = y.2.1 ∧ c.maxLocals = y.2.2.1 ∧ s.vm.findClass y.1.cls = some m.cls ∧ (∀ w ∈ TB, w.before args s = true) ∧ meth.name = y.1.name ∧ va_K D clsT (tysOf cy) s ∧
  (d ≤ R.frames ∧ 64 * d ≤ R.locals ∧ mc ≤ R.cells ∧ ms ≤ R.slots) ∧ (∀ q, s.heap.size ≤ q → A0 q) ∧ Ext ad0 A0 s s.heap ∧ 16 ≤ n0 ∧
  (match X with | none => True | some q => va_X (ad0 1) q.1 q.2 s s.heap ∧ ad0 1 < s.heap.size ∧ ¬ A0 (ad0 1)) ∧
  (∀ (pc : Nat) (r : Option AV) (h : Hp) (ad : Nat → Nat) (H : Heap) (locs : List Loc) (lsC : Array Slot) (cells slots : Nat), Q r h → Vx s D cy ad0 n0 A0 mc h ad H locs → cells ≤ mc → slots ≤ ms → retGood y pc r → W p l e R s m args below meth c H locs cells slots Z (F0 m pc lsC ((r.map (cv ad)).toList)))
def lm (ad : Nat → Nat) (ls : List (Nat × AV)) : List (Nat × Value) := ls.map (fun q => (q.1, cv ad q.2))
/-- THE WP of a frame: at pc, with these locals, this stack, this heap, bc cells of bs slots left to make, the method comes to an answer and a heap with Q -/
def aW (X : Option (Nat × (Nat → Int32))) (y : MI) (d pc : Nat) (ls : List (Nat × AV)) (st : List AV) (h : Hp) (bc bs : Nat) (Q : Option AV → Hp → Prop) : Prop :=
  ∀ (p : Program) (l : Launch) (e : Env) (R : Room) (s : State) (m : MethodId) (args : Array Value) (below : List Frame) (meth : Method) (c : Code) (D : va_G) (cy : Nat → ClassId) (ad0 : Nat → Nat) (n0 : Nat) (A0 : Nat → Prop) (Z : State → Prop) (mc ms : Nat), Cx X y d Q p l e R s m args below meth c D cy ad0 n0 A0 Z mc ms →
  ∀ (ad : Nat → Nat) (H : Heap) (locs : List Loc) (lsC : Array Slot) (cells slots : Nat), Vx s D cy ad0 n0 A0 mc h ad H locs → lv_has lsC y.2.2.1 (lm ad ls) → cells + bc ≤ mc → slots + bs ≤ ms →
  W p l e R s m args below meth c H locs cells slots Z (F0 m pc lsC (st.map (cv ad)))
/-- a method's start and end, as a contract of the kit has them -/
def cPc (D : va_G) (cy : Nat → ClassId) (ad : Nat → Nat) (sz : Nat) (h : Hp) (av : List AV) : Array Value → State → Prop := va_Pc (av.map (cv ad)) (fun U => U.heap.size = sz ∧ Rg h ∧ va_P D clsT (wl cy ad h) U.heap ∧ va_K D clsT (tysOf cy) U ∧ va_D (fun _ => True) (wl cy ad h) ∧ Ext ad (va_A (wl cy ad h) sz) U U.heap)
def cQ (D : va_G) (cy : Nat → ClassId) (ad : Nat → Nat) (sz : Nat) (h : Hp) (mc : Nat) (Q : Option AV → Hp → Prop) : Array Value → State → Outcome → State → Prop := fun _ st oc t =>
  ∃ (r : Option AV) (h' : Hp) (ad' : Nat → Nat), oc = .returned (r.map (cv ad')) ∧ Q r h' ∧ Rg h' ∧ (mc = 0 → ad' = ad) ∧ (∀ a, a < gX h → ad' a = ad a) ∧ gX h ≤ gX h' ∧ va_P D clsT (wl cy ad' h') t.heap ∧ va_D (va_A (wl cy ad h) sz) (wl cy ad' h') ∧ va_F (va_A (wl cy ad h) sz) st t
def rmOf (d mc ms : Nat) : Room := { frames := d, cells := mc, slots := ms, locals := 64 * d }
/-- a method's contract: from this heap with these arguments it comes to Q, d frames deep, making mc cells of ms slots at most -/
def aCall (y : MI) (d : Nat) (av : List AV) (h : Hp) (mc ms : Nat) (Q : Option AV → Hp → Prop) : Prop :=
  ∀ (l : Launch) (D : va_G) (cy : Nat → ClassId) (ad : Nat → Nat) (sz : Nat), Met l y.1 (Cond.code y.1 y.2.1 y.2.2.1 y.2.2.2 :: TB) (rmOf d mc ms) (cPc D cy ad sz h av) (cQ D cy ad sz h mc Q) mc ms (va_A (wl cy ad h) sz)
def la (i : Nat) : List AV → List (Nat × AV)
  | [] => []
  | v :: vs => (i, v) :: la (i + ct v) vs
