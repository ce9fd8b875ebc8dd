/-- the instruction at pc, its length, the next pc -/
def Dc (y : MI) (pc : Nat) (i : Instr) (len pc2 : Nat) : Prop := decode y.2.1 pc = .ok (i, len) ∧ pc + len = pc2
def Dj (y : MI) (pc : Nat) (i : Instr) (off : Int) (pc2 tgt : Nat) : Prop := decode y.2.1 pc = .ok (i, 3) ∧ pc + 3 = pc2 ∧ (pc : Int) + off = (tgt : Int)
def jrem (x y : Int32) : Int32 := x - x / y * y
def jlrem (x y : Int64) : Int64 := x - x / y * y
def jshl (x y : Int32) : Int32 := x <<< (y &&& 31)
def jshr (x y : Int32) : Int32 := x >>> (y &&& 31)
def jushr (x y : Int32) : Int32 := (x.toUInt32 >>> (y.toUInt32 &&& Int32.toUInt32 31)).toInt32
def jlshl (x : Int64) (y : Int32) : Int64 := x <<< (y.toInt64 &&& 63)
def jlushr (x : Int64) (y : Int32) : Int64 := (x.toUInt64 >>> (y.toInt64.toUInt64 &&& Int64.toUInt64 63)).toInt64
def jchar (x : Int32) : Int32 := (x.toUInt32 % 65536).toInt32
def isB (v : Int32) : Prop := v = 0 ∨ v = 1
abbrev ix (i : Int32) : Nat := i.toNatClampNeg
theorem isB_n {v : Int32} (h : isB v) : narrow .boolean (.int v) = .int v := by
  rcases h with rfl | rfl <;> rfl
theorem isB_f {v : Int32} (h : isB v) : fits .boolean (.int v) = true := by
  rcases h with rfl | rfl <;> rfl
def lst1 (ls : List (Nat × AV)) (i : Nat) (v : AV) : List (Nat × AV) := (i, v) :: ls.filter (fun q => !(q.1 == i) && !(q.1 + 1 == i && ct q.2 == 2))
def lst2 (ls : List (Nat × AV)) (i : Nat) (v : AV) : List (Nat × AV) := (i, v) :: ls.filter (fun q => !(q.1 == i) && (!(q.1 == i + 1) && !(q.1 + 1 == i && ct q.2 == 2)))
theorem lm_st1 {ad : Nat → Nat} {ls : List (Nat × AV)} {i : Nat} {v : AV} : (i, cv ad v) :: (lm ad ls).filter (fun q => !(q.1 == i) && !(q.1 + 1 == i && q.2.category == 2)) = lm ad (lst1 ls i v) := by
  simp only [lm, lst1, List.map_cons, List.filter_map]
  congr 2
  apply List.filter_congr
  intro q _
  simp [ct_cv]
theorem lm_st2 {ad : Nat → Nat} {ls : List (Nat × AV)} {i : Nat} {v : AV} : (i, cv ad v) :: (lm ad ls).filter (fun q => !(q.1 == i) && (!(q.1 == i + 1) && !(q.1 + 1 == i && q.2.category == 2))) = lm ad (lst2 ls i v) := by
  simp only [lm, lst2, List.map_cons, List.filter_map]
  congr 2
  apply List.filter_congr
  intro q _
  simp [ct_cv]
theorem lm_at {ad : Nat → Nat} {ls : List (Nat × AV)} {j i : Nat} {v : AV} (h : ls[j]? = some (i, v)) : (lm ad ls)[j]? = some (i, cv ad v) := by
  unfold lm
  rw [List.getElem?_map, h]
  rfl
theorem lm_sub {ad : Nat → Nat} {ls : List (Nat × AV)} {nL : Nat} {lsC : Array Slot} (hl : lv_has lsC nL (lm ad ls)) {ls2 : List (Nat × AV)} (hs : ∀ q ∈ ls2, q ∈ ls) : lv_has lsC nL (lm ad ls2) := by
  refine ⟨hl.1, hl.2.1, fun q hq => hl.2.2 q ?_⟩
  obtain ⟨z, hz, rfl⟩ := List.mem_map.mp hq
  exact List.mem_map.mpr ⟨z, hs z hz, rfl⟩
variable {X : Option (Nat × (Nat → Int32))} {y : MI} {d pc pc2 : Nat} {ls ls2 : List (Nat × AV)} {st : List AV} {h : Hp} {bc bs : Nat} {Q : Option AV → Hp → Prop}
theorem r_iconst {n : Int} {v : Int32} (hd : Dc y pc (.iconst n) 1 pc2) (hv : Int32.ofInt n = v) (k : aW X y d pc2 ls (ai v :: st) h bc bs Q) : aW X y d pc ls (st) h bc bs Q := by
  obtain ⟨hd, rfl⟩ := hd
  intro p l e R s m args below meth c D cy ad0 n0 A0 Z mc ms C ad H locs lsC cells slots V hl h1 h2
  exact lv_iconst C.1 C.2.1 hd hv (k p l e R s m args below meth c D cy ad0 n0 A0 Z mc ms C ad H locs lsC cells slots V hl h1 h2)
theorem r_bipush {n : Int} {v : Int32} (hd : Dc y pc (.bipush n) 2 pc2) (hv : (Int8.ofInt n).toInt32 = v) (k : aW X y d pc2 ls (ai v :: st) h bc bs Q) : aW X y d pc ls (st) h bc bs Q := by
  obtain ⟨hd, rfl⟩ := hd
  intro p l e R s m args below meth c D cy ad0 n0 A0 Z mc ms C ad H locs lsC cells slots V hl h1 h2
  exact lv_bipush C.1 C.2.1 hd hv (k p l e R s m args below meth c D cy ad0 n0 A0 Z mc ms C ad H locs lsC cells slots V hl h1 h2)
theorem r_sipush {n : Int} {v : Int32} (hd : Dc y pc (.sipush n) 3 pc2) (hv : (Int16.ofInt n).toInt32 = v) (k : aW X y d pc2 ls (ai v :: st) h bc bs Q) : aW X y d pc ls (st) h bc bs Q := by
  obtain ⟨hd, rfl⟩ := hd
  intro p l e R s m args below meth c D cy ad0 n0 A0 Z mc ms C ad H locs lsC cells slots V hl h1 h2
  exact lv_sipush C.1 C.2.1 hd hv (k p l e R s m args below meth c D cy ad0 n0 A0 Z mc ms C ad H locs lsC cells slots V hl h1 h2)
theorem r_lconst {n : Fin 2} {v : Int64} (hd : Dc y pc (.lconst n) 1 pc2) (hv : Int64.ofNat (n : Nat) = v) (k : aW X y d pc2 ls (al v :: st) h bc bs Q) : aW X y d pc ls (st) h bc bs Q := by
  obtain ⟨hd, rfl⟩ := hd
  intro p l e R s m args below meth c D cy ad0 n0 A0 Z mc ms C ad H locs lsC cells slots V hl h1 h2
  exact lv_lconst C.1 C.2.1 hd hv (k p l e R s m args below meth c D cy ad0 n0 A0 Z mc ms C ad H locs lsC cells slots V hl h1 h2)
theorem r_ldc {index : Nat} {v : Int32} (hd : Dc y pc (.ldc index) 2 pc2) (hw : Cond.constant y.1.cls index v ∈ TB) (k : aW X y d pc2 ls (ai v :: st) h bc bs Q) : aW X y d pc ls (st) h bc bs Q := by
  obtain ⟨hd, rfl⟩ := hd
  intro p l e R s m args below meth c D cy ad0 n0 A0 Z mc ms C ad H locs lsC cells slots V hl h1 h2
  exact lv_ldc C.1 C.2.1 C.2.2.2.1 (C.2.2.2.2.1 _ hw) hd (k p l e R s m args below meth c D cy ad0 n0 A0 Z mc ms C ad H locs lsC cells slots V hl h1 h2)
theorem r_ldcw {index : Nat} {v : Int32} (hd : Dc y pc (.ldc_w index) 3 pc2) (hw : Cond.constant y.1.cls index v ∈ TB) (k : aW X y d pc2 ls (ai v :: st) h bc bs Q) : aW X y d pc ls (st) h bc bs Q := by
  obtain ⟨hd, rfl⟩ := hd
  intro p l e R s m args below meth c D cy ad0 n0 A0 Z mc ms C ad H locs lsC cells slots V hl h1 h2
  exact lv_ldcw C.1 C.2.1 C.2.2.2.1 (C.2.2.2.2.1 _ hw) hd (k p l e R s m args below meth c D cy ad0 n0 A0 Z mc ms C ad H locs lsC cells slots V hl h1 h2)
theorem r_ldc2 {index : Nat} {v : Int64} (hd : Dc y pc (.ldc2_w index) 3 pc2) (hw : Cond.constantLong y.1.cls index v ∈ TB) (k : aW X y d pc2 ls (al v :: st) h bc bs Q) : aW X y d pc ls (st) h bc bs Q := by
  obtain ⟨hd, rfl⟩ := hd
  intro p l e R s m args below meth c D cy ad0 n0 A0 Z mc ms C ad H locs lsC cells slots V hl h1 h2
  exact lv_ldc2 C.1 C.2.1 C.2.2.2.1 (C.2.2.2.2.1 _ hw) hd (k p l e R s m args below meth c D cy ad0 n0 A0 Z mc ms C ad H locs lsC cells slots V hl h1 h2)
theorem r_iload_n {q : Fin 4} {j : Nat} {v : Int32} (hd : Dc y pc (.iload_n q) 1 pc2) (hj : ls[j]? = some ((q : Nat), ai v)) (k : aW X y d pc2 ls (ai v :: st) h bc bs Q) : aW X y d pc ls (st) h bc bs Q := by
  obtain ⟨hd, rfl⟩ := hd
  intro p l e R s m args below meth c D cy ad0 n0 A0 Z mc ms C ad H locs lsC cells slots V hl h1 h2
  exact lv_iload_n C.1 C.2.1 hd rfl (lv_at hl j (lm_at hj)) (k p l e R s m args below meth c D cy ad0 n0 A0 Z mc ms C ad H locs lsC cells slots V hl h1 h2)
theorem r_iload {i j : Nat} {v : Int32} (hd : Dc y pc (.iload i) 2 pc2) (hj : ls[j]? = some (i, ai v)) (k : aW X y d pc2 ls (ai v :: st) h bc bs Q) : aW X y d pc ls (st) h bc bs Q := by
  obtain ⟨hd, rfl⟩ := hd
  intro p l e R s m args below meth c D cy ad0 n0 A0 Z mc ms C ad H locs lsC cells slots V hl h1 h2
  exact lv_iload C.1 C.2.1 hd (lv_at hl j (lm_at hj)) (k p l e R s m args below meth c D cy ad0 n0 A0 Z mc ms C ad H locs lsC cells slots V hl h1 h2)
theorem r_lload_n {q : Fin 4} {j : Nat} {v : Int64} (hd : Dc y pc (.lload_n q) 1 pc2) (hj : ls[j]? = some ((q : Nat), al v)) (k : aW X y d pc2 ls (al v :: st) h bc bs Q) : aW X y d pc ls (st) h bc bs Q := by
  obtain ⟨hd, rfl⟩ := hd
  intro p l e R s m args below meth c D cy ad0 n0 A0 Z mc ms C ad H locs lsC cells slots V hl h1 h2
  exact lv_lload_n C.1 C.2.1 hd rfl (lv_at hl j (lm_at hj)) (k p l e R s m args below meth c D cy ad0 n0 A0 Z mc ms C ad H locs lsC cells slots V hl h1 h2)
theorem r_lload {i j : Nat} {v : Int64} (hd : Dc y pc (.lload i) 2 pc2) (hj : ls[j]? = some (i, al v)) (k : aW X y d pc2 ls (al v :: st) h bc bs Q) : aW X y d pc ls (st) h bc bs Q := by
  obtain ⟨hd, rfl⟩ := hd
  intro p l e R s m args below meth c D cy ad0 n0 A0 Z mc ms C ad H locs lsC cells slots V hl h1 h2
  exact lv_lload C.1 C.2.1 hd (lv_at hl j (lm_at hj)) (k p l e R s m args below meth c D cy ad0 n0 A0 Z mc ms C ad H locs lsC cells slots V hl h1 h2)
theorem r_aload_n {q : Fin 4} {j a : Nat} (hd : Dc y pc (.aload_n q) 1 pc2) (hj : ls[j]? = some ((q : Nat), ar a)) (k : aW X y d pc2 ls (ar a :: st) h bc bs Q) : aW X y d pc ls (st) h bc bs Q := by
  obtain ⟨hd, rfl⟩ := hd
  intro p l e R s m args below meth c D cy ad0 n0 A0 Z mc ms C ad H locs lsC cells slots V hl h1 h2
  have e9 := lv_at hl j (lm_at hj)
  have kk := k p l e R s m args below meth c D cy ad0 n0 A0 Z mc ms C ad H locs lsC cells slots V hl h1 h2
  rw [List.map_cons] at kk
  by_cases ha : a = 0
  · subst ha
    rw [show cv ad (ar 0) = .null from rfl] at e9 kk
    exact lv_aload_nN C.1 C.2.1 hd rfl e9 kk
  · rw [show cv ad (ar a) = .ref (ad a) from rv_pos ha] at e9 kk
    exact lv_aload_n C.1 C.2.1 hd rfl e9 kk
theorem r_aload {i j a : Nat} (hd : Dc y pc (.aload i) 2 pc2) (hj : ls[j]? = some (i, ar a)) (k : aW X y d pc2 ls (ar a :: st) h bc bs Q) : aW X y d pc ls (st) h bc bs Q := by
  obtain ⟨hd, rfl⟩ := hd
  intro p l e R s m args below meth c D cy ad0 n0 A0 Z mc ms C ad H locs lsC cells slots V hl h1 h2
  have e9 := lv_at hl j (lm_at hj)
  have kk := k p l e R s m args below meth c D cy ad0 n0 A0 Z mc ms C ad H locs lsC cells slots V hl h1 h2
  rw [List.map_cons] at kk
  by_cases ha : a = 0
  · subst ha
    rw [show cv ad (ar 0) = .null from rfl] at e9 kk
    exact lv_aloadN C.1 C.2.1 hd e9 kk
  · rw [show cv ad (ar a) = .ref (ad a) from rv_pos ha] at e9 kk
    exact lv_aload C.1 C.2.1 hd e9 kk
theorem r_istore_n {q : Fin 4} {v : Int32} (hd : Dc y pc (.istore_n q) 1 pc2) (hn : (q : Nat) < y.2.2.1) (e2 : lst1 ls (q : Nat) (ai v) = ls2) (k : aW X y d pc2 ls2 (st) h bc bs Q) : aW X y d pc ls (ai v :: st) h bc bs Q := by
  obtain ⟨hd, rfl⟩ := hd
  subst e2
  intro p l e R s m args below meth c D cy ad0 n0 A0 Z mc ms C ad H locs lsC cells slots V hl h1 h2
  exact lv_istore_n C.1 C.2.1 hd rfl hl hn (lm_st1 (v := ai v)) (fun ls9 h9 => k p l e R s m args below meth c D cy ad0 n0 A0 Z mc ms C ad H locs ls9 cells slots V h9 h1 h2)
theorem r_istore {i : Nat} {v : Int32} (hd : Dc y pc (.istore i) 2 pc2) (hn : i < y.2.2.1) (e2 : lst1 ls i (ai v) = ls2) (k : aW X y d pc2 ls2 (st) h bc bs Q) : aW X y d pc ls (ai v :: st) h bc bs Q := by
  obtain ⟨hd, rfl⟩ := hd
  subst e2
  intro p l e R s m args below meth c D cy ad0 n0 A0 Z mc ms C ad H locs lsC cells slots V hl h1 h2
  exact lv_istore C.1 C.2.1 hd hl hn (lm_st1 (v := ai v)) (fun ls9 h9 => k p l e R s m args below meth c D cy ad0 n0 A0 Z mc ms C ad H locs ls9 cells slots V h9 h1 h2)
theorem r_lstore_n {q : Fin 4} {v : Int64} (hd : Dc y pc (.lstore_n q) 1 pc2) (hn : (q : Nat) + 1 < y.2.2.1) (e2 : lst2 ls (q : Nat) (al v) = ls2) (k : aW X y d pc2 ls2 (st) h bc bs Q) : aW X y d pc ls (al v :: st) h bc bs Q := by
  obtain ⟨hd, rfl⟩ := hd
  subst e2
  intro p l e R s m args below meth c D cy ad0 n0 A0 Z mc ms C ad H locs lsC cells slots V hl h1 h2
  exact lv_lstore_n C.1 C.2.1 hd rfl hl hn (lm_st2 (v := al v)) (fun ls9 h9 => k p l e R s m args below meth c D cy ad0 n0 A0 Z mc ms C ad H locs ls9 cells slots V h9 h1 h2)
theorem r_lstore {i : Nat} {v : Int64} (hd : Dc y pc (.lstore i) 2 pc2) (hn : i + 1 < y.2.2.1) (e2 : lst2 ls i (al v) = ls2) (k : aW X y d pc2 ls2 (st) h bc bs Q) : aW X y d pc ls (al v :: st) h bc bs Q := by
  obtain ⟨hd, rfl⟩ := hd
  subst e2
  intro p l e R s m args below meth c D cy ad0 n0 A0 Z mc ms C ad H locs lsC cells slots V hl h1 h2
  exact lv_lstore C.1 C.2.1 hd hl hn (lm_st2 (v := al v)) (fun ls9 h9 => k p l e R s m args below meth c D cy ad0 n0 A0 Z mc ms C ad H locs ls9 cells slots V h9 h1 h2)
theorem r_astore_n {q : Fin 4} {a : Nat} (hd : Dc y pc (.astore_n q) 1 pc2) (hn : (q : Nat) < y.2.2.1) (e2 : lst1 ls (q : Nat) (ar a) = ls2) (k : aW X y d pc2 ls2 (st) h bc bs Q) : aW X y d pc ls (ar a :: st) h bc bs Q := by
  obtain ⟨hd, rfl⟩ := hd
  subst e2
  intro p l e R s m args below meth c D cy ad0 n0 A0 Z mc ms C ad H locs lsC cells slots V hl h1 h2
  rw [List.map_cons]
  by_cases ha : a = 0
  · subst ha
    exact lv_astore_nN C.1 C.2.1 hd rfl hl hn (lm_st1 (v := ar 0)) (fun ls9 h9 => k p l e R s m args below meth c D cy ad0 n0 A0 Z mc ms C ad H locs ls9 cells slots V h9 h1 h2)
  · have e3 : cv ad (ar a) = .ref (ad a) := rv_pos ha
    rw [e3]
    exact lv_astore_n C.1 C.2.1 hd rfl hl hn (by rw [← e3]; exact lm_st1 (v := ar a)) (fun ls9 h9 => k p l e R s m args below meth c D cy ad0 n0 A0 Z mc ms C ad H locs ls9 cells slots V h9 h1 h2)
theorem r_iinc {i j : Nat} {n : Int} {v w : Int32} (hd : Dc y pc (.iinc i n) 3 pc2) (hj : ls[j]? = some (i, ai v)) (hv : v + Int32.ofInt n = w) (hn : i < y.2.2.1) (e2 : lst1 ls i (ai w) = ls2) (k : aW X y d pc2 ls2 (st) h bc bs Q) : aW X y d pc ls (st) h bc bs Q := by
  obtain ⟨hd, rfl⟩ := hd
  subst e2
  intro p l e R s m args below meth c D cy ad0 n0 A0 Z mc ms C ad H locs lsC cells slots V hl h1 h2
  exact lv_iinc C.1 C.2.1 hd hl (lm_at hj) hv hn (lm_st1 (v := ai w)) (fun ls9 h9 => k p l e R s m args below meth c D cy ad0 n0 A0 Z mc ms C ad H locs ls9 cells slots V h9 h1 h2)
theorem r_iadd {x z : Int32} (hd : Dc y pc .iadd 1 pc2) (k : aW X y d pc2 ls (ai (x + z) :: st) h bc bs Q) : aW X y d pc ls (ai z :: ai x :: st) h bc bs Q := by
  obtain ⟨hd, rfl⟩ := hd
  intro p l e R s m args below meth c D cy ad0 n0 A0 Z mc ms C ad H locs lsC cells slots V hl h1 h2
  exact lv_iadd C.1 C.2.1 hd (k p l e R s m args below meth c D cy ad0 n0 A0 Z mc ms C ad H locs lsC cells slots V hl h1 h2)
theorem r_isub {x z : Int32} (hd : Dc y pc .isub 1 pc2) (k : aW X y d pc2 ls (ai (x - z) :: st) h bc bs Q) : aW X y d pc ls (ai z :: ai x :: st) h bc bs Q := by
  obtain ⟨hd, rfl⟩ := hd
  intro p l e R s m args below meth c D cy ad0 n0 A0 Z mc ms C ad H locs lsC cells slots V hl h1 h2
  exact lv_isub C.1 C.2.1 hd (k p l e R s m args below meth c D cy ad0 n0 A0 Z mc ms C ad H locs lsC cells slots V hl h1 h2)
theorem r_imul {x z : Int32} (hd : Dc y pc .imul 1 pc2) (k : aW X y d pc2 ls (ai (x * z) :: st) h bc bs Q) : aW X y d pc ls (ai z :: ai x :: st) h bc bs Q := by
  obtain ⟨hd, rfl⟩ := hd
  intro p l e R s m args below meth c D cy ad0 n0 A0 Z mc ms C ad H locs lsC cells slots V hl h1 h2
  exact lv_imul C.1 C.2.1 hd (k p l e R s m args below meth c D cy ad0 n0 A0 Z mc ms C ad H locs lsC cells slots V hl h1 h2)
theorem r_iand {x z : Int32} (hd : Dc y pc .iand 1 pc2) (k : aW X y d pc2 ls (ai (x &&& z) :: st) h bc bs Q) : aW X y d pc ls (ai z :: ai x :: st) h bc bs Q := by
  obtain ⟨hd, rfl⟩ := hd
  intro p l e R s m args below meth c D cy ad0 n0 A0 Z mc ms C ad H locs lsC cells slots V hl h1 h2
  exact lv_iand C.1 C.2.1 hd (k p l e R s m args below meth c D cy ad0 n0 A0 Z mc ms C ad H locs lsC cells slots V hl h1 h2)
theorem r_ior {x z : Int32} (hd : Dc y pc .ior 1 pc2) (k : aW X y d pc2 ls (ai (x ||| z) :: st) h bc bs Q) : aW X y d pc ls (ai z :: ai x :: st) h bc bs Q := by
  obtain ⟨hd, rfl⟩ := hd
  intro p l e R s m args below meth c D cy ad0 n0 A0 Z mc ms C ad H locs lsC cells slots V hl h1 h2
  exact lv_ior C.1 C.2.1 hd (k p l e R s m args below meth c D cy ad0 n0 A0 Z mc ms C ad H locs lsC cells slots V hl h1 h2)
theorem r_ixor {x z : Int32} (hd : Dc y pc .ixor 1 pc2) (k : aW X y d pc2 ls (ai (x ^^^ z) :: st) h bc bs Q) : aW X y d pc ls (ai z :: ai x :: st) h bc bs Q := by
  obtain ⟨hd, rfl⟩ := hd
  intro p l e R s m args below meth c D cy ad0 n0 A0 Z mc ms C ad H locs lsC cells slots V hl h1 h2
  exact lv_ixor C.1 C.2.1 hd (k p l e R s m args below meth c D cy ad0 n0 A0 Z mc ms C ad H locs lsC cells slots V hl h1 h2)
theorem r_ishl {x z : Int32} (hd : Dc y pc .ishl 1 pc2) (k : aW X y d pc2 ls (ai (jshl x z) :: st) h bc bs Q) : aW X y d pc ls (ai z :: ai x :: st) h bc bs Q := by
  obtain ⟨hd, rfl⟩ := hd
  intro p l e R s m args below meth c D cy ad0 n0 A0 Z mc ms C ad H locs lsC cells slots V hl h1 h2
  exact lv_ishl C.1 C.2.1 hd (k p l e R s m args below meth c D cy ad0 n0 A0 Z mc ms C ad H locs lsC cells slots V hl h1 h2)
theorem r_ishr {x z : Int32} (hd : Dc y pc .ishr 1 pc2) (k : aW X y d pc2 ls (ai (jshr x z) :: st) h bc bs Q) : aW X y d pc ls (ai z :: ai x :: st) h bc bs Q := by
  obtain ⟨hd, rfl⟩ := hd
  intro p l e R s m args below meth c D cy ad0 n0 A0 Z mc ms C ad H locs lsC cells slots V hl h1 h2
  exact lv_ishr C.1 C.2.1 hd (k p l e R s m args below meth c D cy ad0 n0 A0 Z mc ms C ad H locs lsC cells slots V hl h1 h2)
theorem r_idiv {x z : Int32} (hd : Dc y pc .idiv 1 pc2) (hz : ¬ z = 0) (k : aW X y d pc2 ls (ai (x / z) :: st) h bc bs Q) : aW X y d pc ls (ai z :: ai x :: st) h bc bs Q := by
  obtain ⟨hd, rfl⟩ := hd
  intro p l e R s m args below meth c D cy ad0 n0 A0 Z mc ms C ad H locs lsC cells slots V hl h1 h2
  exact lv_idiv C.1 C.2.1 hd hz (k p l e R s m args below meth c D cy ad0 n0 A0 Z mc ms C ad H locs lsC cells slots V hl h1 h2)
theorem r_irem {x z : Int32} (hd : Dc y pc .irem 1 pc2) (hz : ¬ z = 0) (k : aW X y d pc2 ls (ai (jrem x z) :: st) h bc bs Q) : aW X y d pc ls (ai z :: ai x :: st) h bc bs Q := by
  obtain ⟨hd, rfl⟩ := hd
  intro p l e R s m args below meth c D cy ad0 n0 A0 Z mc ms C ad H locs lsC cells slots V hl h1 h2
  exact lv_irem C.1 C.2.1 hd hz (k p l e R s m args below meth c D cy ad0 n0 A0 Z mc ms C ad H locs lsC cells slots V hl h1 h2)
theorem r_iushr {x z : Int32} (hd : Dc y pc .iushr 1 pc2) (k : aW X y d pc2 ls (ai (jushr x z) :: st) h bc bs Q) : aW X y d pc ls (ai z :: ai x :: st) h bc bs Q := by
  obtain ⟨hd, rfl⟩ := hd
  intro p l e R s m args below meth c D cy ad0 n0 A0 Z mc ms C ad H locs lsC cells slots V hl h1 h2
  exact lv_iushr C.1 C.2.1 hd rfl (k p l e R s m args below meth c D cy ad0 n0 A0 Z mc ms C ad H locs lsC cells slots V hl h1 h2)
theorem r_ladd {x z : Int64} (hd : Dc y pc .ladd 1 pc2) (k : aW X y d pc2 ls (al (x + z) :: st) h bc bs Q) : aW X y d pc ls (al z :: al x :: st) h bc bs Q := by
  obtain ⟨hd, rfl⟩ := hd
  intro p l e R s m args below meth c D cy ad0 n0 A0 Z mc ms C ad H locs lsC cells slots V hl h1 h2
  exact lv_ladd C.1 C.2.1 hd (k p l e R s m args below meth c D cy ad0 n0 A0 Z mc ms C ad H locs lsC cells slots V hl h1 h2)
theorem r_lsub {x z : Int64} (hd : Dc y pc .lsub 1 pc2) (k : aW X y d pc2 ls (al (x - z) :: st) h bc bs Q) : aW X y d pc ls (al z :: al x :: st) h bc bs Q := by
  obtain ⟨hd, rfl⟩ := hd
  intro p l e R s m args below meth c D cy ad0 n0 A0 Z mc ms C ad H locs lsC cells slots V hl h1 h2
  exact lv_lsub C.1 C.2.1 hd (k p l e R s m args below meth c D cy ad0 n0 A0 Z mc ms C ad H locs lsC cells slots V hl h1 h2)
theorem r_lmul {x z : Int64} (hd : Dc y pc .lmul 1 pc2) (k : aW X y d pc2 ls (al (x * z) :: st) h bc bs Q) : aW X y d pc ls (al z :: al x :: st) h bc bs Q := by
  obtain ⟨hd, rfl⟩ := hd
  intro p l e R s m args below meth c D cy ad0 n0 A0 Z mc ms C ad H locs lsC cells slots V hl h1 h2
  exact lv_lmul C.1 C.2.1 hd (k p l e R s m args below meth c D cy ad0 n0 A0 Z mc ms C ad H locs lsC cells slots V hl h1 h2)
theorem r_land {x z : Int64} (hd : Dc y pc .land 1 pc2) (k : aW X y d pc2 ls (al (x &&& z) :: st) h bc bs Q) : aW X y d pc ls (al z :: al x :: st) h bc bs Q := by
  obtain ⟨hd, rfl⟩ := hd
  intro p l e R s m args below meth c D cy ad0 n0 A0 Z mc ms C ad H locs lsC cells slots V hl h1 h2
  exact lv_land C.1 C.2.1 hd (k p l e R s m args below meth c D cy ad0 n0 A0 Z mc ms C ad H locs lsC cells slots V hl h1 h2)
theorem r_lor {x z : Int64} (hd : Dc y pc .lor 1 pc2) (k : aW X y d pc2 ls (al (x ||| z) :: st) h bc bs Q) : aW X y d pc ls (al z :: al x :: st) h bc bs Q := by
  obtain ⟨hd, rfl⟩ := hd
  intro p l e R s m args below meth c D cy ad0 n0 A0 Z mc ms C ad H locs lsC cells slots V hl h1 h2
  exact lv_lor C.1 C.2.1 hd (k p l e R s m args below meth c D cy ad0 n0 A0 Z mc ms C ad H locs lsC cells slots V hl h1 h2)
theorem r_lxor {x z : Int64} (hd : Dc y pc .lxor 1 pc2) (k : aW X y d pc2 ls (al (x ^^^ z) :: st) h bc bs Q) : aW X y d pc ls (al z :: al x :: st) h bc bs Q := by
  obtain ⟨hd, rfl⟩ := hd
  intro p l e R s m args below meth c D cy ad0 n0 A0 Z mc ms C ad H locs lsC cells slots V hl h1 h2
  exact lv_lxor C.1 C.2.1 hd (k p l e R s m args below meth c D cy ad0 n0 A0 Z mc ms C ad H locs lsC cells slots V hl h1 h2)
theorem r_ldiv {x z : Int64} (hd : Dc y pc .ldiv 1 pc2) (hz : ¬ z = 0) (k : aW X y d pc2 ls (al (x / z) :: st) h bc bs Q) : aW X y d pc ls (al z :: al x :: st) h bc bs Q := by
  obtain ⟨hd, rfl⟩ := hd
  intro p l e R s m args below meth c D cy ad0 n0 A0 Z mc ms C ad H locs lsC cells slots V hl h1 h2
  exact lv_ldiv C.1 C.2.1 hd hz (k p l e R s m args below meth c D cy ad0 n0 A0 Z mc ms C ad H locs lsC cells slots V hl h1 h2)
theorem r_lrem {x z : Int64} (hd : Dc y pc .lrem 1 pc2) (hz : ¬ z = 0) (k : aW X y d pc2 ls (al (jlrem x z) :: st) h bc bs Q) : aW X y d pc ls (al z :: al x :: st) h bc bs Q := by
  obtain ⟨hd, rfl⟩ := hd
  intro p l e R s m args below meth c D cy ad0 n0 A0 Z mc ms C ad H locs lsC cells slots V hl h1 h2
  exact lv_lrem C.1 C.2.1 hd hz (k p l e R s m args below meth c D cy ad0 n0 A0 Z mc ms C ad H locs lsC cells slots V hl h1 h2)
theorem r_lshl {x : Int64} {z : Int32} (hd : Dc y pc .lshl 1 pc2) (k : aW X y d pc2 ls (al (jlshl x z) :: st) h bc bs Q) : aW X y d pc ls (ai z :: al x :: st) h bc bs Q := by
  obtain ⟨hd, rfl⟩ := hd
  intro p l e R s m args below meth c D cy ad0 n0 A0 Z mc ms C ad H locs lsC cells slots V hl h1 h2
  exact lv_lshl C.1 C.2.1 hd rfl (k p l e R s m args below meth c D cy ad0 n0 A0 Z mc ms C ad H locs lsC cells slots V hl h1 h2)
theorem r_lushr {x : Int64} {z : Int32} (hd : Dc y pc .lushr 1 pc2) (k : aW X y d pc2 ls (al (jlushr x z) :: st) h bc bs Q) : aW X y d pc ls (ai z :: al x :: st) h bc bs Q := by
  obtain ⟨hd, rfl⟩ := hd
  intro p l e R s m args below meth c D cy ad0 n0 A0 Z mc ms C ad H locs lsC cells slots V hl h1 h2
  exact lv_lushr C.1 C.2.1 hd rfl (k p l e R s m args below meth c D cy ad0 n0 A0 Z mc ms C ad H locs lsC cells slots V hl h1 h2)
theorem r_ineg {x : Int32} (hd : Dc y pc .ineg 1 pc2) (k : aW X y d pc2 ls (ai (-x) :: st) h bc bs Q) : aW X y d pc ls (ai x :: st) h bc bs Q := by
  obtain ⟨hd, rfl⟩ := hd
  intro p l e R s m args below meth c D cy ad0 n0 A0 Z mc ms C ad H locs lsC cells slots V hl h1 h2
  exact lv_ineg C.1 C.2.1 hd (k p l e R s m args below meth c D cy ad0 n0 A0 Z mc ms C ad H locs lsC cells slots V hl h1 h2)
theorem r_lneg {x : Int64} (hd : Dc y pc .lneg 1 pc2) (k : aW X y d pc2 ls (al (-x) :: st) h bc bs Q) : aW X y d pc ls (al x :: st) h bc bs Q := by
  obtain ⟨hd, rfl⟩ := hd
  intro p l e R s m args below meth c D cy ad0 n0 A0 Z mc ms C ad H locs lsC cells slots V hl h1 h2
  exact lv_lneg C.1 C.2.1 hd (k p l e R s m args below meth c D cy ad0 n0 A0 Z mc ms C ad H locs lsC cells slots V hl h1 h2)
theorem r_i2l {x : Int32} (hd : Dc y pc .i2l 1 pc2) (k : aW X y d pc2 ls (al x.toInt64 :: st) h bc bs Q) : aW X y d pc ls (ai x :: st) h bc bs Q := by
  obtain ⟨hd, rfl⟩ := hd
  intro p l e R s m args below meth c D cy ad0 n0 A0 Z mc ms C ad H locs lsC cells slots V hl h1 h2
  exact lv_i2l C.1 C.2.1 hd rfl (k p l e R s m args below meth c D cy ad0 n0 A0 Z mc ms C ad H locs lsC cells slots V hl h1 h2)
theorem r_l2i {x : Int64} (hd : Dc y pc .l2i 1 pc2) (k : aW X y d pc2 ls (ai x.toInt32 :: st) h bc bs Q) : aW X y d pc ls (al x :: st) h bc bs Q := by
  obtain ⟨hd, rfl⟩ := hd
  intro p l e R s m args below meth c D cy ad0 n0 A0 Z mc ms C ad H locs lsC cells slots V hl h1 h2
  exact lv_l2i C.1 C.2.1 hd rfl (k p l e R s m args below meth c D cy ad0 n0 A0 Z mc ms C ad H locs lsC cells slots V hl h1 h2)
theorem r_i2c {x : Int32} (hd : Dc y pc .i2c 1 pc2) (k : aW X y d pc2 ls (ai (jchar x) :: st) h bc bs Q) : aW X y d pc ls (ai x :: st) h bc bs Q := by
  obtain ⟨hd, rfl⟩ := hd
  intro p l e R s m args below meth c D cy ad0 n0 A0 Z mc ms C ad H locs lsC cells slots V hl h1 h2
  exact lv_i2c C.1 C.2.1 hd rfl (k p l e R s m args below meth c D cy ad0 n0 A0 Z mc ms C ad H locs lsC cells slots V hl h1 h2)
theorem r_lcmp {x z : Int64} (hd : Dc y pc .lcmp 1 pc2) (k : aW X y d pc2 ls (ai (lg_cmp x z) :: st) h bc bs Q) : aW X y d pc ls (al z :: al x :: st) h bc bs Q := by
  obtain ⟨hd, rfl⟩ := hd
  intro p l e R s m args below meth c D cy ad0 n0 A0 Z mc ms C ad H locs lsC cells slots V hl h1 h2
  exact W.lcmp C.1 C.2.1 hd (k p l e R s m args below meth c D cy ad0 n0 A0 Z mc ms C ad H locs lsC cells slots V hl h1 h2)
theorem r_dup {v : AV} (hd : Dc y pc .dup 1 pc2) (hv : ct v = 1) (k : aW X y d pc2 ls (v :: v :: st) h bc bs Q) : aW X y d pc ls (v :: st) h bc bs Q := by
  obtain ⟨hd, rfl⟩ := hd
  intro p l e R s m args below meth c D cy ad0 n0 A0 Z mc ms C ad H locs lsC cells slots V hl h1 h2
  exact lv_dup C.1 C.2.1 hd (by rw [ct_cv]; exact hv) (k p l e R s m args below meth c D cy ad0 n0 A0 Z mc ms C ad H locs lsC cells slots V hl h1 h2)
theorem r_pop {v : AV} (hd : Dc y pc .pop 1 pc2) (hv : ct v = 1) (k : aW X y d pc2 ls (st) h bc bs Q) : aW X y d pc ls (v :: st) h bc bs Q := by
  obtain ⟨hd, rfl⟩ := hd
  intro p l e R s m args below meth c D cy ad0 n0 A0 Z mc ms C ad H locs lsC cells slots V hl h1 h2
  exact lv_pop C.1 C.2.1 hd (by rw [ct_cv]; exact hv) (k p l e R s m args below meth c D cy ad0 n0 A0 Z mc ms C ad H locs lsC cells slots V hl h1 h2)
theorem r_dup2 {v w : AV} (hd : Dc y pc .dup2 1 pc2) (hv : ct v = 1) (hw : ct w = 1) (k : aW X y d pc2 ls (v :: w :: v :: w :: st) h bc bs Q) : aW X y d pc ls (v :: w :: st) h bc bs Q := by
  obtain ⟨hd, rfl⟩ := hd
  intro p l e R s m args below meth c D cy ad0 n0 A0 Z mc ms C ad H locs lsC cells slots V hl h1 h2
  exact lv_dup2_11 C.1 C.2.1 hd (by rw [ct_cv]; exact hv) (by rw [ct_cv]; exact hw) (k p l e R s m args below meth c D cy ad0 n0 A0 Z mc ms C ad H locs lsC cells slots V hl h1 h2)
theorem r_dup2L {v : AV} (hd : Dc y pc .dup2 1 pc2) (hv : ct v = 2) (k : aW X y d pc2 ls (v :: v :: st) h bc bs Q) : aW X y d pc ls (v :: st) h bc bs Q := by
  obtain ⟨hd, rfl⟩ := hd
  intro p l e R s m args below meth c D cy ad0 n0 A0 Z mc ms C ad H locs lsC cells slots V hl h1 h2
  exact lv_dup2_2 C.1 C.2.1 hd (by rw [ct_cv]; exact hv) (k p l e R s m args below meth c D cy ad0 n0 A0 Z mc ms C ad H locs lsC cells slots V hl h1 h2)
theorem r_if_eq {x : Int32} {off : Int} {tgt : Nat} (hd : Dj y pc (.ifCond .eq off) off pc2 tgt) (kt : x = 0 → aW X y d tgt ls st h bc bs Q) (kf : ¬ x = 0 → aW X y d pc2 ls st h bc bs Q) : aW X y d pc ls (ai x :: st) h bc bs Q := by
  obtain ⟨hd, rfl, ht⟩ := hd
  intro p l e R s m args below meth c D cy ad0 n0 A0 Z mc ms C ad H locs lsC cells slots V hl h1 h2
  exact lv_if_eq C.1 C.2.1 hd ht (fun z => kt z p l e R s m args below meth c D cy ad0 n0 A0 Z mc ms C ad H locs lsC cells slots V hl h1 h2) (fun z => kf z p l e R s m args below meth c D cy ad0 n0 A0 Z mc ms C ad H locs lsC cells slots V hl h1 h2)
theorem r_if_ne {x : Int32} {off : Int} {tgt : Nat} (hd : Dj y pc (.ifCond .ne off) off pc2 tgt) (kt : ¬ x = 0 → aW X y d tgt ls st h bc bs Q) (kf : x = 0 → aW X y d pc2 ls st h bc bs Q) : aW X y d pc ls (ai x :: st) h bc bs Q := by
  obtain ⟨hd, rfl, ht⟩ := hd
  intro p l e R s m args below meth c D cy ad0 n0 A0 Z mc ms C ad H locs lsC cells slots V hl h1 h2
  exact lv_if_ne C.1 C.2.1 hd ht (fun z => kt z p l e R s m args below meth c D cy ad0 n0 A0 Z mc ms C ad H locs lsC cells slots V hl h1 h2) (fun z => kf z p l e R s m args below meth c D cy ad0 n0 A0 Z mc ms C ad H locs lsC cells slots V hl h1 h2)
theorem r_if_lt {x : Int32} {off : Int} {tgt : Nat} (hd : Dj y pc (.ifCond .lt off) off pc2 tgt) (kt : x < 0 → aW X y d tgt ls st h bc bs Q) (kf : ¬ x < 0 → aW X y d pc2 ls st h bc bs Q) : aW X y d pc ls (ai x :: st) h bc bs Q := by
  obtain ⟨hd, rfl, ht⟩ := hd
  intro p l e R s m args below meth c D cy ad0 n0 A0 Z mc ms C ad H locs lsC cells slots V hl h1 h2
  exact lv_if_lt C.1 C.2.1 hd ht (fun z => kt z p l e R s m args below meth c D cy ad0 n0 A0 Z mc ms C ad H locs lsC cells slots V hl h1 h2) (fun z => kf z p l e R s m args below meth c D cy ad0 n0 A0 Z mc ms C ad H locs lsC cells slots V hl h1 h2)
theorem r_if_ge {x : Int32} {off : Int} {tgt : Nat} (hd : Dj y pc (.ifCond .ge off) off pc2 tgt) (kt : 0 ≤ x → aW X y d tgt ls st h bc bs Q) (kf : ¬ 0 ≤ x → aW X y d pc2 ls st h bc bs Q) : aW X y d pc ls (ai x :: st) h bc bs Q := by
  obtain ⟨hd, rfl, ht⟩ := hd
  intro p l e R s m args below meth c D cy ad0 n0 A0 Z mc ms C ad H locs lsC cells slots V hl h1 h2
  exact lv_if_ge C.1 C.2.1 hd ht (fun z => kt z p l e R s m args below meth c D cy ad0 n0 A0 Z mc ms C ad H locs lsC cells slots V hl h1 h2) (fun z => kf z p l e R s m args below meth c D cy ad0 n0 A0 Z mc ms C ad H locs lsC cells slots V hl h1 h2)
theorem r_if_gt {x : Int32} {off : Int} {tgt : Nat} (hd : Dj y pc (.ifCond .gt off) off pc2 tgt) (kt : 0 < x → aW X y d tgt ls st h bc bs Q) (kf : ¬ 0 < x → aW X y d pc2 ls st h bc bs Q) : aW X y d pc ls (ai x :: st) h bc bs Q := by
  obtain ⟨hd, rfl, ht⟩ := hd
  intro p l e R s m args below meth c D cy ad0 n0 A0 Z mc ms C ad H locs lsC cells slots V hl h1 h2
  exact lv_if_gt C.1 C.2.1 hd ht (fun z => kt z p l e R s m args below meth c D cy ad0 n0 A0 Z mc ms C ad H locs lsC cells slots V hl h1 h2) (fun z => kf z p l e R s m args below meth c D cy ad0 n0 A0 Z mc ms C ad H locs lsC cells slots V hl h1 h2)
theorem r_if_le {x : Int32} {off : Int} {tgt : Nat} (hd : Dj y pc (.ifCond .le off) off pc2 tgt) (kt : x ≤ 0 → aW X y d tgt ls st h bc bs Q) (kf : ¬ x ≤ 0 → aW X y d pc2 ls st h bc bs Q) : aW X y d pc ls (ai x :: st) h bc bs Q := by
  obtain ⟨hd, rfl, ht⟩ := hd
  intro p l e R s m args below meth c D cy ad0 n0 A0 Z mc ms C ad H locs lsC cells slots V hl h1 h2
  exact lv_if_le C.1 C.2.1 hd ht (fun z => kt z p l e R s m args below meth c D cy ad0 n0 A0 Z mc ms C ad H locs lsC cells slots V hl h1 h2) (fun z => kf z p l e R s m args below meth c D cy ad0 n0 A0 Z mc ms C ad H locs lsC cells slots V hl h1 h2)
theorem r_icmp_eq {x z : Int32} {off : Int} {tgt : Nat} (hd : Dj y pc (.if_icmp .eq off) off pc2 tgt) (kt : x = z → aW X y d tgt ls st h bc bs Q) (kf : ¬ x = z → aW X y d pc2 ls st h bc bs Q) : aW X y d pc ls (ai z :: ai x :: st) h bc bs Q := by
  obtain ⟨hd, rfl, ht⟩ := hd
  intro p l e R s m args below meth c D cy ad0 n0 A0 Z mc ms C ad H locs lsC cells slots V hl h1 h2
  exact lv_icmp_eq C.1 C.2.1 hd ht (fun w => kt w p l e R s m args below meth c D cy ad0 n0 A0 Z mc ms C ad H locs lsC cells slots V hl h1 h2) (fun w => kf w p l e R s m args below meth c D cy ad0 n0 A0 Z mc ms C ad H locs lsC cells slots V hl h1 h2)
theorem r_icmp_ne {x z : Int32} {off : Int} {tgt : Nat} (hd : Dj y pc (.if_icmp .ne off) off pc2 tgt) (kt : ¬ x = z → aW X y d tgt ls st h bc bs Q) (kf : x = z → aW X y d pc2 ls st h bc bs Q) : aW X y d pc ls (ai z :: ai x :: st) h bc bs Q := by
  obtain ⟨hd, rfl, ht⟩ := hd
  intro p l e R s m args below meth c D cy ad0 n0 A0 Z mc ms C ad H locs lsC cells slots V hl h1 h2
  exact lv_icmp_ne C.1 C.2.1 hd ht (fun w => kt w p l e R s m args below meth c D cy ad0 n0 A0 Z mc ms C ad H locs lsC cells slots V hl h1 h2) (fun w => kf w p l e R s m args below meth c D cy ad0 n0 A0 Z mc ms C ad H locs lsC cells slots V hl h1 h2)
theorem r_icmp_lt {x z : Int32} {off : Int} {tgt : Nat} (hd : Dj y pc (.if_icmp .lt off) off pc2 tgt) (kt : x < z → aW X y d tgt ls st h bc bs Q) (kf : ¬ x < z → aW X y d pc2 ls st h bc bs Q) : aW X y d pc ls (ai z :: ai x :: st) h bc bs Q := by
  obtain ⟨hd, rfl, ht⟩ := hd
  intro p l e R s m args below meth c D cy ad0 n0 A0 Z mc ms C ad H locs lsC cells slots V hl h1 h2
  exact lv_icmp_lt C.1 C.2.1 hd ht (fun w => kt w p l e R s m args below meth c D cy ad0 n0 A0 Z mc ms C ad H locs lsC cells slots V hl h1 h2) (fun w => kf w p l e R s m args below meth c D cy ad0 n0 A0 Z mc ms C ad H locs lsC cells slots V hl h1 h2)
theorem r_icmp_ge {x z : Int32} {off : Int} {tgt : Nat} (hd : Dj y pc (.if_icmp .ge off) off pc2 tgt) (kt : z ≤ x → aW X y d tgt ls st h bc bs Q) (kf : ¬ z ≤ x → aW X y d pc2 ls st h bc bs Q) : aW X y d pc ls (ai z :: ai x :: st) h bc bs Q := by
  obtain ⟨hd, rfl, ht⟩ := hd
  intro p l e R s m args below meth c D cy ad0 n0 A0 Z mc ms C ad H locs lsC cells slots V hl h1 h2
  exact lv_icmp_ge C.1 C.2.1 hd ht (fun w => kt w p l e R s m args below meth c D cy ad0 n0 A0 Z mc ms C ad H locs lsC cells slots V hl h1 h2) (fun w => kf w p l e R s m args below meth c D cy ad0 n0 A0 Z mc ms C ad H locs lsC cells slots V hl h1 h2)
theorem r_icmp_gt {x z : Int32} {off : Int} {tgt : Nat} (hd : Dj y pc (.if_icmp .gt off) off pc2 tgt) (kt : z < x → aW X y d tgt ls st h bc bs Q) (kf : ¬ z < x → aW X y d pc2 ls st h bc bs Q) : aW X y d pc ls (ai z :: ai x :: st) h bc bs Q := by
  obtain ⟨hd, rfl, ht⟩ := hd
  intro p l e R s m args below meth c D cy ad0 n0 A0 Z mc ms C ad H locs lsC cells slots V hl h1 h2
  exact lv_icmp_gt C.1 C.2.1 hd ht (fun w => kt w p l e R s m args below meth c D cy ad0 n0 A0 Z mc ms C ad H locs lsC cells slots V hl h1 h2) (fun w => kf w p l e R s m args below meth c D cy ad0 n0 A0 Z mc ms C ad H locs lsC cells slots V hl h1 h2)
theorem r_icmp_le {x z : Int32} {off : Int} {tgt : Nat} (hd : Dj y pc (.if_icmp .le off) off pc2 tgt) (kt : x ≤ z → aW X y d tgt ls st h bc bs Q) (kf : ¬ x ≤ z → aW X y d pc2 ls st h bc bs Q) : aW X y d pc ls (ai z :: ai x :: st) h bc bs Q := by
  obtain ⟨hd, rfl, ht⟩ := hd
  intro p l e R s m args below meth c D cy ad0 n0 A0 Z mc ms C ad H locs lsC cells slots V hl h1 h2
  exact lv_icmp_le C.1 C.2.1 hd ht (fun w => kt w p l e R s m args below meth c D cy ad0 n0 A0 Z mc ms C ad H locs lsC cells slots V hl h1 h2) (fun w => kf w p l e R s m args below meth c D cy ad0 n0 A0 Z mc ms C ad H locs lsC cells slots V hl h1 h2)
theorem r_goto {off : Int} {tgt : Nat} (hd : Dj y pc (.goto off) off pc2 tgt) (k : aW X y d tgt ls st h bc bs Q) : aW X y d pc ls st h bc bs Q := by
  obtain ⟨hd, rfl, ht⟩ := hd
  intro p l e R s m args below meth c D cy ad0 n0 A0 Z mc ms C ad H locs lsC cells slots V hl h1 h2
  exact lv_goto C.1 C.2.1 hd ht (k p l e R s m args below meth c D cy ad0 n0 A0 Z mc ms C ad H locs lsC cells slots V hl h1 h2)
theorem r_tabIn {dflt lo hi : Int} {offs : Array Int} {len : Nat} {x : Int32} {off : Int} {tgt : Nat} (hd : decode y.2.1 pc = .ok (.tableswitch dflt lo hi offs, len)) (a1 : ¬ x.toInt < lo) (a2 : ¬ hi < x.toInt) (ho : offs[(x.toInt - lo).toNat]? = some off) (ht : (pc : Int) + off = (tgt : Int)) (k : aW X y d tgt ls st h bc bs Q) : aW X y d pc ls (ai x :: st) h bc bs Q := by
  intro p l e R s m args below meth c D cy ad0 n0 A0 Z mc ms C ad H locs lsC cells slots V hl h1 h2
  exact lv_tableIn C.1 C.2.1 hd a1 a2 ho ht (k p l e R s m args below meth c D cy ad0 n0 A0 Z mc ms C ad H locs lsC cells slots V hl h1 h2)
theorem r_tabOut {dflt lo hi : Int} {offs : Array Int} {len : Nat} {x : Int32} {tgt : Nat} (hd : decode y.2.1 pc = .ok (.tableswitch dflt lo hi offs, len)) (a1 : x.toInt < lo ∨ hi < x.toInt) (ht : (pc : Int) + dflt = (tgt : Int)) (k : aW X y d tgt ls st h bc bs Q) : aW X y d pc ls (ai x :: st) h bc bs Q := by
  intro p l e R s m args below meth c D cy ad0 n0 A0 Z mc ms C ad H locs lsC cells slots V hl h1 h2
  exact lv_tableOut C.1 C.2.1 hd a1 ht (k p l e R s m args below meth c D cy ad0 n0 A0 Z mc ms C ad H locs lsC cells slots V hl h1 h2)
theorem r_sub (hs : ∀ q ∈ ls2, q ∈ ls) (k : aW X y d pc ls2 st h bc bs Q) : aW X y d pc ls st h bc bs Q := by
  intro p l e R s m args below meth c D cy ad0 n0 A0 Z mc ms C ad H locs lsC cells slots V hl h1 h2
  exact k p l e R s m args below meth c D cy ad0 n0 A0 Z mc ms C ad H locs lsC cells slots V (lm_sub hl hs) h1 h2
theorem r_return (hd : decode y.2.1 pc = .ok (.return_, 1)) (hr : y.2.2.2 = none) (k : Q none h) : aW X y d pc ls [] h bc bs Q := by
  intro p l e R s m args below meth c D cy ad0 n0 A0 Z mc ms C ad H locs lsC cells slots V hl h1 h2
  exact C.2.2.2.2.2.2.2.2.2.2.2.2 pc none h ad H locs lsC cells slots k V (by omega) (by omega) ⟨hr, hd⟩
theorem r_ireturn {v : Int32} (hd : decode y.2.1 pc = .ok (.ireturn, 1)) (hr : y.2.2.2 = some .int) (k : Q (some (ai v)) h) : aW X y d pc ls [ai v] h bc bs Q := by
  intro p l e R s m args below meth c D cy ad0 n0 A0 Z mc ms C ad H locs lsC cells slots V hl h1 h2
  exact C.2.2.2.2.2.2.2.2.2.2.2.2 pc (some (ai v)) h ad H locs lsC cells slots k V (by omega) (by omega) ⟨hd, .int, hr, rfl⟩
theorem r_zreturn {v : Int32} (hd : decode y.2.1 pc = .ok (.ireturn, 1)) (hr : y.2.2.2 = some .boolean) (hb : isB v) (k : Q (some (ai v)) h) : aW X y d pc ls [ai v] h bc bs Q := by
  intro p l e R s m args below meth c D cy ad0 n0 A0 Z mc ms C ad H locs lsC cells slots V hl h1 h2
  exact C.2.2.2.2.2.2.2.2.2.2.2.2 pc (some (ai v)) h ad H locs lsC cells slots k V (by omega) (by omega) ⟨hd, .boolean, hr, isB_n hb⟩
theorem r_xreturn {v : Int32} {ty : FieldType} (hd : decode y.2.1 pc = .ok (.ireturn, 1)) (hr : y.2.2.2 = some ty) (hb : narrow ty (.int v) = .int v) (k : Q (some (ai v)) h) : aW X y d pc ls [ai v] h bc bs Q := by
  intro p l e R s m args below meth c D cy ad0 n0 A0 Z mc ms C ad H locs lsC cells slots V hl h1 h2
  exact C.2.2.2.2.2.2.2.2.2.2.2.2 pc (some (ai v)) h ad H locs lsC cells slots k V (by omega) (by omega) ⟨hd, ty, hr, hb⟩
theorem r_lreturn {v : Int64} (hd : decode y.2.1 pc = .ok (.lreturn, 1)) (hr : y.2.2.2 = some .long) (k : Q (some (al v)) h) : aW X y d pc ls [al v] h bc bs Q := by
  intro p l e R s m args below meth c D cy ad0 n0 A0 Z mc ms C ad H locs lsC cells slots V hl h1 h2
  exact C.2.2.2.2.2.2.2.2.2.2.2.2 pc (some (al v)) h ad H locs lsC cells slots k V (by omega) (by omega) ⟨hr, hd⟩
