theorem eKI {h : Hp} {a k : Nat} {v : Int32} : gK (sI h a k v) = gK h := rfl
theorem eKL {h : Hp} {a k : Nat} {v : Int64} : gK (sL h a k v) = gK h := rfl
theorem eKR {h : Hp} {a k v : Nat} : gK (sR h a k v) = gK h := rfl
theorem eKA {h : Hp} {a : Nat} {f : Nat → Int32} : gK (sA h a f) = gK h := rfl
theorem eNI {h : Hp} {a k : Nat} {v : Int32} : gN (sI h a k v) = gN h := rfl
theorem eNL {h : Hp} {a k : Nat} {v : Int64} : gN (sL h a k v) = gN h := rfl
theorem eNR {h : Hp} {a k v : Nat} : gN (sR h a k v) = gN h := rfl
theorem eNA {h : Hp} {a : Nat} {f : Nat → Int32} : gN (sA h a f) = gN h := rfl
theorem eRI {h : Hp} {a k : Nat} {v : Int32} : gR (sI h a k v) = gR h := rfl
theorem eRL {h : Hp} {a k : Nat} {v : Int64} : gR (sL h a k v) = gR h := rfl
theorem eRA {h : Hp} {a : Nat} {f : Nat → Int32} : gR (sA h a f) = gR h := rfl
theorem eXI {h : Hp} {a k : Nat} {v : Int32} : gX (sI h a k v) = gX h := rfl
theorem eXL {h : Hp} {a k : Nat} {v : Int64} : gX (sL h a k v) = gX h := rfl
theorem eXR {h : Hp} {a k v : Nat} : gX (sR h a k v) = gX h := rfl
theorem eXA {h : Hp} {a : Nat} {f : Nat → Int32} : gX (sA h a f) = gX h := rfl
theorem kt {h h0 : Hp} {a c : Nat} (e : gK h = gK h0) (q : gK h0 a = c) : gK h a = c := by rw [e]; exact q
theorem nt {h h0 : Hp} {a : Nat} {i : Int32} (e : gN h = gN h0) (q : vp_in i (gN h0 a)) : vp_in i (gN h a) := by rw [e]; exact q
theorem mt {h h0 : Hp} {a x : Nat} (e : gN h = gN h0) (q : x ≤ gN h0 a) : x ≤ gN h a := by rw [e]; exact q
theorem xt {h h0 : Hp} {x : Nat} (e : gX h = gX h0) (q : x < gX h0) : x < gX h := by rw [e]; exact q
theorem r_getRb {X : Option (Nat × (Nat → Int32))} {y : MI} {d pc pc2 : Nat} {ls : List (Nat × AV)} {st : List AV} {h h0 : Hp} {bc bs : Nat} {Q : Option AV → Hp → Prop} {idx ci k0 a N : Nat} {C : String} {T : u_T} (e : gR h = gR h0) (hd : Dc y pc (.getfield idx) 3 pc2) (ok : clsOK ci C T N) (hci : ci < 20) (hk : k0 < N) (ht : ftag (tyT ci k0) = 2) (hw : Cond.fieldLink y.1.cls idx (T k0).1 (T k0).2.1 (T k0).2.2.1 ∈ TB) (ha : gK h a = ci) (k : aW X y d pc2 ls (ar (gR h0 a k0) :: st) h bc bs Q) : aW X y d pc ls (ar a :: st) h bc bs Q := r_getR hd ok hci hk ht hw ha (by rw [e]; exact k)
