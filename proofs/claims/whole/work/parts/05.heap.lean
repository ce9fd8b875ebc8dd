variable {X : Option (Nat × (Nat → Int32))} {y : MI} {d pc pc2 : Nat} {ls ls2 : List (Nat × AV)} {st : List AV} {h : Hp} {bc bs : Nat} {Q : Option AV → Hp → Prop}
theorem kd_in {h : Hp} {a ci : Nat} (hR : Rg h) (hk : gK h a = ci) (hc : ci ≠ 99) : 16 ≤ a ∧ a < gX h := hR.2.1 a (by rw [hk]; exact hc)
theorem NF_of {ci N : Nat} {C : String} {T : u_T} (h : clsOK ci C T N) : NF ci = N := by
  unfold NF
  rw [h.1]
theorem fv0 {ad : Nat → Nat} {h : Hp} {a ci k : Nat} (ht : ftag (tyT ci k) = 0) : fval ad h a (ftag (tyT ci k)) k = .int (gI h a k) := by simp [fval, ht]
theorem fv1 {ad : Nat → Nat} {h : Hp} {a ci k : Nat} (ht : ftag (tyT ci k) = 1) : fval ad h a (ftag (tyT ci k)) k = .long (gL h a k) := by simp [fval, ht]
theorem fv2 {ad : Nat → Nat} {h : Hp} {a ci k : Nat} (ht : ftag (tyT ci k) = 2) : fval ad h a (ftag (tyT ci k)) k = rv ad (gR h a k) := by simp [fval, ht]
theorem ref_n {ty : FieldType} {ad : Nat → Nat} {v : Nat} (ht : ftag ty = 2) : narrow ty (rv ad v) = rv ad v ∧ fits ty (rv ad v) = true := by
  unfold rv
  split <;> cases ty <;> simp_all [ftag, narrow, fits]
theorem r_getI {idx ci k0 a N : Nat} {C : String} {T : u_T} (hd : Dc y pc (.getfield idx) 3 pc2) (ok : clsOK ci C T N) (hci : ci < 20) (hk : k0 < N) (ht : ftag (tyT ci k0) = 0) (hw : Cond.fieldLink y.1.cls idx (T k0).1 (T k0).2.1 (T k0).2.2.1 ∈ TB) (ha : gK h a = ci) (k : aW X y d pc2 ls (ai (gI h a k0) :: st) h bc bs Q) : aW X y d pc ls (ar a :: st) h bc bs Q := by
  obtain ⟨hd, rfl⟩ := hd
  intro p l e R s m args below meth c D cy ad0 n0 A0 Z mc ms C ad H locs lsC cells slots V hl h1 h2
  obtain ⟨v1, v2⟩ := kd_in V.1 ha (by omega)
  rw [List.map_cons, show cv ad (ar a) = .ref (ad a) from rv_pos (by omega)]
  have he := wl_at (cy := cy) (ad := ad) v1 v2
  rw [cell_obj ha hci] at he
  have hv := flds_at (ad := ad) (h := h) (a := a) (ci := ci) (k := k0) (by rw [NF_of ok]; exact hk)
  rw [fv0 ht] at hv
  exact va_get C.1 C.2.1 C.2.2.2.2.1 ok.2.1 C.2.2.2.1 C.2.2.2.2.2.2.1 V.2.2.2.2.1 (a - 16) he ok.1 k0 hk (C.2.2.2.2.1 _ hw) (fun _ z => z) hv hd (k p l e R s m args below meth c D cy ad0 n0 A0 Z mc ms C ad H locs lsC cells slots V hl h1 h2)
theorem r_getL {idx ci k0 a N : Nat} {C : String} {T : u_T} (hd : Dc y pc (.getfield idx) 3 pc2) (ok : clsOK ci C T N) (hci : ci < 20) (hk : k0 < N) (ht : ftag (tyT ci k0) = 1) (hw : Cond.fieldLink y.1.cls idx (T k0).1 (T k0).2.1 (T k0).2.2.1 ∈ TB) (ha : gK h a = ci) (k : aW X y d pc2 ls (al (gL h a k0) :: st) h bc bs Q) : aW X y d pc ls (ar a :: st) h bc bs Q := by
  obtain ⟨hd, rfl⟩ := hd
  intro p l e R s m args below meth c D cy ad0 n0 A0 Z mc ms C ad H locs lsC cells slots V hl h1 h2
  obtain ⟨v1, v2⟩ := kd_in V.1 ha (by omega)
  rw [List.map_cons, show cv ad (ar a) = .ref (ad a) from rv_pos (by omega)]
  have he := wl_at (cy := cy) (ad := ad) v1 v2
  rw [cell_obj ha hci] at he
  have hv := flds_at (ad := ad) (h := h) (a := a) (ci := ci) (k := k0) (by rw [NF_of ok]; exact hk)
  rw [fv1 ht] at hv
  exact va_get C.1 C.2.1 C.2.2.2.2.1 ok.2.1 C.2.2.2.1 C.2.2.2.2.2.2.1 V.2.2.2.2.1 (a - 16) he ok.1 k0 hk (C.2.2.2.2.1 _ hw) (fun _ z => z) hv hd (k p l e R s m args below meth c D cy ad0 n0 A0 Z mc ms C ad H locs lsC cells slots V hl h1 h2)
theorem r_getR {idx ci k0 a N : Nat} {C : String} {T : u_T} (hd : Dc y pc (.getfield idx) 3 pc2) (ok : clsOK ci C T N) (hci : ci < 20) (hk : k0 < N) (ht : ftag (tyT ci k0) = 2) (hw : Cond.fieldLink y.1.cls idx (T k0).1 (T k0).2.1 (T k0).2.2.1 ∈ TB) (ha : gK h a = ci) (k : aW X y d pc2 ls (ar (gR h a k0) :: st) h bc bs Q) : aW X y d pc ls (ar a :: st) h bc bs Q := by
  obtain ⟨hd, rfl⟩ := hd
  intro p l e R s m args below meth c D cy ad0 n0 A0 Z mc ms C ad H locs lsC cells slots V hl h1 h2
  obtain ⟨v1, v2⟩ := kd_in V.1 ha (by omega)
  rw [List.map_cons, show cv ad (ar a) = .ref (ad a) from rv_pos (by omega)]
  have he := wl_at (cy := cy) (ad := ad) v1 v2
  rw [cell_obj ha hci] at he
  have hv := flds_at (ad := ad) (h := h) (a := a) (ci := ci) (k := k0) (by rw [NF_of ok]; exact hk)
  rw [fv2 ht] at hv
  exact va_get C.1 C.2.1 C.2.2.2.2.1 ok.2.1 C.2.2.2.1 C.2.2.2.2.2.2.1 V.2.2.2.2.1 (a - 16) he ok.1 k0 hk (C.2.2.2.2.1 _ hw) (fun _ z => z) hv hd (k p l e R s m args below meth c D cy ad0 n0 A0 Z mc ms C ad H locs lsC cells slots V hl h1 h2)
theorem r_putI {idx ci k0 a N : Nat} {C : String} {T : u_T} {v : Int32} (hd : Dc y pc (.putfield idx) 3 pc2) (ok : clsOK ci C T N) (hci : ci < 20) (hk : k0 < N) (ht : tyT ci k0 = .int) (hw : Cond.fieldLink y.1.cls idx (T k0).1 (T k0).2.1 (T k0).2.2.1 ∈ TB) (hf : (T k0).2.2.2 = false) (ha : gK h a = ci) (k : aW X y d pc2 ls st (sI h a k0 v) bc bs Q) : aW X y d pc ls (ai v :: ar a :: st) h bc bs Q := by
  obtain ⟨hd, rfl⟩ := hd
  intro p l e R s m args below meth c D cy ad0 n0 A0 Z mc ms C ad H locs lsC cells slots V hl h1 h2
  obtain ⟨v1, v2⟩ := kd_in V.1 ha (by omega)
  rw [List.map_cons, List.map_cons, show cv ad (ar a) = .ref (ad a) from rv_pos (by omega)]
  have he := wl_at (cy := cy) (ad := ad) v1 v2
  rw [cell_obj ha hci] at he
  have hlen : k0 < (flds ad h a ci).length := by simp [flds, NF_of ok]; exact hk
  have EE : (wl cy ad h).set (a - 16) (ad a, .inr (ci, (flds ad h a ci).set k0 (.int v))) = wl cy ad (sI h a k0 v) := by
    rw [← wl_set (h := h) (h' := sI h a k0 v) v1 rfl (fun b hb => cell_sI hb), cell_obj (h := sI h a k0 v) (a := a) ha hci, ← flds_set (h := h) (h' := sI h a k0 v) (a := a) (ci := ci) (k := k0) (fun j hj => ⟨by simp [sI, gI, hj], rfl, rfl⟩), fv0 (by rw [ht]; rfl : ftag (tyT ci k0) = 0), show gI (sI h a k0 v) a k0 = v by simp [sI, gI]]
  exact va_put C.1 C.2.1 C.2.2.2.2.1 ok.2.1 (tyT ci) ok.2.2.1 ok.2.2.2 C.2.2.2.1 C.2.2.2.2.2.2.1 V.2.2.2.2.1 V.2.2.2.2.2.1 V.2.2.2.2.2.2 (a - 16) he ok.1 k0 hk (C.2.2.2.2.1 _ hw) (fun _ z => z) hf (ty := .int) (by rw [ok.2.2.1 k0 hk, ht]) rfl rfl hlen hd (fun H9 locs9 P9 D9 S9 => k p l e R s m args below meth c D cy ad0 n0 A0 Z mc ms C ad H9 locs9 lsC cells slots ⟨V.1, V.2.1, V.2.2.1, V.2.2.2.1, EE ▸ P9, EE ▸ D9, S9⟩ hl h1 h2)
theorem r_putZ {idx ci k0 a N : Nat} {C : String} {T : u_T} {v : Int32} (hd : Dc y pc (.putfield idx) 3 pc2) (ok : clsOK ci C T N) (hci : ci < 20) (hk : k0 < N) (ht : tyT ci k0 = .boolean) (hw : Cond.fieldLink y.1.cls idx (T k0).1 (T k0).2.1 (T k0).2.2.1 ∈ TB) (hf : (T k0).2.2.2 = false) (ha : gK h a = ci) (hb : isB v) (k : aW X y d pc2 ls st (sI h a k0 v) bc bs Q) : aW X y d pc ls (ai v :: ar a :: st) h bc bs Q := by
  obtain ⟨hd, rfl⟩ := hd
  intro p l e R s m args below meth c D cy ad0 n0 A0 Z mc ms C ad H locs lsC cells slots V hl h1 h2
  obtain ⟨v1, v2⟩ := kd_in V.1 ha (by omega)
  rw [List.map_cons, List.map_cons, show cv ad (ar a) = .ref (ad a) from rv_pos (by omega)]
  have he := wl_at (cy := cy) (ad := ad) v1 v2
  rw [cell_obj ha hci] at he
  have hlen : k0 < (flds ad h a ci).length := by simp [flds, NF_of ok]; exact hk
  have EE : (wl cy ad h).set (a - 16) (ad a, .inr (ci, (flds ad h a ci).set k0 (.int v))) = wl cy ad (sI h a k0 v) := by
    rw [← wl_set (h := h) (h' := sI h a k0 v) v1 rfl (fun b hb => cell_sI hb), cell_obj (h := sI h a k0 v) (a := a) ha hci, ← flds_set (h := h) (h' := sI h a k0 v) (a := a) (ci := ci) (k := k0) (fun j hj => ⟨by simp [sI, gI, hj], rfl, rfl⟩), fv0 (by rw [ht]; rfl : ftag (tyT ci k0) = 0), show gI (sI h a k0 v) a k0 = v by simp [sI, gI]]
  exact va_put C.1 C.2.1 C.2.2.2.2.1 ok.2.1 (tyT ci) ok.2.2.1 ok.2.2.2 C.2.2.2.1 C.2.2.2.2.2.2.1 V.2.2.2.2.1 V.2.2.2.2.2.1 V.2.2.2.2.2.2 (a - 16) he ok.1 k0 hk (C.2.2.2.2.1 _ hw) (fun _ z => z) hf (ty := .boolean) (by rw [ok.2.2.1 k0 hk, ht]) (isB_n hb) (isB_f hb) hlen hd (fun H9 locs9 P9 D9 S9 => k p l e R s m args below meth c D cy ad0 n0 A0 Z mc ms C ad H9 locs9 lsC cells slots ⟨V.1, V.2.1, V.2.2.1, V.2.2.2.1, EE ▸ P9, EE ▸ D9, S9⟩ hl h1 h2)
theorem r_putL {idx ci k0 a N : Nat} {C : String} {T : u_T} {v : Int64} (hd : Dc y pc (.putfield idx) 3 pc2) (ok : clsOK ci C T N) (hci : ci < 20) (hk : k0 < N) (ht : tyT ci k0 = .long) (hw : Cond.fieldLink y.1.cls idx (T k0).1 (T k0).2.1 (T k0).2.2.1 ∈ TB) (hf : (T k0).2.2.2 = false) (ha : gK h a = ci) (k : aW X y d pc2 ls st (sL h a k0 v) bc bs Q) : aW X y d pc ls (al v :: ar a :: st) h bc bs Q := by
  obtain ⟨hd, rfl⟩ := hd
  intro p l e R s m args below meth c D cy ad0 n0 A0 Z mc ms C ad H locs lsC cells slots V hl h1 h2
  obtain ⟨v1, v2⟩ := kd_in V.1 ha (by omega)
  rw [List.map_cons, List.map_cons, show cv ad (ar a) = .ref (ad a) from rv_pos (by omega)]
  have he := wl_at (cy := cy) (ad := ad) v1 v2
  rw [cell_obj ha hci] at he
  have hlen : k0 < (flds ad h a ci).length := by simp [flds, NF_of ok]; exact hk
  have EE : (wl cy ad h).set (a - 16) (ad a, .inr (ci, (flds ad h a ci).set k0 (.long v))) = wl cy ad (sL h a k0 v) := by
    rw [← wl_set (h := h) (h' := sL h a k0 v) v1 rfl (fun b hb => cell_sL hb), cell_obj (h := sL h a k0 v) (a := a) ha hci, ← flds_set (h := h) (h' := sL h a k0 v) (a := a) (ci := ci) (k := k0) (fun j hj => ⟨rfl, by simp [sL, gL, hj], rfl⟩), fv1 (by rw [ht]; rfl : ftag (tyT ci k0) = 1), show gL (sL h a k0 v) a k0 = v by simp [sL, gL]]
  exact va_put C.1 C.2.1 C.2.2.2.2.1 ok.2.1 (tyT ci) ok.2.2.1 ok.2.2.2 C.2.2.2.1 C.2.2.2.2.2.2.1 V.2.2.2.2.1 V.2.2.2.2.2.1 V.2.2.2.2.2.2 (a - 16) he ok.1 k0 hk (C.2.2.2.2.1 _ hw) (fun _ z => z) hf (ty := .long) (by rw [ok.2.2.1 k0 hk, ht]) rfl rfl hlen hd (fun H9 locs9 P9 D9 S9 => k p l e R s m args below meth c D cy ad0 n0 A0 Z mc ms C ad H9 locs9 lsC cells slots ⟨V.1, V.2.1, V.2.2.1, V.2.2.2.1, EE ▸ P9, EE ▸ D9, S9⟩ hl h1 h2)
theorem r_putR {idx ci k0 a N : Nat} {C : String} {T : u_T} {v : Nat} (hd : Dc y pc (.putfield idx) 3 pc2) (ok : clsOK ci C T N) (hci : ci < 20) (hk : k0 < N) (ht : ftag (tyT ci k0) = 2) (hw : Cond.fieldLink y.1.cls idx (T k0).1 (T k0).2.1 (T k0).2.2.1 ∈ TB) (hf : (T k0).2.2.2 = false) (ha : gK h a = ci) (hb : v < gX h) (k : aW X y d pc2 ls st (sR h a k0 v) bc bs Q) : aW X y d pc ls (ar v :: ar a :: st) h bc bs Q := by
  obtain ⟨hd, rfl⟩ := hd
  intro p l e R s m args below meth c D cy ad0 n0 A0 Z mc ms C ad H locs lsC cells slots V hl h1 h2
  obtain ⟨v1, v2⟩ := kd_in V.1 ha (by omega)
  rw [List.map_cons, List.map_cons, show cv ad (ar a) = .ref (ad a) from rv_pos (by omega)]
  have he := wl_at (cy := cy) (ad := ad) v1 v2
  rw [cell_obj ha hci] at he
  have hlen : k0 < (flds ad h a ci).length := by simp [flds, NF_of ok]; exact hk
  have EE : (wl cy ad h).set (a - 16) (ad a, .inr (ci, (flds ad h a ci).set k0 (rv ad v))) = wl cy ad (sR h a k0 v) := by
    rw [← wl_set (h := h) (h' := sR h a k0 v) v1 rfl (fun b hb => cell_sR hb), cell_obj (h := sR h a k0 v) (a := a) ha hci, ← flds_set (h := h) (h' := sR h a k0 v) (a := a) (ci := ci) (k := k0) (fun j hj => ⟨rfl, rfl, by simp [sR, gR, hj]⟩), fv2 ht, show gR (sR h a k0 v) a k0 = v by simp [sR, gR]]
  exact va_put C.1 C.2.1 C.2.2.2.2.1 ok.2.1 (tyT ci) ok.2.2.1 ok.2.2.2 C.2.2.2.1 C.2.2.2.2.2.2.1 V.2.2.2.2.1 V.2.2.2.2.2.1 V.2.2.2.2.2.2 (a - 16) he ok.1 k0 hk (C.2.2.2.2.1 _ hw) (fun _ z => z) hf (ty := tyT ci k0) (by rw [ok.2.2.1 k0 hk]) (ref_n ht).1 (ref_n ht).2 hlen hd (fun H9 locs9 P9 D9 S9 => k p l e R s m args below meth c D cy ad0 n0 A0 Z mc ms C ad H9 locs9 lsC cells slots ⟨⟨V.1.1, V.1.2.1, fun b j => by show (if b = a ∧ j = k0 then v else gR h b j) < gX h; split; exact hb; exact V.1.2.2 b j⟩, V.2.1, V.2.2.1, V.2.2.2.1, EE ▸ P9, EE ▸ D9, S9⟩ hl h1 h2)
theorem r_putFI {idx ci k0 a N : Nat} {C : String} {T : u_T} {v : Int32} (hd : Dc y pc (.putfield idx) 3 pc2) (ok : clsOK ci C T N) (hci : ci < 20) (hk : k0 < N) (ht : tyT ci k0 = .int) (hw : Cond.fieldLink y.1.cls idx (T k0).1 (T k0).2.1 (T k0).2.2.1 ∈ TB) (hf : (T k0).2.2.2 = true) (hini : y.1.name = "<init>") (hdc : (T k0).1 = y.1.cls) (ha : gK h a = ci) (k : aW X y d pc2 ls st (sI h a k0 v) bc bs Q) : aW X y d pc ls (ai v :: ar a :: st) h bc bs Q := by
  obtain ⟨hd, rfl⟩ := hd
  intro p l e R s m args below meth c D cy ad0 n0 A0 Z mc ms C ad H locs lsC cells slots V hl h1 h2
  obtain ⟨v1, v2⟩ := kd_in V.1 ha (by omega)
  rw [List.map_cons, List.map_cons, show cv ad (ar a) = .ref (ad a) from rv_pos (by omega)]
  have he := wl_at (cy := cy) (ad := ad) v1 v2
  rw [cell_obj ha hci] at he
  have hlen : k0 < (flds ad h a ci).length := by simp [flds, NF_of ok]; exact hk
  have EE : (wl cy ad h).set (a - 16) (ad a, .inr (ci, (flds ad h a ci).set k0 (.int v))) = wl cy ad (sI h a k0 v) := by
    rw [← wl_set (h := h) (h' := sI h a k0 v) v1 rfl (fun b hb => cell_sI hb), cell_obj (h := sI h a k0 v) (a := a) ha hci, ← flds_set (h := h) (h' := sI h a k0 v) (a := a) (ci := ci) (k := k0) (fun j hj => ⟨by simp [sI, gI, hj], rfl, rfl⟩), fv0 (by rw [ht]; rfl : ftag (tyT ci k0) = 0), show gI (sI h a k0 v) a k0 = v by simp [sI, gI]]
  exact va_putF C.1 C.2.1 C.2.2.2.2.1 ok.2.1 (tyT ci) ok.2.2.1 ok.2.2.2 C.2.2.2.1 C.2.2.2.2.2.2.1 V.2.2.2.2.1 V.2.2.2.2.2.1 V.2.2.2.2.2.2 (a - 16) he ok.1 k0 hk (C.2.2.2.2.1 _ hw) (fun _ z => z) hf (C.2.2.2.2.2.1.trans hini) hdc (ty := .int) (by rw [ok.2.2.1 k0 hk, ht]) rfl rfl hlen hd (fun H9 locs9 P9 D9 S9 => k p l e R s m args below meth c D cy ad0 n0 A0 Z mc ms C ad H9 locs9 lsC cells slots ⟨V.1, V.2.1, V.2.2.1, V.2.2.2.1, EE ▸ P9, EE ▸ D9, S9⟩ hl h1 h2)
theorem r_putFZ {idx ci k0 a N : Nat} {C : String} {T : u_T} {v : Int32} (hd : Dc y pc (.putfield idx) 3 pc2) (ok : clsOK ci C T N) (hci : ci < 20) (hk : k0 < N) (ht : tyT ci k0 = .boolean) (hw : Cond.fieldLink y.1.cls idx (T k0).1 (T k0).2.1 (T k0).2.2.1 ∈ TB) (hf : (T k0).2.2.2 = true) (hini : y.1.name = "<init>") (hdc : (T k0).1 = y.1.cls) (ha : gK h a = ci) (hb : isB v) (k : aW X y d pc2 ls st (sI h a k0 v) bc bs Q) : aW X y d pc ls (ai v :: ar a :: st) h bc bs Q := by
  obtain ⟨hd, rfl⟩ := hd
  intro p l e R s m args below meth c D cy ad0 n0 A0 Z mc ms C ad H locs lsC cells slots V hl h1 h2
  obtain ⟨v1, v2⟩ := kd_in V.1 ha (by omega)
  rw [List.map_cons, List.map_cons, show cv ad (ar a) = .ref (ad a) from rv_pos (by omega)]
  have he := wl_at (cy := cy) (ad := ad) v1 v2
  rw [cell_obj ha hci] at he
  have hlen : k0 < (flds ad h a ci).length := by simp [flds, NF_of ok]; exact hk
  have EE : (wl cy ad h).set (a - 16) (ad a, .inr (ci, (flds ad h a ci).set k0 (.int v))) = wl cy ad (sI h a k0 v) := by
    rw [← wl_set (h := h) (h' := sI h a k0 v) v1 rfl (fun b hb => cell_sI hb), cell_obj (h := sI h a k0 v) (a := a) ha hci, ← flds_set (h := h) (h' := sI h a k0 v) (a := a) (ci := ci) (k := k0) (fun j hj => ⟨by simp [sI, gI, hj], rfl, rfl⟩), fv0 (by rw [ht]; rfl : ftag (tyT ci k0) = 0), show gI (sI h a k0 v) a k0 = v by simp [sI, gI]]
  exact va_putF C.1 C.2.1 C.2.2.2.2.1 ok.2.1 (tyT ci) ok.2.2.1 ok.2.2.2 C.2.2.2.1 C.2.2.2.2.2.2.1 V.2.2.2.2.1 V.2.2.2.2.2.1 V.2.2.2.2.2.2 (a - 16) he ok.1 k0 hk (C.2.2.2.2.1 _ hw) (fun _ z => z) hf (C.2.2.2.2.2.1.trans hini) hdc (ty := .boolean) (by rw [ok.2.2.1 k0 hk, ht]) (isB_n hb) (isB_f hb) hlen hd (fun H9 locs9 P9 D9 S9 => k p l e R s m args below meth c D cy ad0 n0 A0 Z mc ms C ad H9 locs9 lsC cells slots ⟨V.1, V.2.1, V.2.2.1, V.2.2.2.1, EE ▸ P9, EE ▸ D9, S9⟩ hl h1 h2)
theorem r_putFL {idx ci k0 a N : Nat} {C : String} {T : u_T} {v : Int64} (hd : Dc y pc (.putfield idx) 3 pc2) (ok : clsOK ci C T N) (hci : ci < 20) (hk : k0 < N) (ht : tyT ci k0 = .long) (hw : Cond.fieldLink y.1.cls idx (T k0).1 (T k0).2.1 (T k0).2.2.1 ∈ TB) (hf : (T k0).2.2.2 = true) (hini : y.1.name = "<init>") (hdc : (T k0).1 = y.1.cls) (ha : gK h a = ci) (k : aW X y d pc2 ls st (sL h a k0 v) bc bs Q) : aW X y d pc ls (al v :: ar a :: st) h bc bs Q := by
  obtain ⟨hd, rfl⟩ := hd
  intro p l e R s m args below meth c D cy ad0 n0 A0 Z mc ms C ad H locs lsC cells slots V hl h1 h2
  obtain ⟨v1, v2⟩ := kd_in V.1 ha (by omega)
  rw [List.map_cons, List.map_cons, show cv ad (ar a) = .ref (ad a) from rv_pos (by omega)]
  have he := wl_at (cy := cy) (ad := ad) v1 v2
  rw [cell_obj ha hci] at he
  have hlen : k0 < (flds ad h a ci).length := by simp [flds, NF_of ok]; exact hk
  have EE : (wl cy ad h).set (a - 16) (ad a, .inr (ci, (flds ad h a ci).set k0 (.long v))) = wl cy ad (sL h a k0 v) := by
    rw [← wl_set (h := h) (h' := sL h a k0 v) v1 rfl (fun b hb => cell_sL hb), cell_obj (h := sL h a k0 v) (a := a) ha hci, ← flds_set (h := h) (h' := sL h a k0 v) (a := a) (ci := ci) (k := k0) (fun j hj => ⟨rfl, by simp [sL, gL, hj], rfl⟩), fv1 (by rw [ht]; rfl : ftag (tyT ci k0) = 1), show gL (sL h a k0 v) a k0 = v by simp [sL, gL]]
  exact va_putF C.1 C.2.1 C.2.2.2.2.1 ok.2.1 (tyT ci) ok.2.2.1 ok.2.2.2 C.2.2.2.1 C.2.2.2.2.2.2.1 V.2.2.2.2.1 V.2.2.2.2.2.1 V.2.2.2.2.2.2 (a - 16) he ok.1 k0 hk (C.2.2.2.2.1 _ hw) (fun _ z => z) hf (C.2.2.2.2.2.1.trans hini) hdc (ty := .long) (by rw [ok.2.2.1 k0 hk, ht]) rfl rfl hlen hd (fun H9 locs9 P9 D9 S9 => k p l e R s m args below meth c D cy ad0 n0 A0 Z mc ms C ad H9 locs9 lsC cells slots ⟨V.1, V.2.1, V.2.2.1, V.2.2.2.1, EE ▸ P9, EE ▸ D9, S9⟩ hl h1 h2)
theorem r_putFR {idx ci k0 a N : Nat} {C : String} {T : u_T} {v : Nat} (hd : Dc y pc (.putfield idx) 3 pc2) (ok : clsOK ci C T N) (hci : ci < 20) (hk : k0 < N) (ht : ftag (tyT ci k0) = 2) (hw : Cond.fieldLink y.1.cls idx (T k0).1 (T k0).2.1 (T k0).2.2.1 ∈ TB) (hf : (T k0).2.2.2 = true) (hini : y.1.name = "<init>") (hdc : (T k0).1 = y.1.cls) (ha : gK h a = ci) (hb : v < gX h) (k : aW X y d pc2 ls st (sR h a k0 v) bc bs Q) : aW X y d pc ls (ar v :: ar a :: st) h bc bs Q := by
  obtain ⟨hd, rfl⟩ := hd
  intro p l e R s m args below meth c D cy ad0 n0 A0 Z mc ms C ad H locs lsC cells slots V hl h1 h2
  obtain ⟨v1, v2⟩ := kd_in V.1 ha (by omega)
  rw [List.map_cons, List.map_cons, show cv ad (ar a) = .ref (ad a) from rv_pos (by omega)]
  have he := wl_at (cy := cy) (ad := ad) v1 v2
  rw [cell_obj ha hci] at he
  have hlen : k0 < (flds ad h a ci).length := by simp [flds, NF_of ok]; exact hk
  have EE : (wl cy ad h).set (a - 16) (ad a, .inr (ci, (flds ad h a ci).set k0 (rv ad v))) = wl cy ad (sR h a k0 v) := by
    rw [← wl_set (h := h) (h' := sR h a k0 v) v1 rfl (fun b hb => cell_sR hb), cell_obj (h := sR h a k0 v) (a := a) ha hci, ← flds_set (h := h) (h' := sR h a k0 v) (a := a) (ci := ci) (k := k0) (fun j hj => ⟨rfl, rfl, by simp [sR, gR, hj]⟩), fv2 ht, show gR (sR h a k0 v) a k0 = v by simp [sR, gR]]
  exact va_putF C.1 C.2.1 C.2.2.2.2.1 ok.2.1 (tyT ci) ok.2.2.1 ok.2.2.2 C.2.2.2.1 C.2.2.2.2.2.2.1 V.2.2.2.2.1 V.2.2.2.2.2.1 V.2.2.2.2.2.2 (a - 16) he ok.1 k0 hk (C.2.2.2.2.1 _ hw) (fun _ z => z) hf (C.2.2.2.2.2.1.trans hini) hdc (ty := tyT ci k0) (by rw [ok.2.2.1 k0 hk]) (ref_n ht).1 (ref_n ht).2 hlen hd (fun H9 locs9 P9 D9 S9 => k p l e R s m args below meth c D cy ad0 n0 A0 Z mc ms C ad H9 locs9 lsC cells slots ⟨⟨V.1.1, V.1.2.1, fun b j => by show (if b = a ∧ j = k0 then v else gR h b j) < gX h; split; exact hb; exact V.1.2.2 b j⟩, V.2.1, V.2.2.1, V.2.2.2.1, EE ▸ P9, EE ▸ D9, S9⟩ hl h1 h2)
theorem r_iald {a : Nat} {i : Int32} (hd : Dc y pc .iaload 1 pc2) (ha : gK h a = 20) (hi : vp_in i (gN h a)) (k : aW X y d pc2 ls (ai (gI h a (ix i)) :: st) h bc bs Q) : aW X y d pc ls (ai i :: ar a :: st) h bc bs Q := by
  obtain ⟨hd, rfl⟩ := hd
  intro p l e R s m args below meth c D cy ad0 n0 A0 Z mc ms C ad H locs lsC cells slots V hl h1 h2
  obtain ⟨v1, v2⟩ := kd_in V.1 ha (by omega)
  rw [List.map_cons, List.map_cons, show cv ad (ar a) = .ref (ad a) from rv_pos (by omega)]
  have he := wl_at (cy := cy) (ad := ad) v1 v2
  rw [show cellOf cy ad h a = .inl (cy 0, gN h a, .inl (gI h a)) by simp [cellOf, ha]] at he
  exact va_iald C.1 C.2.1 C.2.2.2.2.2.2.1 V.2.2.2.2.1 (a - 16) 0 he rfl hi hd (k p l e R s m args below meth c D cy ad0 n0 A0 Z mc ms C ad H locs lsC cells slots V hl h1 h2)
theorem r_zald {a : Nat} {i : Int32} (hd : Dc y pc .baload 1 pc2) (ha : gK h a = 22) (hi : vp_in i (gN h a)) (k : aW X y d pc2 ls (ai (gI h a (ix i)) :: st) h bc bs Q) : aW X y d pc ls (ai i :: ar a :: st) h bc bs Q := by
  obtain ⟨hd, rfl⟩ := hd
  intro p l e R s m args below meth c D cy ad0 n0 A0 Z mc ms C ad H locs lsC cells slots V hl h1 h2
  obtain ⟨v1, v2⟩ := kd_in V.1 ha (by omega)
  rw [List.map_cons, List.map_cons, show cv ad (ar a) = .ref (ad a) from rv_pos (by omega)]
  have he := wl_at (cy := cy) (ad := ad) v1 v2
  rw [show cellOf cy ad h a = .inl (cy 2, gN h a, .inl (gI h a)) by simp [cellOf, ha]] at he
  exact va_zald C.1 C.2.1 C.2.2.2.2.2.2.1 V.2.2.2.2.1 (a - 16) 2 he rfl hi hd (k p l e R s m args below meth c D cy ad0 n0 A0 Z mc ms C ad H locs lsC cells slots V hl h1 h2)
theorem r_lald {a : Nat} {i : Int32} (hd : Dc y pc .laload 1 pc2) (ha : gK h a = 21) (hi : vp_in i (gN h a)) (k : aW X y d pc2 ls (al (gL h a (ix i)) :: st) h bc bs Q) : aW X y d pc ls (ai i :: ar a :: st) h bc bs Q := by
  obtain ⟨hd, rfl⟩ := hd
  intro p l e R s m args below meth c D cy ad0 n0 A0 Z mc ms C ad H locs lsC cells slots V hl h1 h2
  obtain ⟨v1, v2⟩ := kd_in V.1 ha (by omega)
  rw [List.map_cons, List.map_cons, show cv ad (ar a) = .ref (ad a) from rv_pos (by omega)]
  have he := wl_at (cy := cy) (ad := ad) v1 v2
  rw [show cellOf cy ad h a = .inl (cy 1, gN h a, .inr (.inl (gL h a))) by simp [cellOf, ha]] at he
  exact va_lald C.1 C.2.1 C.2.2.2.2.2.2.1 V.2.2.2.2.1 (a - 16) 1 he rfl hi hd (k p l e R s m args below meth c D cy ad0 n0 A0 Z mc ms C ad H locs lsC cells slots V hl h1 h2)
theorem r_aald {a : Nat} {i : Int32} (hd : Dc y pc .aaload 1 pc2) (ha : gK h a = 23) (hi : vp_in i (gN h a)) (k : aW X y d pc2 ls (ar (gR h a (ix i)) :: st) h bc bs Q) : aW X y d pc ls (ai i :: ar a :: st) h bc bs Q := by
  obtain ⟨hd, rfl⟩ := hd
  intro p l e R s m args below meth c D cy ad0 n0 A0 Z mc ms C ad H locs lsC cells slots V hl h1 h2
  obtain ⟨v1, v2⟩ := kd_in V.1 ha (by omega)
  rw [List.map_cons, List.map_cons, show cv ad (ar a) = .ref (ad a) from rv_pos (by omega)]
  have he := wl_at (cy := cy) (ad := ad) v1 v2
  rw [show cellOf cy ad h a = .inl (cy 3, gN h a, .inr (.inr (.inr (.inr (fun i => ro ad (gR h a i)))))) by simp [cellOf, ha]] at he
  exact va_aldq C.1 C.2.1 C.2.2.2.2.2.2.1 V.2.2.2.2.1 (a - 16) 3 he rfl hi hd (by have kk := k p l e R s m args below meth c D cy ad0 n0 A0 Z mc ms C ad H locs lsC cells slots V hl h1 h2; rw [List.map_cons, show cv ad (ar (gR h a (ix i))) = va_rf (ro ad (gR h a (ix i))) from (rv_ro ad _).symm] at kk; exact kk)
theorem r_iast {a : Nat} {i : Int32} {v : Int32} (hd : Dc y pc .iastore 1 pc2) (ha : gK h a = 20) (hi : vp_in i (gN h a)) (k : aW X y d pc2 ls st (sI h a (ix i) v) bc bs Q) : aW X y d pc ls (ai v :: ai i :: ar a :: st) h bc bs Q := by
  obtain ⟨hd, rfl⟩ := hd
  intro p l e R s m args below meth c D cy ad0 n0 A0 Z mc ms C ad H locs lsC cells slots V hl h1 h2
  obtain ⟨v1, v2⟩ := kd_in V.1 ha (by omega)
  rw [List.map_cons, List.map_cons, List.map_cons, show cv ad (ar a) = .ref (ad a) from rv_pos (by omega)]
  have he := wl_at (cy := cy) (ad := ad) v1 v2
  rw [show cellOf cy ad h a = .inl (cy 0, gN h a, .inl (gI h a)) by simp [cellOf, ha]] at he
  have EE : (wl cy ad h).set (a - 16) (ad a, .inl (cy 0, gN h a, .inl (upd (gI h a) (ix i) v))) = wl cy ad (sI h a (ix i) v) := by
    rw [← wl_set (h := h) (h' := sI h a (ix i) v) v1 rfl (fun b hb => cell_sI hb), show cellOf cy ad (sI h a (ix i) v) a = .inl (cy 0, gN h a, .inl (gI (sI h a (ix i) v) a)) from by simp [cellOf, show gK (sI h a (ix i) v) a = 20 from ha]; rfl, show gI (sI h a (ix i) v) a = upd (gI h a) (ix i) v from funext fun j => by simp [sI, gI, upd]]
  exact va_iast C.1 C.2.1 C.2.2.2.2.2.2.1 V.2.2.2.2.1 V.2.2.2.2.2.1 V.2.2.2.2.2.2 (a - 16) 0 he rfl hi hd (fun H9 locs9 P9 D9 S9 => k p l e R s m args below meth c D cy ad0 n0 A0 Z mc ms C ad H9 locs9 lsC cells slots ⟨V.1, V.2.1, V.2.2.1, V.2.2.2.1, EE ▸ P9, EE ▸ D9, S9⟩ hl h1 h2)
theorem r_zast {a : Nat} {i : Int32} {v : Int32} (hd : Dc y pc .bastore 1 pc2) (ha : gK h a = 22) (hi : vp_in i (gN h a)) (hb : isB v) (k : aW X y d pc2 ls st (sI h a (ix i) v) bc bs Q) : aW X y d pc ls (ai v :: ai i :: ar a :: st) h bc bs Q := by
  obtain ⟨hd, rfl⟩ := hd
  intro p l e R s m args below meth c D cy ad0 n0 A0 Z mc ms C ad H locs lsC cells slots V hl h1 h2
  obtain ⟨v1, v2⟩ := kd_in V.1 ha (by omega)
  rw [List.map_cons, List.map_cons, List.map_cons, show cv ad (ar a) = .ref (ad a) from rv_pos (by omega)]
  have he := wl_at (cy := cy) (ad := ad) v1 v2
  rw [show cellOf cy ad h a = .inl (cy 2, gN h a, .inl (gI h a)) by simp [cellOf, ha]] at he
  have EE : (wl cy ad h).set (a - 16) (ad a, .inl (cy 2, gN h a, .inl (upd (gI h a) (ix i) (vp_nar .boolean v)))) = wl cy ad (sI h a (ix i) v) := by
    rw [← wl_set (h := h) (h' := sI h a (ix i) v) v1 rfl (fun b hb => cell_sI hb), show cellOf cy ad (sI h a (ix i) v) a = .inl (cy 2, gN h a, .inl (gI (sI h a (ix i) v) a)) from by simp [cellOf, show gK (sI h a (ix i) v) a = 22 from ha]; rfl, show gI (sI h a (ix i) v) a = upd (gI h a) (ix i) (vp_nar .boolean v) from funext fun j => by rw [show vp_nar .boolean v = v by unfold vp_nar; rw [isB_n hb]]; simp [sI, gI, upd]]
  exact va_zast C.1 C.2.1 C.2.2.2.2.2.2.1 V.2.2.2.2.1 V.2.2.2.2.2.1 V.2.2.2.2.2.2 (a - 16) 2 he rfl hi hd (fun H9 locs9 P9 D9 S9 => k p l e R s m args below meth c D cy ad0 n0 A0 Z mc ms C ad H9 locs9 lsC cells slots ⟨V.1, V.2.1, V.2.2.1, V.2.2.2.1, EE ▸ P9, EE ▸ D9, S9⟩ hl h1 h2)
theorem r_last {a : Nat} {i : Int32} {v : Int64} (hd : Dc y pc .lastore 1 pc2) (ha : gK h a = 21) (hi : vp_in i (gN h a)) (k : aW X y d pc2 ls st (sL h a (ix i) v) bc bs Q) : aW X y d pc ls (al v :: ai i :: ar a :: st) h bc bs Q := by
  obtain ⟨hd, rfl⟩ := hd
  intro p l e R s m args below meth c D cy ad0 n0 A0 Z mc ms C ad H locs lsC cells slots V hl h1 h2
  obtain ⟨v1, v2⟩ := kd_in V.1 ha (by omega)
  rw [List.map_cons, List.map_cons, List.map_cons, show cv ad (ar a) = .ref (ad a) from rv_pos (by omega)]
  have he := wl_at (cy := cy) (ad := ad) v1 v2
  rw [show cellOf cy ad h a = .inl (cy 1, gN h a, .inr (.inl (gL h a))) by simp [cellOf, ha]] at he
  have EE : (wl cy ad h).set (a - 16) (ad a, .inl (cy 1, gN h a, .inr (.inl (vp_updL (gL h a) (ix i) v)))) = wl cy ad (sL h a (ix i) v) := by
    rw [← wl_set (h := h) (h' := sL h a (ix i) v) v1 rfl (fun b hb => cell_sL hb), show cellOf cy ad (sL h a (ix i) v) a = .inl (cy 1, gN h a, .inr (.inl (gL (sL h a (ix i) v) a))) from by simp [cellOf, show gK (sL h a (ix i) v) a = 21 from ha]; rfl, show gL (sL h a (ix i) v) a = vp_updL (gL h a) (ix i) v from funext fun j => by simp [sL, gL, vp_updL]]
  exact va_last C.1 C.2.1 C.2.2.2.2.2.2.1 V.2.2.2.2.1 V.2.2.2.2.2.1 V.2.2.2.2.2.2 (a - 16) 1 he rfl hi hd (fun H9 locs9 P9 D9 S9 => k p l e R s m args below meth c D cy ad0 n0 A0 Z mc ms C ad H9 locs9 lsC cells slots ⟨V.1, V.2.1, V.2.2.1, V.2.2.2.1, EE ▸ P9, EE ▸ D9, S9⟩ hl h1 h2)
theorem r_aast {a v : Nat} {i : Int32} (hd : Dc y pc .aastore 1 pc2) (ha : gK h a = 23) (hi : vp_in i (gN h a)) (hv : gK h v = 1) (k : aW X y d pc2 ls st (sR h a (ix i) v) bc bs Q) : aW X y d pc ls (ar v :: ai i :: ar a :: st) h bc bs Q := by
  obtain ⟨hd, rfl⟩ := hd
  intro p l e R s m args below meth c D cy ad0 n0 A0 Z mc ms C ad H locs lsC cells slots V hl h1 h2
  obtain ⟨v1, v2⟩ := kd_in V.1 ha (by omega)
  obtain ⟨u1, u2⟩ := kd_in V.1 hv (by omega)
  rw [List.map_cons, List.map_cons, List.map_cons, show cv ad (ar a) = .ref (ad a) from rv_pos (by omega), show cv ad (ar v) = .ref (ad v) from rv_pos (by omega)]
  have he := wl_at (cy := cy) (ad := ad) v1 v2
  rw [show cellOf cy ad h a = .inl (cy 3, gN h a, .inr (.inr (.inr (.inr (fun i => ro ad (gR h a i)))))) by simp [cellOf, ha]] at he
  have hv9 := wl_at (cy := cy) (ad := ad) u1 u2
  rw [cell_obj hv (by omega)] at hv9
  have EE : (wl cy ad h).set (a - 16) (ad a, .inl (cy 3, gN h a, .inr (.inr (.inr (.inr (va_up (fun i => ro ad (gR h a i)) i.toNatClampNeg (some (ad v)))))))) = wl cy ad (sR h a (ix i) v) := by
    rw [← wl_set (h := h) (h' := sR h a (ix i) v) v1 rfl (fun b hb => cell_sR hb), show cellOf cy ad (sR h a (ix i) v) a = .inl (cy 3, gN h a, .inr (.inr (.inr (.inr (fun j => ro ad (gR (sR h a (ix i) v) a j)))))) from by simp [cellOf, show gK (sR h a (ix i) v) a = 23 from ha]; rfl, show (fun j => ro ad (gR (sR h a (ix i) v) a j)) = va_up (fun i => ro ad (gR h a i)) i.toNatClampNeg (some (ad v)) from funext fun j => by
      by_cases e : j = i.toNatClampNeg
      · subst e; simp [sR, gR, va_up, ro, show v ≠ 0 by omega]
      · simp [sR, gR, va_up, e]]
  exact va_astq C.1 C.2.1 C.2.2.2.2.2.2.1 V.2.2.2.2.1 V.2.2.2.2.2.1 V.2.2.2.2.2.2 (a - 16) 3 (v - 16) 1 (r := (RX1, TX1, 4)) he rfl hv9 rfl hi hd (fun H9 locs9 P9 D9 S9 => k p l e R s m args below meth c D cy ad0 n0 A0 Z mc ms C ad H9 locs9 lsC cells slots ⟨⟨V.1.1, V.1.2.1, fun b j => by show (if b = a ∧ j = ix i then v else gR h b j) < gX h; split; exact u2; exact V.1.2.2 b j⟩, V.2.1, V.2.2.1, V.2.2.2.1, EE ▸ P9, EE ▸ D9, S9⟩ hl h1 h2)
theorem r_alen {a : Nat} (hd : Dc y pc .arraylength 1 pc2) (ha : gK h a = 20 ∨ gK h a = 21) (k : aW X y d pc2 ls (ai (Int32.ofNat (gN h a)) :: st) h bc bs Q) : aW X y d pc ls (ar a :: st) h bc bs Q := by
  obtain ⟨hd, rfl⟩ := hd
  intro p l e R s m args below meth c D cy ad0 n0 A0 Z mc ms C ad H locs lsC cells slots V hl h1 h2
  rcases ha with ha | ha
  · obtain ⟨v1, v2⟩ := kd_in V.1 ha (by omega)
    rw [List.map_cons, show cv ad (ar a) = .ref (ad a) from rv_pos (by omega)]
    have he := wl_at (cy := cy) (ad := ad) v1 v2
    rw [show cellOf cy ad h a = .inl (cy 0, gN h a, .inl (gI h a)) by simp [cellOf, ha]] at he
    exact va_alen C.1 C.2.1 C.2.2.2.2.2.2.1 V.2.2.2.2.1 (a - 16) 0 he (ty := .int) rfl rfl hd (k p l e R s m args below meth c D cy ad0 n0 A0 Z mc ms C ad H locs lsC cells slots V hl h1 h2)
  · obtain ⟨v1, v2⟩ := kd_in V.1 ha (by omega)
    rw [List.map_cons, show cv ad (ar a) = .ref (ad a) from rv_pos (by omega)]
    have he := wl_at (cy := cy) (ad := ad) v1 v2
    rw [show cellOf cy ad h a = .inl (cy 1, gN h a, .inr (.inl (gL h a))) by simp [cellOf, ha]] at he
    exact va_alen C.1 C.2.1 C.2.2.2.2.2.2.1 V.2.2.2.2.1 (a - 16) 1 he (ty := .long) rfl rfl hd (k p l e R s m args below meth c D cy ad0 n0 A0 Z mc ms C ad H locs lsC cells slots V hl h1 h2)
