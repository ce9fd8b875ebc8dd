/-! The start: both are made -/
theorem vpn {j n N : Nat} (e : N = n) (h1 : j < n) (h2 : n < 2 ^ 31) : vp_in (nI j) N := by
  rw [e]
  exact vp_in_nI h1 h2
def ZIs (S : List (Nat × Nat)) (h : Hp) : Prop := ∀ b j, (b, j) ∉ S → gI h b j = 0
def ZLs (S : List (Nat × Nat)) (h : Hp) : Prop := ∀ b j, (b, j) ∉ S → gL h b j = 0
theorem zi_nw {S : List (Nat × Nat)} {h : Hp} {k n : Nat} (z : ZIs S h) : ZIs S (nw h k n) := fun b j m => by
  show (if b = gX h then 0 else gI h b j) = 0
  rw [z b j m, ite_self]
theorem zl_nw {S : List (Nat × Nat)} {h : Hp} {k n : Nat} (z : ZLs S h) : ZLs S (nw h k n) := fun b j m => by
  show (if b = gX h then 0 else gL h b j) = 0
  rw [z b j m, ite_self]
theorem zi_sR {S : List (Nat × Nat)} {h : Hp} {a k v : Nat} (z : ZIs S h) : ZIs S (sR h a k v) := fun b j m => z b j m
theorem zl_sR {S : List (Nat × Nat)} {h : Hp} {a k v : Nat} (z : ZLs S h) : ZLs S (sR h a k v) := fun b j m => z b j m
theorem zi_sL {S : List (Nat × Nat)} {h : Hp} {a k : Nat} {v : Int64} (z : ZIs S h) : ZIs S (sL h a k v) := fun b j m => z b j m
theorem zl_sI {S : List (Nat × Nat)} {h : Hp} {a k : Nat} {v : Int32} (z : ZLs S h) : ZLs S (sI h a k v) := fun b j m => z b j m
theorem zi_sI {S : List (Nat × Nat)} {h : Hp} {a k a' k' : Nat} {v : Int32} (e1 : a = a') (e2 : k = k') (z : ZIs S h) : ZIs ((a', k') :: S) (sI h a k v) := fun b j m => by
  have m1 : ¬ (b, j) = (a', k') := fun q => m (by rw [q]; exact List.mem_cons_self)
  rw [gI_sI, if_neg (fun q => m1 (by rw [q.1, q.2, e1, e2]))]
  exact z b j (fun q => m (List.mem_cons_of_mem _ q))
theorem zl_sL {S : List (Nat × Nat)} {h : Hp} {a k a' k' : Nat} {v : Int64} (e1 : a = a') (e2 : k = k') (z : ZLs S h) : ZLs ((a', k') :: S) (sL h a k v) := fun b j m => by
  have m1 : ¬ (b, j) = (a', k') := fun q => m (by rw [q]; exact List.mem_cons_self)
  rw [gL_sL, if_neg (fun q => m1 (by rw [q.1, q.2, e1, e2]))]
  exact z b j (fun q => m (List.mem_cons_of_mem _ q))
theorem zi_h00 : ZIs [] h00 := fun _ _ _ => rfl
theorem zl_h00 : ZLs [] h00 := fun _ _ _ => rfl
def HH1 : Hp := nw h00 11 0
theorem zi_HH1 : ZIs [] HH1 := (zi_nw zi_h00)
theorem zl_HH1 : ZLs [] HH1 := (zl_nw zl_h00)
def HH2 : Hp := nw HH1 10 0
theorem zi_HH2 : ZIs [] HH2 := (zi_nw zi_HH1)
theorem zl_HH2 : ZLs [] HH2 := (zl_nw zl_HH1)
def HH3 : Hp := nw HH2 20 (ix (700 : Int32))
theorem zi_HH3 : ZIs [] HH3 := (zi_nw zi_HH2)
theorem zl_HH3 : ZLs [] HH3 := (zl_nw zl_HH2)
def HH4 : Hp := sR HH3 17 0 18
theorem zi_HH4 : ZIs [] HH4 := (zi_sR zi_HH3)
theorem zl_HH4 : ZLs [] HH4 := (zl_sR zl_HH3)
theorem ic_1 {Q : Hp → Prop} (hq : Q HH4) : w_Tp_init 1 700 17 HH2 Q := by
  unfold w_Tp_init
  refine ⟨by decide +kernel, by decide +kernel, 0, 0, by decide +kernel, by decide +kernel, by decide, by decide +kernel, ?_⟩
  intro a h ea eh
  obtain rfl : a = 18 := ea.trans (by decide +kernel)
  obtain rfl : h = HH3 := eh
  refine ⟨by decide +kernel, by decide +kernel, hq⟩
def HH5 : Hp := nw (sR HH4 16 0 17) 1 0
theorem zi_HH5 : ZIs [] HH5 := (zi_nw (zi_sR zi_HH4))
theorem zl_HH5 : ZLs [] HH5 := (zl_nw (zl_sR zl_HH4))
def HH6 : Hp := nw HH5 20 (ix (44 : Int32))
theorem zi_HH6 : ZIs [] HH6 := (zi_nw zi_HH5)
theorem zl_HH6 : ZLs [] HH6 := (zl_nw zl_HH5)
def HH7 : Hp := sI (sI (sR HH6 19 0 20) 19 1 (1 : Int32)) (gR (sI (sR HH6 19 0 20) 19 1 (1 : Int32)) 19 0) (ix (35 : Int32)) (8 : Int32)
theorem zi_HH7 : ZIs [(20, 35), (19, 1)] HH7 := (zi_sI (by decide +kernel) (by decide +kernel) (zi_sI (by decide +kernel) (by decide +kernel) (zi_sR zi_HH6)))
theorem zl_HH7 : ZLs [] HH7 := (zl_sI (zl_sI (zl_sR zl_HH6)))
theorem ic_2 {Q : Hp → Prop} (hq : Q HH7) : w_Co_init 1 44 19 HH5 Q := by
  unfold w_Co_init
  refine ⟨by decide +kernel, by decide +kernel, 0, 0, by decide +kernel, by decide +kernel, by decide, by decide +kernel, ?_⟩
  intro a h ea eh
  obtain rfl : a = 20 := ea.trans (by decide +kernel)
  obtain rfl : h = HH6 := eh
  refine ⟨by decide +kernel, by decide +kernel, by decide +kernel, vpn (j := 35) (n := 44) (by decide +kernel) (by decide) (by decide), hq⟩
def HH8 : Hp := nw (sR HH7 16 1 19) 1 0
theorem zi_HH8 : ZIs [(20, 35), (19, 1)] HH8 := (zi_nw (zi_sR zi_HH7))
theorem zl_HH8 : ZLs [] HH8 := (zl_nw (zl_sR zl_HH7))
def HH9 : Hp := nw HH8 20 (ix (44 : Int32))
theorem zi_HH9 : ZIs [(20, 35), (19, 1)] HH9 := (zi_nw zi_HH8)
theorem zl_HH9 : ZLs [] HH9 := (zl_nw zl_HH8)
def HH10 : Hp := sI (sI (sR HH9 21 0 22) 21 1 (1 : Int32)) (gR (sI (sR HH9 21 0 22) 21 1 (1 : Int32)) 21 0) (ix (35 : Int32)) (8 : Int32)
theorem zi_HH10 : ZIs [(22, 35), (21, 1), (20, 35), (19, 1)] HH10 := (zi_sI (by decide +kernel) (by decide +kernel) (zi_sI (by decide +kernel) (by decide +kernel) (zi_sR zi_HH9)))
theorem zl_HH10 : ZLs [] HH10 := (zl_sI (zl_sI (zl_sR zl_HH9)))
theorem ic_3 {Q : Hp → Prop} (hq : Q HH10) : w_Co_init 1 44 21 HH8 Q := by
  unfold w_Co_init
  refine ⟨by decide +kernel, by decide +kernel, 0, 0, by decide +kernel, by decide +kernel, by decide, by decide +kernel, ?_⟩
  intro a h ea eh
  obtain rfl : a = 22 := ea.trans (by decide +kernel)
  obtain rfl : h = HH9 := eh
  refine ⟨by decide +kernel, by decide +kernel, by decide +kernel, vpn (j := 35) (n := 44) (by decide +kernel) (by decide) (by decide), hq⟩
def HH11 : Hp := nw (sR HH10 16 2 21) 8 0
theorem zi_HH11 : ZIs [(22, 35), (21, 1), (20, 35), (19, 1)] HH11 := (zi_nw (zi_sR zi_HH10))
theorem zl_HH11 : ZLs [] HH11 := (zl_nw (zl_sR zl_HH10))
def HH12 : Hp := nw HH11 1 0
theorem zi_HH12 : ZIs [(22, 35), (21, 1), (20, 35), (19, 1)] HH12 := (zi_nw zi_HH11)
theorem zl_HH12 : ZLs [] HH12 := (zl_nw zl_HH11)
def HH13 : Hp := nw HH12 20 (ix (44 : Int32))
theorem zi_HH13 : ZIs [(22, 35), (21, 1), (20, 35), (19, 1)] HH13 := (zi_nw zi_HH12)
theorem zl_HH13 : ZLs [] HH13 := (zl_nw zl_HH12)
def HH14 : Hp := sI (sI (sR HH13 24 0 25) 24 1 (1 : Int32)) (gR (sI (sR HH13 24 0 25) 24 1 (1 : Int32)) 24 0) (ix (35 : Int32)) (8 : Int32)
theorem zi_HH14 : ZIs [(25, 35), (24, 1), (22, 35), (21, 1), (20, 35), (19, 1)] HH14 := (zi_sI (by decide +kernel) (by decide +kernel) (zi_sI (by decide +kernel) (by decide +kernel) (zi_sR zi_HH13)))
theorem zl_HH14 : ZLs [] HH14 := (zl_sI (zl_sI (zl_sR zl_HH13)))
theorem ic_4 {Q : Hp → Prop} (hq : Q HH14) : w_Co_init 1 44 24 HH12 Q := by
  unfold w_Co_init
  refine ⟨by decide +kernel, by decide +kernel, 0, 0, by decide +kernel, by decide +kernel, by decide, by decide +kernel, ?_⟩
  intro a h ea eh
  obtain rfl : a = 25 := ea.trans (by decide +kernel)
  obtain rfl : h = HH13 := eh
  refine ⟨by decide +kernel, by decide +kernel, by decide +kernel, vpn (j := 35) (n := 44) (by decide +kernel) (by decide) (by decide), hq⟩
def HH15 : Hp := nw (sR HH14 23 1 24) 20 (ix (8 : Int32))
theorem zi_HH15 : ZIs [(25, 35), (24, 1), (22, 35), (21, 1), (20, 35), (19, 1)] HH15 := (zi_nw (zi_sR zi_HH14))
theorem zl_HH15 : ZLs [] HH15 := (zl_nw (zl_sR zl_HH14))
def HH16 : Hp := nw (sR HH15 23 2 26) 20 (ix (8 : Int32))
theorem zi_HH16 : ZIs [(25, 35), (24, 1), (22, 35), (21, 1), (20, 35), (19, 1)] HH16 := (zi_nw (zi_sR zi_HH15))
theorem zl_HH16 : ZLs [] HH16 := (zl_nw (zl_sR zl_HH15))
def HH17 : Hp := sR (sI (sR HH16 23 3 27) 23 7 (-1 : Int32)) 23 0 17
theorem zi_HH17 : ZIs [(23, 7), (25, 35), (24, 1), (22, 35), (21, 1), (20, 35), (19, 1)] HH17 := (zi_sR (zi_sI (by decide +kernel) (by decide +kernel) (zi_sR zi_HH16)))
theorem zl_HH17 : ZLs [] HH17 := (zl_sR (zl_sI (zl_sR zl_HH16)))
theorem ic_5 {Q : Hp → Prop} (hq : Q HH17) : w_Rd_init 4 64 23 17 HH11 Q := by
  unfold w_Rd_init
  refine ⟨by decide +kernel, by decide +kernel, by decide +kernel, 3, 60, by decide +kernel, by decide +kernel, ?_⟩
  intro a h ea eh
  obtain rfl : a = 24 := ea.trans (by decide +kernel)
  obtain rfl : h = HH12 := eh
  refine ⟨by decide +kernel, by decide +kernel, by decide +kernel, by decide +kernel, 2, 16, 1, 44, by decide +kernel, by decide +kernel, ?_⟩
  refine ic_4 ?_
  refine ⟨by decide +kernel, by decide +kernel, by decide +kernel, by decide +kernel, 1, 8, by decide +kernel, by decide +kernel, by decide, by decide +kernel, ?_⟩
  intro a h ea eh
  obtain rfl : a = 26 := ea.trans (by decide +kernel)
  obtain rfl : h = HH15 := eh
  refine ⟨by decide +kernel, by decide +kernel, by decide +kernel, by decide +kernel, 0, 0, by decide +kernel, by decide +kernel, by decide, by decide +kernel, ?_⟩
  intro a h ea eh
  obtain rfl : a = 27 := ea.trans (by decide +kernel)
  obtain rfl : h = HH16 := eh
  refine ⟨by decide +kernel, by decide +kernel, by decide +kernel, hq⟩
def HH18 : Hp := nw (sR HH17 16 3 23) 23 (ix (2 : Int32))
theorem zi_HH18 : ZIs [(23, 7), (25, 35), (24, 1), (22, 35), (21, 1), (20, 35), (19, 1)] HH18 := (zi_nw (zi_sR zi_HH17))
theorem zl_HH18 : ZLs [] HH18 := (zl_nw (zl_sR zl_HH17))
def HH19 : Hp := nw (sR HH18 16 4 28) 22 (ix (2 : Int32))
theorem zi_HH19 : ZIs [(23, 7), (25, 35), (24, 1), (22, 35), (21, 1), (20, 35), (19, 1)] HH19 := (zi_nw (zi_sR zi_HH18))
theorem zl_HH19 : ZLs [] HH19 := (zl_nw (zl_sR zl_HH18))
def HH20 : Hp := nw (sR HH19 16 5 29) 0 0
theorem zi_HH20 : ZIs [(23, 7), (25, 35), (24, 1), (22, 35), (21, 1), (20, 35), (19, 1)] HH20 := (zi_nw (zi_sR zi_HH19))
theorem zl_HH20 : ZLs [] HH20 := (zl_nw (zl_sR zl_HH19))
def HH21 : Hp := nw HH20 20 (ix (20 : Int32))
theorem zi_HH21 : ZIs [(23, 7), (25, 35), (24, 1), (22, 35), (21, 1), (20, 35), (19, 1)] HH21 := (zi_nw zi_HH20)
theorem zl_HH21 : ZLs [] HH21 := (zl_nw zl_HH20)
def HH22 : Hp := nw (sR HH21 30 0 31) 20 (ix (20 : Int32))
theorem zi_HH22 : ZIs [(23, 7), (25, 35), (24, 1), (22, 35), (21, 1), (20, 35), (19, 1)] HH22 := (zi_nw (zi_sR zi_HH21))
theorem zl_HH22 : ZLs [] HH22 := (zl_nw (zl_sR zl_HH21))
def HH23 : Hp := nw (sR HH22 30 1 32) 20 (ix (20 : Int32))
theorem zi_HH23 : ZIs [(23, 7), (25, 35), (24, 1), (22, 35), (21, 1), (20, 35), (19, 1)] HH23 := (zi_nw (zi_sR zi_HH22))
theorem zl_HH23 : ZLs [] HH23 := (zl_nw (zl_sR zl_HH22))
def HH24 : Hp := nw (sR HH23 30 2 33) 20 (ix (160 : Int32))
theorem zi_HH24 : ZIs [(23, 7), (25, 35), (24, 1), (22, 35), (21, 1), (20, 35), (19, 1)] HH24 := (zi_nw (zi_sR zi_HH23))
theorem zl_HH24 : ZLs [] HH24 := (zl_nw (zl_sR zl_HH23))
def HH25 : Hp := sR HH24 30 3 34
theorem zi_HH25 : ZIs [(23, 7), (25, 35), (24, 1), (22, 35), (21, 1), (20, 35), (19, 1)] HH25 := (zi_sR zi_HH24)
theorem zl_HH25 : ZLs [] HH25 := (zl_sR zl_HH24)
theorem ic_6 {Q : Hp → Prop} (hq : Q HH25) : w_Ac_init 4 220 30 HH20 Q := by
  unfold w_Ac_init
  refine ⟨by decide +kernel, by decide +kernel, 3, 200, by decide +kernel, by decide +kernel, by decide, by decide +kernel, ?_⟩
  intro a h ea eh
  obtain rfl : a = 31 := ea.trans (by decide +kernel)
  obtain rfl : h = HH21 := eh
  refine ⟨by decide +kernel, by decide +kernel, by decide +kernel, 2, 180, by decide +kernel, by decide +kernel, by decide, by decide +kernel, ?_⟩
  intro a h ea eh
  obtain rfl : a = 32 := ea.trans (by decide +kernel)
  obtain rfl : h = HH22 := eh
  refine ⟨by decide +kernel, by decide +kernel, by decide +kernel, 1, 160, by decide +kernel, by decide +kernel, by decide, by decide +kernel, ?_⟩
  intro a h ea eh
  obtain rfl : a = 33 := ea.trans (by decide +kernel)
  obtain rfl : h = HH23 := eh
  refine ⟨by decide +kernel, by decide +kernel, by decide +kernel, 0, 0, by decide +kernel, by decide +kernel, by decide, by decide +kernel, ?_⟩
  intro a h ea eh
  obtain rfl : a = 34 := ea.trans (by decide +kernel)
  obtain rfl : h = HH24 := eh
  refine ⟨by decide +kernel, by decide +kernel, hq⟩
def HH26 : Hp := nw (sR HH25 16 6 30) 7 0
theorem zi_HH26 : ZIs [(23, 7), (25, 35), (24, 1), (22, 35), (21, 1), (20, 35), (19, 1)] HH26 := (zi_nw (zi_sR zi_HH25))
theorem zl_HH26 : ZLs [] HH26 := (zl_nw (zl_sR zl_HH25))
def HH27 : Hp := nw HH26 20 (ix (3 : Int32))
theorem zi_HH27 : ZIs [(23, 7), (25, 35), (24, 1), (22, 35), (21, 1), (20, 35), (19, 1)] HH27 := (zi_nw zi_HH26)
theorem zl_HH27 : ZLs [] HH27 := (zl_nw zl_HH26)
def HH28 : Hp := nw (sR HH27 35 0 36) 20 (ix (8 : Int32))
theorem zi_HH28 : ZIs [(23, 7), (25, 35), (24, 1), (22, 35), (21, 1), (20, 35), (19, 1)] HH28 := (zi_nw (zi_sR zi_HH27))
theorem zl_HH28 : ZLs [] HH28 := (zl_nw (zl_sR zl_HH27))
def HH29 : Hp := nw (sR HH28 35 1 37) 20 (ix (8 : Int32))
theorem zi_HH29 : ZIs [(23, 7), (25, 35), (24, 1), (22, 35), (21, 1), (20, 35), (19, 1)] HH29 := (zi_nw (zi_sR zi_HH28))
theorem zl_HH29 : ZLs [] HH29 := (zl_nw (zl_sR zl_HH28))
def HH30 : Hp := nw (sR HH29 35 2 38) 20 (ix (24 : Int32))
theorem zi_HH30 : ZIs [(23, 7), (25, 35), (24, 1), (22, 35), (21, 1), (20, 35), (19, 1)] HH30 := (zi_nw (zi_sR zi_HH29))
theorem zl_HH30 : ZLs [] HH30 := (zl_nw (zl_sR zl_HH29))
def HH31 : Hp := nw (sR HH30 35 3 39) 20 (ix (24 : Int32))
theorem zi_HH31 : ZIs [(23, 7), (25, 35), (24, 1), (22, 35), (21, 1), (20, 35), (19, 1)] HH31 := (zi_nw (zi_sR zi_HH30))
theorem zl_HH31 : ZLs [] HH31 := (zl_nw (zl_sR zl_HH30))
def HH32 : Hp := nw (sR HH31 35 4 40) 20 (ix (24 : Int32))
theorem zi_HH32 : ZIs [(23, 7), (25, 35), (24, 1), (22, 35), (21, 1), (20, 35), (19, 1)] HH32 := (zi_nw (zi_sR zi_HH31))
theorem zl_HH32 : ZLs [] HH32 := (zl_nw (zl_sR zl_HH31))
def HH33 : Hp := sR HH32 35 5 41
theorem zi_HH33 : ZIs [(23, 7), (25, 35), (24, 1), (22, 35), (21, 1), (20, 35), (19, 1)] HH33 := (zi_sR zi_HH32)
theorem zl_HH33 : ZLs [] HH33 := (zl_sR zl_HH32)
theorem ic_7 {Q : Hp → Prop} (hq : Q HH33) : w_Ps_init 6 91 35 HH26 Q := by
  unfold w_Ps_init
  refine ⟨by decide +kernel, by decide +kernel, 5, 88, by decide +kernel, by decide +kernel, by decide, by decide +kernel, ?_⟩
  intro a h ea eh
  obtain rfl : a = 36 := ea.trans (by decide +kernel)
  obtain rfl : h = HH27 := eh
  refine ⟨by decide +kernel, by decide +kernel, by decide +kernel, 4, 80, by decide +kernel, by decide +kernel, by decide, by decide +kernel, ?_⟩
  intro a h ea eh
  obtain rfl : a = 37 := ea.trans (by decide +kernel)
  obtain rfl : h = HH28 := eh
  refine ⟨by decide +kernel, by decide +kernel, by decide +kernel, 3, 72, by decide +kernel, by decide +kernel, by decide, by decide +kernel, ?_⟩
  intro a h ea eh
  obtain rfl : a = 38 := ea.trans (by decide +kernel)
  obtain rfl : h = HH29 := eh
  refine ⟨by decide +kernel, by decide +kernel, by decide +kernel, 2, 48, by decide +kernel, by decide +kernel, by decide, by decide +kernel, ?_⟩
  intro a h ea eh
  obtain rfl : a = 39 := ea.trans (by decide +kernel)
  obtain rfl : h = HH30 := eh
  refine ⟨by decide +kernel, by decide +kernel, by decide +kernel, 1, 24, by decide +kernel, by decide +kernel, by decide, by decide +kernel, ?_⟩
  intro a h ea eh
  obtain rfl : a = 40 := ea.trans (by decide +kernel)
  obtain rfl : h = HH31 := eh
  refine ⟨by decide +kernel, by decide +kernel, by decide +kernel, 0, 0, by decide +kernel, by decide +kernel, by decide, by decide +kernel, ?_⟩
  intro a h ea eh
  obtain rfl : a = 41 := ea.trans (by decide +kernel)
  obtain rfl : h = HH32 := eh
  refine ⟨by decide +kernel, by decide +kernel, hq⟩
def HH34 : Hp := nw (sR HH33 16 7 35) 9 0
theorem zi_HH34 : ZIs [(23, 7), (25, 35), (24, 1), (22, 35), (21, 1), (20, 35), (19, 1)] HH34 := (zi_nw (zi_sR zi_HH33))
theorem zl_HH34 : ZLs [] HH34 := (zl_nw (zl_sR zl_HH33))
def HH35 : Hp := nw HH34 20 (ix (39 : Int32))
theorem zi_HH35 : ZIs [(23, 7), (25, 35), (24, 1), (22, 35), (21, 1), (20, 35), (19, 1)] HH35 := (zi_nw zi_HH34)
theorem zl_HH35 : ZLs [] HH35 := (zl_nw zl_HH34)
def HH36 : Hp := nw (sR HH35 42 1 43) 20 (ix (39 : Int32))
theorem zi_HH36 : ZIs [(23, 7), (25, 35), (24, 1), (22, 35), (21, 1), (20, 35), (19, 1)] HH36 := (zi_nw (zi_sR zi_HH35))
theorem zl_HH36 : ZLs [] HH36 := (zl_nw (zl_sR zl_HH35))
def HH37 : Hp := nw (sR HH36 42 2 44) 20 (ix (3 : Int32))
theorem zi_HH37 : ZIs [(23, 7), (25, 35), (24, 1), (22, 35), (21, 1), (20, 35), (19, 1)] HH37 := (zi_nw (zi_sR zi_HH36))
theorem zl_HH37 : ZLs [] HH37 := (zl_nw (zl_sR zl_HH36))
def HH38 : Hp := nw (sI (sI (sR HH37 42 3 45) 42 4 (1 : Int32)) 42 5 (1 : Int32)) 21 (ix (0 : Int32))
theorem zi_HH38 : ZIs [(42, 5), (42, 4), (23, 7), (25, 35), (24, 1), (22, 35), (21, 1), (20, 35), (19, 1)] HH38 := (zi_nw (zi_sI (by decide +kernel) (by decide +kernel) (zi_sI (by decide +kernel) (by decide +kernel) (zi_sR zi_HH37))))
theorem zl_HH38 : ZLs [] HH38 := (zl_nw (zl_sI (zl_sI (zl_sR zl_HH37))))
def HH39 : Hp := nw (sR HH38 42 7 46) 20 (ix (0 : Int32))
theorem zi_HH39 : ZIs [(42, 5), (42, 4), (23, 7), (25, 35), (24, 1), (22, 35), (21, 1), (20, 35), (19, 1)] HH39 := (zi_nw (zi_sR zi_HH38))
theorem zl_HH39 : ZLs [] HH39 := (zl_nw (zl_sR zl_HH38))
def HH40 : Hp := nw (sR HH39 42 8 47) 20 (ix (0 : Int32))
theorem zi_HH40 : ZIs [(42, 5), (42, 4), (23, 7), (25, 35), (24, 1), (22, 35), (21, 1), (20, 35), (19, 1)] HH40 := (zi_nw (zi_sR zi_HH39))
theorem zl_HH40 : ZLs [] HH40 := (zl_nw (zl_sR zl_HH39))
def HH41 : Hp := nw (sR HH40 42 9 48) 21 (ix (0 : Int32))
theorem zi_HH41 : ZIs [(42, 5), (42, 4), (23, 7), (25, 35), (24, 1), (22, 35), (21, 1), (20, 35), (19, 1)] HH41 := (zi_nw (zi_sR zi_HH40))
theorem zl_HH41 : ZLs [] HH41 := (zl_nw (zl_sR zl_HH40))
def HH42 : Hp := sR (sI (sI (sR HH41 42 10 49) 42 11 (-1 : Int32)) 42 12 (-1 : Int32)) 42 0 21
theorem zi_HH42 : ZIs [(42, 12), (42, 11), (42, 5), (42, 4), (23, 7), (25, 35), (24, 1), (22, 35), (21, 1), (20, 35), (19, 1)] HH42 := (zi_sR (zi_sI (by decide +kernel) (by decide +kernel) (zi_sI (by decide +kernel) (by decide +kernel) (zi_sR zi_HH41))))
theorem zl_HH42 : ZLs [] HH42 := (zl_sR (zl_sI (zl_sI (zl_sR zl_HH41))))
theorem ic_8 {Q : Hp → Prop} (hq : Q HH42) : w_St_init 7 81 42 21 HH34 Q := by
  unfold w_St_init
  refine ⟨by decide +kernel, by decide +kernel, by decide +kernel, 6, 42, by decide +kernel, by decide +kernel, by decide, by decide +kernel, ?_⟩
  intro a h ea eh
  obtain rfl : a = 43 := ea.trans (by decide +kernel)
  obtain rfl : h = HH35 := eh
  refine ⟨by decide +kernel, by decide +kernel, by decide +kernel, by decide +kernel, 5, 3, by decide +kernel, by decide +kernel, by decide, by decide +kernel, ?_⟩
  intro a h ea eh
  obtain rfl : a = 44 := ea.trans (by decide +kernel)
  obtain rfl : h = HH36 := eh
  refine ⟨by decide +kernel, by decide +kernel, by decide +kernel, by decide +kernel, 4, 0, by decide +kernel, by decide +kernel, by decide, by decide +kernel, ?_⟩
  intro a h ea eh
  obtain rfl : a = 45 := ea.trans (by decide +kernel)
  obtain rfl : h = HH37 := eh
  refine ⟨by decide +kernel, by decide +kernel, by decide +kernel, by decide +kernel, 3, 0, by decide +kernel, by decide +kernel, by decide, by decide +kernel, ?_⟩
  intro a h ea eh
  obtain rfl : a = 46 := ea.trans (by decide +kernel)
  obtain rfl : h = HH38 := eh
  refine ⟨by decide +kernel, by decide +kernel, by decide +kernel, by decide +kernel, 2, 0, by decide +kernel, by decide +kernel, by decide, by decide +kernel, ?_⟩
  intro a h ea eh
  obtain rfl : a = 47 := ea.trans (by decide +kernel)
  obtain rfl : h = HH39 := eh
  refine ⟨by decide +kernel, by decide +kernel, by decide +kernel, by decide +kernel, 1, 0, by decide +kernel, by decide +kernel, by decide, by decide +kernel, ?_⟩
  intro a h ea eh
  obtain rfl : a = 48 := ea.trans (by decide +kernel)
  obtain rfl : h = HH40 := eh
  refine ⟨by decide +kernel, by decide +kernel, by decide +kernel, by decide +kernel, 0, 0, by decide +kernel, by decide +kernel, by decide, by decide +kernel, ?_⟩
  intro a h ea eh
  obtain rfl : a = 49 := ea.trans (by decide +kernel)
  obtain rfl : h = HH41 := eh
  refine ⟨by decide +kernel, by decide +kernel, by decide +kernel, hq⟩
def HH43 : Hp := nw (sR HH42 16 8 42) 6 0
theorem zi_HH43 : ZIs [(42, 12), (42, 11), (42, 5), (42, 4), (23, 7), (25, 35), (24, 1), (22, 35), (21, 1), (20, 35), (19, 1)] HH43 := (zi_nw (zi_sR zi_HH42))
theorem zl_HH43 : ZLs [] HH43 := (zl_nw (zl_sR zl_HH42))
def HH44 : Hp := nw HH43 20 (ix (8 : Int32))
theorem zi_HH44 : ZIs [(42, 12), (42, 11), (42, 5), (42, 4), (23, 7), (25, 35), (24, 1), (22, 35), (21, 1), (20, 35), (19, 1)] HH44 := (zi_nw zi_HH43)
theorem zl_HH44 : ZLs [] HH44 := (zl_nw zl_HH43)
def HH45 : Hp := nw (sR HH44 50 2 51) 20 (ix (8 : Int32))
theorem zi_HH45 : ZIs [(42, 12), (42, 11), (42, 5), (42, 4), (23, 7), (25, 35), (24, 1), (22, 35), (21, 1), (20, 35), (19, 1)] HH45 := (zi_nw (zi_sR zi_HH44))
theorem zl_HH45 : ZLs [] HH45 := (zl_nw (zl_sR zl_HH44))
def HH46 : Hp := nw (sR HH45 50 3 52) 20 (ix (12 : Int32))
theorem zi_HH46 : ZIs [(42, 12), (42, 11), (42, 5), (42, 4), (23, 7), (25, 35), (24, 1), (22, 35), (21, 1), (20, 35), (19, 1)] HH46 := (zi_nw (zi_sR zi_HH45))
theorem zl_HH46 : ZLs [] HH46 := (zl_nw (zl_sR zl_HH45))
def HH47 : Hp := nw (sR HH46 50 4 53) 20 (ix (3 : Int32))
theorem zi_HH47 : ZIs [(42, 12), (42, 11), (42, 5), (42, 4), (23, 7), (25, 35), (24, 1), (22, 35), (21, 1), (20, 35), (19, 1)] HH47 := (zi_nw (zi_sR zi_HH46))
theorem zl_HH47 : ZLs [] HH47 := (zl_nw (zl_sR zl_HH46))
def HH48 : Hp := nw (sR HH47 50 5 54) 20 (ix (1296 : Int32))
theorem zi_HH48 : ZIs [(42, 12), (42, 11), (42, 5), (42, 4), (23, 7), (25, 35), (24, 1), (22, 35), (21, 1), (20, 35), (19, 1)] HH48 := (zi_nw (zi_sR zi_HH47))
theorem zl_HH48 : ZLs [] HH48 := (zl_nw (zl_sR zl_HH47))
def HH49 : Hp := sR (sR (sR HH48 50 6 55) 50 0 21) 50 1 35
theorem zi_HH49 : ZIs [(42, 12), (42, 11), (42, 5), (42, 4), (23, 7), (25, 35), (24, 1), (22, 35), (21, 1), (20, 35), (19, 1)] HH49 := (zi_sR (zi_sR (zi_sR zi_HH48)))
theorem zl_HH49 : ZLs [] HH49 := (zl_sR (zl_sR (zl_sR zl_HH48)))
theorem ic_9 {Q : Hp → Prop} (hq : Q HH49) : w_Op_init 5 1327 50 21 35 HH43 Q := by
  unfold w_Op_init
  refine ⟨by decide +kernel, by decide +kernel, by decide +kernel, by decide +kernel, 4, 1319, by decide +kernel, by decide +kernel, by decide, by decide +kernel, ?_⟩
  intro a h ea eh
  obtain rfl : a = 51 := ea.trans (by decide +kernel)
  obtain rfl : h = HH44 := eh
  refine ⟨by decide +kernel, by decide +kernel, by decide +kernel, by decide +kernel, by decide +kernel, 3, 1311, by decide +kernel, by decide +kernel, by decide, by decide +kernel, ?_⟩
  intro a h ea eh
  obtain rfl : a = 52 := ea.trans (by decide +kernel)
  obtain rfl : h = HH45 := eh
  refine ⟨by decide +kernel, by decide +kernel, by decide +kernel, by decide +kernel, by decide +kernel, 2, 1299, by decide +kernel, by decide +kernel, by decide, by decide +kernel, ?_⟩
  intro a h ea eh
  obtain rfl : a = 53 := ea.trans (by decide +kernel)
  obtain rfl : h = HH46 := eh
  refine ⟨by decide +kernel, by decide +kernel, by decide +kernel, by decide +kernel, by decide +kernel, 1, 1296, by decide +kernel, by decide +kernel, by decide, by decide +kernel, ?_⟩
  intro a h ea eh
  obtain rfl : a = 54 := ea.trans (by decide +kernel)
  obtain rfl : h = HH47 := eh
  refine ⟨by decide +kernel, by decide +kernel, by decide +kernel, by decide +kernel, by decide +kernel, 0, 0, by decide +kernel, by decide +kernel, by decide, by decide +kernel, ?_⟩
  intro a h ea eh
  obtain rfl : a = 55 := ea.trans (by decide +kernel)
  obtain rfl : h = HH48 := eh
  refine ⟨by decide +kernel, by decide +kernel, by decide +kernel, by decide +kernel, hq⟩
def HH50 : Hp := nw (sR HH49 16 9 50) 2 0
theorem zi_HH50 : ZIs [(42, 12), (42, 11), (42, 5), (42, 4), (23, 7), (25, 35), (24, 1), (22, 35), (21, 1), (20, 35), (19, 1)] HH50 := (zi_nw (zi_sR zi_HH49))
theorem zl_HH50 : ZLs [] HH50 := (zl_nw (zl_sR zl_HH49))
def HH51 : Hp := nw HH50 21 (ix (20 : Int32))
theorem zi_HH51 : ZIs [(42, 12), (42, 11), (42, 5), (42, 4), (23, 7), (25, 35), (24, 1), (22, 35), (21, 1), (20, 35), (19, 1)] HH51 := (zi_nw zi_HH50)
theorem zl_HH51 : ZLs [] HH51 := (zl_nw zl_HH50)
def HH52 : Hp := nw (sR HH51 56 1 57) 20 (ix (4 : Int32))
theorem zi_HH52 : ZIs [(42, 12), (42, 11), (42, 5), (42, 4), (23, 7), (25, 35), (24, 1), (22, 35), (21, 1), (20, 35), (19, 1)] HH52 := (zi_nw (zi_sR zi_HH51))
theorem zl_HH52 : ZLs [] HH52 := (zl_nw (zl_sR zl_HH51))
def HH53 : Hp := nw (sR HH52 56 2 58) 21 (ix (8 : Int32))
theorem zi_HH53 : ZIs [(42, 12), (42, 11), (42, 5), (42, 4), (23, 7), (25, 35), (24, 1), (22, 35), (21, 1), (20, 35), (19, 1)] HH53 := (zi_nw (zi_sR zi_HH52))
theorem zl_HH53 : ZLs [] HH53 := (zl_nw (zl_sR zl_HH52))
def HH54 : Hp := sR (sL (sR HH53 56 3 59) 56 12 (1 : Int64)) 56 0 21
theorem zi_HH54 : ZIs [(42, 12), (42, 11), (42, 5), (42, 4), (23, 7), (25, 35), (24, 1), (22, 35), (21, 1), (20, 35), (19, 1)] HH54 := (zi_sR (zi_sL (zi_sR zi_HH53)))
theorem zl_HH54 : ZLs [(56, 12)] HH54 := (zl_sR (zl_sL (by decide +kernel) (by decide +kernel) (zl_sR zl_HH53)))
theorem ic_10 {Q : Hp → Prop} (hq : Q HH54) : w_Cr_init 3 32 56 21 HH50 Q := by
  unfold w_Cr_init
  refine ⟨by decide +kernel, by decide +kernel, by decide +kernel, 2, 12, by decide +kernel, by decide +kernel, by decide, by decide +kernel, ?_⟩
  intro a h ea eh
  obtain rfl : a = 57 := ea.trans (by decide +kernel)
  obtain rfl : h = HH51 := eh
  refine ⟨by decide +kernel, by decide +kernel, by decide +kernel, by decide +kernel, 1, 8, by decide +kernel, by decide +kernel, by decide, by decide +kernel, ?_⟩
  intro a h ea eh
  obtain rfl : a = 58 := ea.trans (by decide +kernel)
  obtain rfl : h = HH52 := eh
  refine ⟨by decide +kernel, by decide +kernel, by decide +kernel, by decide +kernel, 0, 0, by decide +kernel, by decide +kernel, by decide, by decide +kernel, ?_⟩
  intro a h ea eh
  obtain rfl : a = 59 := ea.trans (by decide +kernel)
  obtain rfl : h = HH53 := eh
  refine ⟨by decide +kernel, by decide +kernel, by decide +kernel, hq⟩
def HH55 : Hp := nw (sR HH54 16 10 56) 4 0
theorem zi_HH55 : ZIs [(42, 12), (42, 11), (42, 5), (42, 4), (23, 7), (25, 35), (24, 1), (22, 35), (21, 1), (20, 35), (19, 1)] HH55 := (zi_nw (zi_sR zi_HH54))
theorem zl_HH55 : ZLs [(56, 12)] HH55 := (zl_nw (zl_sR zl_HH54))
def HH56 : Hp := nw HH55 20 (ix (5 : Int32))
theorem zi_HH56 : ZIs [(42, 12), (42, 11), (42, 5), (42, 4), (23, 7), (25, 35), (24, 1), (22, 35), (21, 1), (20, 35), (19, 1)] HH56 := (zi_nw zi_HH55)
theorem zl_HH56 : ZLs [(56, 12)] HH56 := (zl_nw zl_HH55)
def HH57 : Hp := nw (sR HH56 60 1 61) 20 (ix (165 : Int32))
theorem zi_HH57 : ZIs [(42, 12), (42, 11), (42, 5), (42, 4), (23, 7), (25, 35), (24, 1), (22, 35), (21, 1), (20, 35), (19, 1)] HH57 := (zi_nw (zi_sR zi_HH56))
theorem zl_HH57 : ZLs [(56, 12)] HH57 := (zl_nw (zl_sR zl_HH56))
def HH58 : Hp := nw (sR HH57 60 2 62) 20 (ix (165 : Int32))
theorem zi_HH58 : ZIs [(42, 12), (42, 11), (42, 5), (42, 4), (23, 7), (25, 35), (24, 1), (22, 35), (21, 1), (20, 35), (19, 1)] HH58 := (zi_nw (zi_sR zi_HH57))
theorem zl_HH58 : ZLs [(56, 12)] HH58 := (zl_nw (zl_sR zl_HH57))
def HH59 : Hp := nw (sR HH58 60 3 63) 20 (ix (165 : Int32))
theorem zi_HH59 : ZIs [(42, 12), (42, 11), (42, 5), (42, 4), (23, 7), (25, 35), (24, 1), (22, 35), (21, 1), (20, 35), (19, 1)] HH59 := (zi_nw (zi_sR zi_HH58))
theorem zl_HH59 : ZLs [(56, 12)] HH59 := (zl_nw (zl_sR zl_HH58))
def HH60 : Hp := sR (sR HH59 60 4 64) 60 0 21
theorem zi_HH60 : ZIs [(42, 12), (42, 11), (42, 5), (42, 4), (23, 7), (25, 35), (24, 1), (22, 35), (21, 1), (20, 35), (19, 1)] HH60 := (zi_sR (zi_sR zi_HH59))
theorem zl_HH60 : ZLs [(56, 12)] HH60 := (zl_sR (zl_sR zl_HH59))
theorem ic_11 {Q : Hp → Prop} (hq : Q HH60) : w_Ex_init 4 500 60 21 HH55 Q := by
  unfold w_Ex_init
  refine ⟨by decide +kernel, by decide +kernel, by decide +kernel, 3, 495, by decide +kernel, by decide +kernel, by decide, by decide +kernel, ?_⟩
  intro a h ea eh
  obtain rfl : a = 61 := ea.trans (by decide +kernel)
  obtain rfl : h = HH56 := eh
  refine ⟨by decide +kernel, by decide +kernel, by decide +kernel, by decide +kernel, 2, 330, by decide +kernel, by decide +kernel, by decide, by decide +kernel, ?_⟩
  intro a h ea eh
  obtain rfl : a = 62 := ea.trans (by decide +kernel)
  obtain rfl : h = HH57 := eh
  refine ⟨by decide +kernel, by decide +kernel, by decide +kernel, by decide +kernel, 1, 165, by decide +kernel, by decide +kernel, by decide, by decide +kernel, ?_⟩
  intro a h ea eh
  obtain rfl : a = 63 := ea.trans (by decide +kernel)
  obtain rfl : h = HH58 := eh
  refine ⟨by decide +kernel, by decide +kernel, by decide +kernel, by decide +kernel, 0, 0, by decide +kernel, by decide +kernel, by decide, by decide +kernel, ?_⟩
  intro a h ea eh
  obtain rfl : a = 64 := ea.trans (by decide +kernel)
  obtain rfl : h = HH59 := eh
  refine ⟨by decide +kernel, by decide +kernel, by decide +kernel, hq⟩
def HH61 : Hp := nw (sR HH60 16 11 60) 3 0
theorem zi_HH61 : ZIs [(42, 12), (42, 11), (42, 5), (42, 4), (23, 7), (25, 35), (24, 1), (22, 35), (21, 1), (20, 35), (19, 1)] HH61 := (zi_nw (zi_sR zi_HH60))
theorem zl_HH61 : ZLs [(56, 12)] HH61 := (zl_nw (zl_sR zl_HH60))
def HH62 : Hp := nw HH61 20 (ix (5 : Int32))
theorem zi_HH62 : ZIs [(42, 12), (42, 11), (42, 5), (42, 4), (23, 7), (25, 35), (24, 1), (22, 35), (21, 1), (20, 35), (19, 1)] HH62 := (zi_nw zi_HH61)
theorem zl_HH62 : ZLs [(56, 12)] HH62 := (zl_nw zl_HH61)
def HH63 : Hp := nw (sR HH62 65 1 66) 20 (ix (3 : Int32))
theorem zi_HH63 : ZIs [(42, 12), (42, 11), (42, 5), (42, 4), (23, 7), (25, 35), (24, 1), (22, 35), (21, 1), (20, 35), (19, 1)] HH63 := (zi_nw (zi_sR zi_HH62))
theorem zl_HH63 : ZLs [(56, 12)] HH63 := (zl_nw (zl_sR zl_HH62))
def HH64 : Hp := nw (sR HH63 65 2 67) 20 (ix (3 : Int32))
theorem zi_HH64 : ZIs [(42, 12), (42, 11), (42, 5), (42, 4), (23, 7), (25, 35), (24, 1), (22, 35), (21, 1), (20, 35), (19, 1)] HH64 := (zi_nw (zi_sR zi_HH63))
theorem zl_HH64 : ZLs [(56, 12)] HH64 := (zl_nw (zl_sR zl_HH63))
def HH65 : Hp := nw (sR HH64 65 3 68) 20 (ix (343 : Int32))
theorem zi_HH65 : ZIs [(42, 12), (42, 11), (42, 5), (42, 4), (23, 7), (25, 35), (24, 1), (22, 35), (21, 1), (20, 35), (19, 1)] HH65 := (zi_nw (zi_sR zi_HH64))
theorem zl_HH65 : ZLs [(56, 12)] HH65 := (zl_nw (zl_sR zl_HH64))
def HH66 : Hp := nw (sR HH65 65 4 69) 20 (ix (2058 : Int32))
theorem zi_HH66 : ZIs [(42, 12), (42, 11), (42, 5), (42, 4), (23, 7), (25, 35), (24, 1), (22, 35), (21, 1), (20, 35), (19, 1)] HH66 := (zi_nw (zi_sR zi_HH65))
theorem zl_HH66 : ZLs [(56, 12)] HH66 := (zl_nw (zl_sR zl_HH65))
def HH67 : Hp := sR (sR HH66 65 5 70) 65 0 21
theorem zi_HH67 : ZIs [(42, 12), (42, 11), (42, 5), (42, 4), (23, 7), (25, 35), (24, 1), (22, 35), (21, 1), (20, 35), (19, 1)] HH67 := (zi_sR (zi_sR zi_HH66))
theorem zl_HH67 : ZLs [(56, 12)] HH67 := (zl_sR (zl_sR zl_HH66))
theorem ic_12 {Q : Hp → Prop} (hq : Q HH67) : w_Db_init 5 2412 65 21 HH61 Q := by
  unfold w_Db_init
  refine ⟨by decide +kernel, by decide +kernel, by decide +kernel, 4, 2407, by decide +kernel, by decide +kernel, by decide, by decide +kernel, ?_⟩
  intro a h ea eh
  obtain rfl : a = 66 := ea.trans (by decide +kernel)
  obtain rfl : h = HH62 := eh
  refine ⟨by decide +kernel, by decide +kernel, by decide +kernel, by decide +kernel, 3, 2404, by decide +kernel, by decide +kernel, by decide, by decide +kernel, ?_⟩
  intro a h ea eh
  obtain rfl : a = 67 := ea.trans (by decide +kernel)
  obtain rfl : h = HH63 := eh
  refine ⟨by decide +kernel, by decide +kernel, by decide +kernel, by decide +kernel, 2, 2401, by decide +kernel, by decide +kernel, by decide, by decide +kernel, ?_⟩
  intro a h ea eh
  obtain rfl : a = 68 := ea.trans (by decide +kernel)
  obtain rfl : h = HH64 := eh
  refine ⟨by decide +kernel, by decide +kernel, by decide +kernel, by decide +kernel, 1, 2058, by decide +kernel, by decide +kernel, by decide, by decide +kernel, ?_⟩
  intro a h ea eh
  obtain rfl : a = 69 := ea.trans (by decide +kernel)
  obtain rfl : h = HH65 := eh
  refine ⟨by decide +kernel, by decide +kernel, by decide +kernel, by decide +kernel, 0, 0, by decide +kernel, by decide +kernel, by decide, by decide +kernel, ?_⟩
  intro a h ea eh
  obtain rfl : a = 70 := ea.trans (by decide +kernel)
  obtain rfl : h = HH66 := eh
  refine ⟨by decide +kernel, by decide +kernel, by decide +kernel, hq⟩
def HH68 : Hp := nw (sR HH67 16 12 65) 5 0
theorem zi_HH68 : ZIs [(42, 12), (42, 11), (42, 5), (42, 4), (23, 7), (25, 35), (24, 1), (22, 35), (21, 1), (20, 35), (19, 1)] HH68 := (zi_nw (zi_sR zi_HH67))
theorem zl_HH68 : ZLs [(56, 12)] HH68 := (zl_nw (zl_sR zl_HH67))
def HH69 : Hp := nw HH68 20 (ix (20 : Int32))
theorem zi_HH69 : ZIs [(42, 12), (42, 11), (42, 5), (42, 4), (23, 7), (25, 35), (24, 1), (22, 35), (21, 1), (20, 35), (19, 1)] HH69 := (zi_nw zi_HH68)
theorem zl_HH69 : ZLs [(56, 12)] HH69 := (zl_nw zl_HH68)
def HH70 : Hp := nw (sR HH69 71 2 72) 20 (ix (20 : Int32))
theorem zi_HH70 : ZIs [(42, 12), (42, 11), (42, 5), (42, 4), (23, 7), (25, 35), (24, 1), (22, 35), (21, 1), (20, 35), (19, 1)] HH70 := (zi_nw (zi_sR zi_HH69))
theorem zl_HH70 : ZLs [(56, 12)] HH70 := (zl_nw (zl_sR zl_HH69))
def HH71 : Hp := nw (sR HH70 71 3 73) 20 (ix (20 : Int32))
theorem zi_HH71 : ZIs [(42, 12), (42, 11), (42, 5), (42, 4), (23, 7), (25, 35), (24, 1), (22, 35), (21, 1), (20, 35), (19, 1)] HH71 := (zi_nw (zi_sR zi_HH70))
theorem zl_HH71 : ZLs [(56, 12)] HH71 := (zl_nw (zl_sR zl_HH70))
def HH72 : Hp := nw (sR HH71 71 4 74) 20 (ix (162 : Int32))
theorem zi_HH72 : ZIs [(42, 12), (42, 11), (42, 5), (42, 4), (23, 7), (25, 35), (24, 1), (22, 35), (21, 1), (20, 35), (19, 1)] HH72 := (zi_nw (zi_sR zi_HH71))
theorem zl_HH72 : ZLs [(56, 12)] HH72 := (zl_nw (zl_sR zl_HH71))
def HH73 : Hp := sR (sR (sR HH72 71 5 75) 71 0 19) 71 1 35
theorem zi_HH73 : ZIs [(42, 12), (42, 11), (42, 5), (42, 4), (23, 7), (25, 35), (24, 1), (22, 35), (21, 1), (20, 35), (19, 1)] HH73 := (zi_sR (zi_sR (zi_sR zi_HH72)))
theorem zl_HH73 : ZLs [(56, 12)] HH73 := (zl_sR (zl_sR (zl_sR zl_HH72)))
theorem ic_13 {Q : Hp → Prop} (hq : Q HH73) : w_Kn_init 4 222 71 19 35 HH68 Q := by
  unfold w_Kn_init
  refine ⟨by decide +kernel, by decide +kernel, by decide +kernel, by decide +kernel, 3, 202, by decide +kernel, by decide +kernel, by decide, by decide +kernel, ?_⟩
  intro a h ea eh
  obtain rfl : a = 72 := ea.trans (by decide +kernel)
  obtain rfl : h = HH69 := eh
  refine ⟨by decide +kernel, by decide +kernel, by decide +kernel, by decide +kernel, by decide +kernel, 2, 182, by decide +kernel, by decide +kernel, by decide, by decide +kernel, ?_⟩
  intro a h ea eh
  obtain rfl : a = 73 := ea.trans (by decide +kernel)
  obtain rfl : h = HH70 := eh
  refine ⟨by decide +kernel, by decide +kernel, by decide +kernel, by decide +kernel, by decide +kernel, 1, 162, by decide +kernel, by decide +kernel, by decide, by decide +kernel, ?_⟩
  intro a h ea eh
  obtain rfl : a = 74 := ea.trans (by decide +kernel)
  obtain rfl : h = HH71 := eh
  refine ⟨by decide +kernel, by decide +kernel, by decide +kernel, by decide +kernel, by decide +kernel, 0, 0, by decide +kernel, by decide +kernel, by decide, by decide +kernel, ?_⟩
  intro a h ea eh
  obtain rfl : a = 75 := ea.trans (by decide +kernel)
  obtain rfl : h = HH72 := eh
  refine ⟨by decide +kernel, by decide +kernel, by decide +kernel, by decide +kernel, hq⟩
def HH74 : Hp := nw (sR HH73 16 13 71) 20 (ix (3 : Int32))
theorem zi_HH74 : ZIs [(42, 12), (42, 11), (42, 5), (42, 4), (23, 7), (25, 35), (24, 1), (22, 35), (21, 1), (20, 35), (19, 1)] HH74 := (zi_nw (zi_sR zi_HH73))
theorem zl_HH74 : ZLs [(56, 12)] HH74 := (zl_nw (zl_sR zl_HH73))
def HH75 : Hp := sR HH74 16 14 76
theorem zi_HH75 : ZIs [(42, 12), (42, 11), (42, 5), (42, 4), (23, 7), (25, 35), (24, 1), (22, 35), (21, 1), (20, 35), (19, 1)] HH75 := (zi_sR zi_HH74)
theorem zl_HH75 : ZLs [(56, 12)] HH75 := (zl_sR zl_HH74)
def HH76 : Hp := nw HH75 1 0
theorem zi_HH76 : ZIs [(42, 12), (42, 11), (42, 5), (42, 4), (23, 7), (25, 35), (24, 1), (22, 35), (21, 1), (20, 35), (19, 1)] HH76 := (zi_nw zi_HH75)
theorem zl_HH76 : ZLs [(56, 12)] HH76 := (zl_nw zl_HH75)
def HH77 : Hp := nw HH76 20 (ix (44 : Int32))
theorem zi_HH77 : ZIs [(42, 12), (42, 11), (42, 5), (42, 4), (23, 7), (25, 35), (24, 1), (22, 35), (21, 1), (20, 35), (19, 1)] HH77 := (zi_nw zi_HH76)
theorem zl_HH77 : ZLs [(56, 12)] HH77 := (zl_nw zl_HH76)
def HH78 : Hp := sI (sI (sR HH77 77 0 78) 77 1 (1 : Int32)) (gR (sI (sR HH77 77 0 78) 77 1 (1 : Int32)) 77 0) (ix (35 : Int32)) (8 : Int32)
theorem zi_HH78 : ZIs [(78, 35), (77, 1), (42, 12), (42, 11), (42, 5), (42, 4), (23, 7), (25, 35), (24, 1), (22, 35), (21, 1), (20, 35), (19, 1)] HH78 := (zi_sI (by decide +kernel) (by decide +kernel) (zi_sI (by decide +kernel) (by decide +kernel) (zi_sR zi_HH77)))
theorem zl_HH78 : ZLs [(56, 12)] HH78 := (zl_sI (zl_sI (zl_sR zl_HH77)))
theorem ic_14 {Q : Hp → Prop} (hq : Q HH78) : w_Co_init 1 44 77 HH76 Q := by
  unfold w_Co_init
  refine ⟨by decide +kernel, by decide +kernel, 0, 0, by decide +kernel, by decide +kernel, by decide, by decide +kernel, ?_⟩
  intro a h ea eh
  obtain rfl : a = 78 := ea.trans (by decide +kernel)
  obtain rfl : h = HH77 := eh
  refine ⟨by decide +kernel, by decide +kernel, by decide +kernel, vpn (j := 35) (n := 44) (by decide +kernel) (by decide) (by decide), hq⟩
def HH79 : Hp := sR HH78 (gR HH75 16 4) (ix (0 : Int32)) 77
theorem zi_HH79 : ZIs [(78, 35), (77, 1), (42, 12), (42, 11), (42, 5), (42, 4), (23, 7), (25, 35), (24, 1), (22, 35), (21, 1), (20, 35), (19, 1)] HH79 := (zi_sR zi_HH78)
theorem zl_HH79 : ZLs [(56, 12)] HH79 := (zl_sR zl_HH78)
def HH80 : Hp := nw HH79 1 0
theorem zi_HH80 : ZIs [(78, 35), (77, 1), (42, 12), (42, 11), (42, 5), (42, 4), (23, 7), (25, 35), (24, 1), (22, 35), (21, 1), (20, 35), (19, 1)] HH80 := (zi_nw zi_HH79)
theorem zl_HH80 : ZLs [(56, 12)] HH80 := (zl_nw zl_HH79)
def HH81 : Hp := nw HH80 20 (ix (44 : Int32))
theorem zi_HH81 : ZIs [(78, 35), (77, 1), (42, 12), (42, 11), (42, 5), (42, 4), (23, 7), (25, 35), (24, 1), (22, 35), (21, 1), (20, 35), (19, 1)] HH81 := (zi_nw zi_HH80)
theorem zl_HH81 : ZLs [(56, 12)] HH81 := (zl_nw zl_HH80)
def HH82 : Hp := sI (sI (sR HH81 79 0 80) 79 1 (1 : Int32)) (gR (sI (sR HH81 79 0 80) 79 1 (1 : Int32)) 79 0) (ix (35 : Int32)) (8 : Int32)
theorem zi_HH82 : ZIs [(80, 35), (79, 1), (78, 35), (77, 1), (42, 12), (42, 11), (42, 5), (42, 4), (23, 7), (25, 35), (24, 1), (22, 35), (21, 1), (20, 35), (19, 1)] HH82 := (zi_sI (by decide +kernel) (by decide +kernel) (zi_sI (by decide +kernel) (by decide +kernel) (zi_sR zi_HH81)))
theorem zl_HH82 : ZLs [(56, 12)] HH82 := (zl_sI (zl_sI (zl_sR zl_HH81)))
theorem ic_15 {Q : Hp → Prop} (hq : Q HH82) : w_Co_init 1 44 79 HH80 Q := by
  unfold w_Co_init
  refine ⟨by decide +kernel, by decide +kernel, 0, 0, by decide +kernel, by decide +kernel, by decide, by decide +kernel, ?_⟩
  intro a h ea eh
  obtain rfl : a = 80 := ea.trans (by decide +kernel)
  obtain rfl : h = HH81 := eh
  refine ⟨by decide +kernel, by decide +kernel, by decide +kernel, vpn (j := 35) (n := 44) (by decide +kernel) (by decide) (by decide), hq⟩
def HH83 : Hp := sR HH82 (gR HH79 16 4) (ix ((0 : Int32) + (1 : Int32))) 79
theorem zi_HH83 : ZIs [(80, 35), (79, 1), (78, 35), (77, 1), (42, 12), (42, 11), (42, 5), (42, 4), (23, 7), (25, 35), (24, 1), (22, 35), (21, 1), (20, 35), (19, 1)] HH83 := (zi_sR zi_HH82)
theorem zl_HH83 : ZLs [(56, 12)] HH83 := (zl_sR zl_HH82)
theorem il_2 {Q : Hp → Prop} (hq : Q HH83) : w_X_init_L196 Q 16 (0 + 1) (((0 : Int32) + (1 : Int32)) + (1 : Int32)) 0 0 HH83 := by
  unfold w_X_init_L196
  exact ⟨fun _ => hq, fun z => absurd (by decide) z⟩
theorem il_1 {Q : Hp → Prop} (hq : Q HH83) : w_X_init_L196 Q 16 (1 + 1) ((0 : Int32) + (1 : Int32)) 2 48 HH79 := by
  unfold w_X_init_L196
  refine ⟨fun z => absurd z (by decide), fun _ => ?_⟩
  refine ⟨by decide +kernel, by decide +kernel, by decide +kernel, 1, 44, by decide +kernel, by decide +kernel, ?_⟩
  intro a h ea eh
  obtain rfl : a = 79 := ea.trans (by decide +kernel)
  obtain rfl : h = HH80 := eh
  refine ⟨by decide +kernel, by decide +kernel, by decide +kernel, by decide +kernel, 0, 0, 1, 44, by decide +kernel, by decide +kernel, ?_⟩
  refine ic_15 ?_
  refine ⟨by decide +kernel, vpn (j := 1) (n := 2) (by decide +kernel) (by decide) (by decide), by decide +kernel, il_2 hq⟩
theorem il_0 {Q : Hp → Prop} (hq : Q HH83) : w_X_init_L196 Q 16 (2 + 1) (0 : Int32) 4 96 HH75 := by
  unfold w_X_init_L196
  refine ⟨fun z => absurd z (by decide), fun _ => ?_⟩
  refine ⟨by decide +kernel, by decide +kernel, by decide +kernel, 3, 92, by decide +kernel, by decide +kernel, ?_⟩
  intro a h ea eh
  obtain rfl : a = 77 := ea.trans (by decide +kernel)
  obtain rfl : h = HH76 := eh
  refine ⟨by decide +kernel, by decide +kernel, by decide +kernel, by decide +kernel, 2, 48, 1, 44, by decide +kernel, by decide +kernel, ?_⟩
  refine ic_14 ?_
  refine ⟨by decide +kernel, vpn (j := 0) (n := 2) (by decide +kernel) (by decide) (by decide), by decide +kernel, il_1 hq⟩
set_option maxRecDepth 100000 in
theorem ic_16 {Q : Hp → Prop} (hq : Q HH83) : w_X_init 64 5958 16 HH1 Q := by
  unfold w_X_init
  refine ⟨by decide +kernel, by decide +kernel, 63, 5953, by decide +kernel, by decide +kernel, ?_⟩
  intro a h ea eh
  obtain rfl : a = 17 := ea.trans (by decide +kernel)
  obtain rfl : h = HH2 := eh
  refine ⟨by decide +kernel, by decide +kernel, by decide +kernel, 62, 5253, 1, 700, by decide +kernel, by decide +kernel, ?_⟩
  refine ic_1 ?_
  refine ⟨by decide +kernel, by decide +kernel, by decide +kernel, 61, 5249, by decide +kernel, by decide +kernel, ?_⟩
  intro a h ea eh
  obtain rfl : a = 19 := ea.trans (by decide +kernel)
  obtain rfl : h = HH5 := eh
  refine ⟨by decide +kernel, by decide +kernel, by decide +kernel, 60, 5205, 1, 44, by decide +kernel, by decide +kernel, ?_⟩
  refine ic_2 ?_
  refine ⟨by decide +kernel, by decide +kernel, by decide +kernel, 59, 5201, by decide +kernel, by decide +kernel, ?_⟩
  intro a h ea eh
  obtain rfl : a = 21 := ea.trans (by decide +kernel)
  obtain rfl : h = HH8 := eh
  refine ⟨by decide +kernel, by decide +kernel, by decide +kernel, 58, 5157, 1, 44, by decide +kernel, by decide +kernel, ?_⟩
  refine ic_3 ?_
  refine ⟨by decide +kernel, by decide +kernel, by decide +kernel, 57, 5149, by decide +kernel, by decide +kernel, ?_⟩
  intro a h ea eh
  obtain rfl : a = 23 := ea.trans (by decide +kernel)
  obtain rfl : h = HH11 := eh
  refine ⟨by decide +kernel, by decide +kernel, by decide +kernel, by decide +kernel, 53, 5085, 4, 64, by decide +kernel, by decide +kernel, ?_⟩
  rw [show gR HH11 16 0 = 17 from by decide +kernel]
  refine ic_5 ?_
  refine ⟨by decide +kernel, by decide +kernel, by decide +kernel, 52, 5083, by decide +kernel, by decide +kernel, by decide, by decide +kernel, ?_⟩
  intro a h ea eh
  obtain rfl : a = 28 := ea.trans (by decide +kernel)
  obtain rfl : h = HH18 := eh
  refine ⟨by decide +kernel, by decide +kernel, by decide +kernel, 51, 5081, by decide +kernel, by decide +kernel, by decide, by decide +kernel, ?_⟩
  intro a h ea eh
  obtain rfl : a = 29 := ea.trans (by decide +kernel)
  obtain rfl : h = HH19 := eh
  refine ⟨by decide +kernel, by decide +kernel, by decide +kernel, 50, 5074, by decide +kernel, by decide +kernel, ?_⟩
  intro a h ea eh
  obtain rfl : a = 30 := ea.trans (by decide +kernel)
  obtain rfl : h = HH20 := eh
  refine ⟨by decide +kernel, by decide +kernel, by decide +kernel, 46, 4854, 4, 220, by decide +kernel, by decide +kernel, ?_⟩
  refine ic_6 ?_
  refine ⟨by decide +kernel, by decide +kernel, by decide +kernel, 45, 4844, by decide +kernel, by decide +kernel, ?_⟩
  intro a h ea eh
  obtain rfl : a = 35 := ea.trans (by decide +kernel)
  obtain rfl : h = HH26 := eh
  refine ⟨by decide +kernel, by decide +kernel, by decide +kernel, 39, 4753, 6, 91, by decide +kernel, by decide +kernel, ?_⟩
  refine ic_7 ?_
  refine ⟨by decide +kernel, by decide +kernel, by decide +kernel, 38, 4736, by decide +kernel, by decide +kernel, ?_⟩
  intro a h ea eh
  obtain rfl : a = 42 := ea.trans (by decide +kernel)
  obtain rfl : h = HH34 := eh
  refine ⟨by decide +kernel, by decide +kernel, by decide +kernel, by decide +kernel, 31, 4655, 7, 81, by decide +kernel, by decide +kernel, ?_⟩
  rw [show gR HH34 16 2 = 21 from by decide +kernel]
  refine ic_8 ?_
  refine ⟨by decide +kernel, by decide +kernel, by decide +kernel, 30, 4640, by decide +kernel, by decide +kernel, ?_⟩
  intro a h ea eh
  obtain rfl : a = 50 := ea.trans (by decide +kernel)
  obtain rfl : h = HH43 := eh
  refine ⟨by decide +kernel, by decide +kernel, by decide +kernel, by decide +kernel, 25, 3313, 5, 1327, by decide +kernel, by decide +kernel, ?_⟩
  rw [show gR HH43 16 2 = 21 from by decide +kernel]
  rw [show gR HH43 16 7 = 35 from by decide +kernel]
  refine ic_9 ?_
  refine ⟨by decide +kernel, by decide +kernel, by decide +kernel, 24, 3300, by decide +kernel, by decide +kernel, ?_⟩
  intro a h ea eh
  obtain rfl : a = 56 := ea.trans (by decide +kernel)
  obtain rfl : h = HH50 := eh
  refine ⟨by decide +kernel, by decide +kernel, by decide +kernel, by decide +kernel, 21, 3268, 3, 32, by decide +kernel, by decide +kernel, ?_⟩
  rw [show gR HH50 16 2 = 21 from by decide +kernel]
  refine ic_10 ?_
  refine ⟨by decide +kernel, by decide +kernel, by decide +kernel, 20, 3255, by decide +kernel, by decide +kernel, ?_⟩
  intro a h ea eh
  obtain rfl : a = 60 := ea.trans (by decide +kernel)
  obtain rfl : h = HH55 := eh
  refine ⟨by decide +kernel, by decide +kernel, by decide +kernel, by decide +kernel, 16, 2755, 4, 500, by decide +kernel, by decide +kernel, ?_⟩
  rw [show gR HH55 16 2 = 21 from by decide +kernel]
  refine ic_11 ?_
  refine ⟨by decide +kernel, by decide +kernel, by decide +kernel, 15, 2743, by decide +kernel, by decide +kernel, ?_⟩
  intro a h ea eh
  obtain rfl : a = 65 := ea.trans (by decide +kernel)
  obtain rfl : h = HH61 := eh
  refine ⟨by decide +kernel, by decide +kernel, by decide +kernel, by decide +kernel, 10, 331, 5, 2412, by decide +kernel, by decide +kernel, ?_⟩
  rw [show gR HH61 16 2 = 21 from by decide +kernel]
  refine ic_12 ?_
  refine ⟨by decide +kernel, by decide +kernel, by decide +kernel, 9, 321, by decide +kernel, by decide +kernel, ?_⟩
  intro a h ea eh
  obtain rfl : a = 71 := ea.trans (by decide +kernel)
  obtain rfl : h = HH68 := eh
  refine ⟨by decide +kernel, by decide +kernel, by decide +kernel, by decide +kernel, 5, 99, 4, 222, by decide +kernel, by decide +kernel, ?_⟩
  rw [show gR HH68 16 1 = 19 from by decide +kernel]
  rw [show gR HH68 16 7 = 35 from by decide +kernel]
  refine ic_13 ?_
  refine ⟨by decide +kernel, by decide +kernel, by decide +kernel, 4, 96, by decide +kernel, by decide +kernel, by decide, by decide +kernel, ?_⟩
  intro a h ea eh
  obtain rfl : a = 76 := ea.trans (by decide +kernel)
  obtain rfl : h = HH74 := eh
  refine ⟨by decide +kernel, by decide +kernel, 3, il_0 hq⟩
def HH84 : Hp := nw HH83 12 0
theorem zi_HH84 : ZIs [(80, 35), (79, 1), (78, 35), (77, 1), (42, 12), (42, 11), (42, 5), (42, 4), (23, 7), (25, 35), (24, 1), (22, 35), (21, 1), (20, 35), (19, 1)] HH84 := (zi_nw zi_HH83)
theorem zl_HH84 : ZLs [(56, 12)] HH84 := (zl_nw zl_HH83)
def HH85 : Hp := nw HH84 20 (ix (700 : Int32))
theorem zi_HH85 : ZIs [(80, 35), (79, 1), (78, 35), (77, 1), (42, 12), (42, 11), (42, 5), (42, 4), (23, 7), (25, 35), (24, 1), (22, 35), (21, 1), (20, 35), (19, 1)] HH85 := (zi_nw zi_HH84)
theorem zl_HH85 : ZLs [(56, 12)] HH85 := (zl_nw zl_HH84)
def HH86 : Hp := nw (sI (sI (sR HH85 81 0 82) 81 8 (-1 : Int32)) 81 10 (-1 : Int32)) 20 (ix (44 : Int32))
theorem zi_HH86 : ZIs [(81, 10), (81, 8), (80, 35), (79, 1), (78, 35), (77, 1), (42, 12), (42, 11), (42, 5), (42, 4), (23, 7), (25, 35), (24, 1), (22, 35), (21, 1), (20, 35), (19, 1)] HH86 := (zi_nw (zi_sI (by decide +kernel) (by decide +kernel) (zi_sI (by decide +kernel) (by decide +kernel) (zi_sR zi_HH85))))
theorem zl_HH86 : ZLs [(56, 12)] HH86 := (zl_nw (zl_sI (zl_sI (zl_sR zl_HH85))))
def HH87 : Hp := nw (sR HH86 81 12 83) 20 (ix (44 : Int32))
theorem zi_HH87 : ZIs [(81, 10), (81, 8), (80, 35), (79, 1), (78, 35), (77, 1), (42, 12), (42, 11), (42, 5), (42, 4), (23, 7), (25, 35), (24, 1), (22, 35), (21, 1), (20, 35), (19, 1)] HH87 := (zi_nw (zi_sR zi_HH86))
theorem zl_HH87 : ZLs [(56, 12)] HH87 := (zl_nw (zl_sR zl_HH86))
def HH88 : Hp := nw (sR HH87 81 13 84) 21 (ix (8 : Int32))
theorem zi_HH88 : ZIs [(81, 10), (81, 8), (80, 35), (79, 1), (78, 35), (77, 1), (42, 12), (42, 11), (42, 5), (42, 4), (23, 7), (25, 35), (24, 1), (22, 35), (21, 1), (20, 35), (19, 1)] HH88 := (zi_nw (zi_sR zi_HH87))
theorem zl_HH88 : ZLs [(56, 12)] HH88 := (zl_nw (zl_sR zl_HH87))
def HH89 : Hp := nw (sR HH88 81 14 85) 20 (ix (44 : Int32))
theorem zi_HH89 : ZIs [(81, 10), (81, 8), (80, 35), (79, 1), (78, 35), (77, 1), (42, 12), (42, 11), (42, 5), (42, 4), (23, 7), (25, 35), (24, 1), (22, 35), (21, 1), (20, 35), (19, 1)] HH89 := (zi_nw (zi_sR zi_HH88))
theorem zl_HH89 : ZLs [(56, 12)] HH89 := (zl_nw (zl_sR zl_HH88))
def HH90 : Hp := nw (sR HH89 81 22 86) 20 (ix (880 : Int32))
theorem zi_HH90 : ZIs [(81, 10), (81, 8), (80, 35), (79, 1), (78, 35), (77, 1), (42, 12), (42, 11), (42, 5), (42, 4), (23, 7), (25, 35), (24, 1), (22, 35), (21, 1), (20, 35), (19, 1)] HH90 := (zi_nw (zi_sR zi_HH89))
theorem zl_HH90 : ZLs [(56, 12)] HH90 := (zl_nw (zl_sR zl_HH89))
def HH91 : Hp := nw (sR HH90 81 23 87) 20 (ix (8 : Int32))
theorem zi_HH91 : ZIs [(81, 10), (81, 8), (80, 35), (79, 1), (78, 35), (77, 1), (42, 12), (42, 11), (42, 5), (42, 4), (23, 7), (25, 35), (24, 1), (22, 35), (21, 1), (20, 35), (19, 1)] HH91 := (zi_nw (zi_sR zi_HH90))
theorem zl_HH91 : ZLs [(56, 12)] HH91 := (zl_nw (zl_sR zl_HH90))
def HH92 : Hp := nw (sR HH91 81 26 88) 20 (ix (8 : Int32))
theorem zi_HH92 : ZIs [(81, 10), (81, 8), (80, 35), (79, 1), (78, 35), (77, 1), (42, 12), (42, 11), (42, 5), (42, 4), (23, 7), (25, 35), (24, 1), (22, 35), (21, 1), (20, 35), (19, 1)] HH92 := (zi_nw (zi_sR zi_HH91))
theorem zl_HH92 : ZLs [(56, 12)] HH92 := (zl_nw (zl_sR zl_HH91))
def HH93 : Hp := nw (sR HH92 81 27 89) 20 (ix (6561 : Int32))
theorem zi_HH93 : ZIs [(81, 10), (81, 8), (80, 35), (79, 1), (78, 35), (77, 1), (42, 12), (42, 11), (42, 5), (42, 4), (23, 7), (25, 35), (24, 1), (22, 35), (21, 1), (20, 35), (19, 1)] HH93 := (zi_nw (zi_sR zi_HH92))
theorem zl_HH93 : ZLs [(56, 12)] HH93 := (zl_nw (zl_sR zl_HH92))
def HH94 : Hp := nw (sR HH93 81 30 90) 20 (ix (9 : Int32))
theorem zi_HH94 : ZIs [(81, 10), (81, 8), (80, 35), (79, 1), (78, 35), (77, 1), (42, 12), (42, 11), (42, 5), (42, 4), (23, 7), (25, 35), (24, 1), (22, 35), (21, 1), (20, 35), (19, 1)] HH94 := (zi_nw (zi_sR zi_HH93))
theorem zl_HH94 : ZLs [(56, 12)] HH94 := (zl_nw (zl_sR zl_HH93))
def HH95 : Hp := nw (sR HH94 81 31 91) 20 (ix (3 : Int32))
theorem zi_HH95 : ZIs [(81, 10), (81, 8), (80, 35), (79, 1), (78, 35), (77, 1), (42, 12), (42, 11), (42, 5), (42, 4), (23, 7), (25, 35), (24, 1), (22, 35), (21, 1), (20, 35), (19, 1)] HH95 := (zi_nw (zi_sR zi_HH94))
theorem zl_HH95 : ZLs [(56, 12)] HH95 := (zl_nw (zl_sR zl_HH94))
def HH96 : Hp := nw (sR HH95 81 32 92) 20 (ix (126000 : Int32))
theorem zi_HH96 : ZIs [(81, 10), (81, 8), (80, 35), (79, 1), (78, 35), (77, 1), (42, 12), (42, 11), (42, 5), (42, 4), (23, 7), (25, 35), (24, 1), (22, 35), (21, 1), (20, 35), (19, 1)] HH96 := (zi_nw (zi_sR zi_HH95))
theorem zl_HH96 : ZLs [(56, 12)] HH96 := (zl_nw (zl_sR zl_HH95))
def HH97 : Hp := nw (sR HH96 81 33 93) 20 (ix (126000 : Int32))
theorem zi_HH97 : ZIs [(81, 10), (81, 8), (80, 35), (79, 1), (78, 35), (77, 1), (42, 12), (42, 11), (42, 5), (42, 4), (23, 7), (25, 35), (24, 1), (22, 35), (21, 1), (20, 35), (19, 1)] HH97 := (zi_nw (zi_sR zi_HH96))
theorem zl_HH97 : ZLs [(56, 12)] HH97 := (zl_nw (zl_sR zl_HH96))
def HH98 : Hp := nw (sR HH97 81 34 94) 20 (ix (15 : Int32))
theorem zi_HH98 : ZIs [(81, 10), (81, 8), (80, 35), (79, 1), (78, 35), (77, 1), (42, 12), (42, 11), (42, 5), (42, 4), (23, 7), (25, 35), (24, 1), (22, 35), (21, 1), (20, 35), (19, 1)] HH98 := (zi_nw (zi_sR zi_HH97))
theorem zl_HH98 : ZLs [(56, 12)] HH98 := (zl_nw (zl_sR zl_HH97))
def HH99 : Hp := nw (sR HH98 81 35 95) 20 (ix (262144 : Int32))
theorem zi_HH99 : ZIs [(81, 10), (81, 8), (80, 35), (79, 1), (78, 35), (77, 1), (42, 12), (42, 11), (42, 5), (42, 4), (23, 7), (25, 35), (24, 1), (22, 35), (21, 1), (20, 35), (19, 1)] HH99 := (zi_nw (zi_sR zi_HH98))
theorem zl_HH99 : ZLs [(56, 12)] HH99 := (zl_nw (zl_sR zl_HH98))
def HH100 : Hp := nw (sR HH99 81 36 96) 21 (ix (126000 : Int32))
theorem zi_HH100 : ZIs [(81, 10), (81, 8), (80, 35), (79, 1), (78, 35), (77, 1), (42, 12), (42, 11), (42, 5), (42, 4), (23, 7), (25, 35), (24, 1), (22, 35), (21, 1), (20, 35), (19, 1)] HH100 := (zi_nw (zi_sR zi_HH99))
theorem zl_HH100 : ZLs [(56, 12)] HH100 := (zl_nw (zl_sR zl_HH99))
def HH101 : Hp := nw (sR HH100 81 37 97) 20 (ix (6000 : Int32))
theorem zi_HH101 : ZIs [(81, 10), (81, 8), (80, 35), (79, 1), (78, 35), (77, 1), (42, 12), (42, 11), (42, 5), (42, 4), (23, 7), (25, 35), (24, 1), (22, 35), (21, 1), (20, 35), (19, 1)] HH101 := (zi_nw (zi_sR zi_HH100))
theorem zl_HH101 : ZLs [(56, 12)] HH101 := (zl_nw (zl_sR zl_HH100))
def HH102 : Hp := nw (sR HH101 81 42 98) 20 (ix (6 : Int32))
theorem zi_HH102 : ZIs [(81, 10), (81, 8), (80, 35), (79, 1), (78, 35), (77, 1), (42, 12), (42, 11), (42, 5), (42, 4), (23, 7), (25, 35), (24, 1), (22, 35), (21, 1), (20, 35), (19, 1)] HH102 := (zi_nw (zi_sR zi_HH101))
theorem zl_HH102 : ZLs [(56, 12)] HH102 := (zl_nw (zl_sR zl_HH101))
def HH103 : Hp := nw (sR HH102 81 43 99) 21 (ix (15 : Int32))
theorem zi_HH103 : ZIs [(81, 10), (81, 8), (80, 35), (79, 1), (78, 35), (77, 1), (42, 12), (42, 11), (42, 5), (42, 4), (23, 7), (25, 35), (24, 1), (22, 35), (21, 1), (20, 35), (19, 1)] HH103 := (zi_nw (zi_sR zi_HH102))
theorem zl_HH103 : ZLs [(56, 12)] HH103 := (zl_nw (zl_sR zl_HH102))
def HH104 : Hp := nw (sR HH103 81 45 100) 21 (ix (8 : Int32))
theorem zi_HH104 : ZIs [(81, 10), (81, 8), (80, 35), (79, 1), (78, 35), (77, 1), (42, 12), (42, 11), (42, 5), (42, 4), (23, 7), (25, 35), (24, 1), (22, 35), (21, 1), (20, 35), (19, 1)] HH104 := (zi_nw (zi_sR zi_HH103))
theorem zl_HH104 : ZLs [(56, 12)] HH104 := (zl_nw (zl_sR zl_HH103))
def HH105 : Hp := nw (sR HH104 81 46 101) 21 (ix (8 : Int32))
theorem zi_HH105 : ZIs [(81, 10), (81, 8), (80, 35), (79, 1), (78, 35), (77, 1), (42, 12), (42, 11), (42, 5), (42, 4), (23, 7), (25, 35), (24, 1), (22, 35), (21, 1), (20, 35), (19, 1)] HH105 := (zi_nw (zi_sR zi_HH104))
theorem zl_HH105 : ZLs [(56, 12)] HH105 := (zl_nw (zl_sR zl_HH104))
def HH106 : Hp := nw (sR HH105 81 47 102) 21 (ix (8 : Int32))
theorem zi_HH106 : ZIs [(81, 10), (81, 8), (80, 35), (79, 1), (78, 35), (77, 1), (42, 12), (42, 11), (42, 5), (42, 4), (23, 7), (25, 35), (24, 1), (22, 35), (21, 1), (20, 35), (19, 1)] HH106 := (zi_nw (zi_sR zi_HH105))
theorem zl_HH106 : ZLs [(56, 12)] HH106 := (zl_nw (zl_sR zl_HH105))
def HH107 : Hp := nw (sR HH106 81 48 103) 21 (ix (8 : Int32))
theorem zi_HH107 : ZIs [(81, 10), (81, 8), (80, 35), (79, 1), (78, 35), (77, 1), (42, 12), (42, 11), (42, 5), (42, 4), (23, 7), (25, 35), (24, 1), (22, 35), (21, 1), (20, 35), (19, 1)] HH107 := (zi_nw (zi_sR zi_HH106))
theorem zl_HH107 : ZLs [(56, 12)] HH107 := (zl_nw (zl_sR zl_HH106))
def HH108 : Hp := nw (sR HH107 81 49 104) 20 (ix (8 : Int32))
theorem zi_HH108 : ZIs [(81, 10), (81, 8), (80, 35), (79, 1), (78, 35), (77, 1), (42, 12), (42, 11), (42, 5), (42, 4), (23, 7), (25, 35), (24, 1), (22, 35), (21, 1), (20, 35), (19, 1)] HH108 := (zi_nw (zi_sR zi_HH107))
theorem zl_HH108 : ZLs [(56, 12)] HH108 := (zl_nw (zl_sR zl_HH107))
def HH109 : Hp := nw (sR HH108 81 50 105) 20 (ix (3 : Int32))
theorem zi_HH109 : ZIs [(81, 10), (81, 8), (80, 35), (79, 1), (78, 35), (77, 1), (42, 12), (42, 11), (42, 5), (42, 4), (23, 7), (25, 35), (24, 1), (22, 35), (21, 1), (20, 35), (19, 1)] HH109 := (zi_nw (zi_sR zi_HH108))
theorem zl_HH109 : ZLs [(56, 12)] HH109 := (zl_nw (zl_sR zl_HH108))
def HH110 : Hp := nw (sR HH109 81 51 106) 20 (ix (8 : Int32))
theorem zi_HH110 : ZIs [(81, 10), (81, 8), (80, 35), (79, 1), (78, 35), (77, 1), (42, 12), (42, 11), (42, 5), (42, 4), (23, 7), (25, 35), (24, 1), (22, 35), (21, 1), (20, 35), (19, 1)] HH110 := (zi_nw (zi_sR zi_HH109))
theorem zl_HH110 : ZLs [(56, 12)] HH110 := (zl_nw (zl_sR zl_HH109))
def HH111 : Hp := nw (sR HH110 81 59 107) 20 (ix (8 : Int32))
theorem zi_HH111 : ZIs [(81, 10), (81, 8), (80, 35), (79, 1), (78, 35), (77, 1), (42, 12), (42, 11), (42, 5), (42, 4), (23, 7), (25, 35), (24, 1), (22, 35), (21, 1), (20, 35), (19, 1)] HH111 := (zi_nw (zi_sR zi_HH110))
theorem zl_HH111 : ZLs [(56, 12)] HH111 := (zl_nw (zl_sR zl_HH110))
def HH112 : Hp := nw (sR HH111 81 60 108) 20 (ix (8 : Int32))
theorem zi_HH112 : ZIs [(81, 10), (81, 8), (80, 35), (79, 1), (78, 35), (77, 1), (42, 12), (42, 11), (42, 5), (42, 4), (23, 7), (25, 35), (24, 1), (22, 35), (21, 1), (20, 35), (19, 1)] HH112 := (zi_nw (zi_sR zi_HH111))
theorem zl_HH112 : ZLs [(56, 12)] HH112 := (zl_nw (zl_sR zl_HH111))
def HH113 : Hp := nw (sR HH112 81 61 109) 20 (ix (3 : Int32))
theorem zi_HH113 : ZIs [(81, 10), (81, 8), (80, 35), (79, 1), (78, 35), (77, 1), (42, 12), (42, 11), (42, 5), (42, 4), (23, 7), (25, 35), (24, 1), (22, 35), (21, 1), (20, 35), (19, 1)] HH113 := (zi_nw (zi_sR zi_HH112))
theorem zl_HH113 : ZLs [(56, 12)] HH113 := (zl_nw (zl_sR zl_HH112))
def HH114 : Hp := nw (sR HH113 81 62 110) 20 (ix (20 : Int32))
theorem zi_HH114 : ZIs [(81, 10), (81, 8), (80, 35), (79, 1), (78, 35), (77, 1), (42, 12), (42, 11), (42, 5), (42, 4), (23, 7), (25, 35), (24, 1), (22, 35), (21, 1), (20, 35), (19, 1)] HH114 := (zi_nw (zi_sR zi_HH113))
theorem zl_HH114 : ZLs [(56, 12)] HH114 := (zl_nw (zl_sR zl_HH113))
def HH115 : Hp := nw (sR HH114 81 68 111) 20 (ix (60 : Int32))
theorem zi_HH115 : ZIs [(81, 10), (81, 8), (80, 35), (79, 1), (78, 35), (77, 1), (42, 12), (42, 11), (42, 5), (42, 4), (23, 7), (25, 35), (24, 1), (22, 35), (21, 1), (20, 35), (19, 1)] HH115 := (zi_nw (zi_sR zi_HH114))
theorem zl_HH115 : ZLs [(56, 12)] HH115 := (zl_nw (zl_sR zl_HH114))
def HH116 : Hp := nw (sR HH115 81 69 112) 20 (ix (20 : Int32))
theorem zi_HH116 : ZIs [(81, 10), (81, 8), (80, 35), (79, 1), (78, 35), (77, 1), (42, 12), (42, 11), (42, 5), (42, 4), (23, 7), (25, 35), (24, 1), (22, 35), (21, 1), (20, 35), (19, 1)] HH116 := (zi_nw (zi_sR zi_HH115))
theorem zl_HH116 : ZLs [(56, 12)] HH116 := (zl_nw (zl_sR zl_HH115))
def HH117 : Hp := nw (sR HH116 81 70 113) 20 (ix (20 : Int32))
theorem zi_HH117 : ZIs [(81, 10), (81, 8), (80, 35), (79, 1), (78, 35), (77, 1), (42, 12), (42, 11), (42, 5), (42, 4), (23, 7), (25, 35), (24, 1), (22, 35), (21, 1), (20, 35), (19, 1)] HH117 := (zi_nw (zi_sR zi_HH116))
theorem zl_HH117 : ZLs [(56, 12)] HH117 := (zl_nw (zl_sR zl_HH116))
def HH118 : Hp := nw (sR HH117 81 71 114) 20 (ix (20 : Int32))
theorem zi_HH118 : ZIs [(81, 10), (81, 8), (80, 35), (79, 1), (78, 35), (77, 1), (42, 12), (42, 11), (42, 5), (42, 4), (23, 7), (25, 35), (24, 1), (22, 35), (21, 1), (20, 35), (19, 1)] HH118 := (zi_nw (zi_sR zi_HH117))
theorem zl_HH118 : ZLs [(56, 12)] HH118 := (zl_nw (zl_sR zl_HH117))
def HH119 : Hp := nw (sR HH118 81 72 115) 22 (ix (9 : Int32))
theorem zi_HH119 : ZIs [(81, 10), (81, 8), (80, 35), (79, 1), (78, 35), (77, 1), (42, 12), (42, 11), (42, 5), (42, 4), (23, 7), (25, 35), (24, 1), (22, 35), (21, 1), (20, 35), (19, 1)] HH119 := (zi_nw (zi_sR zi_HH118))
theorem zl_HH119 : ZLs [(56, 12)] HH119 := (zl_nw (zl_sR zl_HH118))
def HH120 : Hp := nw (sR HH119 81 75 116) 22 (ix (369 : Int32))
theorem zi_HH120 : ZIs [(81, 10), (81, 8), (80, 35), (79, 1), (78, 35), (77, 1), (42, 12), (42, 11), (42, 5), (42, 4), (23, 7), (25, 35), (24, 1), (22, 35), (21, 1), (20, 35), (19, 1)] HH120 := (zi_nw (zi_sR zi_HH119))
theorem zl_HH120 : ZLs [(56, 12)] HH120 := (zl_nw (zl_sR zl_HH119))
def HH121 : Hp := nw (sR HH120 81 76 117) 20 (ix (88 : Int32))
theorem zi_HH121 : ZIs [(81, 10), (81, 8), (80, 35), (79, 1), (78, 35), (77, 1), (42, 12), (42, 11), (42, 5), (42, 4), (23, 7), (25, 35), (24, 1), (22, 35), (21, 1), (20, 35), (19, 1)] HH121 := (zi_nw (zi_sR zi_HH120))
theorem zl_HH121 : ZLs [(56, 12)] HH121 := (zl_nw (zl_sR zl_HH120))
def HH122 : Hp := nw (sR HH121 81 77 118) 22 (ix (2 : Int32))
theorem zi_HH122 : ZIs [(81, 10), (81, 8), (80, 35), (79, 1), (78, 35), (77, 1), (42, 12), (42, 11), (42, 5), (42, 4), (23, 7), (25, 35), (24, 1), (22, 35), (21, 1), (20, 35), (19, 1)] HH122 := (zi_nw (zi_sR zi_HH121))
theorem zl_HH122 : ZLs [(56, 12)] HH122 := (zl_nw (zl_sR zl_HH121))
def HH123 : Hp := sR HH122 81 78 119
theorem zi_HH123 : ZIs [(81, 10), (81, 8), (80, 35), (79, 1), (78, 35), (77, 1), (42, 12), (42, 11), (42, 5), (42, 4), (23, 7), (25, 35), (24, 1), (22, 35), (21, 1), (20, 35), (19, 1)] HH123 := (zi_sR zi_HH122)
theorem zl_HH123 : ZLs [(56, 12)] HH123 := (zl_sR zl_HH122)
theorem MS_HH123 : MS HH123 := by
  unfold MS
  and_intros <;> decide +kernel
theorem XS_HH123 : XS HH123 := by
  unfold XS
  and_intros <;> decide +kernel
def f0 (j : Nat) : Int32 := if j = 35 then 8 else 0
theorem f0_z {j : Nat} (h : j ≠ 35) : f0 j = 0 := if_neg h
theorem f0_FB : FB f0 0 := fun c j hc _ => absurd hc (Nat.not_lt_zero _)
theorem f0_NB : NB f0 := fun j hj => by rw [f0_z (by omega)]; decide
theorem f0_GB : GB f0 0 := fun c hc => absurd hc (Nat.not_lt_zero _)
theorem f0_HB : HB f0 0 := fun c hc => absurd hc (Nat.not_lt_zero _)
theorem f0_ZB : ZB f0 1 := fun j _ hj => ⟨f0_z (by omega), fun c hc => f0_z (by omega)⟩
theorem f0_OF : OF 1 0 f0 := ⟨f0_FB, f0_NB, f0_GB, f0_ZB, f0_HB, ⟨8, by decide, rfl⟩, fun j hj => f0_z (by omega)⟩
theorem f0_of {g : Nat → Int32} (e : g 35 = 8) (z : ∀ j, j ≠ 35 → g j = 0) : g = f0 := by
  funext j
  by_cases q : j = 35
  · rw [q, e]
    rfl
  · rw [z j q, f0_z q]
theorem n22_HH123 {j : Nat} (h : j ≠ 35) : (22, j) ∉ [(81, 10), (81, 8), (80, 35), (79, 1), (78, 35), (77, 1), (42, 12), (42, 11), (42, 5), (42, 4), (23, 7), (25, 35), (24, 1), (22, 35), (21, 1), (20, 35), (19, 1)] := by
  simp
  try omega
theorem n20_HH123 {j : Nat} (h : j ≠ 35) : (20, j) ∉ [(81, 10), (81, 8), (80, 35), (79, 1), (78, 35), (77, 1), (42, 12), (42, 11), (42, 5), (42, 4), (23, 7), (25, 35), (24, 1), (22, 35), (21, 1), (20, 35), (19, 1)] := by
  simp
  try omega
theorem n84_HH123 {j : Nat} : (84, j) ∉ [(81, 10), (81, 8), (80, 35), (79, 1), (78, 35), (77, 1), (42, 12), (42, 11), (42, 5), (42, 4), (23, 7), (25, 35), (24, 1), (22, 35), (21, 1), (20, 35), (19, 1)] := by simp
theorem n86_HH123 {j : Nat} : (86, j) ∉ [(81, 10), (81, 8), (80, 35), (79, 1), (78, 35), (77, 1), (42, 12), (42, 11), (42, 5), (42, 4), (23, 7), (25, 35), (24, 1), (22, 35), (21, 1), (20, 35), (19, 1)] := by simp
theorem g22_HH123 : gI HH123 22 = f0 := f0_of (by decide +kernel) (fun j hj => zi_HH123 22 j (n22_HH123 hj))
theorem g20_HH123 : gI HH123 20 = f0 := f0_of (by decide +kernel) (fun j hj => zi_HH123 20 j (n20_HH123 hj))
theorem Crc21_HH123 : Crc HH123 21 1 0 := ⟨⟨by decide +kernel, by decide +kernel, by decide +kernel, by decide +kernel⟩, by decide +kernel, (zi_HH123 21 2 (by decide)), by decide, by decide, by decide⟩
theorem Crc19_HH123 : Crc HH123 19 1 0 := ⟨⟨by decide +kernel, by decide +kernel, by decide +kernel, by decide +kernel⟩, by decide +kernel, (zi_HH123 19 2 (by decide)), by decide, by decide, by decide⟩
theorem RM_HH123 : RM 0 46 HH123 := ⟨⟨by decide +kernel, by decide +kernel, by decide +kernel, by decide +kernel⟩, ⟨by decide +kernel, by decide +kernel, by decide +kernel, by decide +kernel⟩, ⟨by decide +kernel, by decide +kernel, by decide +kernel, fun z => absurd z (by decide)⟩, (zi_HH123 42 6 (by decide)), Or.inl rfl⟩
theorem KZ_HH123 : KZ f0 1 0 0 0 46 HH123 := ⟨RM_HH123, Or.inl rfl, Or.inl ⟨rfl, rfl⟩, fun y hy => absurd hy (by omega), Or.inl (by decide +kernel)⟩
theorem KA_HH123 : KA f0 1 0 0 0 46 HH123 := ⟨⟨8, by decide, rfl, Or.inl (zi_HH123 50 8 (by decide))⟩, Or.inl (zi_HH123 56 6 (by decide)), Or.inl (zi_HH123 60 5 (by decide)), Or.inl (zi_HH123 65 7 (by decide)), KZ_HH123⟩
theorem X_HH123 : 120 ≤ gX HH123 := by decide +kernel
theorem CN_HH123 : CN f0 1 0 HH123 := ⟨XS_HH123, Crc21_HH123, g22_HH123, f0_FB, f0_NB, f0_GB, f0_ZB, by decide +kernel⟩
theorem JC_HH123 {K : KT} (hK : K.1 = f0) : JC f0 1 0 (fun _ => f0) 0 0 0 K 0 0 0 (fun _ => 0) 0 (-1) (fun _ => none) 0 0 46 HH123 := by
  refine ⟨CN_HH123, X_HH123, (zi_HH123 21 3 (by decide)), KA_HH123, ⟨(zi_HH123 30 4 (by decide)), by decide, (zi_HH123 30 5 (by decide)), (zi_HH123 30 6 (by decide)), by decide, fun k hk => absurd hk (Nat.not_lt_zero _)⟩, ?_, ⟨(zi_HH123 71 6 (by decide)), by decide, fun j hj => absurd hj (Nat.not_lt_zero _)⟩, (zi_HH123 71 7 (by decide)), (zi_HH123 17 1 (by decide)), fun i hi => absurd hi (Nat.not_lt_zero _), (zi_HH123 23 6 (by decide)), by decide +kernel, fun β hβ => ?_⟩
  · rw [hK]
    exact ⟨XS_HH123, Crc19_HH123, g20_HH123, f0_FB, f0_ZB, by decide +kernel⟩
  · match β, hβ with
    | 0, _ => exact (zi_HH123 29 0 (by decide))
    | 1, _ => exact (zi_HH123 29 1 (by decide))
theorem start_JJ {h1 h2 : Hp} (x1 : Fr [83] [15, 16, 19, 20, 21] [] [] HH123 h1) (x2 : Fr [84, 86, 119] [17, 18, 24, 25, 41, 73] [] [] h1 h2) (c83 : ∀ k, k < 44 → gI h1 83 k = if k = 35 then 8 else 0) (e15 : gI h1 81 15 = nI 1) (e16 : gI h1 81 16 = nI 0) (c84 : ∀ k, k < 44 → gI h2 84 k = gI h1 83 k) (c86 : ∀ k, k < 44 → gI h2 86 k = gI h1 83 k) (e17 : gI h2 81 17 = gI h1 81 15) (e18 : gI h2 81 18 = gI h1 81 16) (e24 : gI h2 81 24 = 0) (e25 : gI h2 81 25 = 0) (e73 : gI h2 81 73 = 0) (e41 : gI h2 81 41 = 0) (b0 : gI h2 119 0 = 0) (b1 : gI h2 119 1 = 0) (c44 : ∀ k, 44 ≤ k → gI h2 84 k = gI h1 84 k ∧ gI h2 86 k = gI h1 86 k) : JJ 0 0 h2 := by
  have o : ∀ j, j ∉ [15, 16, 19, 20, 21] → j ∉ [17, 18, 24, 25, 41, 73] → gI h2 81 j = gI HH123 81 j := fun j q1 q2 => by rw [x2.2.1 81 j (by decide) (fun _ => q2), x1.2.1 81 j (by decide) (fun _ => q1)]
  have z84 : ∀ j, 44 ≤ j → gI h2 84 j = 0 := fun j hj => by rw [(c44 j hj).1, x1.2.1 84 j (by decide) (fun e => absurd e (by decide))]; exact zi_HH123 84 j n84_HH123
  have z86 : ∀ j, 44 ≤ j → gI h2 86 j = 0 := fun j hj => by rw [(c44 j hj).2, x1.2.1 86 j (by decide) (fun e => absurd e (by decide))]; exact zi_HH123 86 j n86_HH123
  have e84 : gI h2 84 = f0 := f0_of (by rw [c84 35 (by decide), c83 35 (by decide)]; rfl) (fun j hj => by
    by_cases q : j < 44
    · rw [c84 j q, c83 j q, if_neg hj]
    · exact z84 j (by omega))
  have e86 : gI h2 86 = f0 := f0_of (by rw [c86 35 (by decide), c83 35 (by decide)]; rfl) (fun j hj => by
    by_cases q : j < 44
    · rw [c86 j q, c83 j q, if_neg hj]
    · exact z86 j (by omega))
  have jc := JC_M (JC_M (JC_HH123 (K := kn h2) e84) (fx_M x1 (by decide) (by decide))) (fx_M x2 (by decide) (by decide))
  refine ⟨f0, 1, 0, fun _ => f0, 0, 0, 0, kn h2, 0, 0, 0, fun _ => 0, 0, -1, fun _ => none, 0, 46, Nat.le_refl _, jc, ⟨⟨fr_MS x2 (fr_MS x1 MS_HH123), e17.trans e15, e18.trans e16, by decide, by decide, by decide⟩, e86, Or.inl e41, e24, e25, fun k j hk _ => absurd hk (Nat.not_lt_zero _), ⟨e73, by decide, fun j hj => absurd hj (Nat.not_lt_zero _)⟩, rfl, ?_, ?_, fun i hi => absurd hi (Nat.not_lt_zero _), ?_, ?_, fun β hβ => ?_⟩, f0_OF, rfl, fun k hk => f0_OF, fun β c e => (by cases e), by decide, fun i hi => absurd hi (Nat.not_lt_zero _)⟩
  · rw [o 74 (by decide) (by decide)]
    exact (zi_HH123 81 74 (by decide))
  · rw [o 1 (by decide) (by decide)]
    exact (zi_HH123 81 1 (by decide))
  · rw [o 9 (by decide) (by decide)]
    exact (zi_HH123 81 9 (by decide))
  · rw [o 10 (by decide) (by decide)]
    decide +kernel
  · match β, hβ with
    | 0, _ => exact b0
    | 1, _ => exact b1
set_option maxRecDepth 100000 in
theorem ic_17 {Q : Hp → Prop} (hq : ∀ h2, JJ 0 0 h2 → Q h2) : w_M_init 38 655167 81 HH84 Q := by
  unfold w_M_init
  refine ⟨by decide +kernel, by decide +kernel, 37, 654467, by decide +kernel, by decide +kernel, by decide, by decide +kernel, ?_⟩
  intro a h ea eh
  obtain rfl : a = 82 := ea.trans (by decide +kernel)
  obtain rfl : h = HH85 := eh
  refine ⟨by decide +kernel, by decide +kernel, by decide +kernel, 36, 654423, by decide +kernel, by decide +kernel, by decide, by decide +kernel, ?_⟩
  intro a h ea eh
  obtain rfl : a = 83 := ea.trans (by decide +kernel)
  obtain rfl : h = HH86 := eh
  refine ⟨by decide +kernel, by decide +kernel, by decide +kernel, 35, 654379, by decide +kernel, by decide +kernel, by decide, by decide +kernel, ?_⟩
  intro a h ea eh
  obtain rfl : a = 84 := ea.trans (by decide +kernel)
  obtain rfl : h = HH87 := eh
  refine ⟨by decide +kernel, by decide +kernel, by decide +kernel, 34, 654371, by decide +kernel, by decide +kernel, by decide, by decide +kernel, ?_⟩
  intro a h ea eh
  obtain rfl : a = 85 := ea.trans (by decide +kernel)
  obtain rfl : h = HH88 := eh
  refine ⟨by decide +kernel, by decide +kernel, by decide +kernel, 33, 654327, by decide +kernel, by decide +kernel, by decide, by decide +kernel, ?_⟩
  intro a h ea eh
  obtain rfl : a = 86 := ea.trans (by decide +kernel)
  obtain rfl : h = HH89 := eh
  refine ⟨by decide +kernel, by decide +kernel, by decide +kernel, 32, 653447, by decide +kernel, by decide +kernel, by decide, by decide +kernel, ?_⟩
  intro a h ea eh
  obtain rfl : a = 87 := ea.trans (by decide +kernel)
  obtain rfl : h = HH90 := eh
  refine ⟨by decide +kernel, by decide +kernel, by decide +kernel, 31, 653439, by decide +kernel, by decide +kernel, by decide, by decide +kernel, ?_⟩
  intro a h ea eh
  obtain rfl : a = 88 := ea.trans (by decide +kernel)
  obtain rfl : h = HH91 := eh
  refine ⟨by decide +kernel, by decide +kernel, by decide +kernel, 30, 653431, by decide +kernel, by decide +kernel, by decide, by decide +kernel, ?_⟩
  intro a h ea eh
  obtain rfl : a = 89 := ea.trans (by decide +kernel)
  obtain rfl : h = HH92 := eh
  refine ⟨by decide +kernel, by decide +kernel, by decide +kernel, 29, 646870, by decide +kernel, by decide +kernel, by decide, by decide +kernel, ?_⟩
  intro a h ea eh
  obtain rfl : a = 90 := ea.trans (by decide +kernel)
  obtain rfl : h = HH93 := eh
  refine ⟨by decide +kernel, by decide +kernel, by decide +kernel, 28, 646861, by decide +kernel, by decide +kernel, by decide, by decide +kernel, ?_⟩
  intro a h ea eh
  obtain rfl : a = 91 := ea.trans (by decide +kernel)
  obtain rfl : h = HH94 := eh
  refine ⟨by decide +kernel, by decide +kernel, by decide +kernel, 27, 646858, by decide +kernel, by decide +kernel, by decide, by decide +kernel, ?_⟩
  intro a h ea eh
  obtain rfl : a = 92 := ea.trans (by decide +kernel)
  obtain rfl : h = HH95 := eh
  refine ⟨by decide +kernel, by decide +kernel, by decide +kernel, 26, 520858, by decide +kernel, by decide +kernel, by decide, by decide +kernel, ?_⟩
  intro a h ea eh
  obtain rfl : a = 93 := ea.trans (by decide +kernel)
  obtain rfl : h = HH96 := eh
  refine ⟨by decide +kernel, by decide +kernel, by decide +kernel, 25, 394858, by decide +kernel, by decide +kernel, by decide, by decide +kernel, ?_⟩
  intro a h ea eh
  obtain rfl : a = 94 := ea.trans (by decide +kernel)
  obtain rfl : h = HH97 := eh
  refine ⟨by decide +kernel, by decide +kernel, by decide +kernel, 24, 394843, by decide +kernel, by decide +kernel, by decide, by decide +kernel, ?_⟩
  intro a h ea eh
  obtain rfl : a = 95 := ea.trans (by decide +kernel)
  obtain rfl : h = HH98 := eh
  refine ⟨by decide +kernel, by decide +kernel, by decide +kernel, 23, 132699, by decide +kernel, by decide +kernel, by decide, by decide +kernel, ?_⟩
  intro a h ea eh
  obtain rfl : a = 96 := ea.trans (by decide +kernel)
  obtain rfl : h = HH99 := eh
  refine ⟨by decide +kernel, by decide +kernel, by decide +kernel, 22, 6699, by decide +kernel, by decide +kernel, by decide, by decide +kernel, ?_⟩
  intro a h ea eh
  obtain rfl : a = 97 := ea.trans (by decide +kernel)
  obtain rfl : h = HH100 := eh
  refine ⟨by decide +kernel, by decide +kernel, by decide +kernel, 21, 699, by decide +kernel, by decide +kernel, by decide, by decide +kernel, ?_⟩
  intro a h ea eh
  obtain rfl : a = 98 := ea.trans (by decide +kernel)
  obtain rfl : h = HH101 := eh
  refine ⟨by decide +kernel, by decide +kernel, by decide +kernel, 20, 693, by decide +kernel, by decide +kernel, by decide, by decide +kernel, ?_⟩
  intro a h ea eh
  obtain rfl : a = 99 := ea.trans (by decide +kernel)
  obtain rfl : h = HH102 := eh
  refine ⟨by decide +kernel, by decide +kernel, by decide +kernel, 19, 678, by decide +kernel, by decide +kernel, by decide, by decide +kernel, ?_⟩
  intro a h ea eh
  obtain rfl : a = 100 := ea.trans (by decide +kernel)
  obtain rfl : h = HH103 := eh
  refine ⟨by decide +kernel, by decide +kernel, by decide +kernel, 18, 670, by decide +kernel, by decide +kernel, by decide, by decide +kernel, ?_⟩
  intro a h ea eh
  obtain rfl : a = 101 := ea.trans (by decide +kernel)
  obtain rfl : h = HH104 := eh
  refine ⟨by decide +kernel, by decide +kernel, by decide +kernel, 17, 662, by decide +kernel, by decide +kernel, by decide, by decide +kernel, ?_⟩
  intro a h ea eh
  obtain rfl : a = 102 := ea.trans (by decide +kernel)
  obtain rfl : h = HH105 := eh
  refine ⟨by decide +kernel, by decide +kernel, by decide +kernel, 16, 654, by decide +kernel, by decide +kernel, by decide, by decide +kernel, ?_⟩
  intro a h ea eh
  obtain rfl : a = 103 := ea.trans (by decide +kernel)
  obtain rfl : h = HH106 := eh
  refine ⟨by decide +kernel, by decide +kernel, by decide +kernel, 15, 646, by decide +kernel, by decide +kernel, by decide, by decide +kernel, ?_⟩
  intro a h ea eh
  obtain rfl : a = 104 := ea.trans (by decide +kernel)
  obtain rfl : h = HH107 := eh
  refine ⟨by decide +kernel, by decide +kernel, by decide +kernel, 14, 638, by decide +kernel, by decide +kernel, by decide, by decide +kernel, ?_⟩
  intro a h ea eh
  obtain rfl : a = 105 := ea.trans (by decide +kernel)
  obtain rfl : h = HH108 := eh
  refine ⟨by decide +kernel, by decide +kernel, by decide +kernel, 13, 635, by decide +kernel, by decide +kernel, by decide, by decide +kernel, ?_⟩
  intro a h ea eh
  obtain rfl : a = 106 := ea.trans (by decide +kernel)
  obtain rfl : h = HH109 := eh
  refine ⟨by decide +kernel, by decide +kernel, by decide +kernel, 12, 627, by decide +kernel, by decide +kernel, by decide, by decide +kernel, ?_⟩
  intro a h ea eh
  obtain rfl : a = 107 := ea.trans (by decide +kernel)
  obtain rfl : h = HH110 := eh
  refine ⟨by decide +kernel, by decide +kernel, by decide +kernel, 11, 619, by decide +kernel, by decide +kernel, by decide, by decide +kernel, ?_⟩
  intro a h ea eh
  obtain rfl : a = 108 := ea.trans (by decide +kernel)
  obtain rfl : h = HH111 := eh
  refine ⟨by decide +kernel, by decide +kernel, by decide +kernel, 10, 611, by decide +kernel, by decide +kernel, by decide, by decide +kernel, ?_⟩
  intro a h ea eh
  obtain rfl : a = 109 := ea.trans (by decide +kernel)
  obtain rfl : h = HH112 := eh
  refine ⟨by decide +kernel, by decide +kernel, by decide +kernel, 9, 608, by decide +kernel, by decide +kernel, by decide, by decide +kernel, ?_⟩
  intro a h ea eh
  obtain rfl : a = 110 := ea.trans (by decide +kernel)
  obtain rfl : h = HH113 := eh
  refine ⟨by decide +kernel, by decide +kernel, by decide +kernel, 8, 588, by decide +kernel, by decide +kernel, by decide, by decide +kernel, ?_⟩
  intro a h ea eh
  obtain rfl : a = 111 := ea.trans (by decide +kernel)
  obtain rfl : h = HH114 := eh
  refine ⟨by decide +kernel, by decide +kernel, by decide +kernel, 7, 528, by decide +kernel, by decide +kernel, by decide, by decide +kernel, ?_⟩
  intro a h ea eh
  obtain rfl : a = 112 := ea.trans (by decide +kernel)
  obtain rfl : h = HH115 := eh
  refine ⟨by decide +kernel, by decide +kernel, by decide +kernel, 6, 508, by decide +kernel, by decide +kernel, by decide, by decide +kernel, ?_⟩
  intro a h ea eh
  obtain rfl : a = 113 := ea.trans (by decide +kernel)
  obtain rfl : h = HH116 := eh
  refine ⟨by decide +kernel, by decide +kernel, by decide +kernel, 5, 488, by decide +kernel, by decide +kernel, by decide, by decide +kernel, ?_⟩
  intro a h ea eh
  obtain rfl : a = 114 := ea.trans (by decide +kernel)
  obtain rfl : h = HH117 := eh
  refine ⟨by decide +kernel, by decide +kernel, by decide +kernel, 4, 468, by decide +kernel, by decide +kernel, by decide, by decide +kernel, ?_⟩
  intro a h ea eh
  obtain rfl : a = 115 := ea.trans (by decide +kernel)
  obtain rfl : h = HH118 := eh
  refine ⟨by decide +kernel, by decide +kernel, by decide +kernel, 3, 459, by decide +kernel, by decide +kernel, by decide, by decide +kernel, ?_⟩
  intro a h ea eh
  obtain rfl : a = 116 := ea.trans (by decide +kernel)
  obtain rfl : h = HH119 := eh
  refine ⟨by decide +kernel, by decide +kernel, by decide +kernel, 2, 90, by decide +kernel, by decide +kernel, by decide, by decide +kernel, ?_⟩
  intro a h ea eh
  obtain rfl : a = 117 := ea.trans (by decide +kernel)
  obtain rfl : h = HH120 := eh
  refine ⟨by decide +kernel, by decide +kernel, by decide +kernel, 1, 2, by decide +kernel, by decide +kernel, by decide, by decide +kernel, ?_⟩
  intro a h ea eh
  obtain rfl : a = 118 := ea.trans (by decide +kernel)
  obtain rfl : h = HH121 := eh
  refine ⟨by decide +kernel, by decide +kernel, by decide +kernel, 0, 0, by decide +kernel, by decide +kernel, by decide, by decide +kernel, ?_⟩
  intro a h ea eh
  obtain rfl : a = 119 := ea.trans (by decide +kernel)
  obtain rfl : h = HH122 := eh
  refine ⟨by decide +kernel, by decide +kernel, ?_⟩
  refine t_M_begins MS_HH123 (fun h1 x1 c83 e15 e16 _ _ _ => ⟨M_K (fr_MS x1 MS_HH123), t_M_takesOver2 (fr_MS x1 MS_HH123) (fun h2 x2 c84 c86 e17 e18 e24 e25 e73 e41 b0 b1 c44 => hq h2 (start_JJ x1 x2 c83 e15 e16 c84 c86 e17 e18 e24 e25 e73 e41 b0 b1 c44))⟩)
set_option maxRecDepth 100000 in
theorem law_start {L : Nat} {xs : Nat → Int32} {Q : Bool → Hp → Prop} (hq : ∀ h2, JJ 0 0 h2 → ∃ m, w_L_law_L18 L xs Q 16 81 m 0 599896 6641031 h2) : w_L_law L xs 600000 7302250 h00 Q := by
  unfold w_L_law
  refine ⟨by decide +kernel, 599999, 7302235, by decide +kernel, by decide +kernel, ?_⟩
  intro a h ea eh
  obtain rfl : a = 16 := ea.trans (by decide +kernel)
  obtain rfl : h = HH1 := eh
  refine ⟨by decide +kernel, by decide +kernel, by decide +kernel, 599935, 7296277, 64, 5958, by decide +kernel, by decide +kernel, ?_⟩
  refine ic_16 ?_
  refine ⟨by decide +kernel, by decide +kernel, 599934, 7296198, by decide +kernel, by decide +kernel, ?_⟩
  intro a h ea eh
  obtain rfl : a = 81 := ea.trans (by decide +kernel)
  obtain rfl : h = HH84 := eh
  refine ⟨by decide +kernel, by decide +kernel, by decide +kernel, by decide +kernel, 599896, 6641031, 38, 655167, by decide +kernel, by decide +kernel, ?_⟩
  refine ic_17 (fun h2 j => ?_)
  exact hq h2 j
theorem law_ok (L : Nat) (xs : Nat → Int32) (hL : L ≤ 3072) : w_L_law L xs 600000 7302250 h00 (fun r9 _ => r9 = true) := law_start (fun h2 j => ⟨600 + 1, t_law hL (fun _ => rfl) 600 0 0 _ _ h2 (by omega) (by omega) j (by decide) (by decide)⟩)
