set_option maxRecDepth 100000 in
set_option maxHeartbeats 4000000 in
theorem s_L_law_L18 {L : Nat} {xs : Nat → Int32} {d : Nat} (hd : 65 ≤ d + 1) {Q : Bool → Hp → Prop} {QQ : Option AV → Hp → Prop} (hQ : ∀ r9 h9, Q r9 h9 → QQ (some (ai (b2i r9))) h9) {v1 : Nat} {v2 : Nat} : ∀ (n : Nat) (v3 : Int32) (bc : Nat) (bs : Nat) (h : Hp), w_L_law_L18 L xs Q  v1 v2 n v3 bc bs h → aW (some (L, xs)) m_L_law (d + 1) 18 [(0, ar 1), (1, ar v1), (2, ar v2), (3, ai v3)] [] h bc bs QQ := by
  intro n
  induction n with
  | zero => intro v3 bc bs h hw; exact hw.elim
  | succ n ih =>
    intro v3 bc bs h hw
    unfold w_L_law_L18 at hw
    refine r_iload_n (j := 3) d_L_law_18 rfl ?_
    refine r_aload_n (j := 0) d_L_law_19 rfl ?_
    refine r_slen rfl d_L_law_20 ?_
    refine r_bipush d_L_law_21 kb_6 ?_
    refine r_isub d_L_law_23 ?_
    refine r_icmp_gt d_L_law_24 (fun w9 => ?_) (fun w9 => ?_)
    · replace hw := hw.1 w9
      refine r_iconst d_L_law_1543 kc_1 ?_
      exact r_zreturn d_L_law_1544.1 rfl (Or.inr rfl) (hQ _ _ hw)
    · replace hw := hw.2 w9
      refine r_aload_n (j := 0) d_L_law_27 rfl ?_
      refine r_iload_n (j := 3) d_L_law_28 rfl ?_
      obtain ⟨q29, hw⟩ := hw
      refine r_sld rfl d_L_law_29 q29 ?_
      refine r_bipush d_L_law_30 kb_63 ?_
      refine r_iand d_L_law_32 ?_
      by_cases o9 : ((xs (ix v3)) &&& (63 : Int32)).toInt < 0 ∨ 45 < ((xs (ix v3)) &&& (63 : Int32)).toInt
      · refine r_tabOut (tgt := 1537) d_L_law_33 o9 (by decide) ?_
        replace hw := hw.1 o9
        exact s_L_law_B1537 hd hQ ih hw
      · have o8 : ((xs (ix v3)) &&& (63 : Int32)).toInt = 0 ∨ ((xs (ix v3)) &&& (63 : Int32)).toInt = 1 ∨ ((xs (ix v3)) &&& (63 : Int32)).toInt = 2 ∨ ((xs (ix v3)) &&& (63 : Int32)).toInt = 3 ∨ ((xs (ix v3)) &&& (63 : Int32)).toInt = 4 ∨ ((xs (ix v3)) &&& (63 : Int32)).toInt = 5 ∨ ((xs (ix v3)) &&& (63 : Int32)).toInt = 6 ∨ ((xs (ix v3)) &&& (63 : Int32)).toInt = 7 ∨ ((xs (ix v3)) &&& (63 : Int32)).toInt = 8 ∨ ((xs (ix v3)) &&& (63 : Int32)).toInt = 9 ∨ ((xs (ix v3)) &&& (63 : Int32)).toInt = 10 ∨ ((xs (ix v3)) &&& (63 : Int32)).toInt = 11 ∨ ((xs (ix v3)) &&& (63 : Int32)).toInt = 12 ∨ ((xs (ix v3)) &&& (63 : Int32)).toInt = 13 ∨ ((xs (ix v3)) &&& (63 : Int32)).toInt = 14 ∨ ((xs (ix v3)) &&& (63 : Int32)).toInt = 15 ∨ ((xs (ix v3)) &&& (63 : Int32)).toInt = 16 ∨ ((xs (ix v3)) &&& (63 : Int32)).toInt = 17 ∨ ((xs (ix v3)) &&& (63 : Int32)).toInt = 18 ∨ ((xs (ix v3)) &&& (63 : Int32)).toInt = 19 ∨ ((xs (ix v3)) &&& (63 : Int32)).toInt = 20 ∨ ((xs (ix v3)) &&& (63 : Int32)).toInt = 21 ∨ ((xs (ix v3)) &&& (63 : Int32)).toInt = 22 ∨ ((xs (ix v3)) &&& (63 : Int32)).toInt = 23 ∨ ((xs (ix v3)) &&& (63 : Int32)).toInt = 24 ∨ ((xs (ix v3)) &&& (63 : Int32)).toInt = 25 ∨ ((xs (ix v3)) &&& (63 : Int32)).toInt = 26 ∨ ((xs (ix v3)) &&& (63 : Int32)).toInt = 27 ∨ ((xs (ix v3)) &&& (63 : Int32)).toInt = 28 ∨ ((xs (ix v3)) &&& (63 : Int32)).toInt = 29 ∨ ((xs (ix v3)) &&& (63 : Int32)).toInt = 30 ∨ ((xs (ix v3)) &&& (63 : Int32)).toInt = 31 ∨ ((xs (ix v3)) &&& (63 : Int32)).toInt = 32 ∨ ((xs (ix v3)) &&& (63 : Int32)).toInt = 33 ∨ ((xs (ix v3)) &&& (63 : Int32)).toInt = 34 ∨ ((xs (ix v3)) &&& (63 : Int32)).toInt = 35 ∨ ((xs (ix v3)) &&& (63 : Int32)).toInt = 36 ∨ ((xs (ix v3)) &&& (63 : Int32)).toInt = 37 ∨ ((xs (ix v3)) &&& (63 : Int32)).toInt = 38 ∨ ((xs (ix v3)) &&& (63 : Int32)).toInt = 39 ∨ ((xs (ix v3)) &&& (63 : Int32)).toInt = 40 ∨ ((xs (ix v3)) &&& (63 : Int32)).toInt = 41 ∨ ((xs (ix v3)) &&& (63 : Int32)).toInt = 42 ∨ ((xs (ix v3)) &&& (63 : Int32)).toInt = 43 ∨ ((xs (ix v3)) &&& (63 : Int32)).toInt = 44 ∨ ((xs (ix v3)) &&& (63 : Int32)).toInt = 45 := by omega
        replace hw := hw.2
        rcases o8 with o8 | o8 | o8 | o8 | o8 | o8 | o8 | o8 | o8 | o8 | o8 | o8 | o8 | o8 | o8 | o8 | o8 | o8 | o8 | o8 | o8 | o8 | o8 | o8 | o8 | o8 | o8 | o8 | o8 | o8 | o8 | o8 | o8 | o8 | o8 | o8 | o8 | o8 | o8 | o8 | o8 | o8 | o8 | o8 | o8 | o8
        · refine r_tabIn (off := 199) (tgt := 232) d_L_law_33 (by omega) (by omega) (by rw [o8]; rfl) (by decide) ?_
          replace hw := hw.1 o8
          exact s_L_law_B232 hd hQ ih hw
        · refine r_tabIn (off := 262) (tgt := 295) d_L_law_33 (by omega) (by omega) (by rw [o8]; rfl) (by decide) ?_
          replace hw := hw.2.1 o8
          exact s_L_law_B295 hd hQ ih hw
        · refine r_tabIn (off := 285) (tgt := 318) d_L_law_33 (by omega) (by omega) (by rw [o8]; rfl) (by decide) ?_
          replace hw := hw.2.2.1 o8
          exact s_L_law_B318 hd hQ ih hw
        · refine r_tabIn (off := 298) (tgt := 331) d_L_law_33 (by omega) (by omega) (by rw [o8]; rfl) (by decide) ?_
          replace hw := hw.2.2.2.1 o8
          exact s_L_law_B331 hd hQ ih hw
        · refine r_tabIn (off := 321) (tgt := 354) d_L_law_33 (by omega) (by omega) (by rw [o8]; rfl) (by decide) ?_
          replace hw := hw.2.2.2.2.1 o8
          exact s_L_law_B354 hd hQ ih hw
        · refine r_tabIn (off := 354) (tgt := 387) d_L_law_33 (by omega) (by omega) (by rw [o8]; rfl) (by decide) ?_
          replace hw := hw.2.2.2.2.2.1 o8
          exact s_L_law_B387 hd hQ ih hw
        · refine r_tabIn (off := 377) (tgt := 410) d_L_law_33 (by omega) (by omega) (by rw [o8]; rfl) (by decide) ?_
          replace hw := hw.2.2.2.2.2.2.1 o8
          exact s_L_law_B410 hd hQ ih hw
        · refine r_tabIn (off := 400) (tgt := 433) d_L_law_33 (by omega) (by omega) (by rw [o8]; rfl) (by decide) ?_
          replace hw := hw.2.2.2.2.2.2.2.1 o8
          exact s_L_law_B433 hd hQ ih hw
        · refine r_tabIn (off := 443) (tgt := 476) d_L_law_33 (by omega) (by omega) (by rw [o8]; rfl) (by decide) ?_
          replace hw := hw.2.2.2.2.2.2.2.2.1 o8
          exact s_L_law_B476 hd hQ ih hw
        · refine r_tabIn (off := 476) (tgt := 509) d_L_law_33 (by omega) (by omega) (by rw [o8]; rfl) (by decide) ?_
          replace hw := hw.2.2.2.2.2.2.2.2.2.1 o8
          exact s_L_law_B509 hd hQ ih hw
        · refine r_tabIn (off := 509) (tgt := 542) d_L_law_33 (by omega) (by omega) (by rw [o8]; rfl) (by decide) ?_
          replace hw := hw.2.2.2.2.2.2.2.2.2.2.1 o8
          exact s_L_law_B542 hd hQ ih hw
        · refine r_tabIn (off := 532) (tgt := 565) d_L_law_33 (by omega) (by omega) (by rw [o8]; rfl) (by decide) ?_
          replace hw := hw.2.2.2.2.2.2.2.2.2.2.2.1 o8
          exact s_L_law_B565 hd hQ ih hw
        · refine r_tabIn (off := 565) (tgt := 598) d_L_law_33 (by omega) (by omega) (by rw [o8]; rfl) (by decide) ?_
          replace hw := hw.2.2.2.2.2.2.2.2.2.2.2.2.1 o8
          exact s_L_law_B598 hd hQ ih hw
        · refine r_tabIn (off := 588) (tgt := 621) d_L_law_33 (by omega) (by omega) (by rw [o8]; rfl) (by decide) ?_
          replace hw := hw.2.2.2.2.2.2.2.2.2.2.2.2.2.1 o8
          exact s_L_law_B621 hd hQ ih hw
        · refine r_tabIn (off := 601) (tgt := 634) d_L_law_33 (by omega) (by omega) (by rw [o8]; rfl) (by decide) ?_
          replace hw := hw.2.2.2.2.2.2.2.2.2.2.2.2.2.2.1 o8
          exact s_L_law_B634 hd hQ ih hw
        · refine r_tabIn (off := 614) (tgt := 647) d_L_law_33 (by omega) (by omega) (by rw [o8]; rfl) (by decide) ?_
          replace hw := hw.2.2.2.2.2.2.2.2.2.2.2.2.2.2.2.1 o8
          exact s_L_law_B647 hd hQ ih hw
        · refine r_tabIn (off := 637) (tgt := 670) d_L_law_33 (by omega) (by omega) (by rw [o8]; rfl) (by decide) ?_
          replace hw := hw.2.2.2.2.2.2.2.2.2.2.2.2.2.2.2.2.1 o8
          exact s_L_law_B670 hd hQ ih hw
        · refine r_tabIn (off := 660) (tgt := 693) d_L_law_33 (by omega) (by omega) (by rw [o8]; rfl) (by decide) ?_
          replace hw := hw.2.2.2.2.2.2.2.2.2.2.2.2.2.2.2.2.2.1 o8
          exact s_L_law_B693 hd hQ ih hw
        · refine r_tabIn (off := 693) (tgt := 726) d_L_law_33 (by omega) (by omega) (by rw [o8]; rfl) (by decide) ?_
          replace hw := hw.2.2.2.2.2.2.2.2.2.2.2.2.2.2.2.2.2.2.1 o8
          exact s_L_law_B726 hd hQ ih hw
        · refine r_tabIn (off := 736) (tgt := 769) d_L_law_33 (by omega) (by omega) (by rw [o8]; rfl) (by decide) ?_
          replace hw := hw.2.2.2.2.2.2.2.2.2.2.2.2.2.2.2.2.2.2.2.1 o8
          exact s_L_law_B769 hd hQ ih hw
        · refine r_tabIn (off := 770) (tgt := 803) d_L_law_33 (by omega) (by omega) (by rw [o8]; rfl) (by decide) ?_
          replace hw := hw.2.2.2.2.2.2.2.2.2.2.2.2.2.2.2.2.2.2.2.2.1 o8
          exact s_L_law_B803 hd hQ ih hw
        · refine r_tabIn (off := 803) (tgt := 836) d_L_law_33 (by omega) (by omega) (by rw [o8]; rfl) (by decide) ?_
          replace hw := hw.2.2.2.2.2.2.2.2.2.2.2.2.2.2.2.2.2.2.2.2.2.1 o8
          exact s_L_law_B836 hd hQ ih hw
        · refine r_tabIn (off := 846) (tgt := 879) d_L_law_33 (by omega) (by omega) (by rw [o8]; rfl) (by decide) ?_
          replace hw := hw.2.2.2.2.2.2.2.2.2.2.2.2.2.2.2.2.2.2.2.2.2.2.1 o8
          exact s_L_law_B879 hd hQ ih hw
        · refine r_tabIn (off := 869) (tgt := 902) d_L_law_33 (by omega) (by omega) (by rw [o8]; rfl) (by decide) ?_
          replace hw := hw.2.2.2.2.2.2.2.2.2.2.2.2.2.2.2.2.2.2.2.2.2.2.2.1 o8
          exact s_L_law_B902 hd hQ ih hw
        · refine r_tabIn (off := 882) (tgt := 915) d_L_law_33 (by omega) (by omega) (by rw [o8]; rfl) (by decide) ?_
          replace hw := hw.2.2.2.2.2.2.2.2.2.2.2.2.2.2.2.2.2.2.2.2.2.2.2.2.1 o8
          exact s_L_law_B915 hd hQ ih hw
        · refine r_tabIn (off := 905) (tgt := 938) d_L_law_33 (by omega) (by omega) (by rw [o8]; rfl) (by decide) ?_
          replace hw := hw.2.2.2.2.2.2.2.2.2.2.2.2.2.2.2.2.2.2.2.2.2.2.2.2.2.1 o8
          exact s_L_law_B938 hd hQ ih hw
        · refine r_tabIn (off := 928) (tgt := 961) d_L_law_33 (by omega) (by omega) (by rw [o8]; rfl) (by decide) ?_
          replace hw := hw.2.2.2.2.2.2.2.2.2.2.2.2.2.2.2.2.2.2.2.2.2.2.2.2.2.2.1 o8
          exact s_L_law_B961 hd hQ ih hw
        · refine r_tabIn (off := 951) (tgt := 984) d_L_law_33 (by omega) (by omega) (by rw [o8]; rfl) (by decide) ?_
          replace hw := hw.2.2.2.2.2.2.2.2.2.2.2.2.2.2.2.2.2.2.2.2.2.2.2.2.2.2.2.1 o8
          exact s_L_law_B984 hd hQ ih hw
        · refine r_tabIn (off := 974) (tgt := 1007) d_L_law_33 (by omega) (by omega) (by rw [o8]; rfl) (by decide) ?_
          replace hw := hw.2.2.2.2.2.2.2.2.2.2.2.2.2.2.2.2.2.2.2.2.2.2.2.2.2.2.2.2.1 o8
          exact s_L_law_B1007 hd hQ ih hw
        · refine r_tabIn (off := 987) (tgt := 1020) d_L_law_33 (by omega) (by omega) (by rw [o8]; rfl) (by decide) ?_
          replace hw := hw.2.2.2.2.2.2.2.2.2.2.2.2.2.2.2.2.2.2.2.2.2.2.2.2.2.2.2.2.2.1 o8
          exact s_L_law_B1020 hd hQ ih hw
        · refine r_tabIn (off := 1000) (tgt := 1033) d_L_law_33 (by omega) (by omega) (by rw [o8]; rfl) (by decide) ?_
          replace hw := hw.2.2.2.2.2.2.2.2.2.2.2.2.2.2.2.2.2.2.2.2.2.2.2.2.2.2.2.2.2.2.1 o8
          exact s_L_law_B1033 hd hQ ih hw
        · refine r_tabIn (off := 1043) (tgt := 1076) d_L_law_33 (by omega) (by omega) (by rw [o8]; rfl) (by decide) ?_
          replace hw := hw.2.2.2.2.2.2.2.2.2.2.2.2.2.2.2.2.2.2.2.2.2.2.2.2.2.2.2.2.2.2.2.1 o8
          exact s_L_law_B1076 hd hQ ih hw
        · refine r_tabIn (off := 1066) (tgt := 1099) d_L_law_33 (by omega) (by omega) (by rw [o8]; rfl) (by decide) ?_
          replace hw := hw.2.2.2.2.2.2.2.2.2.2.2.2.2.2.2.2.2.2.2.2.2.2.2.2.2.2.2.2.2.2.2.2.1 o8
          exact s_L_law_B1099 hd hQ ih hw
        · refine r_tabIn (off := 1099) (tgt := 1132) d_L_law_33 (by omega) (by omega) (by rw [o8]; rfl) (by decide) ?_
          replace hw := hw.2.2.2.2.2.2.2.2.2.2.2.2.2.2.2.2.2.2.2.2.2.2.2.2.2.2.2.2.2.2.2.2.2.1 o8
          exact s_L_law_B1132 hd hQ ih hw
        · refine r_tabIn (off := 1122) (tgt := 1155) d_L_law_33 (by omega) (by omega) (by rw [o8]; rfl) (by decide) ?_
          replace hw := hw.2.2.2.2.2.2.2.2.2.2.2.2.2.2.2.2.2.2.2.2.2.2.2.2.2.2.2.2.2.2.2.2.2.2.1 o8
          exact s_L_law_B1155 hd hQ ih hw
        · refine r_tabIn (off := 1135) (tgt := 1168) d_L_law_33 (by omega) (by omega) (by rw [o8]; rfl) (by decide) ?_
          replace hw := hw.2.2.2.2.2.2.2.2.2.2.2.2.2.2.2.2.2.2.2.2.2.2.2.2.2.2.2.2.2.2.2.2.2.2.2.1 o8
          exact s_L_law_B1168 hd hQ ih hw
        · refine r_tabIn (off := 1178) (tgt := 1211) d_L_law_33 (by omega) (by omega) (by rw [o8]; rfl) (by decide) ?_
          replace hw := hw.2.2.2.2.2.2.2.2.2.2.2.2.2.2.2.2.2.2.2.2.2.2.2.2.2.2.2.2.2.2.2.2.2.2.2.2.1 o8
          exact s_L_law_B1211 hd hQ ih hw
        · refine r_tabIn (off := 1211) (tgt := 1244) d_L_law_33 (by omega) (by omega) (by rw [o8]; rfl) (by decide) ?_
          replace hw := hw.2.2.2.2.2.2.2.2.2.2.2.2.2.2.2.2.2.2.2.2.2.2.2.2.2.2.2.2.2.2.2.2.2.2.2.2.2.1 o8
          exact s_L_law_B1244 hd hQ ih hw
        · refine r_tabIn (off := 1290) (tgt := 1323) d_L_law_33 (by omega) (by omega) (by rw [o8]; rfl) (by decide) ?_
          replace hw := hw.2.2.2.2.2.2.2.2.2.2.2.2.2.2.2.2.2.2.2.2.2.2.2.2.2.2.2.2.2.2.2.2.2.2.2.2.2.2.1 o8
          exact s_L_law_B1323 hd hQ ih hw
        · refine r_tabIn (off := 1313) (tgt := 1346) d_L_law_33 (by omega) (by omega) (by rw [o8]; rfl) (by decide) ?_
          replace hw := hw.2.2.2.2.2.2.2.2.2.2.2.2.2.2.2.2.2.2.2.2.2.2.2.2.2.2.2.2.2.2.2.2.2.2.2.2.2.2.2.1 o8
          exact s_L_law_B1346 hd hQ ih hw
        · refine r_tabIn (off := 1336) (tgt := 1369) d_L_law_33 (by omega) (by omega) (by rw [o8]; rfl) (by decide) ?_
          replace hw := hw.2.2.2.2.2.2.2.2.2.2.2.2.2.2.2.2.2.2.2.2.2.2.2.2.2.2.2.2.2.2.2.2.2.2.2.2.2.2.2.2.1 o8
          exact s_L_law_B1369 hd hQ ih hw
        · refine r_tabIn (off := 1359) (tgt := 1392) d_L_law_33 (by omega) (by omega) (by rw [o8]; rfl) (by decide) ?_
          replace hw := hw.2.2.2.2.2.2.2.2.2.2.2.2.2.2.2.2.2.2.2.2.2.2.2.2.2.2.2.2.2.2.2.2.2.2.2.2.2.2.2.2.2.1 o8
          exact s_L_law_B1392 hd hQ ih hw
        · refine r_tabIn (off := 1392) (tgt := 1425) d_L_law_33 (by omega) (by omega) (by rw [o8]; rfl) (by decide) ?_
          replace hw := hw.2.2.2.2.2.2.2.2.2.2.2.2.2.2.2.2.2.2.2.2.2.2.2.2.2.2.2.2.2.2.2.2.2.2.2.2.2.2.2.2.2.2.1 o8
          exact s_L_law_B1425 hd hQ ih hw
        · refine r_tabIn (off := 1435) (tgt := 1468) d_L_law_33 (by omega) (by omega) (by rw [o8]; rfl) (by decide) ?_
          replace hw := hw.2.2.2.2.2.2.2.2.2.2.2.2.2.2.2.2.2.2.2.2.2.2.2.2.2.2.2.2.2.2.2.2.2.2.2.2.2.2.2.2.2.2.2.1 o8
          exact s_L_law_B1468 hd hQ ih hw
        · refine r_tabIn (off := 1458) (tgt := 1491) d_L_law_33 (by omega) (by omega) (by rw [o8]; rfl) (by decide) ?_
          replace hw := hw.2.2.2.2.2.2.2.2.2.2.2.2.2.2.2.2.2.2.2.2.2.2.2.2.2.2.2.2.2.2.2.2.2.2.2.2.2.2.2.2.2.2.2.2.1 o8
          exact s_L_law_B1491 hd hQ ih hw
        · refine r_tabIn (off := 1481) (tgt := 1514) d_L_law_33 (by omega) (by omega) (by rw [o8]; rfl) (by decide) ?_
          replace hw := hw.2.2.2.2.2.2.2.2.2.2.2.2.2.2.2.2.2.2.2.2.2.2.2.2.2.2.2.2.2.2.2.2.2.2.2.2.2.2.2.2.2.2.2.2.2 o8
          exact s_L_law_B1514 hd hQ ih hw
