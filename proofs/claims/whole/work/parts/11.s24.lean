set_option maxRecDepth 100000 in
set_option maxHeartbeats 4000000 in
theorem s_L_law_B1369 {L : Nat} {xs : Nat → Int32} {d : Nat} (hd : 65 ≤ d + 1) {Q : Bool → Hp → Prop} {QQ : Option AV → Hp → Prop} (hQ : ∀ r9 h9, Q r9 h9 → QQ (some (ai (b2i r9))) h9) {v1 : Nat} {v2 : Nat} {v3 : Int32} {bc : Nat} {bs : Nat} {h : Hp} {k18 : Int32 → Nat → Nat → Hp → Prop} (hk18 : ∀ v3 bc bs h9, k18 v3 bc bs h9 → aW (some (L, xs)) m_L_law (d + 1) 18 [(0, ar 1), (1, ar v1), (2, ar v2), (3, ai v3)] [] h9 bc bs QQ) (hw : w_L_law_B1369 L xs Q k18 v1 v2 v3 bc bs h) : aW (some (L, xs)) m_L_law (d + 1) 1369 [(0, ar 1), (1, ar v1), (2, ar v2), (3, ai v3)] [] h bc bs QQ := by
  unfold w_L_law_B1369 at hw
  refine r_aload_n (j := 1) d_L_law_1369 rfl ?_
  refine r_aload_n (j := 0) d_L_law_1370 rfl ?_
  refine r_iload_n (j := 3) d_L_law_1371 rfl ?_
  refine r_iconst d_L_law_1372 kc_1 ?_
  refine r_iadd d_L_law_1373 ?_
  obtain ⟨q425, hw⟩ := hw
  refine r_sld rfl d_L_law_1374 q425 ?_
  obtain ⟨q428, hw⟩ := hw
  refine r_callV (av := [ai (xs (ix (v3 + (1 : Int32))))]) (rest := []) (ci := 11) d_L_law_1375 mk_X_fits ll_L_182 im_X_fits se_X_fits rfl (nle rfl) rfl rfl (nle rfl) q428 (s_X_fits (by omega) hw (fun r427 h426 hv => ?_))
  replace hw := hv
  clear hv
  show aW (some (L, xs)) m_L_law (d + 1) 1378 [(0, ar 1), (1, ar v1), (2, ar v2), (3, ai v3)] [ai r427] h426 bc bs QQ
  refine r_aload_n (j := 2) d_L_law_1378 rfl ?_
  refine r_aload_n (j := 0) d_L_law_1379 rfl ?_
  refine r_iload_n (j := 3) d_L_law_1380 rfl ?_
  refine r_iconst d_L_law_1381 kc_1 ?_
  refine r_iadd d_L_law_1382 ?_
  obtain ⟨q429, hw⟩ := hw
  refine r_sld rfl d_L_law_1383 q429 ?_
  obtain ⟨q432, hw⟩ := hw
  refine r_callV (av := [ai (xs (ix (v3 + (1 : Int32))))]) (rest := [ai r427]) (ci := 12) d_L_law_1384 mk_M_fits ll_L_185 im_M_fits se_M_fits rfl (nle rfl) rfl rfl (nle rfl) q432 (s_M_fits (by omega) hw (fun r431 h430 hv => ?_))
  replace hw := hv
  clear hv
  show aW (some (L, xs)) m_L_law (d + 1) 1387 [(0, ar 1), (1, ar v1), (2, ar v2), (3, ai v3)] [ai r431, ai r427] h430 bc bs QQ
  refine r_icmp_eq d_L_law_1387 (fun w9 => ?_) (fun w9 => ?_)
  · replace hw := hw.1 w9
    exact s_L_law_B1537 hd hQ hk18 hw
  · replace hw := hw.2 w9
    refine r_iconst d_L_law_1390 kc_0 ?_
    exact r_zreturn d_L_law_1391.1 rfl (Or.inl rfl) (hQ _ _ hw)
set_option maxRecDepth 100000 in
set_option maxHeartbeats 4000000 in
theorem s_L_law_B1392 {L : Nat} {xs : Nat → Int32} {d : Nat} (hd : 65 ≤ d + 1) {Q : Bool → Hp → Prop} {QQ : Option AV → Hp → Prop} (hQ : ∀ r9 h9, Q r9 h9 → QQ (some (ai (b2i r9))) h9) {v1 : Nat} {v2 : Nat} {v3 : Int32} {bc : Nat} {bs : Nat} {h : Hp} {k18 : Int32 → Nat → Nat → Hp → Prop} (hk18 : ∀ v3 bc bs h9, k18 v3 bc bs h9 → aW (some (L, xs)) m_L_law (d + 1) 18 [(0, ar 1), (1, ar v1), (2, ar v2), (3, ai v3)] [] h9 bc bs QQ) (hw : w_L_law_B1392 L xs Q k18 v1 v2 v3 bc bs h) : aW (some (L, xs)) m_L_law (d + 1) 1392 [(0, ar 1), (1, ar v1), (2, ar v2), (3, ai v3)] [] h bc bs QQ := by
  unfold w_L_law_B1392 at hw
  refine r_aload_n (j := 1) d_L_law_1392 rfl ?_
  refine r_aload_n (j := 0) d_L_law_1393 rfl ?_
  refine r_iload_n (j := 3) d_L_law_1394 rfl ?_
  refine r_iconst d_L_law_1395 kc_1 ?_
  refine r_iadd d_L_law_1396 ?_
  obtain ⟨q433, hw⟩ := hw
  refine r_sld rfl d_L_law_1397 q433 ?_
  refine r_aload_n (j := 0) d_L_law_1398 rfl ?_
  refine r_iload_n (j := 3) d_L_law_1399 rfl ?_
  refine r_iconst d_L_law_1400 kc_2 ?_
  refine r_iadd d_L_law_1401 ?_
  obtain ⟨q434, hw⟩ := hw
  refine r_sld rfl d_L_law_1402 q434 ?_
  obtain ⟨q437, hw⟩ := hw
  refine r_callV (av := [ai (xs (ix (v3 + (1 : Int32)))), ai (xs (ix (v3 + (2 : Int32))))]) (rest := []) (ci := 11) d_L_law_1403 mk_X_fit ll_L_186 im_X_fit se_X_fit rfl (nle rfl) rfl rfl (nle rfl) q437 (s_X_fit (by omega) hw (fun r436 h435 hv => ?_))
  replace hw := hv
  clear hv
  show aW (some (L, xs)) m_L_law (d + 1) 1406 [(0, ar 1), (1, ar v1), (2, ar v2), (3, ai v3)] [ai r436] h435 bc bs QQ
  refine r_aload_n (j := 2) d_L_law_1406 rfl ?_
  refine r_aload_n (j := 0) d_L_law_1407 rfl ?_
  refine r_iload_n (j := 3) d_L_law_1408 rfl ?_
  refine r_iconst d_L_law_1409 kc_1 ?_
  refine r_iadd d_L_law_1410 ?_
  obtain ⟨q438, hw⟩ := hw
  refine r_sld rfl d_L_law_1411 q438 ?_
  refine r_aload_n (j := 0) d_L_law_1412 rfl ?_
  refine r_iload_n (j := 3) d_L_law_1413 rfl ?_
  refine r_iconst d_L_law_1414 kc_2 ?_
  refine r_iadd d_L_law_1415 ?_
  obtain ⟨q439, hw⟩ := hw
  refine r_sld rfl d_L_law_1416 q439 ?_
  obtain ⟨q442, hw⟩ := hw
  refine r_callV (av := [ai (xs (ix (v3 + (1 : Int32)))), ai (xs (ix (v3 + (2 : Int32))))]) (rest := [ai r436]) (ci := 12) d_L_law_1417 mk_M_fit ll_L_189 im_M_fit se_M_fit rfl (nle rfl) rfl rfl (nle rfl) q442 (s_M_fit (by omega) hw (fun r441 h440 hv => ?_))
  replace hw := hv
  clear hv
  show aW (some (L, xs)) m_L_law (d + 1) 1420 [(0, ar 1), (1, ar v1), (2, ar v2), (3, ai v3)] [ai r441, ai r436] h440 bc bs QQ
  refine r_icmp_eq d_L_law_1420 (fun w9 => ?_) (fun w9 => ?_)
  · replace hw := hw.1 w9
    exact s_L_law_B1537 hd hQ hk18 hw
  · replace hw := hw.2 w9
    refine r_iconst d_L_law_1423 kc_0 ?_
    exact r_zreturn d_L_law_1424.1 rfl (Or.inl rfl) (hQ _ _ hw)
set_option maxRecDepth 100000 in
set_option maxHeartbeats 4000000 in
theorem s_L_law_B1425 {L : Nat} {xs : Nat → Int32} {d : Nat} (hd : 65 ≤ d + 1) {Q : Bool → Hp → Prop} {QQ : Option AV → Hp → Prop} (hQ : ∀ r9 h9, Q r9 h9 → QQ (some (ai (b2i r9))) h9) {v1 : Nat} {v2 : Nat} {v3 : Int32} {bc : Nat} {bs : Nat} {h : Hp} {k18 : Int32 → Nat → Nat → Hp → Prop} (hk18 : ∀ v3 bc bs h9, k18 v3 bc bs h9 → aW (some (L, xs)) m_L_law (d + 1) 18 [(0, ar 1), (1, ar v1), (2, ar v2), (3, ai v3)] [] h9 bc bs QQ) (hw : w_L_law_B1425 L xs Q k18 v1 v2 v3 bc bs h) : aW (some (L, xs)) m_L_law (d + 1) 1425 [(0, ar 1), (1, ar v1), (2, ar v2), (3, ai v3)] [] h bc bs QQ := by
  unfold w_L_law_B1425 at hw
  refine r_aload_n (j := 1) d_L_law_1425 rfl ?_
  refine r_aload_n (j := 0) d_L_law_1426 rfl ?_
  refine r_iload_n (j := 3) d_L_law_1427 rfl ?_
  refine r_iconst d_L_law_1428 kc_1 ?_
  refine r_iadd d_L_law_1429 ?_
  obtain ⟨q443, hw⟩ := hw
  refine r_sld rfl d_L_law_1430 q443 ?_
  refine r_aload_n (j := 0) d_L_law_1431 rfl ?_
  refine r_iload_n (j := 3) d_L_law_1432 rfl ?_
  refine r_iconst d_L_law_1433 kc_2 ?_
  refine r_iadd d_L_law_1434 ?_
  obtain ⟨q444, hw⟩ := hw
  refine r_sld rfl d_L_law_1435 q444 ?_
  refine r_aload_n (j := 0) d_L_law_1436 rfl ?_
  refine r_iload_n (j := 3) d_L_law_1437 rfl ?_
  refine r_iconst d_L_law_1438 kc_3 ?_
  refine r_iadd d_L_law_1439 ?_
  obtain ⟨q445, hw⟩ := hw
  refine r_sld rfl d_L_law_1440 q445 ?_
  obtain ⟨q448, hw⟩ := hw
  refine r_callV (av := [ai (xs (ix (v3 + (1 : Int32)))), ai (xs (ix (v3 + (2 : Int32)))), ai (xs (ix (v3 + (3 : Int32))))]) (rest := []) (ci := 11) d_L_law_1441 mk_X_ask ll_L_190 im_X_ask se_X_ask rfl (nle rfl) rfl rfl (nle rfl) q448 (s_X_ask (by omega) hw (fun r447 h446 hv => ?_))
  replace hw := hv
  clear hv
  show aW (some (L, xs)) m_L_law (d + 1) 1444 [(0, ar 1), (1, ar v1), (2, ar v2), (3, ai v3)] [ai r447] h446 bc bs QQ
  refine r_aload_n (j := 2) d_L_law_1444 rfl ?_
  refine r_aload_n (j := 0) d_L_law_1445 rfl ?_
  refine r_iload_n (j := 3) d_L_law_1446 rfl ?_
  refine r_iconst d_L_law_1447 kc_1 ?_
  refine r_iadd d_L_law_1448 ?_
  obtain ⟨q449, hw⟩ := hw
  refine r_sld rfl d_L_law_1449 q449 ?_
  refine r_aload_n (j := 0) d_L_law_1450 rfl ?_
  refine r_iload_n (j := 3) d_L_law_1451 rfl ?_
  refine r_iconst d_L_law_1452 kc_2 ?_
  refine r_iadd d_L_law_1453 ?_
  obtain ⟨q450, hw⟩ := hw
  refine r_sld rfl d_L_law_1454 q450 ?_
  refine r_aload_n (j := 0) d_L_law_1455 rfl ?_
  refine r_iload_n (j := 3) d_L_law_1456 rfl ?_
  refine r_iconst d_L_law_1457 kc_3 ?_
  refine r_iadd d_L_law_1458 ?_
  obtain ⟨q451, hw⟩ := hw
  refine r_sld rfl d_L_law_1459 q451 ?_
  obtain ⟨q454, hw⟩ := hw
  refine r_callV (av := [ai (xs (ix (v3 + (1 : Int32)))), ai (xs (ix (v3 + (2 : Int32)))), ai (xs (ix (v3 + (3 : Int32))))]) (rest := [ai r447]) (ci := 12) d_L_law_1460 mk_M_ask ll_L_193 im_M_ask se_M_ask rfl (nle rfl) rfl rfl (nle rfl) q454 (s_M_ask (by omega) hw (fun r453 h452 hv => ?_))
  replace hw := hv
  clear hv
  show aW (some (L, xs)) m_L_law (d + 1) 1463 [(0, ar 1), (1, ar v1), (2, ar v2), (3, ai v3)] [ai r453, ai r447] h452 bc bs QQ
  refine r_icmp_eq d_L_law_1463 (fun w9 => ?_) (fun w9 => ?_)
  · replace hw := hw.1 w9
    exact s_L_law_B1537 hd hQ hk18 hw
  · replace hw := hw.2 w9
    refine r_iconst d_L_law_1466 kc_0 ?_
    exact r_zreturn d_L_law_1467.1 rfl (Or.inl rfl) (hQ _ _ hw)
set_option maxRecDepth 100000 in
set_option maxHeartbeats 4000000 in
theorem s_L_law_B1468 {L : Nat} {xs : Nat → Int32} {d : Nat} (hd : 65 ≤ d + 1) {Q : Bool → Hp → Prop} {QQ : Option AV → Hp → Prop} (hQ : ∀ r9 h9, Q r9 h9 → QQ (some (ai (b2i r9))) h9) {v1 : Nat} {v2 : Nat} {v3 : Int32} {bc : Nat} {bs : Nat} {h : Hp} {k18 : Int32 → Nat → Nat → Hp → Prop} (hk18 : ∀ v3 bc bs h9, k18 v3 bc bs h9 → aW (some (L, xs)) m_L_law (d + 1) 18 [(0, ar 1), (1, ar v1), (2, ar v2), (3, ai v3)] [] h9 bc bs QQ) (hw : w_L_law_B1468 L xs Q k18 v1 v2 v3 bc bs h) : aW (some (L, xs)) m_L_law (d + 1) 1468 [(0, ar 1), (1, ar v1), (2, ar v2), (3, ai v3)] [] h bc bs QQ := by
  unfold w_L_law_B1468 at hw
  refine r_aload_n (j := 1) d_L_law_1468 rfl ?_
  refine r_aload_n (j := 0) d_L_law_1469 rfl ?_
  refine r_iload_n (j := 3) d_L_law_1470 rfl ?_
  refine r_iconst d_L_law_1471 kc_1 ?_
  refine r_iadd d_L_law_1472 ?_
  obtain ⟨q455, hw⟩ := hw
  refine r_sld rfl d_L_law_1473 q455 ?_
  obtain ⟨q458, hw⟩ := hw
  refine r_callV (av := [ai (xs (ix (v3 + (1 : Int32))))]) (rest := []) (ci := 11) d_L_law_1474 mk_X_image ll_L_194 im_X_image se_X_image rfl (nle rfl) rfl rfl (nle rfl) q458 (s_X_image (by omega) hw (fun r457 h456 hv => ?_))
  replace hw := hv
  clear hv
  show aW (some (L, xs)) m_L_law (d + 1) 1477 [(0, ar 1), (1, ar v1), (2, ar v2), (3, ai v3)] [ai r457] h456 bc bs QQ
  refine r_aload_n (j := 2) d_L_law_1477 rfl ?_
  refine r_aload_n (j := 0) d_L_law_1478 rfl ?_
  refine r_iload_n (j := 3) d_L_law_1479 rfl ?_
  refine r_iconst d_L_law_1480 kc_1 ?_
  refine r_iadd d_L_law_1481 ?_
  obtain ⟨q459, hw⟩ := hw
  refine r_sld rfl d_L_law_1482 q459 ?_
  obtain ⟨q462, hw⟩ := hw
  refine r_callV (av := [ai (xs (ix (v3 + (1 : Int32))))]) (rest := [ai r457]) (ci := 12) d_L_law_1483 mk_M_image ll_L_197 im_M_image se_M_image rfl (nle rfl) rfl rfl (nle rfl) q462 (s_M_image (by omega) hw (fun r461 h460 hv => ?_))
  replace hw := hv
  clear hv
  show aW (some (L, xs)) m_L_law (d + 1) 1486 [(0, ar 1), (1, ar v1), (2, ar v2), (3, ai v3)] [ai r461, ai r457] h460 bc bs QQ
  refine r_icmp_eq d_L_law_1486 (fun w9 => ?_) (fun w9 => ?_)
  · replace hw := hw.1 w9
    exact s_L_law_B1537 hd hQ hk18 hw
  · replace hw := hw.2 w9
    refine r_iconst d_L_law_1489 kc_0 ?_
    exact r_zreturn d_L_law_1490.1 rfl (Or.inl rfl) (hQ _ _ hw)
set_option maxRecDepth 100000 in
set_option maxHeartbeats 4000000 in
theorem s_L_law_B1491 {L : Nat} {xs : Nat → Int32} {d : Nat} (hd : 65 ≤ d + 1) {Q : Bool → Hp → Prop} {QQ : Option AV → Hp → Prop} (hQ : ∀ r9 h9, Q r9 h9 → QQ (some (ai (b2i r9))) h9) {v1 : Nat} {v2 : Nat} {v3 : Int32} {bc : Nat} {bs : Nat} {h : Hp} {k18 : Int32 → Nat → Nat → Hp → Prop} (hk18 : ∀ v3 bc bs h9, k18 v3 bc bs h9 → aW (some (L, xs)) m_L_law (d + 1) 18 [(0, ar 1), (1, ar v1), (2, ar v2), (3, ai v3)] [] h9 bc bs QQ) (hw : w_L_law_B1491 L xs Q k18 v1 v2 v3 bc bs h) : aW (some (L, xs)) m_L_law (d + 1) 1491 [(0, ar 1), (1, ar v1), (2, ar v2), (3, ai v3)] [] h bc bs QQ := by
  unfold w_L_law_B1491 at hw
  refine r_aload_n (j := 1) d_L_law_1491 rfl ?_
  refine r_aload_n (j := 0) d_L_law_1492 rfl ?_
  refine r_iload_n (j := 3) d_L_law_1493 rfl ?_
  refine r_iconst d_L_law_1494 kc_1 ?_
  refine r_iadd d_L_law_1495 ?_
  obtain ⟨q463, hw⟩ := hw
  refine r_sld rfl d_L_law_1496 q463 ?_
  obtain ⟨q466, hw⟩ := hw
  refine r_callV (av := [ai (xs (ix (v3 + (1 : Int32))))]) (rest := []) (ci := 11) d_L_law_1497 mk_X_back ll_L_198 im_X_back se_X_back rfl (nle rfl) rfl rfl (nle rfl) q466 (s_X_back (by omega) hw (fun r465 h464 hv => ?_))
  replace hw := hv
  clear hv
  show aW (some (L, xs)) m_L_law (d + 1) 1500 [(0, ar 1), (1, ar v1), (2, ar v2), (3, ai v3)] [ai r465] h464 bc bs QQ
  refine r_aload_n (j := 2) d_L_law_1500 rfl ?_
  refine r_aload_n (j := 0) d_L_law_1501 rfl ?_
  refine r_iload_n (j := 3) d_L_law_1502 rfl ?_
  refine r_iconst d_L_law_1503 kc_1 ?_
  refine r_iadd d_L_law_1504 ?_
  obtain ⟨q467, hw⟩ := hw
  refine r_sld rfl d_L_law_1505 q467 ?_
  obtain ⟨q470, hw⟩ := hw
  refine r_callV (av := [ai (xs (ix (v3 + (1 : Int32))))]) (rest := [ai r465]) (ci := 12) d_L_law_1506 mk_M_back ll_L_201 im_M_back se_M_back rfl (nle rfl) rfl rfl (nle rfl) q470 (s_M_back (by omega) hw (fun r469 h468 hv => ?_))
  replace hw := hv
  clear hv
  show aW (some (L, xs)) m_L_law (d + 1) 1509 [(0, ar 1), (1, ar v1), (2, ar v2), (3, ai v3)] [ai r469, ai r465] h468 bc bs QQ
  refine r_icmp_eq d_L_law_1509 (fun w9 => ?_) (fun w9 => ?_)
  · replace hw := hw.1 w9
    exact s_L_law_B1537 hd hQ hk18 hw
  · replace hw := hw.2 w9
    refine r_iconst d_L_law_1512 kc_0 ?_
    exact r_zreturn d_L_law_1513.1 rfl (Or.inl rfl) (hQ _ _ hw)
set_option maxRecDepth 100000 in
set_option maxHeartbeats 4000000 in
theorem s_L_law_B1514 {L : Nat} {xs : Nat → Int32} {d : Nat} (hd : 65 ≤ d + 1) {Q : Bool → Hp → Prop} {QQ : Option AV → Hp → Prop} (hQ : ∀ r9 h9, Q r9 h9 → QQ (some (ai (b2i r9))) h9) {v1 : Nat} {v2 : Nat} {v3 : Int32} {bc : Nat} {bs : Nat} {h : Hp} {k18 : Int32 → Nat → Nat → Hp → Prop} (hk18 : ∀ v3 bc bs h9, k18 v3 bc bs h9 → aW (some (L, xs)) m_L_law (d + 1) 18 [(0, ar 1), (1, ar v1), (2, ar v2), (3, ai v3)] [] h9 bc bs QQ) (hw : w_L_law_B1514 L xs Q k18 v1 v2 v3 bc bs h) : aW (some (L, xs)) m_L_law (d + 1) 1514 [(0, ar 1), (1, ar v1), (2, ar v2), (3, ai v3)] [] h bc bs QQ := by
  unfold w_L_law_B1514 at hw
  refine r_aload_n (j := 1) d_L_law_1514 rfl ?_
  refine r_aload_n (j := 0) d_L_law_1515 rfl ?_
  refine r_iload_n (j := 3) d_L_law_1516 rfl ?_
  refine r_iconst d_L_law_1517 kc_1 ?_
  refine r_iadd d_L_law_1518 ?_
  obtain ⟨q471, hw⟩ := hw
  refine r_sld rfl d_L_law_1519 q471 ?_
  obtain ⟨q474, hw⟩ := hw
  refine r_callV (av := [ai (xs (ix (v3 + (1 : Int32))))]) (rest := []) (ci := 11) d_L_law_1520 mk_X_about ll_L_202 im_X_about se_X_about rfl (nle rfl) rfl rfl (nle rfl) q474 (s_X_about (by omega) hw (fun r473 h472 hv => ?_))
  replace hw := hv
  clear hv
  show aW (some (L, xs)) m_L_law (d + 1) 1523 [(0, ar 1), (1, ar v1), (2, ar v2), (3, ai v3)] [ai r473] h472 bc bs QQ
  refine r_aload_n (j := 2) d_L_law_1523 rfl ?_
  refine r_aload_n (j := 0) d_L_law_1524 rfl ?_
  refine r_iload_n (j := 3) d_L_law_1525 rfl ?_
  refine r_iconst d_L_law_1526 kc_1 ?_
  refine r_iadd d_L_law_1527 ?_
  obtain ⟨q475, hw⟩ := hw
  refine r_sld rfl d_L_law_1528 q475 ?_
  obtain ⟨q478, hw⟩ := hw
  refine r_callV (av := [ai (xs (ix (v3 + (1 : Int32))))]) (rest := [ai r473]) (ci := 12) d_L_law_1529 mk_M_about ll_L_205 im_M_about se_M_about rfl (nle rfl) rfl rfl (nle rfl) q478 (s_M_about (by omega) hw (fun r477 h476 hv => ?_))
  replace hw := hv
  clear hv
  show aW (some (L, xs)) m_L_law (d + 1) 1532 [(0, ar 1), (1, ar v1), (2, ar v2), (3, ai v3)] [ai r477, ai r473] h476 bc bs QQ
  refine r_icmp_eq d_L_law_1532 (fun w9 => ?_) (fun w9 => ?_)
  · replace hw := hw.1 w9
    exact s_L_law_B1537 hd hQ hk18 hw
  · replace hw := hw.2 w9
    refine r_iconst d_L_law_1535 kc_0 ?_
    exact r_zreturn d_L_law_1536.1 rfl (Or.inl rfl) (hQ _ _ hw)
set_option maxRecDepth 100000 in
set_option maxHeartbeats 4000000 in
theorem s_L_law_L18 {L : Nat} {xs : Nat → Int32} {d : Nat} (hd : 65 ≤ d + 1) {Q : Bool → Hp → Prop} {QQ : Option AV → Hp → Prop} (hQ : ∀ r9 h9, Q r9 h9 → QQ (some (ai (b2i r9))) h9) {v1 : Nat} {v2 : Nat} : ∀ (n : Nat) (v3 : Int32) (bc : Nat) (bs : Nat) (h : Hp), w_L_law_L18 L xs Q  v1 v2 n v3 bc bs h → aW (some (L, xs)) m_L_law (d + 1) 18 [(0, ar 1), (1, ar v1), (2, ar v2), (3, ai v3)] [] h bc bs QQ := by
  intro n
  induction n with
  | zero => intro v3 bc bs h hw; exact hw.elim
  | succ n ih =>
    intro v3 bc bs h hw
    unfold w_L_law_L18 at hw
    refine r_iload_n (j := 3) d_L_law_18 rfl ?_
    refine r_aload_n (j := 0) d_L_law_19 rfl ?_
    refine r_slen rfl d_L_law_20 ?_
    refine r_bipush d_L_law_21 kb_6 ?_
    refine r_isub d_L_law_23 ?_
    refine r_icmp_gt d_L_law_24 (fun w9 => ?_) (fun w9 => ?_)
    · replace hw := hw.1 w9
      refine r_iconst d_L_law_1543 kc_1 ?_
      exact r_zreturn d_L_law_1544.1 rfl (Or.inr rfl) (hQ _ _ hw)
    · replace hw := hw.2 w9
      refine r_aload_n (j := 0) d_L_law_27 rfl ?_
      refine r_iload_n (j := 3) d_L_law_28 rfl ?_
      obtain ⟨q29, hw⟩ := hw
      refine r_sld rfl d_L_law_29 q29 ?_
      refine r_bipush d_L_law_30 kb_63 ?_
      refine r_iand d_L_law_32 ?_
      by_cases o9 : ((xs (ix v3)) &&& (63 : Int32)).toInt < 0 ∨ 45 < ((xs (ix v3)) &&& (63 : Int32)).toInt
      · refine r_tabOut (tgt := 1537) d_L_law_33 o9 (by decide) ?_
        replace hw := hw.1 o9
        exact s_L_law_B1537 hd hQ ih hw
      · have o8 : ((xs (ix v3)) &&& (63 : Int32)).toInt = 0 ∨ ((xs (ix v3)) &&& (63 : Int32)).toInt = 1 ∨ ((xs (ix v3)) &&& (63 : Int32)).toInt = 2 ∨ ((xs (ix v3)) &&& (63 : Int32)).toInt = 3 ∨ ((xs (ix v3)) &&& (63 : Int32)).toInt = 4 ∨ ((xs (ix v3)) &&& (63 : Int32)).toInt = 5 ∨ ((xs (ix v3)) &&& (63 : Int32)).toInt = 6 ∨ ((xs (ix v3)) &&& (63 : Int32)).toInt = 7 ∨ ((xs (ix v3)) &&& (63 : Int32)).toInt = 8 ∨ ((xs (ix v3)) &&& (63 : Int32)).toInt = 9 ∨ ((xs (ix v3)) &&& (63 : Int32)).toInt = 10 ∨ ((xs (ix v3)) &&& (63 : Int32)).toInt = 11 ∨ ((xs (ix v3)) &&& (63 : Int32)).toInt = 12 ∨ ((xs (ix v3)) &&& (63 : Int32)).toInt = 13 ∨ ((xs (ix v3)) &&& (63 : Int32)).toInt = 14 ∨ ((xs (ix v3)) &&& (63 : Int32)).toInt = 15 ∨ ((xs (ix v3)) &&& (63 : Int32)).toInt = 16 ∨ ((xs (ix v3)) &&& (63 : Int32)).toInt = 17 ∨ ((xs (ix v3)) &&& (63 : Int32)).toInt = 18 ∨ ((xs (ix v3)) &&& (63 : Int32)).toInt = 19 ∨ ((xs (ix v3)) &&& (63 : Int32)).toInt = 20 ∨ ((xs (ix v3)) &&& (63 : Int32)).toInt = 21 ∨ ((xs (ix v3)) &&& (63 : Int32)).toInt = 22 ∨ ((xs (ix v3)) &&& (63 : Int32)).toInt = 23 ∨ ((xs (ix v3)) &&& (63 : Int32)).toInt = 24 ∨ ((xs (ix v3)) &&& (63 : Int32)).toInt = 25 ∨ ((xs (ix v3)) &&& (63 : Int32)).toInt = 26 ∨ ((xs (ix v3)) &&& (63 : Int32)).toInt = 27 ∨ ((xs (ix v3)) &&& (63 : Int32)).toInt = 28 ∨ ((xs (ix v3)) &&& (63 : Int32)).toInt = 29 ∨ ((xs (ix v3)) &&& (63 : Int32)).toInt = 30 ∨ ((xs (ix v3)) &&& (63 : Int32)).toInt = 31 ∨ ((xs (ix v3)) &&& (63 : Int32)).toInt = 32 ∨ ((xs (ix v3)) &&& (63 : Int32)).toInt = 33 ∨ ((xs (ix v3)) &&& (63 : Int32)).toInt = 34 ∨ ((xs (ix v3)) &&& (63 : Int32)).toInt = 35 ∨ ((xs (ix v3)) &&& (63 : Int32)).toInt = 36 ∨ ((xs (ix v3)) &&& (63 : Int32)).toInt = 37 ∨ ((xs (ix v3)) &&& (63 : Int32)).toInt = 38 ∨ ((xs (ix v3)) &&& (63 : Int32)).toInt = 39 ∨ ((xs (ix v3)) &&& (63 : Int32)).toInt = 40 ∨ ((xs (ix v3)) &&& (63 : Int32)).toInt = 41 ∨ ((xs (ix v3)) &&& (63 : Int32)).toInt = 42 ∨ ((xs (ix v3)) &&& (63 : Int32)).toInt = 43 ∨ ((xs (ix v3)) &&& (63 : Int32)).toInt = 44 ∨ ((xs (ix v3)) &&& (63 : Int32)).toInt = 45 := by omega
        replace hw := hw.2
        rcases o8 with o8 | o8 | o8 | o8 | o8 | o8 | o8 | o8 | o8 | o8 | o8 | o8 | o8 | o8 | o8 | o8 | o8 | o8 | o8 | o8 | o8 | o8 | o8 | o8 | o8 | o8 | o8 | o8 | o8 | o8 | o8 | o8 | o8 | o8 | o8 | o8 | o8 | o8 | o8 | o8 | o8 | o8 | o8 | o8 | o8 | o8
        · refine r_tabIn (off := 199) (tgt := 232) d_L_law_33 (by omega) (by omega) (by rw [o8]; rfl) (by decide) ?_
          replace hw := hw.1 o8
          exact s_L_law_B232 hd hQ ih hw
        · refine r_tabIn (off := 262) (tgt := 295) d_L_law_33 (by omega) (by omega) (by rw [o8]; rfl) (by decide) ?_
          replace hw := hw.2.1 o8
          exact s_L_law_B295 hd hQ ih hw
        · refine r_tabIn (off := 285) (tgt := 318) d_L_law_33 (by omega) (by omega) (by rw [o8]; rfl) (by decide) ?_
          replace hw := hw.2.2.1 o8
          exact s_L_law_B318 hd hQ ih hw
        · refine r_tabIn (off := 298) (tgt := 331) d_L_law_33 (by omega) (by omega) (by rw [o8]; rfl) (by decide) ?_
          replace hw := hw.2.2.2.1 o8
          exact s_L_law_B331 hd hQ ih hw
        · refine r_tabIn (off := 321) (tgt := 354) d_L_law_33 (by omega) (by omega) (by rw [o8]; rfl) (by decide) ?_
          replace hw := hw.2.2.2.2.1 o8
          exact s_L_law_B354 hd hQ ih hw
        · refine r_tabIn (off := 354) (tgt := 387) d_L_law_33 (by omega) (by omega) (by rw [o8]; rfl) (by decide) ?_
          replace hw := hw.2.2.2.2.2.1 o8
          exact s_L_law_B387 hd hQ ih hw
        · refine r_tabIn (off := 377) (tgt := 410) d_L_law_33 (by omega) (by omega) (by rw [o8]; rfl) (by decide) ?_
          replace hw := hw.2.2.2.2.2.2.1 o8
          exact s_L_law_B410 hd hQ ih hw
        · refine r_tabIn (off := 400) (tgt := 433) d_L_law_33 (by omega) (by omega) (by rw [o8]; rfl) (by decide) ?_
          replace hw := hw.2.2.2.2.2.2.2.1 o8
          exact s_L_law_B433 hd hQ ih hw
        · refine r_tabIn (off := 443) (tgt := 476) d_L_law_33 (by omega) (by omega) (by rw [o8]; rfl) (by decide) ?_
          replace hw := hw.2.2.2.2.2.2.2.2.1 o8
          exact s_L_law_B476 hd hQ ih hw
        · refine r_tabIn (off := 476) (tgt := 509) d_L_law_33 (by omega) (by omega) (by rw [o8]; rfl) (by decide) ?_
          replace hw := hw.2.2.2.2.2.2.2.2.2.1 o8
          exact s_L_law_B509 hd hQ ih hw
        · refine r_tabIn (off := 509) (tgt := 542) d_L_law_33 (by omega) (by omega) (by rw [o8]; rfl) (by decide) ?_
          replace hw := hw.2.2.2.2.2.2.2.2.2.2.1 o8
          exact s_L_law_B542 hd hQ ih hw
        · refine r_tabIn (off := 532) (tgt := 565) d_L_law_33 (by omega) (by omega) (by rw [o8]; rfl) (by decide) ?_
          replace hw := hw.2.2.2.2.2.2.2.2.2.2.2.1 o8
          exact s_L_law_B565 hd hQ ih hw
        · refine r_tabIn (off := 565) (tgt := 598) d_L_law_33 (by omega) (by omega) (by rw [o8]; rfl) (by decide) ?_
          replace hw := hw.2.2.2.2.2.2.2.2.2.2.2.2.1 o8
          exact s_L_law_B598 hd hQ ih hw
        · refine r_tabIn (off := 588) (tgt := 621) d_L_law_33 (by omega) (by omega) (by rw [o8]; rfl) (by decide) ?_
          replace hw := hw.2.2.2.2.2.2.2.2.2.2.2.2.2.1 o8
          exact s_L_law_B621 hd hQ ih hw
        · refine r_tabIn (off := 601) (tgt := 634) d_L_law_33 (by omega) (by omega) (by rw [o8]; rfl) (by decide) ?_
          replace hw := hw.2.2.2.2.2.2.2.2.2.2.2.2.2.2.1 o8
          exact s_L_law_B634 hd hQ ih hw
        · refine r_tabIn (off := 614) (tgt := 647) d_L_law_33 (by omega) (by omega) (by rw [o8]; rfl) (by decide) ?_
          replace hw := hw.2.2.2.2.2.2.2.2.2.2.2.2.2.2.2.1 o8
          exact s_L_law_B647 hd hQ ih hw
        · refine r_tabIn (off := 637) (tgt := 670) d_L_law_33 (by omega) (by omega) (by rw [o8]; rfl) (by decide) ?_
          replace hw := hw.2.2.2.2.2.2.2.2.2.2.2.2.2.2.2.2.1 o8
          exact s_L_law_B670 hd hQ ih hw
        · refine r_tabIn (off := 660) (tgt := 693) d_L_law_33 (by omega) (by omega) (by rw [o8]; rfl) (by decide) ?_
          replace hw := hw.2.2.2.2.2.2.2.2.2.2.2.2.2.2.2.2.2.1 o8
          exact s_L_law_B693 hd hQ ih hw
        · refine r_tabIn (off := 693) (tgt := 726) d_L_law_33 (by omega) (by omega) (by rw [o8]; rfl) (by decide) ?_
          replace hw := hw.2.2.2.2.2.2.2.2.2.2.2.2.2.2.2.2.2.2.1 o8
          exact s_L_law_B726 hd hQ ih hw
        · refine r_tabIn (off := 736) (tgt := 769) d_L_law_33 (by omega) (by omega) (by rw [o8]; rfl) (by decide) ?_
          replace hw := hw.2.2.2.2.2.2.2.2.2.2.2.2.2.2.2.2.2.2.2.1 o8
          exact s_L_law_B769 hd hQ ih hw
        · refine r_tabIn (off := 770) (tgt := 803) d_L_law_33 (by omega) (by omega) (by rw [o8]; rfl) (by decide) ?_
          replace hw := hw.2.2.2.2.2.2.2.2.2.2.2.2.2.2.2.2.2.2.2.2.1 o8
          exact s_L_law_B803 hd hQ ih hw
        · refine r_tabIn (off := 803) (tgt := 836) d_L_law_33 (by omega) (by omega) (by rw [o8]; rfl) (by decide) ?_
          replace hw := hw.2.2.2.2.2.2.2.2.2.2.2.2.2.2.2.2.2.2.2.2.2.1 o8
          exact s_L_law_B836 hd hQ ih hw
        · refine r_tabIn (off := 846) (tgt := 879) d_L_law_33 (by omega) (by omega) (by rw [o8]; rfl) (by decide) ?_
          replace hw := hw.2.2.2.2.2.2.2.2.2.2.2.2.2.2.2.2.2.2.2.2.2.2.1 o8
          exact s_L_law_B879 hd hQ ih hw
        · refine r_tabIn (off := 869) (tgt := 902) d_L_law_33 (by omega) (by omega) (by rw [o8]; rfl) (by decide) ?_
          replace hw := hw.2.2.2.2.2.2.2.2.2.2.2.2.2.2.2.2.2.2.2.2.2.2.2.1 o8
          exact s_L_law_B902 hd hQ ih hw
        · refine r_tabIn (off := 882) (tgt := 915) d_L_law_33 (by omega) (by omega) (by rw [o8]; rfl) (by decide) ?_
          replace hw := hw.2.2.2.2.2.2.2.2.2.2.2.2.2.2.2.2.2.2.2.2.2.2.2.2.1 o8
          exact s_L_law_B915 hd hQ ih hw
        · refine r_tabIn (off := 905) (tgt := 938) d_L_law_33 (by omega) (by omega) (by rw [o8]; rfl) (by decide) ?_
          replace hw := hw.2.2.2.2.2.2.2.2.2.2.2.2.2.2.2.2.2.2.2.2.2.2.2.2.2.1 o8
          exact s_L_law_B938 hd hQ ih hw
        · refine r_tabIn (off := 928) (tgt := 961) d_L_law_33 (by omega) (by omega) (by rw [o8]; rfl) (by decide) ?_
          replace hw := hw.2.2.2.2.2.2.2.2.2.2.2.2.2.2.2.2.2.2.2.2.2.2.2.2.2.2.1 o8
          exact s_L_law_B961 hd hQ ih hw
        · refine r_tabIn (off := 951) (tgt := 984) d_L_law_33 (by omega) (by omega) (by rw [o8]; rfl) (by decide) ?_
          replace hw := hw.2.2.2.2.2.2.2.2.2.2.2.2.2.2.2.2.2.2.2.2.2.2.2.2.2.2.2.1 o8
          exact s_L_law_B984 hd hQ ih hw
        · refine r_tabIn (off := 974) (tgt := 1007) d_L_law_33 (by omega) (by omega) (by rw [o8]; rfl) (by decide) ?_
          replace hw := hw.2.2.2.2.2.2.2.2.2.2.2.2.2.2.2.2.2.2.2.2.2.2.2.2.2.2.2.2.1 o8
          exact s_L_law_B1007 hd hQ ih hw
        · refine r_tabIn (off := 987) (tgt := 1020) d_L_law_33 (by omega) (by omega) (by rw [o8]; rfl) (by decide) ?_
          replace hw := hw.2.2.2.2.2.2.2.2.2.2.2.2.2.2.2.2.2.2.2.2.2.2.2.2.2.2.2.2.2.1 o8
          exact s_L_law_B1020 hd hQ ih hw
        · refine r_tabIn (off := 1000) (tgt := 1033) d_L_law_33 (by omega) (by omega) (by rw [o8]; rfl) (by decide) ?_
          replace hw := hw.2.2.2.2.2.2.2.2.2.2.2.2.2.2.2.2.2.2.2.2.2.2.2.2.2.2.2.2.2.2.1 o8
          exact s_L_law_B1033 hd hQ ih hw
        · refine r_tabIn (off := 1043) (tgt := 1076) d_L_law_33 (by omega) (by omega) (by rw [o8]; rfl) (by decide) ?_
          replace hw := hw.2.2.2.2.2.2.2.2.2.2.2.2.2.2.2.2.2.2.2.2.2.2.2.2.2.2.2.2.2.2.2.1 o8
          exact s_L_law_B1076 hd hQ ih hw
        · refine r_tabIn (off := 1066) (tgt := 1099) d_L_law_33 (by omega) (by omega) (by rw [o8]; rfl) (by decide) ?_
          replace hw := hw.2.2.2.2.2.2.2.2.2.2.2.2.2.2.2.2.2.2.2.2.2.2.2.2.2.2.2.2.2.2.2.2.1 o8
          exact s_L_law_B1099 hd hQ ih hw
        · refine r_tabIn (off := 1099) (tgt := 1132) d_L_law_33 (by omega) (by omega) (by rw [o8]; rfl) (by decide) ?_
          replace hw := hw.2.2.2.2.2.2.2.2.2.2.2.2.2.2.2.2.2.2.2.2.2.2.2.2.2.2.2.2.2.2.2.2.2.1 o8
          exact s_L_law_B1132 hd hQ ih hw
        · refine r_tabIn (off := 1122) (tgt := 1155) d_L_law_33 (by omega) (by omega) (by rw [o8]; rfl) (by decide) ?_
          replace hw := hw.2.2.2.2.2.2.2.2.2.2.2.2.2.2.2.2.2.2.2.2.2.2.2.2.2.2.2.2.2.2.2.2.2.2.1 o8
          exact s_L_law_B1155 hd hQ ih hw
        · refine r_tabIn (off := 1135) (tgt := 1168) d_L_law_33 (by omega) (by omega) (by rw [o8]; rfl) (by decide) ?_
          replace hw := hw.2.2.2.2.2.2.2.2.2.2.2.2.2.2.2.2.2.2.2.2.2.2.2.2.2.2.2.2.2.2.2.2.2.2.2.1 o8
          exact s_L_law_B1168 hd hQ ih hw
        · refine r_tabIn (off := 1178) (tgt := 1211) d_L_law_33 (by omega) (by omega) (by rw [o8]; rfl) (by decide) ?_
          replace hw := hw.2.2.2.2.2.2.2.2.2.2.2.2.2.2.2.2.2.2.2.2.2.2.2.2.2.2.2.2.2.2.2.2.2.2.2.2.1 o8
          exact s_L_law_B1211 hd hQ ih hw
        · refine r_tabIn (off := 1211) (tgt := 1244) d_L_law_33 (by omega) (by omega) (by rw [o8]; rfl) (by decide) ?_
          replace hw := hw.2.2.2.2.2.2.2.2.2.2.2.2.2.2.2.2.2.2.2.2.2.2.2.2.2.2.2.2.2.2.2.2.2.2.2.2.2.1 o8
          exact s_L_law_B1244 hd hQ ih hw
        · refine r_tabIn (off := 1290) (tgt := 1323) d_L_law_33 (by omega) (by omega) (by rw [o8]; rfl) (by decide) ?_
          replace hw := hw.2.2.2.2.2.2.2.2.2.2.2.2.2.2.2.2.2.2.2.2.2.2.2.2.2.2.2.2.2.2.2.2.2.2.2.2.2.2.1 o8
          exact s_L_law_B1323 hd hQ ih hw
        · refine r_tabIn (off := 1313) (tgt := 1346) d_L_law_33 (by omega) (by omega) (by rw [o8]; rfl) (by decide) ?_
          replace hw := hw.2.2.2.2.2.2.2.2.2.2.2.2.2.2.2.2.2.2.2.2.2.2.2.2.2.2.2.2.2.2.2.2.2.2.2.2.2.2.2.1 o8
          exact s_L_law_B1346 hd hQ ih hw
        · refine r_tabIn (off := 1336) (tgt := 1369) d_L_law_33 (by omega) (by omega) (by rw [o8]; rfl) (by decide) ?_
          replace hw := hw.2.2.2.2.2.2.2.2.2.2.2.2.2.2.2.2.2.2.2.2.2.2.2.2.2.2.2.2.2.2.2.2.2.2.2.2.2.2.2.2.1 o8
          exact s_L_law_B1369 hd hQ ih hw
        · refine r_tabIn (off := 1359) (tgt := 1392) d_L_law_33 (by omega) (by omega) (by rw [o8]; rfl) (by decide) ?_
          replace hw := hw.2.2.2.2.2.2.2.2.2.2.2.2.2.2.2.2.2.2.2.2.2.2.2.2.2.2.2.2.2.2.2.2.2.2.2.2.2.2.2.2.2.1 o8
          exact s_L_law_B1392 hd hQ ih hw
        · refine r_tabIn (off := 1392) (tgt := 1425) d_L_law_33 (by omega) (by omega) (by rw [o8]; rfl) (by decide) ?_
          replace hw := hw.2.2.2.2.2.2.2.2.2.2.2.2.2.2.2.2.2.2.2.2.2.2.2.2.2.2.2.2.2.2.2.2.2.2.2.2.2.2.2.2.2.2.1 o8
          exact s_L_law_B1425 hd hQ ih hw
        · refine r_tabIn (off := 1435) (tgt := 1468) d_L_law_33 (by omega) (by omega) (by rw [o8]; rfl) (by decide) ?_
          replace hw := hw.2.2.2.2.2.2.2.2.2.2.2.2.2.2.2.2.2.2.2.2.2.2.2.2.2.2.2.2.2.2.2.2.2.2.2.2.2.2.2.2.2.2.2.1 o8
          exact s_L_law_B1468 hd hQ ih hw
        · refine r_tabIn (off := 1458) (tgt := 1491) d_L_law_33 (by omega) (by omega) (by rw [o8]; rfl) (by decide) ?_
          replace hw := hw.2.2.2.2.2.2.2.2.2.2.2.2.2.2.2.2.2.2.2.2.2.2.2.2.2.2.2.2.2.2.2.2.2.2.2.2.2.2.2.2.2.2.2.2.1 o8
          exact s_L_law_B1491 hd hQ ih hw
        · refine r_tabIn (off := 1481) (tgt := 1514) d_L_law_33 (by omega) (by omega) (by rw [o8]; rfl) (by decide) ?_
          replace hw := hw.2.2.2.2.2.2.2.2.2.2.2.2.2.2.2.2.2.2.2.2.2.2.2.2.2.2.2.2.2.2.2.2.2.2.2.2.2.2.2.2.2.2.2.2.2 o8
          exact s_L_law_B1514 hd hQ ih hw
