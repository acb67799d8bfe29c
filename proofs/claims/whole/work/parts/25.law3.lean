theorem dL_law__1451 : decode cL_law_ 1451 = .ok (.aload_n 1, 1) := by decide +kernel
theorem dL_law__1452 : decode cL_law_ 1452 = .ok (.aload_n 0, 1) := by decide +kernel
theorem dL_law__1453 : decode cL_law_ 1453 = .ok (.iload 4, 2) := by decide +kernel
theorem dL_law__1455 : decode cL_law_ 1455 = .ok (.iconst 1, 1) := by decide +kernel
theorem dL_law__1456 : decode cL_law_ 1456 = .ok (.iadd, 1) := by decide +kernel
theorem dL_law__1457 : decode cL_law_ 1457 = .ok (.iaload, 1) := by decide +kernel
theorem dL_law__1458 : decode cL_law_ 1458 = .ok (.aload_n 0, 1) := by decide +kernel
theorem dL_law__1459 : decode cL_law_ 1459 = .ok (.iload 4, 2) := by decide +kernel
theorem dL_law__1461 : decode cL_law_ 1461 = .ok (.iconst 2, 1) := by decide +kernel
theorem dL_law__1462 : decode cL_law_ 1462 = .ok (.iadd, 1) := by decide +kernel
theorem dL_law__1463 : decode cL_law_ 1463 = .ok (.iaload, 1) := by decide +kernel
theorem dL_law__1464 : decode cL_law_ 1464 = .ok (.aload_n 0, 1) := by decide +kernel
theorem dL_law__1465 : decode cL_law_ 1465 = .ok (.iload 4, 2) := by decide +kernel
theorem dL_law__1467 : decode cL_law_ 1467 = .ok (.iconst 3, 1) := by decide +kernel
theorem dL_law__1468 : decode cL_law_ 1468 = .ok (.iadd, 1) := by decide +kernel
theorem dL_law__1469 : decode cL_law_ 1469 = .ok (.iaload, 1) := by decide +kernel
theorem dL_law__1470 : decode cL_law_ 1470 = .ok (.aload_n 3, 1) := by decide +kernel
theorem dL_law__1471 : decode cL_law_ 1471 = .ok (.invokestatic 167, 3) := by decide +kernel
theorem dL_law__1474 : decode cL_law_ 1474 = .ok (.istore 5, 2) := by decide +kernel
theorem dL_law__1476 : decode cL_law_ 1476 = .ok (.aload_n 2, 1) := by decide +kernel
theorem dL_law__1477 : decode cL_law_ 1477 = .ok (.aload_n 0, 1) := by decide +kernel
theorem dL_law__1478 : decode cL_law_ 1478 = .ok (.iload 4, 2) := by decide +kernel
theorem dL_law__1480 : decode cL_law_ 1480 = .ok (.iconst 1, 1) := by decide +kernel
theorem dL_law__1481 : decode cL_law_ 1481 = .ok (.iadd, 1) := by decide +kernel
theorem dL_law__1482 : decode cL_law_ 1482 = .ok (.iaload, 1) := by decide +kernel
theorem dL_law__1483 : decode cL_law_ 1483 = .ok (.aload_n 0, 1) := by decide +kernel
theorem dL_law__1484 : decode cL_law_ 1484 = .ok (.iload 4, 2) := by decide +kernel
theorem dL_law__1486 : decode cL_law_ 1486 = .ok (.iconst 2, 1) := by decide +kernel
theorem dL_law__1487 : decode cL_law_ 1487 = .ok (.iadd, 1) := by decide +kernel
theorem dL_law__1488 : decode cL_law_ 1488 = .ok (.iaload, 1) := by decide +kernel
theorem dL_law__1489 : decode cL_law_ 1489 = .ok (.aload_n 0, 1) := by decide +kernel
theorem dL_law__1490 : decode cL_law_ 1490 = .ok (.iload 4, 2) := by decide +kernel
theorem dL_law__1492 : decode cL_law_ 1492 = .ok (.iconst 3, 1) := by decide +kernel
theorem dL_law__1493 : decode cL_law_ 1493 = .ok (.iadd, 1) := by decide +kernel
theorem dL_law__1494 : decode cL_law_ 1494 = .ok (.iaload, 1) := by decide +kernel
theorem dL_law__1495 : decode cL_law_ 1495 = .ok (.invokevirtual 169, 3) := by decide +kernel
theorem dL_law__1498 : decode cL_law_ 1498 = .ok (.istore 6, 2) := by decide +kernel
theorem dL_law__1500 : decode cL_law_ 1500 = .ok (.aload_n 2, 1) := by decide +kernel
theorem dL_law__1501 : decode cL_law_ 1501 = .ok (.invokevirtual 104, 3) := by decide +kernel
theorem dL_law__1504 : decode cL_law_ 1504 = .ok (.iload 5, 2) := by decide +kernel
theorem dL_law__1506 : decode cL_law_ 1506 = .ok (.if_icmp .eq 5, 3) := by decide +kernel
theorem dL_law__1509 : decode cL_law_ 1509 = .ok (.iconst 0, 1) := by decide +kernel
theorem dL_law__1510 : decode cL_law_ 1510 = .ok (.ireturn, 1) := by decide +kernel
theorem dL_law__1511 : decode cL_law_ 1511 = .ok (.iload 5, 2) := by decide +kernel
theorem dL_law__1513 : decode cL_law_ 1513 = .ok (.ifCond .ne 15, 3) := by decide +kernel
theorem dL_law__1516 : decode cL_law_ 1516 = .ok (.aload_n 3, 1) := by decide +kernel
theorem dL_law__1517 : decode cL_law_ 1517 = .ok (.iconst 0, 1) := by decide +kernel
theorem dL_law__1518 : decode cL_law_ 1518 = .ok (.laload, 1) := by decide +kernel
theorem dL_law__1519 : decode cL_law_ 1519 = .ok (.iload 6, 2) := by decide +kernel
theorem dL_law__1521 : decode cL_law_ 1521 = .ok (.i2l, 1) := by decide +kernel
theorem dL_law__1522 : decode cL_law_ 1522 = .ok (.lcmp, 1) := by decide +kernel
theorem dL_law__1523 : decode cL_law_ 1523 = .ok (.ifCond .eq 5, 3) := by decide +kernel
theorem dL_law__1526 : decode cL_law_ 1526 = .ok (.iconst 0, 1) := by decide +kernel
theorem dL_law__1527 : decode cL_law_ 1527 = .ok (.ireturn, 1) := by decide +kernel
theorem dL_law__1528 : decode cL_law_ 1528 = .ok (.goto 468, 3) := by decide +kernel
set_option maxRecDepth 100000 in
set_option maxHeartbeats 4000000 in
theorem lc_18 {X : Cg} (cx : Cx X cL_law_ RL 7) (htr : (xL X).stackTraces = false) (hfr : 74 ≤ (xR X).frames) (hlo : 1500 ≤ (xR X).locals) {Q : State → Prop} {b L : Nat} {xs : Nat → Int32} (hX : va_X b L xs (xS X) (xS X).heap) (hbl : b < (xS X).heap.size) (hbA : ¬ xA X b) (ax am ao : Nat) (x4 : Int32) (s1 : Int32) (e1 : xs (x4 + 1).toNatClampNeg = s1) (i1 : vp_in (x4 + 1) L) (s2 : Int32) (e2 : xs (x4 + 2).toNatClampNeg = s2) (i2 : vp_in (x4 + 2) L) (s3 : Int32) (e3 : xs (x4 + 3).toNatClampNeg = s3) (i3 : vp_in (x4 + 3) L) {J' : Hs → Nat → Nat → Prop} (hex : SimB X 7 Q 1996 [(0, va_rf (some b)), (1, va_rf (some ax)), (2, va_rf (some am)), (3, va_rf (some ao)), (4, .int x4)] [] J') : SimB X 7 Q 1451 [(0, va_rf (some b)), (1, va_rf (some ax)), (2, va_rf (some am)), (3, va_rf (some ao)), (4, .int x4)] [] (StepA (xR X) (f_L_value (xZ X) (some ax) s1 s2 s3 (some ao)) (mo 15 (some am) (f_X12_value (some am) s1 s2 s3)) (mo 15 (some am) (f_X12_thrown (some am))) (aL (some ao) 0) Int32.toInt64 J') := by
  refine sb_ofb (fun a9 b9 => ?_)
  refine sm_aload_n cx 1 dL_law__1451 rfl rfl ?_
  refine sm_aload_n cx 0 dL_law__1452 rfl rfl ?_
  refine sm_iload cx 4 dL_law__1453 rfl ?_
  refine sm_iconst (v := 1) cx dL_law__1455 (by decide) ?_
  refine sm_iadd cx dL_law__1456 ?_
  refine sm_sldE cx hX hbl hbA i1 e1 dL_law__1457 ?_
  refine sm_aload_n cx 0 dL_law__1458 rfl rfl ?_
  refine sm_iload cx 4 dL_law__1459 rfl ?_
  refine sm_iconst (v := 2) cx dL_law__1461 (by decide) ?_
  refine sm_iadd cx dL_law__1462 ?_
  refine sm_sldE cx hX hbl hbA i2 e2 dL_law__1463 ?_
  refine sm_aload_n cx 0 dL_law__1464 rfl rfl ?_
  refine sm_iload cx 4 dL_law__1465 rfl ?_
  refine sm_iconst (v := 3) cx dL_law__1467 (by decide) ?_
  refine sm_iadd cx dL_law__1468 ?_
  refine sm_sldE cx hX hbl hbA i3 e3 dL_law__1469 ?_
  refine sm_aload_n cx 3 dL_law__1470 rfl rfl ?_
  refine sb_gob ?_ a9 b9
  refine sb_help (toV := vI) (Ψ := StepM (xR X) (mo 15 (some am) (f_X12_value (some am) s1 s2 s3)) (mo 15 (some am) (f_X12_thrown (some am))) (aL (some ao) 0) Int32.toInt64 J') cx htr [va_rf (some ax), .int s1, .int s2, .int s3, va_rf (some ao)] cw_L_167 (ct_L_value (xZ X) (some ax) s1 s2 s3 (some ao)) (Nat.le_trans (by decide) hfr) (Nat.le_trans (by decide) hlo) rfl (cat_le _ (Nat.le_of_ble_eq_true rfl)) dL_law__1471 (fun _ _ _ hp => hp) (fun v => ?_)
  refine sb_ofb (fun a9 b9 => ?_)
  refine sm_istore cx [(5, .int v), (0, va_rf (some b)), (1, va_rf (some ax)), (2, va_rf (some am)), (3, va_rf (some ao)), (4, .int x4)] dL_law__1474 (by decide) rfl (nc1 rfl) rfl ?_
  refine sm_aload_n cx 3 dL_law__1476 rfl rfl ?_
  refine sm_aload_n cx 1 dL_law__1477 rfl rfl ?_
  refine sm_iload cx 5 dL_law__1478 rfl ?_
  refine sm_iconst (v := 1) cx dL_law__1480 (by decide) ?_
  refine sm_iadd cx dL_law__1481 ?_
  refine sm_sldE cx hX hbl hbA i1 e1 dL_law__1482 ?_
  refine sm_aload_n cx 1 dL_law__1483 rfl rfl ?_
  refine sm_iload cx 5 dL_law__1484 rfl ?_
  refine sm_iconst (v := 2) cx dL_law__1486 (by decide) ?_
  refine sm_iadd cx dL_law__1487 ?_
  refine sm_sldE cx hX hbl hbA i2 e2 dL_law__1488 ?_
  refine sm_aload_n cx 1 dL_law__1489 rfl rfl ?_
  refine sm_iload cx 5 dL_law__1490 rfl ?_
  refine sm_iconst (v := 3) cx dL_law__1492 (by decide) ?_
  refine sm_iadd cx dL_law__1493 ?_
  refine sm_sldE cx hX hbl hbA i3 e3 dL_law__1494 ?_
  refine sb_gob ?_ a9 b9
  refine sb_run (pc' := 1498) (lv' := fun _ => [(5, .int v), (0, va_rf (some b)), (1, va_rf (some ax)), (2, va_rf (some am)), (3, va_rf (some ao)), (4, .int x4)]) (st' := fun w => .int w :: []) (Ψ := fun w => StepT (xR X) (mo 15 (some am) (f_X12_thrown (some am))) (aL (some ao) 0) Int32.toInt64 J' v w) (fun K hK => sm_callV (T := TX12) (N := 47) (toV := vI) cx [.int s1, .int s2, .int s3] rfl cv_L_169_ (fun a h => ct_X12_value (xZ X) a h s1 s2 s3) (Nat.le_trans (by decide) hfr) (Nat.le_trans (by decide) hlo) rfl (cat_le _ (Nat.le_of_ble_eq_true rfl)) dL_law__1495 hK) (fun _ _ _ hp => hp) (fun bb => ?_)
  refine sb_ofb (fun a9 b9 => ?_)
  refine sm_istore cx [(6, .int bb), (5, .int v), (0, va_rf (some b)), (1, va_rf (some ax)), (2, va_rf (some am)), (3, va_rf (some ao)), (4, .int x4)] dL_law__1498 (by decide) rfl (nc1 rfl) rfl ?_
  refine sm_aload_n cx 4 dL_law__1500 rfl rfl ?_
  refine sb_gob ?_ a9 b9
  refine sb_run (pc' := 1504) (lv' := fun _ => [(6, .int bb), (5, .int v), (0, va_rf (some b)), (1, va_rf (some ax)), (2, va_rf (some am)), (3, va_rf (some ao)), (4, .int x4)]) (st' := fun w => .int w :: []) (Ψ := fun w h c n => v = w ∧ StepO (aL (some ao) 0) Int32.toInt64 J' v bb h c n) (fun K hK => sm_callV (T := TX12) (N := 47) (toV := vI) cx [] rfl cv_L_104_ (fun a h => ct_X12_thrown (xZ X) a h) (Nat.le_trans (by decide) hfr) (Nat.le_trans (by decide) hlo) rfl (cat_le _ (Nat.le_of_ble_eq_true rfl)) dL_law__1501 hK) (fun _ _ _ hp => by obtain ⟨h1, c1, n1, q1, q2, q3, q4⟩ := hp; exact ⟨v, h1, c1, n1, q1, ⟨rfl, q2⟩, q3, q4⟩) (fun t => sb_and (fun ht => ?_))
  subst ht
  refine sb_ofb (fun a9 b9 => ?_)
  refine sm_iload cx 1 dL_law__1504 rfl ?_
  refine sb_gob ?_ a9 b9
  refine sb_icmp_eq (tgt := 1511) cx dL_law__1506 (by decide) (fun _ => ?_) (fun hne => absurd rfl hne)
  refine sb_ofb (fun a9 b9 => ?_)
  refine sm_iload cx 1 dL_law__1511 rfl ?_
  refine sb_gob ?_ a9 b9
  refine sb_if_ne (tgt := 1528) cx dL_law__1513 (by decide) (fun hne => ?_) (fun h0 => ?_)
  · refine sb_imp (fun _ _ _ hp => hp.2) ?_
    refine sb_ofb (fun a9 b9 => ?_)
    refine sm_goto (tgt := 1996) cx dL_law__1528 (by decide) ?_
    refine sb_gob ?_ a9 b9
    exact sb_lv [2, 3, 4, 5, 6] rfl hex
  refine sb_room (sb_imp (Ψ := StepR (xR X) (aL (some ao) 0) (Int32.toInt64 bb) J') (fun _ _ _ hp => ⟨hp.1.1 h0, hp.1.2, hp.2⟩) ?_)
  refine sb_ofb (fun a9 b9 => ?_)
  refine sm_aload_n cx 5 dL_law__1516 rfl rfl ?_
  refine sm_iconst (v := 0) cx dL_law__1517 (by decide) ?_
  refine sb_gob ?_ a9 b9
  refine sb_run (pc' := 1519) (lv' := fun _ => [(6, .int bb), (5, .int v), (0, va_rf (some b)), (1, va_rf (some ax)), (2, va_rf (some am)), (3, va_rf (some ao)), (4, .int x4)]) (st' := fun w => .long w :: []) (Ψ := fun w h c n => w = (Int32.toInt64 bb) ∧ J' h c n) (fun K hK => sm_lald cx dL_law__1518 hK) (fun h c0 n0 hp => ⟨(Int32.toInt64 bb), h, 0, 0, hp.1, ⟨rfl, hp.2.1⟩, hp.2.2.1, hp.2.2.2⟩) (fun w => sb_and (fun hw => ?_))
  subst hw
  refine sb_ofb (fun a9 b9 => ?_)
  refine sm_iload cx 0 dL_law__1519 rfl ?_
  refine sm_i2l cx dL_law__1521 ?_
  refine sm_lcmp cx dL_law__1522 ?_
  refine sb_gob ?_ a9 b9
  refine sb_if_eq (tgt := 1528) cx dL_law__1523 (by decide) (fun _ => ?_) (fun hne => absurd (lg_self _) hne)
  refine sb_ofb (fun a9 b9 => ?_)
  refine sm_goto (tgt := 1996) cx dL_law__1528 (by decide) ?_
  refine sb_gob ?_ a9 b9
  exact sb_lv [2, 3, 4, 5, 6] rfl hex
theorem dL_law__1531 : decode cL_law_ 1531 = .ok (.aload_n 1, 1) := by decide +kernel
theorem dL_law__1532 : decode cL_law_ 1532 = .ok (.aload_n 0, 1) := by decide +kernel
theorem dL_law__1533 : decode cL_law_ 1533 = .ok (.iload 4, 2) := by decide +kernel
theorem dL_law__1535 : decode cL_law_ 1535 = .ok (.iconst 1, 1) := by decide +kernel
theorem dL_law__1536 : decode cL_law_ 1536 = .ok (.iadd, 1) := by decide +kernel
theorem dL_law__1537 : decode cL_law_ 1537 = .ok (.iaload, 1) := by decide +kernel
theorem dL_law__1538 : decode cL_law_ 1538 = .ok (.aload_n 0, 1) := by decide +kernel
theorem dL_law__1539 : decode cL_law_ 1539 = .ok (.iload 4, 2) := by decide +kernel
theorem dL_law__1541 : decode cL_law_ 1541 = .ok (.iconst 2, 1) := by decide +kernel
theorem dL_law__1542 : decode cL_law_ 1542 = .ok (.iadd, 1) := by decide +kernel
theorem dL_law__1543 : decode cL_law_ 1543 = .ok (.iaload, 1) := by decide +kernel
theorem dL_law__1544 : decode cL_law_ 1544 = .ok (.aload_n 3, 1) := by decide +kernel
theorem dL_law__1545 : decode cL_law_ 1545 = .ok (.invokestatic 170, 3) := by decide +kernel
theorem dL_law__1548 : decode cL_law_ 1548 = .ok (.istore 5, 2) := by decide +kernel
theorem dL_law__1550 : decode cL_law_ 1550 = .ok (.aload_n 2, 1) := by decide +kernel
theorem dL_law__1551 : decode cL_law_ 1551 = .ok (.aload_n 0, 1) := by decide +kernel
theorem dL_law__1552 : decode cL_law_ 1552 = .ok (.iload 4, 2) := by decide +kernel
theorem dL_law__1554 : decode cL_law_ 1554 = .ok (.iconst 1, 1) := by decide +kernel
theorem dL_law__1555 : decode cL_law_ 1555 = .ok (.iadd, 1) := by decide +kernel
theorem dL_law__1556 : decode cL_law_ 1556 = .ok (.iaload, 1) := by decide +kernel
theorem dL_law__1557 : decode cL_law_ 1557 = .ok (.aload_n 0, 1) := by decide +kernel
theorem dL_law__1558 : decode cL_law_ 1558 = .ok (.iload 4, 2) := by decide +kernel
theorem dL_law__1560 : decode cL_law_ 1560 = .ok (.iconst 2, 1) := by decide +kernel
theorem dL_law__1561 : decode cL_law_ 1561 = .ok (.iadd, 1) := by decide +kernel
theorem dL_law__1562 : decode cL_law_ 1562 = .ok (.iaload, 1) := by decide +kernel
theorem dL_law__1563 : decode cL_law_ 1563 = .ok (.invokevirtual 172, 3) := by decide +kernel
theorem dL_law__1566 : decode cL_law_ 1566 = .ok (.istore 6, 2) := by decide +kernel
theorem dL_law__1568 : decode cL_law_ 1568 = .ok (.aload_n 2, 1) := by decide +kernel
theorem dL_law__1569 : decode cL_law_ 1569 = .ok (.invokevirtual 104, 3) := by decide +kernel
theorem dL_law__1572 : decode cL_law_ 1572 = .ok (.iload 5, 2) := by decide +kernel
theorem dL_law__1574 : decode cL_law_ 1574 = .ok (.if_icmp .eq 5, 3) := by decide +kernel
theorem dL_law__1577 : decode cL_law_ 1577 = .ok (.iconst 0, 1) := by decide +kernel
theorem dL_law__1578 : decode cL_law_ 1578 = .ok (.ireturn, 1) := by decide +kernel
theorem dL_law__1579 : decode cL_law_ 1579 = .ok (.iload 5, 2) := by decide +kernel
theorem dL_law__1581 : decode cL_law_ 1581 = .ok (.ifCond .ne 15, 3) := by decide +kernel
theorem dL_law__1584 : decode cL_law_ 1584 = .ok (.aload_n 3, 1) := by decide +kernel
theorem dL_law__1585 : decode cL_law_ 1585 = .ok (.iconst 0, 1) := by decide +kernel
theorem dL_law__1586 : decode cL_law_ 1586 = .ok (.laload, 1) := by decide +kernel
theorem dL_law__1587 : decode cL_law_ 1587 = .ok (.iload 6, 2) := by decide +kernel
theorem dL_law__1589 : decode cL_law_ 1589 = .ok (.i2l, 1) := by decide +kernel
theorem dL_law__1590 : decode cL_law_ 1590 = .ok (.lcmp, 1) := by decide +kernel
theorem dL_law__1591 : decode cL_law_ 1591 = .ok (.ifCond .eq 5, 3) := by decide +kernel
theorem dL_law__1594 : decode cL_law_ 1594 = .ok (.iconst 0, 1) := by decide +kernel
theorem dL_law__1595 : decode cL_law_ 1595 = .ok (.ireturn, 1) := by decide +kernel
theorem dL_law__1596 : decode cL_law_ 1596 = .ok (.goto 400, 3) := by decide +kernel
set_option maxRecDepth 100000 in
set_option maxHeartbeats 4000000 in
theorem lc_19 {X : Cg} (cx : Cx X cL_law_ RL 7) (htr : (xL X).stackTraces = false) (hfr : 74 ≤ (xR X).frames) (hlo : 1500 ≤ (xR X).locals) {Q : State → Prop} {b L : Nat} {xs : Nat → Int32} (hX : va_X b L xs (xS X) (xS X).heap) (hbl : b < (xS X).heap.size) (hbA : ¬ xA X b) (ax am ao : Nat) (x4 : Int32) (s1 : Int32) (e1 : xs (x4 + 1).toNatClampNeg = s1) (i1 : vp_in (x4 + 1) L) (s2 : Int32) (e2 : xs (x4 + 2).toNatClampNeg = s2) (i2 : vp_in (x4 + 2) L) {J' : Hs → Nat → Nat → Prop} (hex : SimB X 7 Q 1996 [(0, va_rf (some b)), (1, va_rf (some ax)), (2, va_rf (some am)), (3, va_rf (some ao)), (4, .int x4)] [] J') : SimB X 7 Q 1531 [(0, va_rf (some b)), (1, va_rf (some ax)), (2, va_rf (some am)), (3, va_rf (some ao)), (4, .int x4)] [] (StepA (xR X) (f_L_reason (xZ X) (some ax) s1 s2 (some ao)) (mo 15 (some am) (f_X12_reason (some am) s1 s2)) (mo 15 (some am) (f_X12_thrown (some am))) (aL (some ao) 0) Int32.toInt64 J') := by
  refine sb_ofb (fun a9 b9 => ?_)
  refine sm_aload_n cx 1 dL_law__1531 rfl rfl ?_
  refine sm_aload_n cx 0 dL_law__1532 rfl rfl ?_
  refine sm_iload cx 4 dL_law__1533 rfl ?_
  refine sm_iconst (v := 1) cx dL_law__1535 (by decide) ?_
  refine sm_iadd cx dL_law__1536 ?_
  refine sm_sldE cx hX hbl hbA i1 e1 dL_law__1537 ?_
  refine sm_aload_n cx 0 dL_law__1538 rfl rfl ?_
  refine sm_iload cx 4 dL_law__1539 rfl ?_
  refine sm_iconst (v := 2) cx dL_law__1541 (by decide) ?_
  refine sm_iadd cx dL_law__1542 ?_
  refine sm_sldE cx hX hbl hbA i2 e2 dL_law__1543 ?_
  refine sm_aload_n cx 3 dL_law__1544 rfl rfl ?_
  refine sb_gob ?_ a9 b9
  refine sb_help (toV := vI) (Ψ := StepM (xR X) (mo 15 (some am) (f_X12_reason (some am) s1 s2)) (mo 15 (some am) (f_X12_thrown (some am))) (aL (some ao) 0) Int32.toInt64 J') cx htr [va_rf (some ax), .int s1, .int s2, va_rf (some ao)] cw_L_170 (ct_L_reason (xZ X) (some ax) s1 s2 (some ao)) (Nat.le_trans (by decide) hfr) (Nat.le_trans (by decide) hlo) rfl (cat_le _ (Nat.le_of_ble_eq_true rfl)) dL_law__1545 (fun _ _ _ hp => hp) (fun v => ?_)
  refine sb_ofb (fun a9 b9 => ?_)
  refine sm_istore cx [(5, .int v), (0, va_rf (some b)), (1, va_rf (some ax)), (2, va_rf (some am)), (3, va_rf (some ao)), (4, .int x4)] dL_law__1548 (by decide) rfl (nc1 rfl) rfl ?_
  refine sm_aload_n cx 3 dL_law__1550 rfl rfl ?_
  refine sm_aload_n cx 1 dL_law__1551 rfl rfl ?_
  refine sm_iload cx 5 dL_law__1552 rfl ?_
  refine sm_iconst (v := 1) cx dL_law__1554 (by decide) ?_
  refine sm_iadd cx dL_law__1555 ?_
  refine sm_sldE cx hX hbl hbA i1 e1 dL_law__1556 ?_
  refine sm_aload_n cx 1 dL_law__1557 rfl rfl ?_
  refine sm_iload cx 5 dL_law__1558 rfl ?_
  refine sm_iconst (v := 2) cx dL_law__1560 (by decide) ?_
  refine sm_iadd cx dL_law__1561 ?_
  refine sm_sldE cx hX hbl hbA i2 e2 dL_law__1562 ?_
  refine sb_gob ?_ a9 b9
  refine sb_run (pc' := 1566) (lv' := fun _ => [(5, .int v), (0, va_rf (some b)), (1, va_rf (some ax)), (2, va_rf (some am)), (3, va_rf (some ao)), (4, .int x4)]) (st' := fun w => .int w :: []) (Ψ := fun w => StepT (xR X) (mo 15 (some am) (f_X12_thrown (some am))) (aL (some ao) 0) Int32.toInt64 J' v w) (fun K hK => sm_callV (T := TX12) (N := 47) (toV := vI) cx [.int s1, .int s2] rfl cv_L_172_ (fun a h => ct_X12_reason (xZ X) a h s1 s2) (Nat.le_trans (by decide) hfr) (Nat.le_trans (by decide) hlo) rfl (cat_le _ (Nat.le_of_ble_eq_true rfl)) dL_law__1563 hK) (fun _ _ _ hp => hp) (fun bb => ?_)
  refine sb_ofb (fun a9 b9 => ?_)
  refine sm_istore cx [(6, .int bb), (5, .int v), (0, va_rf (some b)), (1, va_rf (some ax)), (2, va_rf (some am)), (3, va_rf (some ao)), (4, .int x4)] dL_law__1566 (by decide) rfl (nc1 rfl) rfl ?_
  refine sm_aload_n cx 4 dL_law__1568 rfl rfl ?_
  refine sb_gob ?_ a9 b9
  refine sb_run (pc' := 1572) (lv' := fun _ => [(6, .int bb), (5, .int v), (0, va_rf (some b)), (1, va_rf (some ax)), (2, va_rf (some am)), (3, va_rf (some ao)), (4, .int x4)]) (st' := fun w => .int w :: []) (Ψ := fun w h c n => v = w ∧ StepO (aL (some ao) 0) Int32.toInt64 J' v bb h c n) (fun K hK => sm_callV (T := TX12) (N := 47) (toV := vI) cx [] rfl cv_L_104_ (fun a h => ct_X12_thrown (xZ X) a h) (Nat.le_trans (by decide) hfr) (Nat.le_trans (by decide) hlo) rfl (cat_le _ (Nat.le_of_ble_eq_true rfl)) dL_law__1569 hK) (fun _ _ _ hp => by obtain ⟨h1, c1, n1, q1, q2, q3, q4⟩ := hp; exact ⟨v, h1, c1, n1, q1, ⟨rfl, q2⟩, q3, q4⟩) (fun t => sb_and (fun ht => ?_))
  subst ht
  refine sb_ofb (fun a9 b9 => ?_)
  refine sm_iload cx 1 dL_law__1572 rfl ?_
  refine sb_gob ?_ a9 b9
  refine sb_icmp_eq (tgt := 1579) cx dL_law__1574 (by decide) (fun _ => ?_) (fun hne => absurd rfl hne)
  refine sb_ofb (fun a9 b9 => ?_)
  refine sm_iload cx 1 dL_law__1579 rfl ?_
  refine sb_gob ?_ a9 b9
  refine sb_if_ne (tgt := 1596) cx dL_law__1581 (by decide) (fun hne => ?_) (fun h0 => ?_)
  · refine sb_imp (fun _ _ _ hp => hp.2) ?_
    refine sb_ofb (fun a9 b9 => ?_)
    refine sm_goto (tgt := 1996) cx dL_law__1596 (by decide) ?_
    refine sb_gob ?_ a9 b9
    exact sb_lv [2, 3, 4, 5, 6] rfl hex
  refine sb_room (sb_imp (Ψ := StepR (xR X) (aL (some ao) 0) (Int32.toInt64 bb) J') (fun _ _ _ hp => ⟨hp.1.1 h0, hp.1.2, hp.2⟩) ?_)
  refine sb_ofb (fun a9 b9 => ?_)
  refine sm_aload_n cx 5 dL_law__1584 rfl rfl ?_
  refine sm_iconst (v := 0) cx dL_law__1585 (by decide) ?_
  refine sb_gob ?_ a9 b9
  refine sb_run (pc' := 1587) (lv' := fun _ => [(6, .int bb), (5, .int v), (0, va_rf (some b)), (1, va_rf (some ax)), (2, va_rf (some am)), (3, va_rf (some ao)), (4, .int x4)]) (st' := fun w => .long w :: []) (Ψ := fun w h c n => w = (Int32.toInt64 bb) ∧ J' h c n) (fun K hK => sm_lald cx dL_law__1586 hK) (fun h c0 n0 hp => ⟨(Int32.toInt64 bb), h, 0, 0, hp.1, ⟨rfl, hp.2.1⟩, hp.2.2.1, hp.2.2.2⟩) (fun w => sb_and (fun hw => ?_))
  subst hw
  refine sb_ofb (fun a9 b9 => ?_)
  refine sm_iload cx 0 dL_law__1587 rfl ?_
  refine sm_i2l cx dL_law__1589 ?_
  refine sm_lcmp cx dL_law__1590 ?_
  refine sb_gob ?_ a9 b9
  refine sb_if_eq (tgt := 1596) cx dL_law__1591 (by decide) (fun _ => ?_) (fun hne => absurd (lg_self _) hne)
  refine sb_ofb (fun a9 b9 => ?_)
  refine sm_goto (tgt := 1996) cx dL_law__1596 (by decide) ?_
  refine sb_gob ?_ a9 b9
  exact sb_lv [2, 3, 4, 5, 6] rfl hex
theorem dL_law__1599 : decode cL_law_ 1599 = .ok (.aload_n 1, 1) := by decide +kernel
theorem dL_law__1600 : decode cL_law_ 1600 = .ok (.aload_n 0, 1) := by decide +kernel
theorem dL_law__1601 : decode cL_law_ 1601 = .ok (.iload 4, 2) := by decide +kernel
theorem dL_law__1603 : decode cL_law_ 1603 = .ok (.iconst 1, 1) := by decide +kernel
theorem dL_law__1604 : decode cL_law_ 1604 = .ok (.iadd, 1) := by decide +kernel
theorem dL_law__1605 : decode cL_law_ 1605 = .ok (.iaload, 1) := by decide +kernel
theorem dL_law__1606 : decode cL_law_ 1606 = .ok (.aload_n 0, 1) := by decide +kernel
theorem dL_law__1607 : decode cL_law_ 1607 = .ok (.iload 4, 2) := by decide +kernel
theorem dL_law__1609 : decode cL_law_ 1609 = .ok (.iconst 2, 1) := by decide +kernel
theorem dL_law__1610 : decode cL_law_ 1610 = .ok (.iadd, 1) := by decide +kernel
theorem dL_law__1611 : decode cL_law_ 1611 = .ok (.iaload, 1) := by decide +kernel
theorem dL_law__1612 : decode cL_law_ 1612 = .ok (.aload_n 0, 1) := by decide +kernel
theorem dL_law__1613 : decode cL_law_ 1613 = .ok (.iload 4, 2) := by decide +kernel
theorem dL_law__1615 : decode cL_law_ 1615 = .ok (.iconst 3, 1) := by decide +kernel
theorem dL_law__1616 : decode cL_law_ 1616 = .ok (.iadd, 1) := by decide +kernel
theorem dL_law__1617 : decode cL_law_ 1617 = .ok (.iaload, 1) := by decide +kernel
theorem dL_law__1618 : decode cL_law_ 1618 = .ok (.aload_n 3, 1) := by decide +kernel
theorem dL_law__1619 : decode cL_law_ 1619 = .ok (.invokestatic 173, 3) := by decide +kernel
theorem dL_law__1622 : decode cL_law_ 1622 = .ok (.istore 5, 2) := by decide +kernel
theorem dL_law__1624 : decode cL_law_ 1624 = .ok (.aload_n 2, 1) := by decide +kernel
theorem dL_law__1625 : decode cL_law_ 1625 = .ok (.aload_n 0, 1) := by decide +kernel
theorem dL_law__1626 : decode cL_law_ 1626 = .ok (.iload 4, 2) := by decide +kernel
theorem dL_law__1628 : decode cL_law_ 1628 = .ok (.iconst 1, 1) := by decide +kernel
theorem dL_law__1629 : decode cL_law_ 1629 = .ok (.iadd, 1) := by decide +kernel
theorem dL_law__1630 : decode cL_law_ 1630 = .ok (.iaload, 1) := by decide +kernel
theorem dL_law__1631 : decode cL_law_ 1631 = .ok (.aload_n 0, 1) := by decide +kernel
theorem dL_law__1632 : decode cL_law_ 1632 = .ok (.iload 4, 2) := by decide +kernel
theorem dL_law__1634 : decode cL_law_ 1634 = .ok (.iconst 2, 1) := by decide +kernel
theorem dL_law__1635 : decode cL_law_ 1635 = .ok (.iadd, 1) := by decide +kernel
theorem dL_law__1636 : decode cL_law_ 1636 = .ok (.iaload, 1) := by decide +kernel
theorem dL_law__1637 : decode cL_law_ 1637 = .ok (.aload_n 0, 1) := by decide +kernel
theorem dL_law__1638 : decode cL_law_ 1638 = .ok (.iload 4, 2) := by decide +kernel
theorem dL_law__1640 : decode cL_law_ 1640 = .ok (.iconst 3, 1) := by decide +kernel
theorem dL_law__1641 : decode cL_law_ 1641 = .ok (.iadd, 1) := by decide +kernel
theorem dL_law__1642 : decode cL_law_ 1642 = .ok (.iaload, 1) := by decide +kernel
theorem dL_law__1643 : decode cL_law_ 1643 = .ok (.invokevirtual 175, 3) := by decide +kernel
theorem dL_law__1646 : decode cL_law_ 1646 = .ok (.istore 6, 2) := by decide +kernel
theorem dL_law__1648 : decode cL_law_ 1648 = .ok (.aload_n 2, 1) := by decide +kernel
theorem dL_law__1649 : decode cL_law_ 1649 = .ok (.invokevirtual 104, 3) := by decide +kernel
theorem dL_law__1652 : decode cL_law_ 1652 = .ok (.iload 5, 2) := by decide +kernel
theorem dL_law__1654 : decode cL_law_ 1654 = .ok (.if_icmp .eq 5, 3) := by decide +kernel
theorem dL_law__1657 : decode cL_law_ 1657 = .ok (.iconst 0, 1) := by decide +kernel
theorem dL_law__1658 : decode cL_law_ 1658 = .ok (.ireturn, 1) := by decide +kernel
theorem dL_law__1659 : decode cL_law_ 1659 = .ok (.iload 5, 2) := by decide +kernel
theorem dL_law__1661 : decode cL_law_ 1661 = .ok (.ifCond .ne 15, 3) := by decide +kernel
theorem dL_law__1664 : decode cL_law_ 1664 = .ok (.aload_n 3, 1) := by decide +kernel
theorem dL_law__1665 : decode cL_law_ 1665 = .ok (.iconst 0, 1) := by decide +kernel
theorem dL_law__1666 : decode cL_law_ 1666 = .ok (.laload, 1) := by decide +kernel
theorem dL_law__1667 : decode cL_law_ 1667 = .ok (.iload 6, 2) := by decide +kernel
theorem dL_law__1669 : decode cL_law_ 1669 = .ok (.i2l, 1) := by decide +kernel
theorem dL_law__1670 : decode cL_law_ 1670 = .ok (.lcmp, 1) := by decide +kernel
theorem dL_law__1671 : decode cL_law_ 1671 = .ok (.ifCond .eq 5, 3) := by decide +kernel
theorem dL_law__1674 : decode cL_law_ 1674 = .ok (.iconst 0, 1) := by decide +kernel
theorem dL_law__1675 : decode cL_law_ 1675 = .ok (.ireturn, 1) := by decide +kernel
theorem dL_law__1676 : decode cL_law_ 1676 = .ok (.goto 320, 3) := by decide +kernel
set_option maxRecDepth 100000 in
set_option maxHeartbeats 4000000 in
theorem lc_20 {X : Cg} (cx : Cx X cL_law_ RL 7) (htr : (xL X).stackTraces = false) (hfr : 74 ≤ (xR X).frames) (hlo : 1500 ≤ (xR X).locals) {Q : State → Prop} {b L : Nat} {xs : Nat → Int32} (hX : va_X b L xs (xS X) (xS X).heap) (hbl : b < (xS X).heap.size) (hbA : ¬ xA X b) (ax am ao : Nat) (x4 : Int32) (s1 : Int32) (e1 : xs (x4 + 1).toNatClampNeg = s1) (i1 : vp_in (x4 + 1) L) (s2 : Int32) (e2 : xs (x4 + 2).toNatClampNeg = s2) (i2 : vp_in (x4 + 2) L) (s3 : Int32) (e3 : xs (x4 + 3).toNatClampNeg = s3) (i3 : vp_in (x4 + 3) L) {J' : Hs → Nat → Nat → Prop} (hex : SimB X 7 Q 1996 [(0, va_rf (some b)), (1, va_rf (some ax)), (2, va_rf (some am)), (3, va_rf (some ao)), (4, .int x4)] [] J') : SimB X 7 Q 1599 [(0, va_rf (some b)), (1, va_rf (some ax)), (2, va_rf (some am)), (3, va_rf (some ao)), (4, .int x4)] [] (StepA (xR X) (f_L_beaten (xZ X) (some ax) s1 s2 s3 (some ao)) (mo 15 (some am) (f_X12_beaten (some am) s1 s2 s3)) (mo 15 (some am) (f_X12_thrown (some am))) (aL (some ao) 0) Int32.toInt64 J') := by
  refine sb_ofb (fun a9 b9 => ?_)
  refine sm_aload_n cx 1 dL_law__1599 rfl rfl ?_
  refine sm_aload_n cx 0 dL_law__1600 rfl rfl ?_
  refine sm_iload cx 4 dL_law__1601 rfl ?_
  refine sm_iconst (v := 1) cx dL_law__1603 (by decide) ?_
  refine sm_iadd cx dL_law__1604 ?_
  refine sm_sldE cx hX hbl hbA i1 e1 dL_law__1605 ?_
  refine sm_aload_n cx 0 dL_law__1606 rfl rfl ?_
  refine sm_iload cx 4 dL_law__1607 rfl ?_
  refine sm_iconst (v := 2) cx dL_law__1609 (by decide) ?_
  refine sm_iadd cx dL_law__1610 ?_
  refine sm_sldE cx hX hbl hbA i2 e2 dL_law__1611 ?_
  refine sm_aload_n cx 0 dL_law__1612 rfl rfl ?_
  refine sm_iload cx 4 dL_law__1613 rfl ?_
  refine sm_iconst (v := 3) cx dL_law__1615 (by decide) ?_
  refine sm_iadd cx dL_law__1616 ?_
  refine sm_sldE cx hX hbl hbA i3 e3 dL_law__1617 ?_
  refine sm_aload_n cx 3 dL_law__1618 rfl rfl ?_
  refine sb_gob ?_ a9 b9
  refine sb_help (toV := vI) (Ψ := StepM (xR X) (mo 15 (some am) (f_X12_beaten (some am) s1 s2 s3)) (mo 15 (some am) (f_X12_thrown (some am))) (aL (some ao) 0) Int32.toInt64 J') cx htr [va_rf (some ax), .int s1, .int s2, .int s3, va_rf (some ao)] cw_L_173 (ct_L_beaten (xZ X) (some ax) s1 s2 s3 (some ao)) (Nat.le_trans (by decide) hfr) (Nat.le_trans (by decide) hlo) rfl (cat_le _ (Nat.le_of_ble_eq_true rfl)) dL_law__1619 (fun _ _ _ hp => hp) (fun v => ?_)
  refine sb_ofb (fun a9 b9 => ?_)
  refine sm_istore cx [(5, .int v), (0, va_rf (some b)), (1, va_rf (some ax)), (2, va_rf (some am)), (3, va_rf (some ao)), (4, .int x4)] dL_law__1622 (by decide) rfl (nc1 rfl) rfl ?_
  refine sm_aload_n cx 3 dL_law__1624 rfl rfl ?_
  refine sm_aload_n cx 1 dL_law__1625 rfl rfl ?_
  refine sm_iload cx 5 dL_law__1626 rfl ?_
  refine sm_iconst (v := 1) cx dL_law__1628 (by decide) ?_
  refine sm_iadd cx dL_law__1629 ?_
  refine sm_sldE cx hX hbl hbA i1 e1 dL_law__1630 ?_
  refine sm_aload_n cx 1 dL_law__1631 rfl rfl ?_
  refine sm_iload cx 5 dL_law__1632 rfl ?_
  refine sm_iconst (v := 2) cx dL_law__1634 (by decide) ?_
  refine sm_iadd cx dL_law__1635 ?_
  refine sm_sldE cx hX hbl hbA i2 e2 dL_law__1636 ?_
  refine sm_aload_n cx 1 dL_law__1637 rfl rfl ?_
  refine sm_iload cx 5 dL_law__1638 rfl ?_
  refine sm_iconst (v := 3) cx dL_law__1640 (by decide) ?_
  refine sm_iadd cx dL_law__1641 ?_
  refine sm_sldE cx hX hbl hbA i3 e3 dL_law__1642 ?_
  refine sb_gob ?_ a9 b9
  refine sb_run (pc' := 1646) (lv' := fun _ => [(5, .int v), (0, va_rf (some b)), (1, va_rf (some ax)), (2, va_rf (some am)), (3, va_rf (some ao)), (4, .int x4)]) (st' := fun w => .int w :: []) (Ψ := fun w => StepT (xR X) (mo 15 (some am) (f_X12_thrown (some am))) (aL (some ao) 0) Int32.toInt64 J' v w) (fun K hK => sm_callV (T := TX12) (N := 47) (toV := vI) cx [.int s1, .int s2, .int s3] rfl cv_L_175_ (fun a h => ct_X12_beaten (xZ X) a h s1 s2 s3) (Nat.le_trans (by decide) hfr) (Nat.le_trans (by decide) hlo) rfl (cat_le _ (Nat.le_of_ble_eq_true rfl)) dL_law__1643 hK) (fun _ _ _ hp => hp) (fun bb => ?_)
  refine sb_ofb (fun a9 b9 => ?_)
  refine sm_istore cx [(6, .int bb), (5, .int v), (0, va_rf (some b)), (1, va_rf (some ax)), (2, va_rf (some am)), (3, va_rf (some ao)), (4, .int x4)] dL_law__1646 (by decide) rfl (nc1 rfl) rfl ?_
  refine sm_aload_n cx 4 dL_law__1648 rfl rfl ?_
  refine sb_gob ?_ a9 b9
  refine sb_run (pc' := 1652) (lv' := fun _ => [(6, .int bb), (5, .int v), (0, va_rf (some b)), (1, va_rf (some ax)), (2, va_rf (some am)), (3, va_rf (some ao)), (4, .int x4)]) (st' := fun w => .int w :: []) (Ψ := fun w h c n => v = w ∧ StepO (aL (some ao) 0) Int32.toInt64 J' v bb h c n) (fun K hK => sm_callV (T := TX12) (N := 47) (toV := vI) cx [] rfl cv_L_104_ (fun a h => ct_X12_thrown (xZ X) a h) (Nat.le_trans (by decide) hfr) (Nat.le_trans (by decide) hlo) rfl (cat_le _ (Nat.le_of_ble_eq_true rfl)) dL_law__1649 hK) (fun _ _ _ hp => by obtain ⟨h1, c1, n1, q1, q2, q3, q4⟩ := hp; exact ⟨v, h1, c1, n1, q1, ⟨rfl, q2⟩, q3, q4⟩) (fun t => sb_and (fun ht => ?_))
  subst ht
  refine sb_ofb (fun a9 b9 => ?_)
  refine sm_iload cx 1 dL_law__1652 rfl ?_
  refine sb_gob ?_ a9 b9
  refine sb_icmp_eq (tgt := 1659) cx dL_law__1654 (by decide) (fun _ => ?_) (fun hne => absurd rfl hne)
  refine sb_ofb (fun a9 b9 => ?_)
  refine sm_iload cx 1 dL_law__1659 rfl ?_
  refine sb_gob ?_ a9 b9
  refine sb_if_ne (tgt := 1676) cx dL_law__1661 (by decide) (fun hne => ?_) (fun h0 => ?_)
  · refine sb_imp (fun _ _ _ hp => hp.2) ?_
    refine sb_ofb (fun a9 b9 => ?_)
    refine sm_goto (tgt := 1996) cx dL_law__1676 (by decide) ?_
    refine sb_gob ?_ a9 b9
    exact sb_lv [2, 3, 4, 5, 6] rfl hex
  refine sb_room (sb_imp (Ψ := StepR (xR X) (aL (some ao) 0) (Int32.toInt64 bb) J') (fun _ _ _ hp => ⟨hp.1.1 h0, hp.1.2, hp.2⟩) ?_)
  refine sb_ofb (fun a9 b9 => ?_)
  refine sm_aload_n cx 5 dL_law__1664 rfl rfl ?_
  refine sm_iconst (v := 0) cx dL_law__1665 (by decide) ?_
  refine sb_gob ?_ a9 b9
  refine sb_run (pc' := 1667) (lv' := fun _ => [(6, .int bb), (5, .int v), (0, va_rf (some b)), (1, va_rf (some ax)), (2, va_rf (some am)), (3, va_rf (some ao)), (4, .int x4)]) (st' := fun w => .long w :: []) (Ψ := fun w h c n => w = (Int32.toInt64 bb) ∧ J' h c n) (fun K hK => sm_lald cx dL_law__1666 hK) (fun h c0 n0 hp => ⟨(Int32.toInt64 bb), h, 0, 0, hp.1, ⟨rfl, hp.2.1⟩, hp.2.2.1, hp.2.2.2⟩) (fun w => sb_and (fun hw => ?_))
  subst hw
  refine sb_ofb (fun a9 b9 => ?_)
  refine sm_iload cx 0 dL_law__1667 rfl ?_
  refine sm_i2l cx dL_law__1669 ?_
  refine sm_lcmp cx dL_law__1670 ?_
  refine sb_gob ?_ a9 b9
  refine sb_if_eq (tgt := 1676) cx dL_law__1671 (by decide) (fun _ => ?_) (fun hne => absurd (lg_self _) hne)
  refine sb_ofb (fun a9 b9 => ?_)
  refine sm_goto (tgt := 1996) cx dL_law__1676 (by decide) ?_
  refine sb_gob ?_ a9 b9
  exact sb_lv [2, 3, 4, 5, 6] rfl hex
theorem dL_law__1679 : decode cL_law_ 1679 = .ok (.aload_n 1, 1) := by decide +kernel
theorem dL_law__1680 : decode cL_law_ 1680 = .ok (.aload_n 0, 1) := by decide +kernel
theorem dL_law__1681 : decode cL_law_ 1681 = .ok (.iload 4, 2) := by decide +kernel
theorem dL_law__1683 : decode cL_law_ 1683 = .ok (.iconst 1, 1) := by decide +kernel
theorem dL_law__1684 : decode cL_law_ 1684 = .ok (.iadd, 1) := by decide +kernel
theorem dL_law__1685 : decode cL_law_ 1685 = .ok (.iaload, 1) := by decide +kernel
theorem dL_law__1686 : decode cL_law_ 1686 = .ok (.aload_n 0, 1) := by decide +kernel
theorem dL_law__1687 : decode cL_law_ 1687 = .ok (.iload 4, 2) := by decide +kernel
theorem dL_law__1689 : decode cL_law_ 1689 = .ok (.iconst 2, 1) := by decide +kernel
theorem dL_law__1690 : decode cL_law_ 1690 = .ok (.iadd, 1) := by decide +kernel
theorem dL_law__1691 : decode cL_law_ 1691 = .ok (.iaload, 1) := by decide +kernel
theorem dL_law__1692 : decode cL_law_ 1692 = .ok (.aload_n 3, 1) := by decide +kernel
theorem dL_law__1693 : decode cL_law_ 1693 = .ok (.invokestatic 176, 3) := by decide +kernel
theorem dL_law__1696 : decode cL_law_ 1696 = .ok (.istore 5, 2) := by decide +kernel
theorem dL_law__1698 : decode cL_law_ 1698 = .ok (.aload_n 2, 1) := by decide +kernel
theorem dL_law__1699 : decode cL_law_ 1699 = .ok (.aload_n 0, 1) := by decide +kernel
theorem dL_law__1700 : decode cL_law_ 1700 = .ok (.iload 4, 2) := by decide +kernel
theorem dL_law__1702 : decode cL_law_ 1702 = .ok (.iconst 1, 1) := by decide +kernel
theorem dL_law__1703 : decode cL_law_ 1703 = .ok (.iadd, 1) := by decide +kernel
theorem dL_law__1704 : decode cL_law_ 1704 = .ok (.iaload, 1) := by decide +kernel
theorem dL_law__1705 : decode cL_law_ 1705 = .ok (.aload_n 0, 1) := by decide +kernel
theorem dL_law__1706 : decode cL_law_ 1706 = .ok (.iload 4, 2) := by decide +kernel
theorem dL_law__1708 : decode cL_law_ 1708 = .ok (.iconst 2, 1) := by decide +kernel
theorem dL_law__1709 : decode cL_law_ 1709 = .ok (.iadd, 1) := by decide +kernel
theorem dL_law__1710 : decode cL_law_ 1710 = .ok (.iaload, 1) := by decide +kernel
theorem dL_law__1711 : decode cL_law_ 1711 = .ok (.invokevirtual 178, 3) := by decide +kernel
theorem dL_law__1714 : decode cL_law_ 1714 = .ok (.istore 6, 2) := by decide +kernel
theorem dL_law__1716 : decode cL_law_ 1716 = .ok (.aload_n 2, 1) := by decide +kernel
theorem dL_law__1717 : decode cL_law_ 1717 = .ok (.invokevirtual 104, 3) := by decide +kernel
theorem dL_law__1720 : decode cL_law_ 1720 = .ok (.iload 5, 2) := by decide +kernel
theorem dL_law__1722 : decode cL_law_ 1722 = .ok (.if_icmp .eq 5, 3) := by decide +kernel
theorem dL_law__1725 : decode cL_law_ 1725 = .ok (.iconst 0, 1) := by decide +kernel
theorem dL_law__1726 : decode cL_law_ 1726 = .ok (.ireturn, 1) := by decide +kernel
theorem dL_law__1727 : decode cL_law_ 1727 = .ok (.iload 5, 2) := by decide +kernel
theorem dL_law__1729 : decode cL_law_ 1729 = .ok (.ifCond .ne 22, 3) := by decide +kernel
theorem dL_law__1732 : decode cL_law_ 1732 = .ok (.aload_n 3, 1) := by decide +kernel
theorem dL_law__1733 : decode cL_law_ 1733 = .ok (.iconst 0, 1) := by decide +kernel
theorem dL_law__1734 : decode cL_law_ 1734 = .ok (.laload, 1) := by decide +kernel
theorem dL_law__1735 : decode cL_law_ 1735 = .ok (.iload 6, 2) := by decide +kernel
theorem dL_law__1737 : decode cL_law_ 1737 = .ok (.ifCond .eq 7, 3) := by decide +kernel
theorem dL_law__1740 : decode cL_law_ 1740 = .ok (.lconst 1, 1) := by decide +kernel
theorem dL_law__1741 : decode cL_law_ 1741 = .ok (.goto 4, 3) := by decide +kernel
theorem dL_law__1744 : decode cL_law_ 1744 = .ok (.lconst 0, 1) := by decide +kernel
theorem dL_law__1745 : decode cL_law_ 1745 = .ok (.lcmp, 1) := by decide +kernel
theorem dL_law__1746 : decode cL_law_ 1746 = .ok (.ifCond .eq 5, 3) := by decide +kernel
theorem dL_law__1749 : decode cL_law_ 1749 = .ok (.iconst 0, 1) := by decide +kernel
theorem dL_law__1750 : decode cL_law_ 1750 = .ok (.ireturn, 1) := by decide +kernel
theorem dL_law__1751 : decode cL_law_ 1751 = .ok (.goto 245, 3) := by decide +kernel
set_option maxRecDepth 100000 in
set_option maxHeartbeats 4000000 in
theorem lc_21 {X : Cg} (cx : Cx X cL_law_ RL 7) (htr : (xL X).stackTraces = false) (hfr : 74 ≤ (xR X).frames) (hlo : 1500 ≤ (xR X).locals) {Q : State → Prop} {b L : Nat} {xs : Nat → Int32} (hX : va_X b L xs (xS X) (xS X).heap) (hbl : b < (xS X).heap.size) (hbA : ¬ xA X b) (ax am ao : Nat) (x4 : Int32) (s1 : Int32) (e1 : xs (x4 + 1).toNatClampNeg = s1) (i1 : vp_in (x4 + 1) L) (s2 : Int32) (e2 : xs (x4 + 2).toNatClampNeg = s2) (i2 : vp_in (x4 + 2) L) {J' : Hs → Nat → Nat → Prop} (hex : SimB X 7 Q 1996 [(0, va_rf (some b)), (1, va_rf (some ax)), (2, va_rf (some am)), (3, va_rf (some ao)), (4, .int x4)] [] J') : SimB X 7 Q 1679 [(0, va_rf (some b)), (1, va_rf (some ax)), (2, va_rf (some am)), (3, va_rf (some ao)), (4, .int x4)] [] (StepA (xR X) (f_L_sure (xZ X) (some ax) s1 s2 (some ao)) (mo 15 (some am) (f_X12_sure (some am) s1 s2)) (mo 15 (some am) (f_X12_thrown (some am))) (aL (some ao) 0) bzL J') := by
  refine sb_ofb (fun a9 b9 => ?_)
  refine sm_aload_n cx 1 dL_law__1679 rfl rfl ?_
  refine sm_aload_n cx 0 dL_law__1680 rfl rfl ?_
  refine sm_iload cx 4 dL_law__1681 rfl ?_
  refine sm_iconst (v := 1) cx dL_law__1683 (by decide) ?_
  refine sm_iadd cx dL_law__1684 ?_
  refine sm_sldE cx hX hbl hbA i1 e1 dL_law__1685 ?_
  refine sm_aload_n cx 0 dL_law__1686 rfl rfl ?_
  refine sm_iload cx 4 dL_law__1687 rfl ?_
  refine sm_iconst (v := 2) cx dL_law__1689 (by decide) ?_
  refine sm_iadd cx dL_law__1690 ?_
  refine sm_sldE cx hX hbl hbA i2 e2 dL_law__1691 ?_
  refine sm_aload_n cx 3 dL_law__1692 rfl rfl ?_
  refine sb_gob ?_ a9 b9
  refine sb_help (toV := vI) (Ψ := StepM (xR X) (mo 15 (some am) (f_X12_sure (some am) s1 s2)) (mo 15 (some am) (f_X12_thrown (some am))) (aL (some ao) 0) bzL J') cx htr [va_rf (some ax), .int s1, .int s2, va_rf (some ao)] cw_L_176 (ct_L_sure (xZ X) (some ax) s1 s2 (some ao)) (Nat.le_trans (by decide) hfr) (Nat.le_trans (by decide) hlo) rfl (cat_le _ (Nat.le_of_ble_eq_true rfl)) dL_law__1693 (fun _ _ _ hp => hp) (fun v => ?_)
  refine sb_ofb (fun a9 b9 => ?_)
  refine sm_istore cx [(5, .int v), (0, va_rf (some b)), (1, va_rf (some ax)), (2, va_rf (some am)), (3, va_rf (some ao)), (4, .int x4)] dL_law__1696 (by decide) rfl (nc1 rfl) rfl ?_
  refine sm_aload_n cx 3 dL_law__1698 rfl rfl ?_
  refine sm_aload_n cx 1 dL_law__1699 rfl rfl ?_
  refine sm_iload cx 5 dL_law__1700 rfl ?_
  refine sm_iconst (v := 1) cx dL_law__1702 (by decide) ?_
  refine sm_iadd cx dL_law__1703 ?_
  refine sm_sldE cx hX hbl hbA i1 e1 dL_law__1704 ?_
  refine sm_aload_n cx 1 dL_law__1705 rfl rfl ?_
  refine sm_iload cx 5 dL_law__1706 rfl ?_
  refine sm_iconst (v := 2) cx dL_law__1708 (by decide) ?_
  refine sm_iadd cx dL_law__1709 ?_
  refine sm_sldE cx hX hbl hbA i2 e2 dL_law__1710 ?_
  refine sb_gob ?_ a9 b9
  refine sb_run (pc' := 1714) (lv' := fun _ => [(5, .int v), (0, va_rf (some b)), (1, va_rf (some ax)), (2, va_rf (some am)), (3, va_rf (some ao)), (4, .int x4)]) (st' := fun w => .int w :: []) (Ψ := fun w => StepT (xR X) (mo 15 (some am) (f_X12_thrown (some am))) (aL (some ao) 0) bzL J' v w) (fun K hK => sm_callV (T := TX12) (N := 47) (toV := vI) cx [.int s1, .int s2] rfl cv_L_178_ (fun a h => ct_X12_sure (xZ X) a h s1 s2) (Nat.le_trans (by decide) hfr) (Nat.le_trans (by decide) hlo) rfl (cat_le _ (Nat.le_of_ble_eq_true rfl)) dL_law__1711 hK) (fun _ _ _ hp => hp) (fun bb => ?_)
  refine sb_ofb (fun a9 b9 => ?_)
  refine sm_istore cx [(6, .int bb), (5, .int v), (0, va_rf (some b)), (1, va_rf (some ax)), (2, va_rf (some am)), (3, va_rf (some ao)), (4, .int x4)] dL_law__1714 (by decide) rfl (nc1 rfl) rfl ?_
  refine sm_aload_n cx 4 dL_law__1716 rfl rfl ?_
  refine sb_gob ?_ a9 b9
  refine sb_run (pc' := 1720) (lv' := fun _ => [(6, .int bb), (5, .int v), (0, va_rf (some b)), (1, va_rf (some ax)), (2, va_rf (some am)), (3, va_rf (some ao)), (4, .int x4)]) (st' := fun w => .int w :: []) (Ψ := fun w h c n => v = w ∧ StepO (aL (some ao) 0) bzL J' v bb h c n) (fun K hK => sm_callV (T := TX12) (N := 47) (toV := vI) cx [] rfl cv_L_104_ (fun a h => ct_X12_thrown (xZ X) a h) (Nat.le_trans (by decide) hfr) (Nat.le_trans (by decide) hlo) rfl (cat_le _ (Nat.le_of_ble_eq_true rfl)) dL_law__1717 hK) (fun _ _ _ hp => by obtain ⟨h1, c1, n1, q1, q2, q3, q4⟩ := hp; exact ⟨v, h1, c1, n1, q1, ⟨rfl, q2⟩, q3, q4⟩) (fun t => sb_and (fun ht => ?_))
  subst ht
  refine sb_ofb (fun a9 b9 => ?_)
  refine sm_iload cx 1 dL_law__1720 rfl ?_
  refine sb_gob ?_ a9 b9
  refine sb_icmp_eq (tgt := 1727) cx dL_law__1722 (by decide) (fun _ => ?_) (fun hne => absurd rfl hne)
  refine sb_ofb (fun a9 b9 => ?_)
  refine sm_iload cx 1 dL_law__1727 rfl ?_
  refine sb_gob ?_ a9 b9
  refine sb_if_ne (tgt := 1751) cx dL_law__1729 (by decide) (fun hne => ?_) (fun h0 => ?_)
  · refine sb_imp (fun _ _ _ hp => hp.2) ?_
    refine sb_ofb (fun a9 b9 => ?_)
    refine sm_goto (tgt := 1996) cx dL_law__1751 (by decide) ?_
    refine sb_gob ?_ a9 b9
    exact sb_lv [2, 3, 4, 5, 6] rfl hex
  refine sb_room (sb_imp (Ψ := StepR (xR X) (aL (some ao) 0) (bzL bb) J') (fun _ _ _ hp => ⟨hp.1.1 h0, hp.1.2, hp.2⟩) ?_)
  refine sb_ofb (fun a9 b9 => ?_)
  refine sm_aload_n cx 5 dL_law__1732 rfl rfl ?_
  refine sm_iconst (v := 0) cx dL_law__1733 (by decide) ?_
  refine sb_gob ?_ a9 b9
  refine sb_run (pc' := 1735) (lv' := fun _ => [(6, .int bb), (5, .int v), (0, va_rf (some b)), (1, va_rf (some ax)), (2, va_rf (some am)), (3, va_rf (some ao)), (4, .int x4)]) (st' := fun w => .long w :: []) (Ψ := fun w h c n => w = (bzL bb) ∧ J' h c n) (fun K hK => sm_lald cx dL_law__1734 hK) (fun h c0 n0 hp => ⟨(bzL bb), h, 0, 0, hp.1, ⟨rfl, hp.2.1⟩, hp.2.2.1, hp.2.2.2⟩) (fun w => sb_and (fun hw => ?_))
  subst hw
  refine sb_ofb (fun a9 b9 => ?_)
  refine sm_iload cx 0 dL_law__1735 rfl ?_
  refine sb_gob ?_ a9 b9
  refine sb_boolL cx dL_law__1737 dL_law__1740 dL_law__1741 dL_law__1744 ?_
  refine sb_ofb (fun a9 b9 => ?_)
  refine sm_lcmp cx dL_law__1745 ?_
  refine sb_gob ?_ a9 b9
  refine sb_if_eq (tgt := 1751) cx dL_law__1746 (by decide) (fun _ => ?_) (fun hne => absurd (lg_self _) hne)
  refine sb_ofb (fun a9 b9 => ?_)
  refine sm_goto (tgt := 1996) cx dL_law__1751 (by decide) ?_
  refine sb_gob ?_ a9 b9
  exact sb_lv [2, 3, 4, 5, 6] rfl hex
theorem dL_law__1754 : decode cL_law_ 1754 = .ok (.aload_n 1, 1) := by decide +kernel
theorem dL_law__1755 : decode cL_law_ 1755 = .ok (.aload_n 0, 1) := by decide +kernel
theorem dL_law__1756 : decode cL_law_ 1756 = .ok (.iload 4, 2) := by decide +kernel
theorem dL_law__1758 : decode cL_law_ 1758 = .ok (.iconst 1, 1) := by decide +kernel
theorem dL_law__1759 : decode cL_law_ 1759 = .ok (.iadd, 1) := by decide +kernel
theorem dL_law__1760 : decode cL_law_ 1760 = .ok (.iaload, 1) := by decide +kernel
theorem dL_law__1761 : decode cL_law_ 1761 = .ok (.aload_n 3, 1) := by decide +kernel
theorem dL_law__1762 : decode cL_law_ 1762 = .ok (.invokestatic 179, 3) := by decide +kernel
theorem dL_law__1765 : decode cL_law_ 1765 = .ok (.istore 5, 2) := by decide +kernel
theorem dL_law__1767 : decode cL_law_ 1767 = .ok (.aload_n 2, 1) := by decide +kernel
theorem dL_law__1768 : decode cL_law_ 1768 = .ok (.aload_n 0, 1) := by decide +kernel
theorem dL_law__1769 : decode cL_law_ 1769 = .ok (.iload 4, 2) := by decide +kernel
theorem dL_law__1771 : decode cL_law_ 1771 = .ok (.iconst 1, 1) := by decide +kernel
theorem dL_law__1772 : decode cL_law_ 1772 = .ok (.iadd, 1) := by decide +kernel
theorem dL_law__1773 : decode cL_law_ 1773 = .ok (.iaload, 1) := by decide +kernel
theorem dL_law__1774 : decode cL_law_ 1774 = .ok (.invokevirtual 181, 3) := by decide +kernel
theorem dL_law__1777 : decode cL_law_ 1777 = .ok (.istore 6, 2) := by decide +kernel
theorem dL_law__1779 : decode cL_law_ 1779 = .ok (.aload_n 2, 1) := by decide +kernel
theorem dL_law__1780 : decode cL_law_ 1780 = .ok (.invokevirtual 104, 3) := by decide +kernel
theorem dL_law__1783 : decode cL_law_ 1783 = .ok (.iload 5, 2) := by decide +kernel
theorem dL_law__1785 : decode cL_law_ 1785 = .ok (.if_icmp .eq 5, 3) := by decide +kernel
theorem dL_law__1788 : decode cL_law_ 1788 = .ok (.iconst 0, 1) := by decide +kernel
theorem dL_law__1789 : decode cL_law_ 1789 = .ok (.ireturn, 1) := by decide +kernel
theorem dL_law__1790 : decode cL_law_ 1790 = .ok (.iload 5, 2) := by decide +kernel
theorem dL_law__1792 : decode cL_law_ 1792 = .ok (.ifCond .ne 15, 3) := by decide +kernel
theorem dL_law__1795 : decode cL_law_ 1795 = .ok (.aload_n 3, 1) := by decide +kernel
theorem dL_law__1796 : decode cL_law_ 1796 = .ok (.iconst 0, 1) := by decide +kernel
theorem dL_law__1797 : decode cL_law_ 1797 = .ok (.laload, 1) := by decide +kernel
theorem dL_law__1798 : decode cL_law_ 1798 = .ok (.iload 6, 2) := by decide +kernel
theorem dL_law__1800 : decode cL_law_ 1800 = .ok (.i2l, 1) := by decide +kernel
theorem dL_law__1801 : decode cL_law_ 1801 = .ok (.lcmp, 1) := by decide +kernel
theorem dL_law__1802 : decode cL_law_ 1802 = .ok (.ifCond .eq 5, 3) := by decide +kernel
theorem dL_law__1805 : decode cL_law_ 1805 = .ok (.iconst 0, 1) := by decide +kernel
theorem dL_law__1806 : decode cL_law_ 1806 = .ok (.ireturn, 1) := by decide +kernel
theorem dL_law__1807 : decode cL_law_ 1807 = .ok (.goto 189, 3) := by decide +kernel
set_option maxRecDepth 100000 in
set_option maxHeartbeats 4000000 in
theorem lc_22 {X : Cg} (cx : Cx X cL_law_ RL 7) (htr : (xL X).stackTraces = false) (hfr : 74 ≤ (xR X).frames) (hlo : 1500 ≤ (xR X).locals) {Q : State → Prop} {b L : Nat} {xs : Nat → Int32} (hX : va_X b L xs (xS X) (xS X).heap) (hbl : b < (xS X).heap.size) (hbA : ¬ xA X b) (ax am ao : Nat) (x4 : Int32) (s1 : Int32) (e1 : xs (x4 + 1).toNatClampNeg = s1) (i1 : vp_in (x4 + 1) L) {J' : Hs → Nat → Nat → Prop} (hex : SimB X 7 Q 1996 [(0, va_rf (some b)), (1, va_rf (some ax)), (2, va_rf (some am)), (3, va_rf (some ao)), (4, .int x4)] [] J') : SimB X 7 Q 1754 [(0, va_rf (some b)), (1, va_rf (some ax)), (2, va_rf (some am)), (3, va_rf (some ao)), (4, .int x4)] [] (StepA (xR X) (f_L_reach (xZ X) (some ax) s1 (some ao)) (mo 15 (some am) (f_X12_reach (some am) s1)) (mo 15 (some am) (f_X12_thrown (some am))) (aL (some ao) 0) Int32.toInt64 J') := by
  refine sb_ofb (fun a9 b9 => ?_)
  refine sm_aload_n cx 1 dL_law__1754 rfl rfl ?_
  refine sm_aload_n cx 0 dL_law__1755 rfl rfl ?_
  refine sm_iload cx 4 dL_law__1756 rfl ?_
  refine sm_iconst (v := 1) cx dL_law__1758 (by decide) ?_
  refine sm_iadd cx dL_law__1759 ?_
  refine sm_sldE cx hX hbl hbA i1 e1 dL_law__1760 ?_
  refine sm_aload_n cx 3 dL_law__1761 rfl rfl ?_
  refine sb_gob ?_ a9 b9
  refine sb_help (toV := vI) (Ψ := StepM (xR X) (mo 15 (some am) (f_X12_reach (some am) s1)) (mo 15 (some am) (f_X12_thrown (some am))) (aL (some ao) 0) Int32.toInt64 J') cx htr [va_rf (some ax), .int s1, va_rf (some ao)] cw_L_179 (ct_L_reach (xZ X) (some ax) s1 (some ao)) (Nat.le_trans (by decide) hfr) (Nat.le_trans (by decide) hlo) rfl (cat_le _ (Nat.le_of_ble_eq_true rfl)) dL_law__1762 (fun _ _ _ hp => hp) (fun v => ?_)
  refine sb_ofb (fun a9 b9 => ?_)
  refine sm_istore cx [(5, .int v), (0, va_rf (some b)), (1, va_rf (some ax)), (2, va_rf (some am)), (3, va_rf (some ao)), (4, .int x4)] dL_law__1765 (by decide) rfl (nc1 rfl) rfl ?_
  refine sm_aload_n cx 3 dL_law__1767 rfl rfl ?_
  refine sm_aload_n cx 1 dL_law__1768 rfl rfl ?_
  refine sm_iload cx 5 dL_law__1769 rfl ?_
  refine sm_iconst (v := 1) cx dL_law__1771 (by decide) ?_
  refine sm_iadd cx dL_law__1772 ?_
  refine sm_sldE cx hX hbl hbA i1 e1 dL_law__1773 ?_
  refine sb_gob ?_ a9 b9
  refine sb_run (pc' := 1777) (lv' := fun _ => [(5, .int v), (0, va_rf (some b)), (1, va_rf (some ax)), (2, va_rf (some am)), (3, va_rf (some ao)), (4, .int x4)]) (st' := fun w => .int w :: []) (Ψ := fun w => StepT (xR X) (mo 15 (some am) (f_X12_thrown (some am))) (aL (some ao) 0) Int32.toInt64 J' v w) (fun K hK => sm_callV (T := TX12) (N := 47) (toV := vI) cx [.int s1] rfl cv_L_181_ (fun a h => ct_X12_reach (xZ X) a h s1) (Nat.le_trans (by decide) hfr) (Nat.le_trans (by decide) hlo) rfl (cat_le _ (Nat.le_of_ble_eq_true rfl)) dL_law__1774 hK) (fun _ _ _ hp => hp) (fun bb => ?_)
  refine sb_ofb (fun a9 b9 => ?_)
  refine sm_istore cx [(6, .int bb), (5, .int v), (0, va_rf (some b)), (1, va_rf (some ax)), (2, va_rf (some am)), (3, va_rf (some ao)), (4, .int x4)] dL_law__1777 (by decide) rfl (nc1 rfl) rfl ?_
  refine sm_aload_n cx 4 dL_law__1779 rfl rfl ?_
  refine sb_gob ?_ a9 b9
  refine sb_run (pc' := 1783) (lv' := fun _ => [(6, .int bb), (5, .int v), (0, va_rf (some b)), (1, va_rf (some ax)), (2, va_rf (some am)), (3, va_rf (some ao)), (4, .int x4)]) (st' := fun w => .int w :: []) (Ψ := fun w h c n => v = w ∧ StepO (aL (some ao) 0) Int32.toInt64 J' v bb h c n) (fun K hK => sm_callV (T := TX12) (N := 47) (toV := vI) cx [] rfl cv_L_104_ (fun a h => ct_X12_thrown (xZ X) a h) (Nat.le_trans (by decide) hfr) (Nat.le_trans (by decide) hlo) rfl (cat_le _ (Nat.le_of_ble_eq_true rfl)) dL_law__1780 hK) (fun _ _ _ hp => by obtain ⟨h1, c1, n1, q1, q2, q3, q4⟩ := hp; exact ⟨v, h1, c1, n1, q1, ⟨rfl, q2⟩, q3, q4⟩) (fun t => sb_and (fun ht => ?_))
  subst ht
  refine sb_ofb (fun a9 b9 => ?_)
  refine sm_iload cx 1 dL_law__1783 rfl ?_
  refine sb_gob ?_ a9 b9
  refine sb_icmp_eq (tgt := 1790) cx dL_law__1785 (by decide) (fun _ => ?_) (fun hne => absurd rfl hne)
  refine sb_ofb (fun a9 b9 => ?_)
  refine sm_iload cx 1 dL_law__1790 rfl ?_
  refine sb_gob ?_ a9 b9
  refine sb_if_ne (tgt := 1807) cx dL_law__1792 (by decide) (fun hne => ?_) (fun h0 => ?_)
  · refine sb_imp (fun _ _ _ hp => hp.2) ?_
    refine sb_ofb (fun a9 b9 => ?_)
    refine sm_goto (tgt := 1996) cx dL_law__1807 (by decide) ?_
    refine sb_gob ?_ a9 b9
    exact sb_lv [2, 3, 4, 5, 6] rfl hex
  refine sb_room (sb_imp (Ψ := StepR (xR X) (aL (some ao) 0) (Int32.toInt64 bb) J') (fun _ _ _ hp => ⟨hp.1.1 h0, hp.1.2, hp.2⟩) ?_)
  refine sb_ofb (fun a9 b9 => ?_)
  refine sm_aload_n cx 5 dL_law__1795 rfl rfl ?_
  refine sm_iconst (v := 0) cx dL_law__1796 (by decide) ?_
  refine sb_gob ?_ a9 b9
  refine sb_run (pc' := 1798) (lv' := fun _ => [(6, .int bb), (5, .int v), (0, va_rf (some b)), (1, va_rf (some ax)), (2, va_rf (some am)), (3, va_rf (some ao)), (4, .int x4)]) (st' := fun w => .long w :: []) (Ψ := fun w h c n => w = (Int32.toInt64 bb) ∧ J' h c n) (fun K hK => sm_lald cx dL_law__1797 hK) (fun h c0 n0 hp => ⟨(Int32.toInt64 bb), h, 0, 0, hp.1, ⟨rfl, hp.2.1⟩, hp.2.2.1, hp.2.2.2⟩) (fun w => sb_and (fun hw => ?_))
  subst hw
  refine sb_ofb (fun a9 b9 => ?_)
  refine sm_iload cx 0 dL_law__1798 rfl ?_
  refine sm_i2l cx dL_law__1800 ?_
  refine sm_lcmp cx dL_law__1801 ?_
  refine sb_gob ?_ a9 b9
  refine sb_if_eq (tgt := 1807) cx dL_law__1802 (by decide) (fun _ => ?_) (fun hne => absurd (lg_self _) hne)
  refine sb_ofb (fun a9 b9 => ?_)
  refine sm_goto (tgt := 1996) cx dL_law__1807 (by decide) ?_
  refine sb_gob ?_ a9 b9
  exact sb_lv [2, 3, 4, 5, 6] rfl hex
theorem dL_law__1810 : decode cL_law_ 1810 = .ok (.aload_n 1, 1) := by decide +kernel
theorem dL_law__1811 : decode cL_law_ 1811 = .ok (.aload_n 0, 1) := by decide +kernel
theorem dL_law__1812 : decode cL_law_ 1812 = .ok (.iload 4, 2) := by decide +kernel
theorem dL_law__1814 : decode cL_law_ 1814 = .ok (.iconst 1, 1) := by decide +kernel
theorem dL_law__1815 : decode cL_law_ 1815 = .ok (.iadd, 1) := by decide +kernel
theorem dL_law__1816 : decode cL_law_ 1816 = .ok (.iaload, 1) := by decide +kernel
theorem dL_law__1817 : decode cL_law_ 1817 = .ok (.aload_n 0, 1) := by decide +kernel
theorem dL_law__1818 : decode cL_law_ 1818 = .ok (.iload 4, 2) := by decide +kernel
theorem dL_law__1820 : decode cL_law_ 1820 = .ok (.iconst 2, 1) := by decide +kernel
theorem dL_law__1821 : decode cL_law_ 1821 = .ok (.iadd, 1) := by decide +kernel
theorem dL_law__1822 : decode cL_law_ 1822 = .ok (.iaload, 1) := by decide +kernel
theorem dL_law__1823 : decode cL_law_ 1823 = .ok (.aload_n 0, 1) := by decide +kernel
theorem dL_law__1824 : decode cL_law_ 1824 = .ok (.iload 4, 2) := by decide +kernel
theorem dL_law__1826 : decode cL_law_ 1826 = .ok (.iconst 3, 1) := by decide +kernel
theorem dL_law__1827 : decode cL_law_ 1827 = .ok (.iadd, 1) := by decide +kernel
theorem dL_law__1828 : decode cL_law_ 1828 = .ok (.iaload, 1) := by decide +kernel
theorem dL_law__1829 : decode cL_law_ 1829 = .ok (.aload_n 3, 1) := by decide +kernel
theorem dL_law__1830 : decode cL_law_ 1830 = .ok (.invokestatic 182, 3) := by decide +kernel
theorem dL_law__1833 : decode cL_law_ 1833 = .ok (.istore 5, 2) := by decide +kernel
theorem dL_law__1835 : decode cL_law_ 1835 = .ok (.aload_n 2, 1) := by decide +kernel
theorem dL_law__1836 : decode cL_law_ 1836 = .ok (.aload_n 0, 1) := by decide +kernel
theorem dL_law__1837 : decode cL_law_ 1837 = .ok (.iload 4, 2) := by decide +kernel
theorem dL_law__1839 : decode cL_law_ 1839 = .ok (.iconst 1, 1) := by decide +kernel
theorem dL_law__1840 : decode cL_law_ 1840 = .ok (.iadd, 1) := by decide +kernel
theorem dL_law__1841 : decode cL_law_ 1841 = .ok (.iaload, 1) := by decide +kernel
theorem dL_law__1842 : decode cL_law_ 1842 = .ok (.aload_n 0, 1) := by decide +kernel
theorem dL_law__1843 : decode cL_law_ 1843 = .ok (.iload 4, 2) := by decide +kernel
theorem dL_law__1845 : decode cL_law_ 1845 = .ok (.iconst 2, 1) := by decide +kernel
theorem dL_law__1846 : decode cL_law_ 1846 = .ok (.iadd, 1) := by decide +kernel
theorem dL_law__1847 : decode cL_law_ 1847 = .ok (.iaload, 1) := by decide +kernel
theorem dL_law__1848 : decode cL_law_ 1848 = .ok (.aload_n 0, 1) := by decide +kernel
theorem dL_law__1849 : decode cL_law_ 1849 = .ok (.iload 4, 2) := by decide +kernel
theorem dL_law__1851 : decode cL_law_ 1851 = .ok (.iconst 3, 1) := by decide +kernel
theorem dL_law__1852 : decode cL_law_ 1852 = .ok (.iadd, 1) := by decide +kernel
theorem dL_law__1853 : decode cL_law_ 1853 = .ok (.iaload, 1) := by decide +kernel
theorem dL_law__1854 : decode cL_law_ 1854 = .ok (.invokevirtual 184, 3) := by decide +kernel
theorem dL_law__1857 : decode cL_law_ 1857 = .ok (.istore 6, 2) := by decide +kernel
theorem dL_law__1859 : decode cL_law_ 1859 = .ok (.aload_n 2, 1) := by decide +kernel
theorem dL_law__1860 : decode cL_law_ 1860 = .ok (.invokevirtual 104, 3) := by decide +kernel
theorem dL_law__1863 : decode cL_law_ 1863 = .ok (.iload 5, 2) := by decide +kernel
theorem dL_law__1865 : decode cL_law_ 1865 = .ok (.if_icmp .eq 5, 3) := by decide +kernel
theorem dL_law__1868 : decode cL_law_ 1868 = .ok (.iconst 0, 1) := by decide +kernel
theorem dL_law__1869 : decode cL_law_ 1869 = .ok (.ireturn, 1) := by decide +kernel
theorem dL_law__1870 : decode cL_law_ 1870 = .ok (.iload 5, 2) := by decide +kernel
theorem dL_law__1872 : decode cL_law_ 1872 = .ok (.ifCond .ne 15, 3) := by decide +kernel
theorem dL_law__1875 : decode cL_law_ 1875 = .ok (.aload_n 3, 1) := by decide +kernel
theorem dL_law__1876 : decode cL_law_ 1876 = .ok (.iconst 0, 1) := by decide +kernel
theorem dL_law__1877 : decode cL_law_ 1877 = .ok (.laload, 1) := by decide +kernel
theorem dL_law__1878 : decode cL_law_ 1878 = .ok (.iload 6, 2) := by decide +kernel
theorem dL_law__1880 : decode cL_law_ 1880 = .ok (.i2l, 1) := by decide +kernel
theorem dL_law__1881 : decode cL_law_ 1881 = .ok (.lcmp, 1) := by decide +kernel
theorem dL_law__1882 : decode cL_law_ 1882 = .ok (.ifCond .eq 5, 3) := by decide +kernel
theorem dL_law__1885 : decode cL_law_ 1885 = .ok (.iconst 0, 1) := by decide +kernel
theorem dL_law__1886 : decode cL_law_ 1886 = .ok (.ireturn, 1) := by decide +kernel
theorem dL_law__1887 : decode cL_law_ 1887 = .ok (.goto 109, 3) := by decide +kernel
set_option maxRecDepth 100000 in
set_option maxHeartbeats 4000000 in
theorem lc_23 {X : Cg} (cx : Cx X cL_law_ RL 7) (htr : (xL X).stackTraces = false) (hfr : 74 ≤ (xR X).frames) (hlo : 1500 ≤ (xR X).locals) {Q : State → Prop} {b L : Nat} {xs : Nat → Int32} (hX : va_X b L xs (xS X) (xS X).heap) (hbl : b < (xS X).heap.size) (hbA : ¬ xA X b) (ax am ao : Nat) (x4 : Int32) (s1 : Int32) (e1 : xs (x4 + 1).toNatClampNeg = s1) (i1 : vp_in (x4 + 1) L) (s2 : Int32) (e2 : xs (x4 + 2).toNatClampNeg = s2) (i2 : vp_in (x4 + 2) L) (s3 : Int32) (e3 : xs (x4 + 3).toNatClampNeg = s3) (i3 : vp_in (x4 + 3) L) {J' : Hs → Nat → Nat → Prop} (hex : SimB X 7 Q 1996 [(0, va_rf (some b)), (1, va_rf (some ax)), (2, va_rf (some am)), (3, va_rf (some ao)), (4, .int x4)] [] J') : SimB X 7 Q 1810 [(0, va_rf (some b)), (1, va_rf (some ax)), (2, va_rf (some am)), (3, va_rf (some ao)), (4, .int x4)] [] (StepA (xR X) (f_L_reached (xZ X) (some ax) s1 s2 s3 (some ao)) (mo 15 (some am) (f_X12_reached (some am) s1 s2 s3)) (mo 15 (some am) (f_X12_thrown (some am))) (aL (some ao) 0) Int32.toInt64 J') := by
  refine sb_ofb (fun a9 b9 => ?_)
  refine sm_aload_n cx 1 dL_law__1810 rfl rfl ?_
  refine sm_aload_n cx 0 dL_law__1811 rfl rfl ?_
  refine sm_iload cx 4 dL_law__1812 rfl ?_
  refine sm_iconst (v := 1) cx dL_law__1814 (by decide) ?_
  refine sm_iadd cx dL_law__1815 ?_
  refine sm_sldE cx hX hbl hbA i1 e1 dL_law__1816 ?_
  refine sm_aload_n cx 0 dL_law__1817 rfl rfl ?_
  refine sm_iload cx 4 dL_law__1818 rfl ?_
  refine sm_iconst (v := 2) cx dL_law__1820 (by decide) ?_
  refine sm_iadd cx dL_law__1821 ?_
  refine sm_sldE cx hX hbl hbA i2 e2 dL_law__1822 ?_
  refine sm_aload_n cx 0 dL_law__1823 rfl rfl ?_
  refine sm_iload cx 4 dL_law__1824 rfl ?_
  refine sm_iconst (v := 3) cx dL_law__1826 (by decide) ?_
  refine sm_iadd cx dL_law__1827 ?_
  refine sm_sldE cx hX hbl hbA i3 e3 dL_law__1828 ?_
  refine sm_aload_n cx 3 dL_law__1829 rfl rfl ?_
  refine sb_gob ?_ a9 b9
  refine sb_help (toV := vI) (Ψ := StepM (xR X) (mo 15 (some am) (f_X12_reached (some am) s1 s2 s3)) (mo 15 (some am) (f_X12_thrown (some am))) (aL (some ao) 0) Int32.toInt64 J') cx htr [va_rf (some ax), .int s1, .int s2, .int s3, va_rf (some ao)] cw_L_182 (ct_L_reached (xZ X) (some ax) s1 s2 s3 (some ao)) (Nat.le_trans (by decide) hfr) (Nat.le_trans (by decide) hlo) rfl (cat_le _ (Nat.le_of_ble_eq_true rfl)) dL_law__1830 (fun _ _ _ hp => hp) (fun v => ?_)
  refine sb_ofb (fun a9 b9 => ?_)
  refine sm_istore cx [(5, .int v), (0, va_rf (some b)), (1, va_rf (some ax)), (2, va_rf (some am)), (3, va_rf (some ao)), (4, .int x4)] dL_law__1833 (by decide) rfl (nc1 rfl) rfl ?_
  refine sm_aload_n cx 3 dL_law__1835 rfl rfl ?_
  refine sm_aload_n cx 1 dL_law__1836 rfl rfl ?_
  refine sm_iload cx 5 dL_law__1837 rfl ?_
  refine sm_iconst (v := 1) cx dL_law__1839 (by decide) ?_
  refine sm_iadd cx dL_law__1840 ?_
  refine sm_sldE cx hX hbl hbA i1 e1 dL_law__1841 ?_
  refine sm_aload_n cx 1 dL_law__1842 rfl rfl ?_
  refine sm_iload cx 5 dL_law__1843 rfl ?_
  refine sm_iconst (v := 2) cx dL_law__1845 (by decide) ?_
  refine sm_iadd cx dL_law__1846 ?_
  refine sm_sldE cx hX hbl hbA i2 e2 dL_law__1847 ?_
  refine sm_aload_n cx 1 dL_law__1848 rfl rfl ?_
  refine sm_iload cx 5 dL_law__1849 rfl ?_
  refine sm_iconst (v := 3) cx dL_law__1851 (by decide) ?_
  refine sm_iadd cx dL_law__1852 ?_
  refine sm_sldE cx hX hbl hbA i3 e3 dL_law__1853 ?_
  refine sb_gob ?_ a9 b9
  refine sb_run (pc' := 1857) (lv' := fun _ => [(5, .int v), (0, va_rf (some b)), (1, va_rf (some ax)), (2, va_rf (some am)), (3, va_rf (some ao)), (4, .int x4)]) (st' := fun w => .int w :: []) (Ψ := fun w => StepT (xR X) (mo 15 (some am) (f_X12_thrown (some am))) (aL (some ao) 0) Int32.toInt64 J' v w) (fun K hK => sm_callV (T := TX12) (N := 47) (toV := vI) cx [.int s1, .int s2, .int s3] rfl cv_L_184_ (fun a h => ct_X12_reached (xZ X) a h s1 s2 s3) (Nat.le_trans (by decide) hfr) (Nat.le_trans (by decide) hlo) rfl (cat_le _ (Nat.le_of_ble_eq_true rfl)) dL_law__1854 hK) (fun _ _ _ hp => hp) (fun bb => ?_)
  refine sb_ofb (fun a9 b9 => ?_)
  refine sm_istore cx [(6, .int bb), (5, .int v), (0, va_rf (some b)), (1, va_rf (some ax)), (2, va_rf (some am)), (3, va_rf (some ao)), (4, .int x4)] dL_law__1857 (by decide) rfl (nc1 rfl) rfl ?_
  refine sm_aload_n cx 4 dL_law__1859 rfl rfl ?_
  refine sb_gob ?_ a9 b9
  refine sb_run (pc' := 1863) (lv' := fun _ => [(6, .int bb), (5, .int v), (0, va_rf (some b)), (1, va_rf (some ax)), (2, va_rf (some am)), (3, va_rf (some ao)), (4, .int x4)]) (st' := fun w => .int w :: []) (Ψ := fun w h c n => v = w ∧ StepO (aL (some ao) 0) Int32.toInt64 J' v bb h c n) (fun K hK => sm_callV (T := TX12) (N := 47) (toV := vI) cx [] rfl cv_L_104_ (fun a h => ct_X12_thrown (xZ X) a h) (Nat.le_trans (by decide) hfr) (Nat.le_trans (by decide) hlo) rfl (cat_le _ (Nat.le_of_ble_eq_true rfl)) dL_law__1860 hK) (fun _ _ _ hp => by obtain ⟨h1, c1, n1, q1, q2, q3, q4⟩ := hp; exact ⟨v, h1, c1, n1, q1, ⟨rfl, q2⟩, q3, q4⟩) (fun t => sb_and (fun ht => ?_))
  subst ht
  refine sb_ofb (fun a9 b9 => ?_)
  refine sm_iload cx 1 dL_law__1863 rfl ?_
  refine sb_gob ?_ a9 b9
  refine sb_icmp_eq (tgt := 1870) cx dL_law__1865 (by decide) (fun _ => ?_) (fun hne => absurd rfl hne)
  refine sb_ofb (fun a9 b9 => ?_)
  refine sm_iload cx 1 dL_law__1870 rfl ?_
  refine sb_gob ?_ a9 b9
  refine sb_if_ne (tgt := 1887) cx dL_law__1872 (by decide) (fun hne => ?_) (fun h0 => ?_)
  · refine sb_imp (fun _ _ _ hp => hp.2) ?_
    refine sb_ofb (fun a9 b9 => ?_)
    refine sm_goto (tgt := 1996) cx dL_law__1887 (by decide) ?_
    refine sb_gob ?_ a9 b9
    exact sb_lv [2, 3, 4, 5, 6] rfl hex
  refine sb_room (sb_imp (Ψ := StepR (xR X) (aL (some ao) 0) (Int32.toInt64 bb) J') (fun _ _ _ hp => ⟨hp.1.1 h0, hp.1.2, hp.2⟩) ?_)
  refine sb_ofb (fun a9 b9 => ?_)
  refine sm_aload_n cx 5 dL_law__1875 rfl rfl ?_
  refine sm_iconst (v := 0) cx dL_law__1876 (by decide) ?_
  refine sb_gob ?_ a9 b9
  refine sb_run (pc' := 1878) (lv' := fun _ => [(6, .int bb), (5, .int v), (0, va_rf (some b)), (1, va_rf (some ax)), (2, va_rf (some am)), (3, va_rf (some ao)), (4, .int x4)]) (st' := fun w => .long w :: []) (Ψ := fun w h c n => w = (Int32.toInt64 bb) ∧ J' h c n) (fun K hK => sm_lald cx dL_law__1877 hK) (fun h c0 n0 hp => ⟨(Int32.toInt64 bb), h, 0, 0, hp.1, ⟨rfl, hp.2.1⟩, hp.2.2.1, hp.2.2.2⟩) (fun w => sb_and (fun hw => ?_))
  subst hw
  refine sb_ofb (fun a9 b9 => ?_)
  refine sm_iload cx 0 dL_law__1878 rfl ?_
  refine sm_i2l cx dL_law__1880 ?_
  refine sm_lcmp cx dL_law__1881 ?_
  refine sb_gob ?_ a9 b9
  refine sb_if_eq (tgt := 1887) cx dL_law__1882 (by decide) (fun _ => ?_) (fun hne => absurd (lg_self _) hne)
  refine sb_ofb (fun a9 b9 => ?_)
  refine sm_goto (tgt := 1996) cx dL_law__1887 (by decide) ?_
  refine sb_gob ?_ a9 b9
  exact sb_lv [2, 3, 4, 5, 6] rfl hex
theorem dL_law__1890 : decode cL_law_ 1890 = .ok (.aload_n 1, 1) := by decide +kernel
theorem dL_law__1891 : decode cL_law_ 1891 = .ok (.invokevirtual 185, 3) := by decide +kernel
theorem dL_law__1894 : decode cL_law_ 1894 = .ok (.aload_n 2, 1) := by decide +kernel
theorem dL_law__1895 : decode cL_law_ 1895 = .ok (.invokevirtual 188, 3) := by decide +kernel
theorem dL_law__1898 : decode cL_law_ 1898 = .ok (.if_icmp .eq 98, 3) := by decide +kernel
theorem dL_law__1901 : decode cL_law_ 1901 = .ok (.iconst 0, 1) := by decide +kernel
theorem dL_law__1902 : decode cL_law_ 1902 = .ok (.ireturn, 1) := by decide +kernel
set_option maxRecDepth 100000 in
set_option maxHeartbeats 4000000 in
theorem lc_24 {X : Cg} (cx : Cx X cL_law_ RL 7) (htr : (xL X).stackTraces = false) (hfr : 74 ≤ (xR X).frames) (hlo : 1500 ≤ (xR X).locals) {Q : State → Prop} {b L : Nat} {xs : Nat → Int32} (hX : va_X b L xs (xS X) (xS X).heap) (hbl : b < (xS X).heap.size) (hbA : ¬ xA X b) (ax am ao : Nat) (x4 : Int32) {J' : Hs → Nat → Nat → Prop} (hex : SimB X 7 Q 1996 [(0, va_rf (some b)), (1, va_rf (some ax)), (2, va_rf (some am)), (3, va_rf (some ao)), (4, .int x4)] [] J') : SimB X 7 Q 1890 [(0, va_rf (some b)), (1, va_rf (some ax)), (2, va_rf (some am)), (3, va_rf (some ao)), (4, .int x4)] [] (StepD (xR X) (mo 14 (some ax) (f_X11_quarrels (some ax))) (mo 15 (some am) (f_X12_quarrels (some am))) J') := by
  refine sb_ofb (fun a9 b9 => ?_)
  refine sm_aload_n cx 1 dL_law__1890 rfl rfl ?_
  refine sb_gob ?_ a9 b9
  refine sb_run (pc' := 1894) (lv' := fun _ => [(0, va_rf (some b)), (1, va_rf (some ax)), (2, va_rf (some am)), (3, va_rf (some ao)), (4, .int x4)]) (st' := fun w => .int w :: []) (Ψ := fun w => StepE (xR X) (mo 15 (some am) (f_X12_quarrels (some am))) J' w) (fun K hK => sm_callV (T := TX11) (N := 14) (toV := vI) cx [] rfl cv_L_185_ (fun a h => ct_X11_quarrels (xZ X) a h) (Nat.le_trans (by decide) hfr) (Nat.le_trans (by decide) hlo) rfl (cat_le _ (Nat.le_of_ble_eq_true rfl)) dL_law__1891 hK) (fun _ _ _ hp => hp) (fun v => ?_)
  refine sb_ofb (fun a9 b9 => ?_)
  refine sm_aload_n cx 2 dL_law__1894 rfl rfl ?_
  refine sb_gob ?_ a9 b9
  refine sb_run (pc' := 1898) (lv' := fun _ => [(0, va_rf (some b)), (1, va_rf (some ax)), (2, va_rf (some am)), (3, va_rf (some ao)), (4, .int x4)]) (st' := fun w => .int w :: [.int v]) (Ψ := fun w h c n => v = w ∧ J' h c n) (fun K hK => sm_callV (T := TX12) (N := 47) (toV := vI) cx [] rfl cv_L_188_ (fun a h => ct_X12_quarrels (xZ X) a h) (Nat.le_trans (by decide) hfr) (Nat.le_trans (by decide) hlo) rfl (cat_le _ (Nat.le_of_ble_eq_true rfl)) dL_law__1895 hK) (fun _ _ _ hp => by obtain ⟨h1, c1, n1, q1, q2, q3, q4⟩ := hp; exact ⟨v, h1, c1, n1, q1, ⟨rfl, q2⟩, q3, q4⟩) (fun t => sb_and (fun ht => ?_))
  subst ht
  refine sb_icmp_eq (tgt := 1996) cx dL_law__1898 (by decide) (fun _ => ?_) (fun hne => absurd rfl hne)
  exact sb_lv [0, 1, 2, 3, 4] rfl hex
theorem dL_law__1903 : decode cL_law_ 1903 = .ok (.aload_n 1, 1) := by decide +kernel
theorem dL_law__1904 : decode cL_law_ 1904 = .ok (.aload_n 0, 1) := by decide +kernel
theorem dL_law__1905 : decode cL_law_ 1905 = .ok (.iload 4, 2) := by decide +kernel
theorem dL_law__1907 : decode cL_law_ 1907 = .ok (.iconst 1, 1) := by decide +kernel
theorem dL_law__1908 : decode cL_law_ 1908 = .ok (.iadd, 1) := by decide +kernel
theorem dL_law__1909 : decode cL_law_ 1909 = .ok (.iaload, 1) := by decide +kernel
theorem dL_law__1910 : decode cL_law_ 1910 = .ok (.aload_n 0, 1) := by decide +kernel
theorem dL_law__1911 : decode cL_law_ 1911 = .ok (.iload 4, 2) := by decide +kernel
theorem dL_law__1913 : decode cL_law_ 1913 = .ok (.iconst 2, 1) := by decide +kernel
theorem dL_law__1914 : decode cL_law_ 1914 = .ok (.iadd, 1) := by decide +kernel
theorem dL_law__1915 : decode cL_law_ 1915 = .ok (.iaload, 1) := by decide +kernel
theorem dL_law__1916 : decode cL_law_ 1916 = .ok (.aload_n 3, 1) := by decide +kernel
theorem dL_law__1917 : decode cL_law_ 1917 = .ok (.invokestatic 189, 3) := by decide +kernel
theorem dL_law__1920 : decode cL_law_ 1920 = .ok (.istore 5, 2) := by decide +kernel
theorem dL_law__1922 : decode cL_law_ 1922 = .ok (.aload_n 2, 1) := by decide +kernel
theorem dL_law__1923 : decode cL_law_ 1923 = .ok (.aload_n 0, 1) := by decide +kernel
theorem dL_law__1924 : decode cL_law_ 1924 = .ok (.iload 4, 2) := by decide +kernel
theorem dL_law__1926 : decode cL_law_ 1926 = .ok (.iconst 1, 1) := by decide +kernel
theorem dL_law__1927 : decode cL_law_ 1927 = .ok (.iadd, 1) := by decide +kernel
theorem dL_law__1928 : decode cL_law_ 1928 = .ok (.iaload, 1) := by decide +kernel
theorem dL_law__1929 : decode cL_law_ 1929 = .ok (.aload_n 0, 1) := by decide +kernel
theorem dL_law__1930 : decode cL_law_ 1930 = .ok (.iload 4, 2) := by decide +kernel
theorem dL_law__1932 : decode cL_law_ 1932 = .ok (.iconst 2, 1) := by decide +kernel
theorem dL_law__1933 : decode cL_law_ 1933 = .ok (.iadd, 1) := by decide +kernel
theorem dL_law__1934 : decode cL_law_ 1934 = .ok (.iaload, 1) := by decide +kernel
theorem dL_law__1935 : decode cL_law_ 1935 = .ok (.invokevirtual 191, 3) := by decide +kernel
theorem dL_law__1938 : decode cL_law_ 1938 = .ok (.istore 6, 2) := by decide +kernel
theorem dL_law__1940 : decode cL_law_ 1940 = .ok (.aload_n 2, 1) := by decide +kernel
theorem dL_law__1941 : decode cL_law_ 1941 = .ok (.invokevirtual 104, 3) := by decide +kernel
theorem dL_law__1944 : decode cL_law_ 1944 = .ok (.iload 5, 2) := by decide +kernel
theorem dL_law__1946 : decode cL_law_ 1946 = .ok (.if_icmp .eq 5, 3) := by decide +kernel
theorem dL_law__1949 : decode cL_law_ 1949 = .ok (.iconst 0, 1) := by decide +kernel
theorem dL_law__1950 : decode cL_law_ 1950 = .ok (.ireturn, 1) := by decide +kernel
theorem dL_law__1951 : decode cL_law_ 1951 = .ok (.iload 5, 2) := by decide +kernel
theorem dL_law__1953 : decode cL_law_ 1953 = .ok (.ifCond .ne 15, 3) := by decide +kernel
theorem dL_law__1956 : decode cL_law_ 1956 = .ok (.aload_n 3, 1) := by decide +kernel
theorem dL_law__1957 : decode cL_law_ 1957 = .ok (.iconst 0, 1) := by decide +kernel
theorem dL_law__1958 : decode cL_law_ 1958 = .ok (.laload, 1) := by decide +kernel
theorem dL_law__1959 : decode cL_law_ 1959 = .ok (.iload 6, 2) := by decide +kernel
theorem dL_law__1961 : decode cL_law_ 1961 = .ok (.i2l, 1) := by decide +kernel
theorem dL_law__1962 : decode cL_law_ 1962 = .ok (.lcmp, 1) := by decide +kernel
theorem dL_law__1963 : decode cL_law_ 1963 = .ok (.ifCond .eq 5, 3) := by decide +kernel
theorem dL_law__1966 : decode cL_law_ 1966 = .ok (.iconst 0, 1) := by decide +kernel
theorem dL_law__1967 : decode cL_law_ 1967 = .ok (.ireturn, 1) := by decide +kernel
theorem dL_law__1968 : decode cL_law_ 1968 = .ok (.goto 28, 3) := by decide +kernel
set_option maxRecDepth 100000 in
set_option maxHeartbeats 4000000 in
theorem lc_25 {X : Cg} (cx : Cx X cL_law_ RL 7) (htr : (xL X).stackTraces = false) (hfr : 74 ≤ (xR X).frames) (hlo : 1500 ≤ (xR X).locals) {Q : State → Prop} {b L : Nat} {xs : Nat → Int32} (hX : va_X b L xs (xS X) (xS X).heap) (hbl : b < (xS X).heap.size) (hbA : ¬ xA X b) (ax am ao : Nat) (x4 : Int32) (s1 : Int32) (e1 : xs (x4 + 1).toNatClampNeg = s1) (i1 : vp_in (x4 + 1) L) (s2 : Int32) (e2 : xs (x4 + 2).toNatClampNeg = s2) (i2 : vp_in (x4 + 2) L) {J' : Hs → Nat → Nat → Prop} (hex : SimB X 7 Q 1996 [(0, va_rf (some b)), (1, va_rf (some ax)), (2, va_rf (some am)), (3, va_rf (some ao)), (4, .int x4)] [] J') : SimB X 7 Q 1903 [(0, va_rf (some b)), (1, va_rf (some ax)), (2, va_rf (some am)), (3, va_rf (some ao)), (4, .int x4)] [] (StepA (xR X) (f_L_quarrel (some ax) s1 s2 (some ao)) (mo 15 (some am) (f_X12_quarrel (some am) s1 s2)) (mo 15 (some am) (f_X12_thrown (some am))) (aL (some ao) 0) Int32.toInt64 J') := by
  refine sb_ofb (fun a9 b9 => ?_)
  refine sm_aload_n cx 1 dL_law__1903 rfl rfl ?_
  refine sm_aload_n cx 0 dL_law__1904 rfl rfl ?_
  refine sm_iload cx 4 dL_law__1905 rfl ?_
  refine sm_iconst (v := 1) cx dL_law__1907 (by decide) ?_
  refine sm_iadd cx dL_law__1908 ?_
  refine sm_sldE cx hX hbl hbA i1 e1 dL_law__1909 ?_
  refine sm_aload_n cx 0 dL_law__1910 rfl rfl ?_
  refine sm_iload cx 4 dL_law__1911 rfl ?_
  refine sm_iconst (v := 2) cx dL_law__1913 (by decide) ?_
  refine sm_iadd cx dL_law__1914 ?_
  refine sm_sldE cx hX hbl hbA i2 e2 dL_law__1915 ?_
  refine sm_aload_n cx 3 dL_law__1916 rfl rfl ?_
  refine sb_gob ?_ a9 b9
  refine sb_help (toV := vI) (Ψ := StepM (xR X) (mo 15 (some am) (f_X12_quarrel (some am) s1 s2)) (mo 15 (some am) (f_X12_thrown (some am))) (aL (some ao) 0) Int32.toInt64 J') cx htr [va_rf (some ax), .int s1, .int s2, va_rf (some ao)] cw_L_189 (ct_L_quarrel (xZ X) (some ax) s1 s2 (some ao)) (Nat.le_trans (by decide) hfr) (Nat.le_trans (by decide) hlo) rfl (cat_le _ (Nat.le_of_ble_eq_true rfl)) dL_law__1917 (fun _ _ _ hp => hp) (fun v => ?_)
  refine sb_ofb (fun a9 b9 => ?_)
  refine sm_istore cx [(5, .int v), (0, va_rf (some b)), (1, va_rf (some ax)), (2, va_rf (some am)), (3, va_rf (some ao)), (4, .int x4)] dL_law__1920 (by decide) rfl (nc1 rfl) rfl ?_
  refine sm_aload_n cx 3 dL_law__1922 rfl rfl ?_
  refine sm_aload_n cx 1 dL_law__1923 rfl rfl ?_
  refine sm_iload cx 5 dL_law__1924 rfl ?_
  refine sm_iconst (v := 1) cx dL_law__1926 (by decide) ?_
  refine sm_iadd cx dL_law__1927 ?_
  refine sm_sldE cx hX hbl hbA i1 e1 dL_law__1928 ?_
  refine sm_aload_n cx 1 dL_law__1929 rfl rfl ?_
  refine sm_iload cx 5 dL_law__1930 rfl ?_
  refine sm_iconst (v := 2) cx dL_law__1932 (by decide) ?_
  refine sm_iadd cx dL_law__1933 ?_
  refine sm_sldE cx hX hbl hbA i2 e2 dL_law__1934 ?_
  refine sb_gob ?_ a9 b9
  refine sb_run (pc' := 1938) (lv' := fun _ => [(5, .int v), (0, va_rf (some b)), (1, va_rf (some ax)), (2, va_rf (some am)), (3, va_rf (some ao)), (4, .int x4)]) (st' := fun w => .int w :: []) (Ψ := fun w => StepT (xR X) (mo 15 (some am) (f_X12_thrown (some am))) (aL (some ao) 0) Int32.toInt64 J' v w) (fun K hK => sm_callV (T := TX12) (N := 47) (toV := vI) cx [.int s1, .int s2] rfl cv_L_191_ (fun a h => ct_X12_quarrel (xZ X) a h s1 s2) (Nat.le_trans (by decide) hfr) (Nat.le_trans (by decide) hlo) rfl (cat_le _ (Nat.le_of_ble_eq_true rfl)) dL_law__1935 hK) (fun _ _ _ hp => hp) (fun bb => ?_)
  refine sb_ofb (fun a9 b9 => ?_)
  refine sm_istore cx [(6, .int bb), (5, .int v), (0, va_rf (some b)), (1, va_rf (some ax)), (2, va_rf (some am)), (3, va_rf (some ao)), (4, .int x4)] dL_law__1938 (by decide) rfl (nc1 rfl) rfl ?_
  refine sm_aload_n cx 4 dL_law__1940 rfl rfl ?_
  refine sb_gob ?_ a9 b9
  refine sb_run (pc' := 1944) (lv' := fun _ => [(6, .int bb), (5, .int v), (0, va_rf (some b)), (1, va_rf (some ax)), (2, va_rf (some am)), (3, va_rf (some ao)), (4, .int x4)]) (st' := fun w => .int w :: []) (Ψ := fun w h c n => v = w ∧ StepO (aL (some ao) 0) Int32.toInt64 J' v bb h c n) (fun K hK => sm_callV (T := TX12) (N := 47) (toV := vI) cx [] rfl cv_L_104_ (fun a h => ct_X12_thrown (xZ X) a h) (Nat.le_trans (by decide) hfr) (Nat.le_trans (by decide) hlo) rfl (cat_le _ (Nat.le_of_ble_eq_true rfl)) dL_law__1941 hK) (fun _ _ _ hp => by obtain ⟨h1, c1, n1, q1, q2, q3, q4⟩ := hp; exact ⟨v, h1, c1, n1, q1, ⟨rfl, q2⟩, q3, q4⟩) (fun t => sb_and (fun ht => ?_))
  subst ht
  refine sb_ofb (fun a9 b9 => ?_)
  refine sm_iload cx 1 dL_law__1944 rfl ?_
  refine sb_gob ?_ a9 b9
  refine sb_icmp_eq (tgt := 1951) cx dL_law__1946 (by decide) (fun _ => ?_) (fun hne => absurd rfl hne)
  refine sb_ofb (fun a9 b9 => ?_)
  refine sm_iload cx 1 dL_law__1951 rfl ?_
  refine sb_gob ?_ a9 b9
  refine sb_if_ne (tgt := 1968) cx dL_law__1953 (by decide) (fun hne => ?_) (fun h0 => ?_)
  · refine sb_imp (fun _ _ _ hp => hp.2) ?_
    refine sb_ofb (fun a9 b9 => ?_)
    refine sm_goto (tgt := 1996) cx dL_law__1968 (by decide) ?_
    refine sb_gob ?_ a9 b9
    exact sb_lv [2, 3, 4, 5, 6] rfl hex
  refine sb_room (sb_imp (Ψ := StepR (xR X) (aL (some ao) 0) (Int32.toInt64 bb) J') (fun _ _ _ hp => ⟨hp.1.1 h0, hp.1.2, hp.2⟩) ?_)
  refine sb_ofb (fun a9 b9 => ?_)
  refine sm_aload_n cx 5 dL_law__1956 rfl rfl ?_
  refine sm_iconst (v := 0) cx dL_law__1957 (by decide) ?_
  refine sb_gob ?_ a9 b9
  refine sb_run (pc' := 1959) (lv' := fun _ => [(6, .int bb), (5, .int v), (0, va_rf (some b)), (1, va_rf (some ax)), (2, va_rf (some am)), (3, va_rf (some ao)), (4, .int x4)]) (st' := fun w => .long w :: []) (Ψ := fun w h c n => w = (Int32.toInt64 bb) ∧ J' h c n) (fun K hK => sm_lald cx dL_law__1958 hK) (fun h c0 n0 hp => ⟨(Int32.toInt64 bb), h, 0, 0, hp.1, ⟨rfl, hp.2.1⟩, hp.2.2.1, hp.2.2.2⟩) (fun w => sb_and (fun hw => ?_))
  subst hw
  refine sb_ofb (fun a9 b9 => ?_)
  refine sm_iload cx 0 dL_law__1959 rfl ?_
  refine sm_i2l cx dL_law__1961 ?_
  refine sm_lcmp cx dL_law__1962 ?_
  refine sb_gob ?_ a9 b9
  refine sb_if_eq (tgt := 1968) cx dL_law__1963 (by decide) (fun _ => ?_) (fun hne => absurd (lg_self _) hne)
  refine sb_ofb (fun a9 b9 => ?_)
  refine sm_goto (tgt := 1996) cx dL_law__1968 (by decide) ?_
  refine sb_gob ?_ a9 b9
  exact sb_lv [2, 3, 4, 5, 6] rfl hex
theorem dL_law__1971 : decode cL_law_ 1971 = .ok (.aload_n 1, 1) := by decide +kernel
theorem dL_law__1972 : decode cL_law_ 1972 = .ok (.aload_n 0, 1) := by decide +kernel
theorem dL_law__1973 : decode cL_law_ 1973 = .ok (.iload 4, 2) := by decide +kernel
theorem dL_law__1975 : decode cL_law_ 1975 = .ok (.iconst 1, 1) := by decide +kernel
theorem dL_law__1976 : decode cL_law_ 1976 = .ok (.iadd, 1) := by decide +kernel
theorem dL_law__1977 : decode cL_law_ 1977 = .ok (.iaload, 1) := by decide +kernel
theorem dL_law__1978 : decode cL_law_ 1978 = .ok (.invokevirtual 192, 3) := by decide +kernel
theorem dL_law__1981 : decode cL_law_ 1981 = .ok (.aload_n 2, 1) := by decide +kernel
theorem dL_law__1982 : decode cL_law_ 1982 = .ok (.aload_n 0, 1) := by decide +kernel
theorem dL_law__1983 : decode cL_law_ 1983 = .ok (.iload 4, 2) := by decide +kernel
theorem dL_law__1985 : decode cL_law_ 1985 = .ok (.iconst 1, 1) := by decide +kernel
theorem dL_law__1986 : decode cL_law_ 1986 = .ok (.iadd, 1) := by decide +kernel
theorem dL_law__1987 : decode cL_law_ 1987 = .ok (.iaload, 1) := by decide +kernel
theorem dL_law__1988 : decode cL_law_ 1988 = .ok (.invokevirtual 195, 3) := by decide +kernel
theorem dL_law__1991 : decode cL_law_ 1991 = .ok (.if_icmp .eq 5, 3) := by decide +kernel
theorem dL_law__1994 : decode cL_law_ 1994 = .ok (.iconst 0, 1) := by decide +kernel
theorem dL_law__1995 : decode cL_law_ 1995 = .ok (.ireturn, 1) := by decide +kernel
set_option maxRecDepth 100000 in
set_option maxHeartbeats 4000000 in
theorem lc_26 {X : Cg} (cx : Cx X cL_law_ RL 7) (htr : (xL X).stackTraces = false) (hfr : 74 ≤ (xR X).frames) (hlo : 1500 ≤ (xR X).locals) {Q : State → Prop} {b L : Nat} {xs : Nat → Int32} (hX : va_X b L xs (xS X) (xS X).heap) (hbl : b < (xS X).heap.size) (hbA : ¬ xA X b) (ax am ao : Nat) (x4 : Int32) (s1 : Int32) (e1 : xs (x4 + 1).toNatClampNeg = s1) (i1 : vp_in (x4 + 1) L) {J' : Hs → Nat → Nat → Prop} (hex : SimB X 7 Q 1996 [(0, va_rf (some b)), (1, va_rf (some ax)), (2, va_rf (some am)), (3, va_rf (some ao)), (4, .int x4)] [] J') : SimB X 7 Q 1971 [(0, va_rf (some b)), (1, va_rf (some ax)), (2, va_rf (some am)), (3, va_rf (some ao)), (4, .int x4)] [] (StepD (xR X) (mo 14 (some ax) (f_X11_count (some ax) s1)) (mo 15 (some am) (f_X12_count (some am) s1)) J') := by
  refine sb_ofb (fun a9 b9 => ?_)
  refine sm_aload_n cx 1 dL_law__1971 rfl rfl ?_
  refine sm_aload_n cx 0 dL_law__1972 rfl rfl ?_
  refine sm_iload cx 4 dL_law__1973 rfl ?_
  refine sm_iconst (v := 1) cx dL_law__1975 (by decide) ?_
  refine sm_iadd cx dL_law__1976 ?_
  refine sm_sldE cx hX hbl hbA i1 e1 dL_law__1977 ?_
  refine sb_gob ?_ a9 b9
  refine sb_run (pc' := 1981) (lv' := fun _ => [(0, va_rf (some b)), (1, va_rf (some ax)), (2, va_rf (some am)), (3, va_rf (some ao)), (4, .int x4)]) (st' := fun w => .int w :: []) (Ψ := fun w => StepE (xR X) (mo 15 (some am) (f_X12_count (some am) s1)) J' w) (fun K hK => sm_callV (T := TX11) (N := 14) (toV := vI) cx [.int s1] rfl cv_L_192_ (fun a h => ct_X11_count (xZ X) a h s1) (Nat.le_trans (by decide) hfr) (Nat.le_trans (by decide) hlo) rfl (cat_le _ (Nat.le_of_ble_eq_true rfl)) dL_law__1978 hK) (fun _ _ _ hp => hp) (fun v => ?_)
  refine sb_ofb (fun a9 b9 => ?_)
  refine sm_aload_n cx 2 dL_law__1981 rfl rfl ?_
  refine sm_aload_n cx 0 dL_law__1982 rfl rfl ?_
  refine sm_iload cx 4 dL_law__1983 rfl ?_
  refine sm_iconst (v := 1) cx dL_law__1985 (by decide) ?_
  refine sm_iadd cx dL_law__1986 ?_
  refine sm_sldE cx hX hbl hbA i1 e1 dL_law__1987 ?_
  refine sb_gob ?_ a9 b9
  refine sb_run (pc' := 1991) (lv' := fun _ => [(0, va_rf (some b)), (1, va_rf (some ax)), (2, va_rf (some am)), (3, va_rf (some ao)), (4, .int x4)]) (st' := fun w => .int w :: [.int v]) (Ψ := fun w h c n => v = w ∧ J' h c n) (fun K hK => sm_callV (T := TX12) (N := 47) (toV := vI) cx [.int s1] rfl cv_L_195_ (fun a h => ct_X12_count (xZ X) a h s1) (Nat.le_trans (by decide) hfr) (Nat.le_trans (by decide) hlo) rfl (cat_le _ (Nat.le_of_ble_eq_true rfl)) dL_law__1988 hK) (fun _ _ _ hp => by obtain ⟨h1, c1, n1, q1, q2, q3, q4⟩ := hp; exact ⟨v, h1, c1, n1, q1, ⟨rfl, q2⟩, q3, q4⟩) (fun t => sb_and (fun ht => ?_))
  subst ht
  refine sb_icmp_eq (tgt := 1996) cx dL_law__1991 (by decide) (fun _ => ?_) (fun hne => absurd rfl hne)
  exact sb_lv [0, 1, 2, 3, 4] rfl hex
