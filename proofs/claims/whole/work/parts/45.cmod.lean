theorem qc_269 : (Jvm.Cond.arrayClass Jvm.ClassFile.FieldType.byte) ∈ lw_gd := uc_1 (List.mem_of_getElem? (i := 29) (by decide +kernel)) (by decide +kernel)
theorem qc_1482 : (Jvm.Cond.methodLink "LineAssemblerModel" (1 : Nat) ({ cls := "java/lang/Object", name := "<init>", desc := "()V" } : Jvm.MethodName)) ∈ lw_gd := uc_6 (List.mem_of_getElem? (i := 42) (by decide +kernel)) (by decide +kernel)
theorem qc_1483 : (Jvm.Cond.constantLong "LineAssemblerModel" (7 : Nat) (16641 : Int64)) ∈ lw_gd := uc_6 (List.mem_of_getElem? (i := 43) (by decide +kernel)) (by decide +kernel)
theorem qc_1484 : (Jvm.Cond.constantLong "LineAssemblerModel" (9 : Nat) (9555 : Int64)) ∈ lw_gd := uc_6 (List.mem_of_getElem? (i := 44) (by decide +kernel)) (by decide +kernel)
theorem qc_1485 : (Jvm.Cond.constantLong "LineAssemblerModel" (11 : Nat) (49939 : Int64)) ∈ lw_gd := uc_6 (List.mem_of_getElem? (i := 45) (by decide +kernel)) (by decide +kernel)
theorem qc_1486 : (Jvm.Cond.constantLong "LineAssemblerModel" (13 : Nat) (82707 : Int64)) ∈ lw_gd := uc_6 (List.mem_of_getElem? (i := 46) (by decide +kernel)) (by decide +kernel)
theorem qc_1487 : (Jvm.Cond.constantLong "LineAssemblerModel" (15 : Nat) (5587731 : Int64)) ∈ lw_gd := uc_6 (List.mem_of_getElem? (i := 47) (by decide +kernel)) (by decide +kernel)
theorem qc_1488 : (Jvm.Cond.constantLong "LineAssemblerModel" (17 : Nat) (74712 : Int64)) ∈ lw_gd := uc_6 (List.mem_of_getElem? (i := 48) (by decide +kernel)) (by decide +kernel)
theorem qc_1489 : (Jvm.Cond.constantLong "LineAssemblerModel" (19 : Nat) (50323 : Int64)) ∈ lw_gd := uc_6 (List.mem_of_getElem? (i := 49) (by decide +kernel)) (by decide +kernel)
theorem qc_1490 : (Jvm.Cond.constantLong "LineAssemblerModel" (21 : Nat) (5267 : Int64)) ∈ lw_gd := uc_6 (List.mem_of_getElem? (i := 50) (by decide +kernel)) (by decide +kernel)
theorem qc_1491 : (Jvm.Cond.constantLong "LineAssemblerModel" (23 : Nat) (1167 : Int64)) ∈ lw_gd := uc_6 (List.mem_of_getElem? (i := 51) (by decide +kernel)) (by decide +kernel)
theorem qc_1492 : (Jvm.Cond.constantLong "LineAssemblerModel" (25 : Nat) (17281 : Int64)) ∈ lw_gd := uc_6 (List.mem_of_getElem? (i := 52) (by decide +kernel)) (by decide +kernel)
theorem qc_1493 : (Jvm.Cond.constantLong "LineAssemblerModel" (27 : Nat) (50509 : Int64)) ∈ lw_gd := uc_6 (List.mem_of_getElem? (i := 53) (by decide +kernel)) (by decide +kernel)
theorem qc_1494 : (Jvm.Cond.constantLong "LineAssemblerModel" (29 : Nat) (2147661 : Int64)) ∈ lw_gd := uc_6 (List.mem_of_getElem? (i := 54) (by decide +kernel)) (by decide +kernel)
theorem qc_1495 : (Jvm.Cond.constantLong "LineAssemblerModel" (31 : Nat) (22869493069 : Int64)) ∈ lw_gd := uc_6 (List.mem_of_getElem? (i := 55) (by decide +kernel)) (by decide +kernel)
theorem qc_1496 : (Jvm.Cond.constantLong "LineAssemblerModel" (33 : Nat) (354469197 : Int64)) ∈ lw_gd := uc_6 (List.mem_of_getElem? (i := 56) (by decide +kernel)) (by decide +kernel)
theorem qc_1497 : (Jvm.Cond.constantLong "LineAssemblerModel" (35 : Nat) (90692 : Int64)) ∈ lw_gd := uc_6 (List.mem_of_getElem? (i := 57) (by decide +kernel)) (by decide +kernel)
theorem qc_1498 : (Jvm.Cond.constantLong "LineAssemblerModel" (37 : Nat) (5595716 : Int64)) ∈ lw_gd := uc_6 (List.mem_of_getElem? (i := 58) (by decide +kernel)) (by decide +kernel)
theorem qc_1499 : (Jvm.Cond.constantLong "LineAssemblerModel" (39 : Nat) (53586 : Int64)) ∈ lw_gd := uc_6 (List.mem_of_getElem? (i := 59) (by decide +kernel)) (by decide +kernel)
theorem qc_1500 : (Jvm.Cond.constantLong "LineAssemblerModel" (41 : Nat) (5558610 : Int64)) ∈ lw_gd := uc_6 (List.mem_of_getElem? (i := 60) (by decide +kernel)) (by decide +kernel)
theorem qc_1501 : (Jvm.Cond.constantLong "LineAssemblerModel" (43 : Nat) (2375937 : Int64)) ∈ lw_gd := uc_6 (List.mem_of_getElem? (i := 61) (by decide +kernel)) (by decide +kernel)
theorem qc_1502 : (Jvm.Cond.constantLong "LineAssemblerModel" (45 : Nat) (2442003 : Int64)) ∈ lw_gd := uc_6 (List.mem_of_getElem? (i := 62) (by decide +kernel)) (by decide +kernel)
theorem qc_1503 : (Jvm.Cond.constantLong "LineAssemblerModel" (47 : Nat) (354763539 : Int64)) ∈ lw_gd := uc_6 (List.mem_of_getElem? (i := 63) (by decide +kernel)) (by decide +kernel)
theorem qc_1504 : (Jvm.Cond.constantLong "LineAssemblerModel" (49 : Nat) (2434008 : Int64)) ∈ lw_gd := uc_6 (List.mem_of_getElem? (i := 64) (by decide +kernel)) (by decide +kernel)
theorem qc_1505 : (Jvm.Cond.constantLong "LineAssemblerModel" (51 : Nat) (38031 : Int64)) ∈ lw_gd := uc_6 (List.mem_of_getElem? (i := 65) (by decide +kernel)) (by decide +kernel)
theorem qc_1506 : (Jvm.Cond.constantLong "LineAssemblerModel" (53 : Nat) (2376577 : Int64)) ∈ lw_gd := uc_6 (List.mem_of_getElem? (i := 66) (by decide +kernel)) (by decide +kernel)
theorem qc_1507 : (Jvm.Cond.constantLong "LineAssemblerModel" (55 : Nat) (2409235 : Int64)) ∈ lw_gd := uc_6 (List.mem_of_getElem? (i := 67) (by decide +kernel)) (by decide +kernel)
theorem qc_1508 : (Jvm.Cond.constantLong "LineAssemblerModel" (57 : Nat) (2409619 : Int64)) ∈ lw_gd := uc_6 (List.mem_of_getElem? (i := 68) (by decide +kernel)) (by decide +kernel)
theorem qc_1509 : (Jvm.Cond.constantLong "LineAssemblerModel" (59 : Nat) (2364563 : Int64)) ∈ lw_gd := uc_6 (List.mem_of_getElem? (i := 69) (by decide +kernel)) (by decide +kernel)
theorem qc_1510 : (Jvm.Cond.constantLong "LineAssemblerModel" (61 : Nat) (140 : Int64)) ∈ lw_gd := uc_6 (List.mem_of_getElem? (i := 70) (by decide +kernel)) (by decide +kernel)
theorem qc_1511 : (Jvm.Cond.constantLong "LineAssemblerModel" (63 : Nat) (524 : Int64)) ∈ lw_gd := uc_6 (List.mem_of_getElem? (i := 71) (by decide +kernel)) (by decide +kernel)
theorem qc_1512 : (Jvm.Cond.constantLong "LineAssemblerModel" (65 : Nat) (1484 : Int64)) ∈ lw_gd := uc_6 (List.mem_of_getElem? (i := 72) (by decide +kernel)) (by decide +kernel)
theorem qc_1513 : (Jvm.Cond.constantLong "LineAssemblerModel" (67 : Nat) (86156 : Int64)) ∈ lw_gd := uc_6 (List.mem_of_getElem? (i := 73) (by decide +kernel)) (by decide +kernel)
theorem qc_1514 : (Jvm.Cond.constantLong "LineAssemblerModel" (69 : Nat) (86540 : Int64)) ∈ lw_gd := uc_6 (List.mem_of_getElem? (i := 74) (by decide +kernel)) (by decide +kernel)
theorem qc_1515 : (Jvm.Cond.constantLong "LineAssemblerModel" (71 : Nat) (4767818 : Int64)) ∈ lw_gd := uc_6 (List.mem_of_getElem? (i := 75) (by decide +kernel)) (by decide +kernel)
theorem qc_1516 : (Jvm.Cond.constantLong "LineAssemblerModel" (73 : Nat) (147 : Int64)) ∈ lw_gd := uc_6 (List.mem_of_getElem? (i := 76) (by decide +kernel)) (by decide +kernel)
theorem qc_1517 : (Jvm.Cond.constantLong "LineAssemblerModel" (75 : Nat) (531 : Int64)) ∈ lw_gd := uc_6 (List.mem_of_getElem? (i := 77) (by decide +kernel)) (by decide +kernel)
theorem qc_1518 : (Jvm.Cond.constantLong "LineAssemblerModel" (77 : Nat) (1491 : Int64)) ∈ lw_gd := uc_6 (List.mem_of_getElem? (i := 78) (by decide +kernel)) (by decide +kernel)
theorem qc_1519 : (Jvm.Cond.constantLong "LineAssemblerModel" (79 : Nat) (38220 : Int64)) ∈ lw_gd := uc_6 (List.mem_of_getElem? (i := 79) (by decide +kernel)) (by decide +kernel)
theorem qc_1520 : (Jvm.Cond.constantLong "LineAssemblerModel" (81 : Nat) (54564161 : Int64)) ∈ lw_gd := uc_6 (List.mem_of_getElem? (i := 80) (by decide +kernel)) (by decide +kernel)
theorem qc_1521 : (Jvm.Cond.constantLong "LineAssemblerModel" (83 : Nat) (69954 : Int64)) ∈ lw_gd := uc_6 (List.mem_of_getElem? (i := 81) (by decide +kernel)) (by decide +kernel)
theorem qc_1522 : (Jvm.Cond.constantLong "LineAssemblerModel" (85 : Nat) (21378 : Int64)) ∈ lw_gd := uc_6 (List.mem_of_getElem? (i := 82) (by decide +kernel)) (by decide +kernel)
theorem qc_1523 : (Jvm.Cond.constantLong "LineAssemblerModel" (87 : Nat) (82690 : Int64)) ∈ lw_gd := uc_6 (List.mem_of_getElem? (i := 83) (by decide +kernel)) (by decide +kernel)
theorem qc_1524 : (Jvm.Cond.constantLong "LineAssemblerModel" (89 : Nat) (20930 : Int64)) ∈ lw_gd := uc_6 (List.mem_of_getElem? (i := 84) (by decide +kernel)) (by decide +kernel)
theorem qc_1525 : (Jvm.Cond.constantLong "LineAssemblerModel" (91 : Nat) (5587714 : Int64)) ∈ lw_gd := uc_6 (List.mem_of_getElem? (i := 85) (by decide +kernel)) (by decide +kernel)
theorem qc_1526 : (Jvm.Cond.constantLong "LineAssemblerModel" (93 : Nat) (5525954 : Int64)) ∈ lw_gd := uc_6 (List.mem_of_getElem? (i := 86) (by decide +kernel)) (by decide +kernel)
theorem qc_1527 : (Jvm.Cond.constantLong "LineAssemblerModel" (95 : Nat) (49226 : Int64)) ∈ lw_gd := uc_6 (List.mem_of_getElem? (i := 87) (by decide +kernel)) (by decide +kernel)
theorem qc_1528 : (Jvm.Cond.constantLong "LineAssemblerModel" (97 : Nat) (6181075 : Int64)) ∈ lw_gd := uc_6 (List.mem_of_getElem? (i := 88) (by decide +kernel)) (by decide +kernel)
theorem qc_1529 : (Jvm.Cond.constantLong "LineAssemblerModel" (99 : Nat) (6637753161544513 : Int64)) ∈ lw_gd := uc_6 (List.mem_of_getElem? (i := 89) (by decide +kernel)) (by decide +kernel)
theorem qc_1530 : (Jvm.Cond.constantLong "LineAssemblerModel" (101 : Nat) (103702052795201 : Int64)) ∈ lw_gd := uc_6 (List.mem_of_getElem? (i := 90) (by decide +kernel)) (by decide +kernel)
theorem qc_1531 : (Jvm.Cond.constantLong "LineAssemblerModel" (103 : Nat) (103717275759425 : Int64)) ∈ lw_gd := uc_6 (List.mem_of_getElem? (i := 91) (by decide +kernel)) (by decide +kernel)
theorem qc_1532 : (Jvm.Cond.constantLong "LineAssemblerModel" (105 : Nat) (103702220567361 : Int64)) ∈ lw_gd := uc_6 (List.mem_of_getElem? (i := 92) (by decide +kernel)) (by decide +kernel)
theorem qc_1533 : (Jvm.Cond.constantLong "LineAssemblerModel" (107 : Nat) (1620582396737 : Int64)) ∈ lw_gd := uc_6 (List.mem_of_getElem? (i := 93) (by decide +kernel)) (by decide +kernel)
theorem qc_1534 : (Jvm.Cond.constantLong "LineAssemblerModel" (109 : Nat) (103712877245249 : Int64)) ∈ lw_gd := uc_6 (List.mem_of_getElem? (i := 94) (by decide +kernel)) (by decide +kernel)
theorem qc_1535 : (Jvm.Cond.constantLong "LineAssemblerModel" (111 : Nat) (103723480445761 : Int64)) ∈ lw_gd := uc_6 (List.mem_of_getElem? (i := 95) (by decide +kernel)) (by decide +kernel)
theorem qc_1536 : (Jvm.Cond.constantLong "LineAssemblerModel" (113 : Nat) (6638110481118017 : Int64)) ∈ lw_gd := uc_6 (List.mem_of_getElem? (i := 96) (by decide +kernel)) (by decide +kernel)
theorem qc_1537 : (Jvm.Cond.constantLong "LineAssemblerModel" (115 : Nat) (6638121084318529 : Int64)) ∈ lw_gd := uc_6 (List.mem_of_getElem? (i := 97) (by decide +kernel)) (by decide +kernel)
theorem qc_1538 : (Jvm.Cond.constantLong "LineAssemblerModel" (117 : Nat) (6182028 : Int64)) ∈ lw_gd := uc_6 (List.mem_of_getElem? (i := 98) (by decide +kernel)) (by decide +kernel)
theorem qc_1539 : (Jvm.Cond.constantLong "LineAssemblerModel" (119 : Nat) (356539183378 : Int64)) ∈ lw_gd := uc_6 (List.mem_of_getElem? (i := 99) (by decide +kernel)) (by decide +kernel)
theorem qc_1540 : (Jvm.Cond.constantLong "LineAssemblerModel" (121 : Nat) (5589254418 : Int64)) ∈ lw_gd := uc_6 (List.mem_of_getElem? (i := 100) (by decide +kernel)) (by decide +kernel)
theorem qc_1541 : (Jvm.Cond.constantLong "LineAssemblerModel" (123 : Nat) (5652748514660626 : Int64)) ∈ lw_gd := uc_6 (List.mem_of_getElem? (i := 101) (by decide +kernel)) (by decide +kernel)
theorem qc_1542 : (Jvm.Cond.constantLong "LineAssemblerModel" (125 : Nat) (35540911272210 : Int64)) ∈ lw_gd := uc_6 (List.mem_of_getElem? (i := 102) (by decide +kernel)) (by decide +kernel)
theorem qc_1543 : (Jvm.Cond.constantLong "LineAssemblerModel" (127 : Nat) (555345068306 : Int64)) ∈ lw_gd := uc_6 (List.mem_of_getElem? (i := 103) (by decide +kernel)) (by decide +kernel)
theorem qc_1544 : (Jvm.Cond.constantLong "LineAssemblerModel" (129 : Nat) (149767936590516498 : Int64)) ∈ lw_gd := uc_6 (List.mem_of_getElem? (i := 104) (by decide +kernel)) (by decide +kernel)
theorem qc_1545 : (Jvm.Cond.constantLong "LineAssemblerModel" (131 : Nat) (84730182 : Int64)) ∈ lw_gd := uc_6 (List.mem_of_getElem? (i := 105) (by decide +kernel)) (by decide +kernel)
theorem qc_1546 : (Jvm.Cond.constantLong "LineAssemblerModel" (133 : Nat) (658288468294 : Int64)) ∈ lw_gd := uc_6 (List.mem_of_getElem? (i := 106) (by decide +kernel)) (by decide +kernel)
theorem qc_1547 : (Jvm.Cond.constantLong "LineAssemblerModel" (135 : Nat) (204476613 : Int64)) ∈ lw_gd := uc_6 (List.mem_of_getElem? (i := 107) (by decide +kernel)) (by decide +kernel)
theorem qc_1548 : (Jvm.Cond.constantLong "LineAssemblerModel" (137 : Nat) (11829321861 : Int64)) ∈ lw_gd := uc_6 (List.mem_of_getElem? (i := 108) (by decide +kernel)) (by decide +kernel)
theorem qc_1549 : (Jvm.Cond.constantLong "LineAssemblerModel" (139 : Nat) (66510 : Int64)) ∈ lw_gd := uc_6 (List.mem_of_getElem? (i := 109) (by decide +kernel)) (by decide +kernel)
theorem qc_1550 : (Jvm.Cond.constantLong "LineAssemblerModel" (141 : Nat) (82258 : Int64)) ∈ lw_gd := uc_6 (List.mem_of_getElem? (i := 110) (by decide +kernel)) (by decide +kernel)
theorem qc_1551 : (Jvm.Cond.constantLong "LineAssemblerModel" (143 : Nat) (256790881679448387 : Int64)) ∈ lw_gd := uc_6 (List.mem_of_getElem? (i := 111) (by decide +kernel)) (by decide +kernel)
theorem qc_1552 : (Jvm.Cond.constantLong "LineAssemblerModel" (145 : Nat) (6080835 : Int64)) ∈ lw_gd := uc_6 (List.mem_of_getElem? (i := 112) (by decide +kernel)) (by decide +kernel)
theorem qc_1553 : (Jvm.Cond.constantLong "LineAssemblerModel" (147 : Nat) (6109507 : Int64)) ∈ lw_gd := uc_6 (List.mem_of_getElem? (i := 113) (by decide +kernel)) (by decide +kernel)
theorem qc_1554 : (Jvm.Cond.constantLong "LineAssemblerModel" (149 : Nat) (272427331 : Int64)) ∈ lw_gd := uc_6 (List.mem_of_getElem? (i := 114) (by decide +kernel)) (by decide +kernel)
theorem qc_1555 : (Jvm.Cond.constantLong "LineAssemblerModel" (151 : Nat) (48452902345027 : Int64)) ∈ lw_gd := uc_6 (List.mem_of_getElem? (i := 115) (by decide +kernel)) (by decide +kernel)
theorem qc_1556 : (Jvm.Cond.constantLong "LineAssemblerModel" (153 : Nat) (9731840323 : Int64)) ∈ lw_gd := uc_6 (List.mem_of_getElem? (i := 116) (by decide +kernel)) (by decide +kernel)
theorem qc_1557 : (Jvm.Cond.constantLong "LineAssemblerModel" (155 : Nat) (2410819 : Int64)) ∈ lw_gd := uc_6 (List.mem_of_getElem? (i := 117) (by decide +kernel)) (by decide +kernel)
theorem qc_1558 : (Jvm.Cond.constantLong "LineAssemblerModel" (157 : Nat) (156551491 : Int64)) ∈ lw_gd := uc_6 (List.mem_of_getElem? (i := 118) (by decide +kernel)) (by decide +kernel)
theorem qc_1559 : (Jvm.Cond.constantLong "LineAssemblerModel" (159 : Nat) (201632067 : Int64)) ∈ lw_gd := uc_6 (List.mem_of_getElem? (i := 119) (by decide +kernel)) (by decide +kernel)
theorem qc_1560 : (Jvm.Cond.constantLong "LineAssemblerModel" (161 : Nat) (43331 : Int64)) ∈ lw_gd := uc_6 (List.mem_of_getElem? (i := 120) (by decide +kernel)) (by decide +kernel)
theorem qc_1561 : (Jvm.Cond.constantLong "LineAssemblerModel" (163 : Nat) (293725470121269571 : Int64)) ∈ lw_gd := uc_6 (List.mem_of_getElem? (i := 121) (by decide +kernel)) (by decide +kernel)
theorem qc_1562 : (Jvm.Cond.constantLong "LineAssemblerModel" (165 : Nat) (9869801795 : Int64)) ∈ lw_gd := uc_6 (List.mem_of_getElem? (i := 122) (by decide +kernel)) (by decide +kernel)
theorem qc_1563 : (Jvm.Cond.constantLong "LineAssemblerModel" (167 : Nat) (9685252419 : Int64)) ∈ lw_gd := uc_6 (List.mem_of_getElem? (i := 123) (by decide +kernel)) (by decide +kernel)
theorem qc_1564 : (Jvm.Cond.constantLong "LineAssemblerModel" (169 : Nat) (9734461763 : Int64)) ∈ lw_gd := uc_6 (List.mem_of_getElem? (i := 124) (by decide +kernel)) (by decide +kernel)
theorem qc_1565 : (Jvm.Cond.constantLong "LineAssemblerModel" (171 : Nat) (39139651 : Int64)) ∈ lw_gd := uc_6 (List.mem_of_getElem? (i := 125) (by decide +kernel)) (by decide +kernel)
theorem qc_1566 : (Jvm.Cond.constantLong "LineAssemblerModel" (173 : Nat) (306022723 : Int64)) ∈ lw_gd := uc_6 (List.mem_of_getElem? (i := 126) (by decide +kernel)) (by decide +kernel)
theorem qc_1567 : (Jvm.Cond.constantLong "LineAssemblerModel" (175 : Nat) (4782403 : Int64)) ∈ lw_gd := uc_6 (List.mem_of_getElem? (i := 127) (by decide +kernel)) (by decide +kernel)
theorem qc_1568 : (Jvm.Cond.constantLong "LineAssemblerModel" (177 : Nat) (70785347 : Int64)) ∈ lw_gd := uc_6 (List.mem_of_getElem? (i := 128) (by decide +kernel)) (by decide +kernel)
theorem qc_1569 : (Jvm.Cond.constantLong "LineAssemblerModel" (179 : Nat) (28203821379 : Int64)) ∈ lw_gd := uc_6 (List.mem_of_getElem? (i := 129) (by decide +kernel)) (by decide +kernel)
theorem qc_1570 : (Jvm.Cond.constantLong "LineAssemblerModel" (181 : Nat) (28004854083 : Int64)) ∈ lw_gd := uc_6 (List.mem_of_getElem? (i := 130) (by decide +kernel)) (by decide +kernel)
theorem qc_1571 : (Jvm.Cond.constantLong "LineAssemblerModel" (183 : Nat) (9868228931 : Int64)) ∈ lw_gd := uc_6 (List.mem_of_getElem? (i := 131) (by decide +kernel)) (by decide +kernel)
theorem qc_1572 : (Jvm.Cond.constantLong "LineAssemblerModel" (185 : Nat) (17504717123 : Int64)) ∈ lw_gd := uc_6 (List.mem_of_getElem? (i := 132) (by decide +kernel)) (by decide +kernel)
theorem qc_1573 : (Jvm.Cond.constantLong "LineAssemblerModel" (187 : Nat) (4761923 : Int64)) ∈ lw_gd := uc_6 (List.mem_of_getElem? (i := 133) (by decide +kernel)) (by decide +kernel)
theorem qc_1574 : (Jvm.Cond.constantLong "LineAssemblerModel" (189 : Nat) (19528984899 : Int64)) ∈ lw_gd := uc_6 (List.mem_of_getElem? (i := 134) (by decide +kernel)) (by decide +kernel)
theorem qc_1575 : (Jvm.Cond.constantLong "LineAssemblerModel" (191 : Nat) (5822787 : Int64)) ∈ lw_gd := uc_6 (List.mem_of_getElem? (i := 135) (by decide +kernel)) (by decide +kernel)
theorem qc_1576 : (Jvm.Cond.constantLong "LineAssemblerModel" (193 : Nat) (68163907 : Int64)) ∈ lw_gd := uc_6 (List.mem_of_getElem? (i := 136) (by decide +kernel)) (by decide +kernel)
theorem qc_1577 : (Jvm.Cond.constantLong "LineAssemblerModel" (195 : Nat) (17504745795 : Int64)) ∈ lw_gd := uc_6 (List.mem_of_getElem? (i := 137) (by decide +kernel)) (by decide +kernel)
theorem qc_1578 : (Jvm.Cond.constantLong "LineAssemblerModel" (197 : Nat) (1421 : Int64)) ∈ lw_gd := uc_6 (List.mem_of_getElem? (i := 138) (by decide +kernel)) (by decide +kernel)
theorem qc_1579 : (Jvm.Cond.constantLong "LineAssemblerModel" (199 : Nat) (82894 : Int64)) ∈ lw_gd := uc_6 (List.mem_of_getElem? (i := 139) (by decide +kernel)) (by decide +kernel)
theorem qc_1580 : (Jvm.Cond.constantLong "LineAssemblerModel" (201 : Nat) (6885715 : Int64)) ∈ lw_gd := uc_6 (List.mem_of_getElem? (i := 140) (by decide +kernel)) (by decide +kernel)
theorem qc_1581 : (Jvm.Cond.constantLong "LineAssemblerModel" (203 : Nat) (6898451 : Int64)) ∈ lw_gd := uc_6 (List.mem_of_getElem? (i := 141) (by decide +kernel)) (by decide +kernel)
theorem qc_1582 : (Jvm.Cond.constantLong "LineAssemblerModel" (205 : Nat) (29006 : Int64)) ∈ lw_gd := uc_6 (List.mem_of_getElem? (i := 142) (by decide +kernel)) (by decide +kernel)
theorem qc_1583 : (Jvm.Cond.constantLong "LineAssemblerModel" (207 : Nat) (6837139 : Int64)) ∈ lw_gd := uc_6 (List.mem_of_getElem? (i := 143) (by decide +kernel)) (by decide +kernel)
theorem qc_1584 : (Jvm.Cond.constantLong "LineAssemblerModel" (209 : Nat) (6898131 : Int64)) ∈ lw_gd := uc_6 (List.mem_of_getElem? (i := 144) (by decide +kernel)) (by decide +kernel)
theorem qc_1585 : (Jvm.Cond.constantLong "LineAssemblerModel" (211 : Nat) (1162 : Int64)) ∈ lw_gd := uc_6 (List.mem_of_getElem? (i := 145) (by decide +kernel)) (by decide +kernel)
theorem qc_1586 : (Jvm.Cond.constantLong "LineAssemblerModel" (213 : Nat) (3194947 : Int64)) ∈ lw_gd := uc_6 (List.mem_of_getElem? (i := 146) (by decide +kernel)) (by decide +kernel)
theorem qc_1587 : (Jvm.Cond.constantLong "LineAssemblerModel" (215 : Nat) (10 : Int64)) ∈ lw_gd := uc_6 (List.mem_of_getElem? (i := 147) (by decide +kernel)) (by decide +kernel)
theorem qc_1588 : (Jvm.Cond.constantLong "LineAssemblerModel" (217 : Nat) (3182676 : Int64)) ∈ lw_gd := uc_6 (List.mem_of_getElem? (i := 148) (by decide +kernel)) (by decide +kernel)
theorem qc_1589 : (Jvm.Cond.constantLong "LineAssemblerModel" (219 : Nat) (6885698 : Int64)) ∈ lw_gd := uc_6 (List.mem_of_getElem? (i := 149) (by decide +kernel)) (by decide +kernel)
theorem qc_1590 : (Jvm.Cond.constantLong "LineAssemblerModel" (221 : Nat) (6837122 : Int64)) ∈ lw_gd := uc_6 (List.mem_of_getElem? (i := 150) (by decide +kernel)) (by decide +kernel)
theorem qc_1591 : (Jvm.Cond.constantLong "LineAssemblerModel" (223 : Nat) (6836674 : Int64)) ∈ lw_gd := uc_6 (List.mem_of_getElem? (i := 151) (by decide +kernel)) (by decide +kernel)
theorem qc_1592 : (Jvm.Cond.constantLong "LineAssemblerModel" (225 : Nat) (6898434 : Int64)) ∈ lw_gd := uc_6 (List.mem_of_getElem? (i := 152) (by decide +kernel)) (by decide +kernel)
theorem qc_1593 : (Jvm.Cond.constantLong "LineAssemblerModel" (227 : Nat) (6836994 : Int64)) ∈ lw_gd := uc_6 (List.mem_of_getElem? (i := 153) (by decide +kernel)) (by decide +kernel)
theorem qc_1594 : (Jvm.Cond.constantLong "LineAssemblerModel" (229 : Nat) (6898114 : Int64)) ∈ lw_gd := uc_6 (List.mem_of_getElem? (i := 154) (by decide +kernel)) (by decide +kernel)
theorem qc_1595 : (Jvm.Cond.constantLong "LineAssemblerModel" (231 : Nat) (82370 : Int64)) ∈ lw_gd := uc_6 (List.mem_of_getElem? (i := 155) (by decide +kernel)) (by decide +kernel)
theorem qc_1596 : (Jvm.Cond.constantLong "LineAssemblerModel" (233 : Nat) (21250 : Int64)) ∈ lw_gd := uc_6 (List.mem_of_getElem? (i := 156) (by decide +kernel)) (by decide +kernel)
theorem qc_1597 : (Jvm.Cond.constantLong "LineAssemblerModel" (235 : Nat) (5587394 : Int64)) ∈ lw_gd := uc_6 (List.mem_of_getElem? (i := 157) (by decide +kernel)) (by decide +kernel)
theorem qc_1598 : (Jvm.Cond.constantLong "LineAssemblerModel" (237 : Nat) (5526274 : Int64)) ∈ lw_gd := uc_6 (List.mem_of_getElem? (i := 158) (by decide +kernel)) (by decide +kernel)
theorem qc_1599 : (Jvm.Cond.constantLong "LineAssemblerModel" (239 : Nat) (76 : Int64)) ∈ lw_gd := uc_6 (List.mem_of_getElem? (i := 159) (by decide +kernel)) (by decide +kernel)
theorem qc_1600 : (Jvm.Cond.constantLong "LineAssemblerModel" (241 : Nat) (588 : Int64)) ∈ lw_gd := uc_6 (List.mem_of_getElem? (i := 160) (by decide +kernel)) (by decide +kernel)
theorem qc_1601 : (Jvm.Cond.constantLong "LineAssemblerModel" (243 : Nat) (341857573 : Int64)) ∈ lw_gd := uc_6 (List.mem_of_getElem? (i := 161) (by decide +kernel)) (by decide +kernel)
theorem qc_1602 : (Jvm.Cond.constantLong "LineAssemblerModel" (245 : Nat) (22024485 : Int64)) ∈ lw_gd := uc_6 (List.mem_of_getElem? (i := 162) (by decide +kernel)) (by decide +kernel)
theorem qc_1603 : (Jvm.Cond.constantLong "LineAssemblerModel" (247 : Nat) (5575013 : Int64)) ∈ lw_gd := uc_6 (List.mem_of_getElem? (i := 163) (by decide +kernel)) (by decide +kernel)
theorem qc_1604 : (Jvm.Cond.constantLong "LineAssemblerModel" (249 : Nat) (89231525 : Int64)) ∈ lw_gd := uc_6 (List.mem_of_getElem? (i := 164) (by decide +kernel)) (by decide +kernel)
theorem qc_1605 : (Jvm.Cond.constantLong "LineAssemblerModel" (251 : Nat) (103813669 : Int64)) ∈ lw_gd := uc_6 (List.mem_of_getElem? (i := 165) (by decide +kernel)) (by decide +kernel)
theorem qc_1606 : (Jvm.Cond.constantLong "LineAssemblerModel" (253 : Nat) (71890405 : Int64)) ∈ lw_gd := uc_6 (List.mem_of_getElem? (i := 166) (by decide +kernel)) (by decide +kernel)
theorem qc_1607 : (Jvm.Cond.constantLong "LineAssemblerModel" (255 : Nat) (9815535717 : Int64)) ∈ lw_gd := uc_6 (List.mem_of_getElem? (i := 167) (by decide +kernel)) (by decide +kernel)
theorem qc_1608 : (Jvm.Cond.constantLong "LineAssemblerModel" (257 : Nat) (28069146725 : Int64)) ∈ lw_gd := uc_6 (List.mem_of_getElem? (i := 168) (by decide +kernel)) (by decide +kernel)
theorem qc_1609 : (Jvm.Cond.constantLong "LineAssemblerModel" (259 : Nat) (5419369701 : Int64)) ∈ lw_gd := uc_6 (List.mem_of_getElem? (i := 169) (by decide +kernel)) (by decide +kernel)
theorem qc_1610 : (Jvm.Cond.constantLong "LineAssemblerModel" (261 : Nat) (15152234597 : Int64)) ∈ lw_gd := uc_6 (List.mem_of_getElem? (i := 170) (by decide +kernel)) (by decide +kernel)
theorem qc_1611 : (Jvm.Cond.constant "LineAssemblerModel" (273 : Nat) (1073741875 : Int32)) ∈ lw_gd := uc_6 (List.mem_of_getElem? (i := 171) (by decide +kernel)) (by decide +kernel)
theorem qc_1612 : (Jvm.Cond.constant "LineAssemblerModel" (274 : Nat) (1073762355 : Int32)) ∈ lw_gd := uc_6 (List.mem_of_getElem? (i := 172) (by decide +kernel)) (by decide +kernel)
theorem qc_1613 : (Jvm.Cond.constant "LineAssemblerModel" (275 : Nat) (33554483 : Int32)) ∈ lw_gd := uc_6 (List.mem_of_getElem? (i := 173) (by decide +kernel)) (by decide +kernel)
theorem qc_1614 : (Jvm.Cond.constant "LineAssemblerModel" (276 : Nat) (33558579 : Int32)) ∈ lw_gd := uc_6 (List.mem_of_getElem? (i := 174) (by decide +kernel)) (by decide +kernel)
theorem qc_1615 : (Jvm.Cond.constant "LineAssemblerModel" (277 : Nat) (33562675 : Int32)) ∈ lw_gd := uc_6 (List.mem_of_getElem? (i := 175) (by decide +kernel)) (by decide +kernel)
theorem qc_1616 : (Jvm.Cond.constant "LineAssemblerModel" (278 : Nat) (33566771 : Int32)) ∈ lw_gd := uc_6 (List.mem_of_getElem? (i := 176) (by decide +kernel)) (by decide +kernel)
theorem qc_1617 : (Jvm.Cond.constant "LineAssemblerModel" (279 : Nat) (33570867 : Int32)) ∈ lw_gd := uc_6 (List.mem_of_getElem? (i := 177) (by decide +kernel)) (by decide +kernel)
theorem qc_1618 : (Jvm.Cond.constant "LineAssemblerModel" (280 : Nat) (33574963 : Int32)) ∈ lw_gd := uc_6 (List.mem_of_getElem? (i := 178) (by decide +kernel)) (by decide +kernel)
theorem qc_1619 : (Jvm.Cond.constant "LineAssemblerModel" (281 : Nat) (33579059 : Int32)) ∈ lw_gd := uc_6 (List.mem_of_getElem? (i := 179) (by decide +kernel)) (by decide +kernel)
theorem qc_1620 : (Jvm.Cond.constant "LineAssemblerModel" (282 : Nat) (33583155 : Int32)) ∈ lw_gd := uc_6 (List.mem_of_getElem? (i := 180) (by decide +kernel)) (by decide +kernel)
theorem qc_1621 : (Jvm.Cond.constant "LineAssemblerModel" (283 : Nat) (1073762323 : Int32)) ∈ lw_gd := uc_6 (List.mem_of_getElem? (i := 181) (by decide +kernel)) (by decide +kernel)
theorem qc_1622 : (Jvm.Cond.constant "LineAssemblerModel" (284 : Nat) (402661423 : Int32)) ∈ lw_gd := uc_6 (List.mem_of_getElem? (i := 182) (by decide +kernel)) (by decide +kernel)
theorem qc_1623 : (Jvm.Cond.constant "LineAssemblerModel" (285 : Nat) (134225967 : Int32)) ∈ lw_gd := uc_6 (List.mem_of_getElem? (i := 183) (by decide +kernel)) (by decide +kernel)
theorem qc_1624 : (Jvm.Cond.constant "LineAssemblerModel" (286 : Nat) (536879151 : Int32)) ∈ lw_gd := uc_6 (List.mem_of_getElem? (i := 184) (by decide +kernel)) (by decide +kernel)
theorem qc_1625 : (Jvm.Cond.constant "LineAssemblerModel" (287 : Nat) (1610620975 : Int32)) ∈ lw_gd := uc_6 (List.mem_of_getElem? (i := 185) (by decide +kernel)) (by decide +kernel)
theorem qc_1626 : (Jvm.Cond.constant "LineAssemblerModel" (288 : Nat) (1073750063 : Int32)) ∈ lw_gd := uc_6 (List.mem_of_getElem? (i := 186) (by decide +kernel)) (by decide +kernel)
theorem qc_1627 : (Jvm.Cond.constant "LineAssemblerModel" (289 : Nat) (-2147475409 : Int32)) ∈ lw_gd := uc_6 (List.mem_of_getElem? (i := 187) (by decide +kernel)) (by decide +kernel)
theorem qc_1628 : (Jvm.Cond.constant "LineAssemblerModel" (290 : Nat) (-1610604497 : Int32)) ∈ lw_gd := uc_6 (List.mem_of_getElem? (i := 188) (by decide +kernel)) (by decide +kernel)
theorem qc_1629 : (Jvm.Cond.constant "LineAssemblerModel" (291 : Nat) (-1073733585 : Int32)) ∈ lw_gd := uc_6 (List.mem_of_getElem? (i := 189) (by decide +kernel)) (by decide +kernel)
theorem qc_1630 : (Jvm.Cond.constant "LineAssemblerModel" (292 : Nat) (-536862673 : Int32)) ∈ lw_gd := uc_6 (List.mem_of_getElem? (i := 190) (by decide +kernel)) (by decide +kernel)
theorem qc_1631 : (Jvm.Cond.constant "LineAssemblerModel" (293 : Nat) (268443695 : Int32)) ∈ lw_gd := uc_6 (List.mem_of_getElem? (i := 191) (by decide +kernel)) (by decide +kernel)
theorem qc_1632 : (Jvm.Cond.constant "LineAssemblerModel" (294 : Nat) (-1073733517 : Int32)) ∈ lw_gd := uc_6 (List.mem_of_getElem? (i := 192) (by decide +kernel)) (by decide +kernel)
theorem qc_1633 : (Jvm.Cond.constant "LineAssemblerModel" (295 : Nat) (-1072684941 : Int32)) ∈ lw_gd := uc_6 (List.mem_of_getElem? (i := 193) (by decide +kernel)) (by decide +kernel)
theorem qc_1634 : (Jvm.Cond.constant "LineAssemblerModel" (296 : Nat) (-1071636365 : Int32)) ∈ lw_gd := uc_6 (List.mem_of_getElem? (i := 194) (by decide +kernel)) (by decide +kernel)
theorem qc_1635 : (Jvm.Cond.constant "LineAssemblerModel" (297 : Nat) (-939515789 : Int32)) ∈ lw_gd := uc_6 (List.mem_of_getElem? (i := 195) (by decide +kernel)) (by decide +kernel)
theorem qc_1636 : (Jvm.Cond.constant "LineAssemblerModel" (298 : Nat) (-938467213 : Int32)) ∈ lw_gd := uc_6 (List.mem_of_getElem? (i := 196) (by decide +kernel)) (by decide +kernel)
theorem qc_1637 : (Jvm.Cond.constant "LineAssemblerModel" (299 : Nat) (-937418637 : Int32)) ∈ lw_gd := uc_6 (List.mem_of_getElem? (i := 197) (by decide +kernel)) (by decide +kernel)
theorem qc_1638 : (Jvm.Cond.constant "LineAssemblerModel" (300 : Nat) (267386895 : Int32)) ∈ lw_gd := uc_6 (List.mem_of_getElem? (i := 198) (by decide +kernel)) (by decide +kernel)
theorem qc_1639 : (Jvm.Cond.constant "LineAssemblerModel" (301 : Nat) (1048691 : Int32)) ∈ lw_gd := uc_6 (List.mem_of_getElem? (i := 199) (by decide +kernel)) (by decide +kernel)
theorem qc_1640 : (Jvm.Cond.constant "LineAssemblerModel" (302 : Nat) (32871 : Int32)) ∈ lw_gd := uc_6 (List.mem_of_getElem? (i := 200) (by decide +kernel)) (by decide +kernel)
theorem qc_1641 : (Jvm.Cond.constant "LineAssemblerModel" (303 : Nat) (49152 : Int32)) ∈ lw_gd := uc_6 (List.mem_of_getElem? (i := 201) (by decide +kernel)) (by decide +kernel)
theorem qc_1642 : (Jvm.Cond.constant "LineAssemblerModel" (304 : Nat) (36866 : Int32)) ∈ lw_gd := uc_6 (List.mem_of_getElem? (i := 202) (by decide +kernel)) (by decide +kernel)
theorem qc_1643 : (Jvm.Cond.constant "LineAssemblerModel" (305 : Nat) (40961 : Int32)) ∈ lw_gd := uc_6 (List.mem_of_getElem? (i := 203) (by decide +kernel)) (by decide +kernel)
theorem qc_1644 : (Jvm.Cond.constant "LineAssemblerModel" (306 : Nat) (32769 : Int32)) ∈ lw_gd := uc_6 (List.mem_of_getElem? (i := 204) (by decide +kernel)) (by decide +kernel)
theorem qc_1645 : (Jvm.Cond.constant "LineAssemblerModel" (307 : Nat) (33793 : Int32)) ∈ lw_gd := uc_6 (List.mem_of_getElem? (i := 205) (by decide +kernel)) (by decide +kernel)
theorem qc_1646 : (Jvm.Cond.constant "LineAssemblerModel" (308 : Nat) (34817 : Int32)) ∈ lw_gd := uc_6 (List.mem_of_getElem? (i := 206) (by decide +kernel)) (by decide +kernel)
theorem qc_1647 : (Jvm.Cond.constant "LineAssemblerModel" (309 : Nat) (35841 : Int32)) ∈ lw_gd := uc_6 (List.mem_of_getElem? (i := 207) (by decide +kernel)) (by decide +kernel)
theorem qc_1648 : (Jvm.Cond.constant "LineAssemblerModel" (310 : Nat) (35873 : Int32)) ∈ lw_gd := uc_6 (List.mem_of_getElem? (i := 208) (by decide +kernel)) (by decide +kernel)
theorem qc_1649 : (Jvm.Cond.constant "LineAssemblerModel" (311 : Nat) (35905 : Int32)) ∈ lw_gd := uc_6 (List.mem_of_getElem? (i := 209) (by decide +kernel)) (by decide +kernel)
theorem qc_1650 : (Jvm.Cond.constant "LineAssemblerModel" (312 : Nat) (35937 : Int32)) ∈ lw_gd := uc_6 (List.mem_of_getElem? (i := 210) (by decide +kernel)) (by decide +kernel)
theorem qc_1651 : (Jvm.Cond.constant "LineAssemblerModel" (313 : Nat) (49153 : Int32)) ∈ lw_gd := uc_6 (List.mem_of_getElem? (i := 211) (by decide +kernel)) (by decide +kernel)
theorem qc_1652 : (Jvm.Cond.constant "LineAssemblerModel" (314 : Nat) (57345 : Int32)) ∈ lw_gd := uc_6 (List.mem_of_getElem? (i := 212) (by decide +kernel)) (by decide +kernel)
theorem qc_1653 : (Jvm.Cond.constant "LineAssemblerModel" (315 : Nat) (32770 : Int32)) ∈ lw_gd := uc_6 (List.mem_of_getElem? (i := 213) (by decide +kernel)) (by decide +kernel)
theorem qc_1654 : (Jvm.Cond.constant "LineAssemblerModel" (316 : Nat) (49154 : Int32)) ∈ lw_gd := uc_6 (List.mem_of_getElem? (i := 214) (by decide +kernel)) (by decide +kernel)
theorem qc_1655 : (Jvm.Cond.constant "LineAssemblerModel" (317 : Nat) (-1032173 : Int32)) ∈ lw_gd := uc_6 (List.mem_of_getElem? (i := 215) (by decide +kernel)) (by decide +kernel)
theorem qc_1656 : (Jvm.Cond.constant "LineAssemblerModel" (318 : Nat) (1060883 : Int32)) ∈ lw_gd := uc_6 (List.mem_of_getElem? (i := 216) (by decide +kernel)) (by decide +kernel)
theorem qc_1657 : (Jvm.Cond.fieldLink "LineAssemblerModel" (263 : Nat) "LineAssemblerModel" "names" "[J") ∈ lw_gd := uc_6 (List.mem_of_getElem? (i := 217) (by decide +kernel)) (by decide +kernel)
theorem qc_1658 : (Jvm.Cond.fieldLink "LineAssemblerModel" (269 : Nat) "LineAssemblerModel" "shapes" "[B") ∈ lw_gd := uc_6 (List.mem_of_getElem? (i := 218) (by decide +kernel)) (by decide +kernel)
theorem qc_1659 : (Jvm.Cond.fieldLink "LineAssemblerModel" (319 : Nat) "LineAssemblerModel" "patterns" "[I") ∈ lw_gd := uc_6 (List.mem_of_getElem? (i := 219) (by decide +kernel)) (by decide +kernel)
theorem qc_1661 : (Jvm.Cond.fieldLink "LineAssemblerModel" (323 : Nat) "LineAssemblerModel" "typed" "[C") ∈ lw_gd := uc_6 (List.mem_of_getElem? (i := 221) (by decide +kernel)) (by decide +kernel)
theorem qc_1663 : (Jvm.Cond.fieldLink "LineAssemblerModel" (327 : Nat) "LineAssemblerModel" "text" "[C") ∈ lw_gd := uc_6 (List.mem_of_getElem? (i := 223) (by decide +kernel)) (by decide +kernel)
theorem qc_1667 : (Jvm.Cond.fieldLink "LineAssemblerModel" (330 : Nat) "LineAssemblerModel" "place" "[I") ∈ lw_gd := uc_6 (List.mem_of_getElem? (i := 227) (by decide +kernel)) (by decide +kernel)
theorem qc_1668 : (Jvm.Cond.fieldLink "LineAssemblerModel" (333 : Nat) "LineAssemblerModel" "offset" "[I") ∈ lw_gd := uc_6 (List.mem_of_getElem? (i := 228) (by decide +kernel)) (by decide +kernel)
theorem qc_1669 : (Jvm.Cond.fieldLink "LineAssemblerModel" (336 : Nat) "LineAssemblerModel" "bytes" "[I") ∈ lw_gd := uc_6 (List.mem_of_getElem? (i := 229) (by decide +kernel)) (by decide +kernel)
theorem qc_1671 : (Jvm.Cond.fieldLink "LineAssemblerModel" (339 : Nat) "LineAssemblerModel" "label" "[I") ∈ lw_gd := uc_6 (List.mem_of_getElem? (i := 231) (by decide +kernel)) (by decide +kernel)
theorem qc_1672 : (Jvm.Cond.fieldLink "LineAssemblerModel" (342 : Nat) "LineAssemblerModel" "where" "[I") ∈ lw_gd := uc_6 (List.mem_of_getElem? (i := 232) (by decide +kernel)) (by decide +kernel)
theorem qc_1694 : (Jvm.Cond.fieldLink "LineAssemblerModel" (345 : Nat) "LineAssemblerModel" "pile" "[I") ∈ lw_gd := uc_7 (List.mem_of_getElem? (i := 14) (by decide +kernel)) (by decide +kernel)
theorem qc_1778 : (Jvm.Cond.arrayClass Jvm.ClassFile.FieldType.long) ∈ lw_gd := uc_7 (List.mem_of_getElem? (i := 98) (by decide +kernel)) (by decide +kernel)
theorem qc_1779 : (Jvm.Cond.arrayClass Jvm.ClassFile.FieldType.char) ∈ lw_gd := uc_7 (List.mem_of_getElem? (i := 99) (by decide +kernel)) (by decide +kernel)
/-! ===== the reference's constructor ===== -/
def stJ {α : Type} (L : List α) (d : α) (n : Nat) : Nat → α := fun j => if j < n then L.getD j d else d
theorem stJ_0 {α : Type} (L : List α) (d : α) : stJ L d 0 = fun _ => d := by
  funext j
  simp [stJ]
theorem stJ_up {α : Type} {L : List α} {d v : α} {k : Nat} (h : L.getD k d = v) : (fun j => if j = k then v else stJ L d k j) = stJ L d (k + 1) := by
  funext j
  unfold stJ
  by_cases e : j = k
  · subst e
    rw [if_pos rfl, if_pos (Nat.lt_succ_self j), h]
  · rw [if_neg e]
    by_cases e2 : j < k
    · rw [if_pos e2, if_pos (Nat.lt_succ_of_lt e2)]
    · rw [if_neg e2, if_neg (by omega)]
theorem stJ_full {α : Type} {L : List α} {d : α} {n : Nat} (h : L.length ≤ n) : stJ L d n = fun k => L.getD k d := by
  funext j
  unfold stJ
  by_cases e : j < n
  · rw [if_pos e]
  · rw [if_neg e]
    simp [List.getD_eq_getElem?_getD, List.getElem?_eq_none (show L.length ≤ j by omega)]
theorem fl_last (Ws : List va_W) (c : Nat × va_E) : (Ws ++ [[c]]).flatten[Ws.flatten.length]? = some c := by
  rw [List.flatten_append, List.getElem?_append_right (Nat.le_refl _), Nat.sub_self]
  rfl
theorem fl_setl (Ws : List va_W) (c c' : Nat × va_E) : (Ws ++ [[c]]).flatten.set Ws.flatten.length c' = (Ws ++ [[c']]).flatten := by
  rw [List.flatten_append, List.flatten_append, List.set_append_right _ _ (Nat.le_refl _), Nat.sub_self]
  rfl
section
variable {p : Program} {l : Launch} {e : Env} {R : Room} {s : State} {m : MethodId} {args : Array Value} {below : List Frame} {meth : Method} {c : Code} {H : Heap} {locs : List Loc} {cells slots : Nat} {Q : State → Prop} {pc : Nat} {ls : Array Slot} {rest : List Value} {cc : ByteArray} {nL : Nat} {rt : Option FieldType} {D : va_G} {dA : Nat → ClassId} {z : Nat → Nat} {A : Nat → Prop} {R0 : String} {Ws Ws' : List va_W}
theorem x_stJ (C : CxC R0 p s m args meth c cc nL rt D dA z A) {a n k : Nat} {L : List Int64} (hW : WdC D A s (Ws ++ [[(a, .inl (dA 0, n, .inr (.inl (stJ L 0 k))))]]) H locs) {i : Int32} {x : Int64} (hin : inB i n = true) (hi : i.toNatClampNeg = k) (hv : L.getD k 0 = x) (hdg : decode cc pc = .ok (.lastore, 1))
    (kk : ∀ (H1 : Heap) (locs1 : List Loc), WdC D A s (Ws ++ [[(a, .inl (dA 0, n, .inr (.inl (stJ L 0 (k + 1)))))]]) H1 locs1 → W p l e R s m args below meth c H1 locs1 cells slots Q (F0 m (pc + 1) ls rest)) : W p l e R s m args below meth c H locs cells slots Q (F0 m pc ls (.long x :: .int i :: .ref a :: rest)) := by
  refine va_last C.1.1 C.1.2.1 C.2.1 hW.1 hW.2.1 hW.2.2 Ws.flatten.length 0 (fl_last _ _) rfl (inB_in hin) hdg (fun H1 locs1 hP hD hS => ?_)
  rw [fl_setl, hi, show vp_updL (stJ L 0 k) k x = stJ L 0 (k + 1) from stJ_up hv] at hP hD
  exact kk H1 locs1 ⟨hP, hD, hS⟩
theorem x_stB (C : CxC R0 p s m args meth c cc nL rt D dA z A) {a n k : Nat} {L : List Int32} (hW : WdC D A s (Ws ++ [[(a, .inl (dA 1, n, .inl (stJ L 0 k)))]]) H locs) {i : Int32} {x : Int32} (hin : inB i n = true) (hi : i.toNatClampNeg = k) (hv : L.getD k 0 = vp_nar .byte x) (hdg : decode cc pc = .ok (.bastore, 1))
    (kk : ∀ (H1 : Heap) (locs1 : List Loc), WdC D A s (Ws ++ [[(a, .inl (dA 1, n, .inl (stJ L 0 (k + 1))))]]) H1 locs1 → W p l e R s m args below meth c H1 locs1 cells slots Q (F0 m (pc + 1) ls rest)) : W p l e R s m args below meth c H locs cells slots Q (F0 m pc ls (.int x :: .int i :: .ref a :: rest)) := by
  refine va_bast C.1.1 C.1.2.1 C.2.1 hW.1 hW.2.1 hW.2.2 Ws.flatten.length 1 (fl_last _ _) rfl (inB_in hin) hdg (fun H1 locs1 hP hD hS => ?_)
  rw [fl_setl, hi, show upd (stJ L 0 k) k (vp_nar .byte x) = stJ L 0 (k + 1) from stJ_up hv] at hP hD
  exact kk H1 locs1 ⟨hP, hD, hS⟩
theorem x_stK (C : CxC R0 p s m args meth c cc nL rt D dA z A) {a n k : Nat} {L : List Int32} (hW : WdC D A s (Ws ++ [[(a, .inl (dA 2, n, .inl (stJ L 0 k)))]]) H locs) {i : Int32} {x : Int32} (hin : inB i n = true) (hi : i.toNatClampNeg = k) (hv : L.getD k 0 = x) (hdg : decode cc pc = .ok (.iastore, 1))
    (kk : ∀ (H1 : Heap) (locs1 : List Loc), WdC D A s (Ws ++ [[(a, .inl (dA 2, n, .inl (stJ L 0 (k + 1))))]]) H1 locs1 → W p l e R s m args below meth c H1 locs1 cells slots Q (F0 m (pc + 1) ls rest)) : W p l e R s m args below meth c H locs cells slots Q (F0 m pc ls (.int x :: .int i :: .ref a :: rest)) := by
  refine va_iast C.1.1 C.1.2.1 C.2.1 hW.1 hW.2.1 hW.2.2 Ws.flatten.length 2 (fl_last _ _) rfl (inB_in hin) hdg (fun H1 locs1 hP hD hS => ?_)
  rw [fl_setl, hi, show upd (stJ L 0 k) k x = stJ L 0 (k + 1) from stJ_up hv] at hP hD
  exact kk H1 locs1 ⟨hP, hD, hS⟩
theorem x_inJ {a n : Nat} {L : List Int64} (hW : WdC D A s (Ws ++ [[(a, .inl (dA 0, n, .inr (.inl (fun _ => 0))))]]) H locs) : WdC D A s (Ws ++ [[(a, .inl (dA 0, n, .inr (.inl (stJ L 0 0))))]]) H locs := by
  rw [stJ_0]; exact hW
theorem x_inB {a n : Nat} {L : List Int32} (hW : WdC D A s (Ws ++ [[(a, .inl (dA 1, n, .inl (fun _ => 0)))]]) H locs) : WdC D A s (Ws ++ [[(a, .inl (dA 1, n, .inl (stJ L 0 0)))]]) H locs := by
  rw [stJ_0]; exact hW
theorem x_inK {a n : Nat} {L : List Int32} (hW : WdC D A s (Ws ++ [[(a, .inl (dA 2, n, .inl (fun _ => 0)))]]) H locs) : WdC D A s (Ws ++ [[(a, .inl (dA 2, n, .inl (stJ L 0 0)))]]) H locs := by
  rw [stJ_0]; exact hW
theorem x_nwJ (C : CxC R0 p s m args meth c cc nL rt D dA z A) (hW : WdC D A s Ws H locs) {n : Int32} {k : Nat} (hk : n.toNatClampNeg = k) (hn : ¬ n < 0) (hbytes : k * componentBytes .long ≤ 536870912) (hcells : cells + 1 ≤ R.cells) (hslots : slots + k ≤ R.slots) (harr : Cond.arrayClass .long ∈ lw_gd) (hdg : decode cc pc = .ok (.newarray .long, 2))
    (kk : ∀ (q : Nat) (H1 : Heap), WdC D A s (Ws ++ [[(q, .inl (dA 0, k, .inr (.inl (fun _ => 0))))]]) H1 locs → W p l e R s m args below meth c H1 locs (cells + 1) (slots + k) Q (F0 m (pc + 2) ls (.ref q :: rest))) : W p l e R s m args below meth c H locs cells slots Q (F0 m pc ls (.int n :: rest)) := by
  obtain ⟨⟨hx, hb, hml, hrt, hown, hT, hlk⟩, hK, hA, hEX⟩ := C
  refine va_newa (atype := .long) (D := D) (cl := classes) (tys := tyC dA) (ws := Ws.flatten) (ty := .long) (a0 := (k, .inr (.inl (fun _ => 0)))) hx hb (hT _ harr) rfl hK hW.1 hW.2.1 hW.2.2 hA (fun cA => rfl) hn hk hbytes hcells hslots hdg (fun q cA H1 hK1 hP hD hS => ?_)
  have h1 : s.vm.findClass ("[" ++ (FieldType.long).toString) = some cA := (hK1.2 5 (cA, .long) rfl).2
  have h2 : s.vm.findClass ("[" ++ (FieldType.long).toString) = some (dA 0) := (hK.2 0 (dA 0, .long) rfl).2
  have h3 : cA = dA 0 := Option.some.inj (h1.symm.trans h2)
  subst h3
  refine kk q H1 ⟨?_, ?_, hS⟩
  · rw [List.flatten_append]; exact hP
  · rw [List.flatten_append]; exact hD
theorem x_nwB (C : CxC R0 p s m args meth c cc nL rt D dA z A) (hW : WdC D A s Ws H locs) {n : Int32} {k : Nat} (hk : n.toNatClampNeg = k) (hn : ¬ n < 0) (hbytes : k * componentBytes .byte ≤ 536870912) (hcells : cells + 1 ≤ R.cells) (hslots : slots + k ≤ R.slots) (harr : Cond.arrayClass .byte ∈ lw_gd) (hdg : decode cc pc = .ok (.newarray .byte, 2))
    (kk : ∀ (q : Nat) (H1 : Heap), WdC D A s (Ws ++ [[(q, .inl (dA 1, k, .inl (fun _ => 0)))]]) H1 locs → W p l e R s m args below meth c H1 locs (cells + 1) (slots + k) Q (F0 m (pc + 2) ls (.ref q :: rest))) : W p l e R s m args below meth c H locs cells slots Q (F0 m pc ls (.int n :: rest)) := by
  obtain ⟨⟨hx, hb, hml, hrt, hown, hT, hlk⟩, hK, hA, hEX⟩ := C
  refine va_newa (atype := .byte) (D := D) (cl := classes) (tys := tyC dA) (ws := Ws.flatten) (ty := .byte) (a0 := (k, .inl (fun _ => 0))) hx hb (hT _ harr) rfl hK hW.1 hW.2.1 hW.2.2 hA (fun cA => rfl) hn hk hbytes hcells hslots hdg (fun q cA H1 hK1 hP hD hS => ?_)
  have h1 : s.vm.findClass ("[" ++ (FieldType.byte).toString) = some cA := (hK1.2 5 (cA, .byte) rfl).2
  have h2 : s.vm.findClass ("[" ++ (FieldType.byte).toString) = some (dA 1) := (hK.2 1 (dA 1, .byte) rfl).2
  have h3 : cA = dA 1 := Option.some.inj (h1.symm.trans h2)
  subst h3
  refine kk q H1 ⟨?_, ?_, hS⟩
  · rw [List.flatten_append]; exact hP
  · rw [List.flatten_append]; exact hD
theorem x_nwK (C : CxC R0 p s m args meth c cc nL rt D dA z A) (hW : WdC D A s Ws H locs) {n : Int32} {k : Nat} (hk : n.toNatClampNeg = k) (hn : ¬ n < 0) (hbytes : k * componentBytes .int ≤ 536870912) (hcells : cells + 1 ≤ R.cells) (hslots : slots + k ≤ R.slots) (harr : Cond.arrayClass .int ∈ lw_gd) (hdg : decode cc pc = .ok (.newarray .int, 2))
    (kk : ∀ (q : Nat) (H1 : Heap), WdC D A s (Ws ++ [[(q, .inl (dA 2, k, .inl (fun _ => 0)))]]) H1 locs → W p l e R s m args below meth c H1 locs (cells + 1) (slots + k) Q (F0 m (pc + 2) ls (.ref q :: rest))) : W p l e R s m args below meth c H locs cells slots Q (F0 m pc ls (.int n :: rest)) := by
  obtain ⟨⟨hx, hb, hml, hrt, hown, hT, hlk⟩, hK, hA, hEX⟩ := C
  refine va_newa (atype := .int) (D := D) (cl := classes) (tys := tyC dA) (ws := Ws.flatten) (ty := .int) (a0 := (k, .inl (fun _ => 0))) hx hb (hT _ harr) rfl hK hW.1 hW.2.1 hW.2.2 hA (fun cA => rfl) hn hk hbytes hcells hslots hdg (fun q cA H1 hK1 hP hD hS => ?_)
  have h1 : s.vm.findClass ("[" ++ (FieldType.int).toString) = some cA := (hK1.2 5 (cA, .int) rfl).2
  have h2 : s.vm.findClass ("[" ++ (FieldType.int).toString) = some (dA 2) := (hK.2 2 (dA 2, .int) rfl).2
  have h3 : cA = dA 2 := Option.some.inj (h1.symm.trans h2)
  subst h3
  refine kk q H1 ⟨?_, ?_, hS⟩
  · rw [List.flatten_append]; exact hP
  · rw [List.flatten_append]; exact hD
theorem x_nwC (C : CxC R0 p s m args meth c cc nL rt D dA z A) (hW : WdC D A s Ws H locs) {n : Int32} {k : Nat} (hk : n.toNatClampNeg = k) (hn : ¬ n < 0) (hbytes : k * componentBytes .char ≤ 536870912) (hcells : cells + 1 ≤ R.cells) (hslots : slots + k ≤ R.slots) (harr : Cond.arrayClass .char ∈ lw_gd) (hdg : decode cc pc = .ok (.newarray .char, 2))
    (kk : ∀ (q : Nat) (H1 : Heap), WdC D A s (Ws ++ [[(q, .inl (dA 3, k, .inl (fun _ => 0)))]]) H1 locs → W p l e R s m args below meth c H1 locs (cells + 1) (slots + k) Q (F0 m (pc + 2) ls (.ref q :: rest))) : W p l e R s m args below meth c H locs cells slots Q (F0 m pc ls (.int n :: rest)) := by
  obtain ⟨⟨hx, hb, hml, hrt, hown, hT, hlk⟩, hK, hA, hEX⟩ := C
  refine va_newa (atype := .char) (D := D) (cl := classes) (tys := tyC dA) (ws := Ws.flatten) (ty := .char) (a0 := (k, .inl (fun _ => 0))) hx hb (hT _ harr) rfl hK hW.1 hW.2.1 hW.2.2 hA (fun cA => rfl) hn hk hbytes hcells hslots hdg (fun q cA H1 hK1 hP hD hS => ?_)
  have h1 : s.vm.findClass ("[" ++ (FieldType.char).toString) = some cA := (hK1.2 5 (cA, .char) rfl).2
  have h2 : s.vm.findClass ("[" ++ (FieldType.char).toString) = some (dA 3) := (hK.2 3 (dA 3, .char) rfl).2
  have h3 : cA = dA 3 := Option.some.inj (h1.symm.trans h2)
  subst h3
  refine kk q H1 ⟨?_, ?_, hS⟩
  · rw [List.flatten_append]; exact hP
  · rw [List.flatten_append]; exact hD
end

theorem def_Mod : ∀ j, j < (RM, FM, 40).2.2 → defaultValue (tM j) = vp_V [.null, .null, .null, .int 0, .null, .int 0, .null, .int 0, .int 0, .int 0, .null, .null, .null, .int 0, .null, .null, .int 0, .int 0, .int 0, .int 0, .int 0, .int 0, .int 0, .int 0, .int 0, .int 0, .int 0, .int 0, .int 0, .int 0, .int 0, .int 0, .int 0, .int 0, .int 0, .int 0, .int 0, .null, .int 0, .int 0] j
  | 0, _ => rfl
  | 1, _ => rfl
  | 2, _ => rfl
  | 3, _ => rfl
  | 4, _ => rfl
  | 5, _ => rfl
  | 6, _ => rfl
  | 7, _ => rfl
  | 8, _ => rfl
  | 9, _ => rfl
  | 10, _ => rfl
  | 11, _ => rfl
  | 12, _ => rfl
  | 13, _ => rfl
  | 14, _ => rfl
  | 15, _ => rfl
  | 16, _ => rfl
  | 17, _ => rfl
  | 18, _ => rfl
  | 19, _ => rfl
  | 20, _ => rfl
  | 21, _ => rfl
  | 22, _ => rfl
  | 23, _ => rfl
  | 24, _ => rfl
  | 25, _ => rfl
  | 26, _ => rfl
  | 27, _ => rfl
  | 28, _ => rfl
  | 29, _ => rfl
  | 30, _ => rfl
  | 31, _ => rfl
  | 32, _ => rfl
  | 33, _ => rfl
  | 34, _ => rfl
  | 35, _ => rfl
  | 36, _ => rfl
  | 37, _ => rfl
  | 38, _ => rfl
  | 39, _ => rfl
  | (n + 40), h => absurd h (by show ¬ n + 40 < 40; omega)
section
variable {p : Program} {l : Launch} {e : Env} {s : State} {m : MethodId} {args : Array Value} {below : List Frame} {meth : Method} {c : Code} {D : va_G} {dA : Nat → ClassId} {z : Nat → Nat} {o b i : Nat → Nat} {A : Nat → Prop} {R : Room} {cells slots : Nat} {Q : State → Prop} {Ws : List va_W}
set_option maxHeartbeats 4000000 in
set_option maxRecDepth 100000 in
theorem bJ_names_0 (C : CxC RM p s m args meth c cC_Mod_init 1 none D dA z A) {a : Nat} {ls : Array Slot} {rest : List Value} (H : Heap) (locs : List Loc) (hW : WdC D A s (Ws ++ [[(a, .inl (dA 0, 128, .inr (.inl (stJ M_names_l 0 0))))]]) H locs) (kk : ∀ (H1 : Heap) (locs1 : List Loc), WdC D A s (Ws ++ [[(a, .inl (dA 0, 128, .inr (.inl (stJ M_names_l 0 16))))]]) H1 locs1 → W p l e R s m args below meth c H1 locs1 cells slots Q (F0 m 116 ls (.ref a :: rest))) : W p l e R s m args below meth c H locs cells slots Q (F0 m 10 ls (.ref a :: rest)) := by
  have hx := C.1.1
  have hb := C.1.2.1
  have hown := C.1.2.2.2.2.1
  have hT := C.1.2.2.2.2.2.1
  refine lv_dup (pc := 10) hx hb dC_Mod_init_10 rfl ?_
  refine lv_iconst (pc := 11) (v := 0) hx hb dC_Mod_init_11 (by decide) ?_
  refine lv_ldc2 (pc := 12) (v := 16641) hx hb hown (hT _ qc_1483) dC_Mod_init_12 ?_
  refine x_stJ (pc := 15) C hW (i := 0) (x := 16641) (by decide) (by decide) (by decide) dC_Mod_init_15 (fun H locs hW => ?_)
  refine lv_dup (pc := 16) hx hb dC_Mod_init_16 rfl ?_
  refine lv_iconst (pc := 17) (v := 1) hx hb dC_Mod_init_17 (by decide) ?_
  refine lv_ldc2 (pc := 18) (v := 9555) hx hb hown (hT _ qc_1484) dC_Mod_init_18 ?_
  refine x_stJ (pc := 21) C hW (i := 1) (x := 9555) (by decide) (by decide) (by decide) dC_Mod_init_21 (fun H locs hW => ?_)
  refine lv_dup (pc := 22) hx hb dC_Mod_init_22 rfl ?_
  refine lv_iconst (pc := 23) (v := 2) hx hb dC_Mod_init_23 (by decide) ?_
  refine lv_ldc2 (pc := 24) (v := 49939) hx hb hown (hT _ qc_1485) dC_Mod_init_24 ?_
  refine x_stJ (pc := 27) C hW (i := 2) (x := 49939) (by decide) (by decide) (by decide) dC_Mod_init_27 (fun H locs hW => ?_)
  refine lv_dup (pc := 28) hx hb dC_Mod_init_28 rfl ?_
  refine lv_iconst (pc := 29) (v := 3) hx hb dC_Mod_init_29 (by decide) ?_
  refine lv_ldc2 (pc := 30) (v := 82707) hx hb hown (hT _ qc_1486) dC_Mod_init_30 ?_
  refine x_stJ (pc := 33) C hW (i := 3) (x := 82707) (by decide) (by decide) (by decide) dC_Mod_init_33 (fun H locs hW => ?_)
  refine lv_dup (pc := 34) hx hb dC_Mod_init_34 rfl ?_
  refine lv_iconst (pc := 35) (v := 4) hx hb dC_Mod_init_35 (by decide) ?_
  refine lv_ldc2 (pc := 36) (v := 5587731) hx hb hown (hT _ qc_1487) dC_Mod_init_36 ?_
  refine x_stJ (pc := 39) C hW (i := 4) (x := 5587731) (by decide) (by decide) (by decide) dC_Mod_init_39 (fun H locs hW => ?_)
  refine lv_dup (pc := 40) hx hb dC_Mod_init_40 rfl ?_
  refine lv_iconst (pc := 41) (v := 5) hx hb dC_Mod_init_41 (by decide) ?_
  refine lv_ldc2 (pc := 42) (v := 74712) hx hb hown (hT _ qc_1488) dC_Mod_init_42 ?_
  refine x_stJ (pc := 45) C hW (i := 5) (x := 74712) (by decide) (by decide) (by decide) dC_Mod_init_45 (fun H locs hW => ?_)
  refine lv_dup (pc := 46) hx hb dC_Mod_init_46 rfl ?_
  refine lv_bipush (pc := 47) (v := 6) hx hb dC_Mod_init_47 (by decide) ?_
  refine lv_ldc2 (pc := 49) (v := 50323) hx hb hown (hT _ qc_1489) dC_Mod_init_49 ?_
  refine x_stJ (pc := 52) C hW (i := 6) (x := 50323) (by decide) (by decide) (by decide) dC_Mod_init_52 (fun H locs hW => ?_)
  refine lv_dup (pc := 53) hx hb dC_Mod_init_53 rfl ?_
  refine lv_bipush (pc := 54) (v := 7) hx hb dC_Mod_init_54 (by decide) ?_
  refine lv_ldc2 (pc := 56) (v := 5267) hx hb hown (hT _ qc_1490) dC_Mod_init_56 ?_
  refine x_stJ (pc := 59) C hW (i := 7) (x := 5267) (by decide) (by decide) (by decide) dC_Mod_init_59 (fun H locs hW => ?_)
  refine lv_dup (pc := 60) hx hb dC_Mod_init_60 rfl ?_
  refine lv_bipush (pc := 61) (v := 8) hx hb dC_Mod_init_61 (by decide) ?_
  refine lv_ldc2 (pc := 63) (v := 1167) hx hb hown (hT _ qc_1491) dC_Mod_init_63 ?_
  refine x_stJ (pc := 66) C hW (i := 8) (x := 1167) (by decide) (by decide) (by decide) dC_Mod_init_66 (fun H locs hW => ?_)
  refine lv_dup (pc := 67) hx hb dC_Mod_init_67 rfl ?_
  refine lv_bipush (pc := 68) (v := 9) hx hb dC_Mod_init_68 (by decide) ?_
  refine lv_ldc2 (pc := 70) (v := 17281) hx hb hown (hT _ qc_1492) dC_Mod_init_70 ?_
  refine x_stJ (pc := 73) C hW (i := 9) (x := 17281) (by decide) (by decide) (by decide) dC_Mod_init_73 (fun H locs hW => ?_)
  refine lv_dup (pc := 74) hx hb dC_Mod_init_74 rfl ?_
  refine lv_bipush (pc := 75) (v := 10) hx hb dC_Mod_init_75 (by decide) ?_
  refine lv_ldc2 (pc := 77) (v := 50509) hx hb hown (hT _ qc_1493) dC_Mod_init_77 ?_
  refine x_stJ (pc := 80) C hW (i := 10) (x := 50509) (by decide) (by decide) (by decide) dC_Mod_init_80 (fun H locs hW => ?_)
  refine lv_dup (pc := 81) hx hb dC_Mod_init_81 rfl ?_
  refine lv_bipush (pc := 82) (v := 11) hx hb dC_Mod_init_82 (by decide) ?_
  refine lv_ldc2 (pc := 84) (v := 2147661) hx hb hown (hT _ qc_1494) dC_Mod_init_84 ?_
  refine x_stJ (pc := 87) C hW (i := 11) (x := 2147661) (by decide) (by decide) (by decide) dC_Mod_init_87 (fun H locs hW => ?_)
  refine lv_dup (pc := 88) hx hb dC_Mod_init_88 rfl ?_
  refine lv_bipush (pc := 89) (v := 12) hx hb dC_Mod_init_89 (by decide) ?_
  refine lv_ldc2 (pc := 91) (v := 22869493069) hx hb hown (hT _ qc_1495) dC_Mod_init_91 ?_
  refine x_stJ (pc := 94) C hW (i := 12) (x := 22869493069) (by decide) (by decide) (by decide) dC_Mod_init_94 (fun H locs hW => ?_)
  refine lv_dup (pc := 95) hx hb dC_Mod_init_95 rfl ?_
  refine lv_bipush (pc := 96) (v := 13) hx hb dC_Mod_init_96 (by decide) ?_
  refine lv_ldc2 (pc := 98) (v := 354469197) hx hb hown (hT _ qc_1496) dC_Mod_init_98 ?_
  refine x_stJ (pc := 101) C hW (i := 13) (x := 354469197) (by decide) (by decide) (by decide) dC_Mod_init_101 (fun H locs hW => ?_)
  refine lv_dup (pc := 102) hx hb dC_Mod_init_102 rfl ?_
  refine lv_bipush (pc := 103) (v := 14) hx hb dC_Mod_init_103 (by decide) ?_
  refine lv_ldc2 (pc := 105) (v := 90692) hx hb hown (hT _ qc_1497) dC_Mod_init_105 ?_
  refine x_stJ (pc := 108) C hW (i := 14) (x := 90692) (by decide) (by decide) (by decide) dC_Mod_init_108 (fun H locs hW => ?_)
  refine lv_dup (pc := 109) hx hb dC_Mod_init_109 rfl ?_
  refine lv_bipush (pc := 110) (v := 15) hx hb dC_Mod_init_110 (by decide) ?_
  refine lv_ldc2 (pc := 112) (v := 5595716) hx hb hown (hT _ qc_1498) dC_Mod_init_112 ?_
  refine x_stJ (pc := 115) C hW (i := 15) (x := 5595716) (by decide) (by decide) (by decide) dC_Mod_init_115 (fun H locs hW => ?_)
  exact kk _ _ hW
set_option maxHeartbeats 4000000 in
set_option maxRecDepth 100000 in
theorem bJ_names_16 (C : CxC RM p s m args meth c cC_Mod_init 1 none D dA z A) {a : Nat} {ls : Array Slot} {rest : List Value} (H : Heap) (locs : List Loc) (hW : WdC D A s (Ws ++ [[(a, .inl (dA 0, 128, .inr (.inl (stJ M_names_l 0 16))))]]) H locs) (kk : ∀ (H1 : Heap) (locs1 : List Loc), WdC D A s (Ws ++ [[(a, .inl (dA 0, 128, .inr (.inl (stJ M_names_l 0 32))))]]) H1 locs1 → W p l e R s m args below meth c H1 locs1 cells slots Q (F0 m 228 ls (.ref a :: rest))) : W p l e R s m args below meth c H locs cells slots Q (F0 m 116 ls (.ref a :: rest)) := by
  have hx := C.1.1
  have hb := C.1.2.1
  have hown := C.1.2.2.2.2.1
  have hT := C.1.2.2.2.2.2.1
  refine lv_dup (pc := 116) hx hb dC_Mod_init_116 rfl ?_
  refine lv_bipush (pc := 117) (v := 16) hx hb dC_Mod_init_117 (by decide) ?_
  refine lv_ldc2 (pc := 119) (v := 53586) hx hb hown (hT _ qc_1499) dC_Mod_init_119 ?_
  refine x_stJ (pc := 122) C hW (i := 16) (x := 53586) (by decide) (by decide) (by decide) dC_Mod_init_122 (fun H locs hW => ?_)
  refine lv_dup (pc := 123) hx hb dC_Mod_init_123 rfl ?_
  refine lv_bipush (pc := 124) (v := 17) hx hb dC_Mod_init_124 (by decide) ?_
  refine lv_ldc2 (pc := 126) (v := 5558610) hx hb hown (hT _ qc_1500) dC_Mod_init_126 ?_
  refine x_stJ (pc := 129) C hW (i := 17) (x := 5558610) (by decide) (by decide) (by decide) dC_Mod_init_129 (fun H locs hW => ?_)
  refine lv_dup (pc := 130) hx hb dC_Mod_init_130 rfl ?_
  refine lv_bipush (pc := 131) (v := 18) hx hb dC_Mod_init_131 (by decide) ?_
  refine lv_ldc2 (pc := 133) (v := 2375937) hx hb hown (hT _ qc_1501) dC_Mod_init_133 ?_
  refine x_stJ (pc := 136) C hW (i := 18) (x := 2375937) (by decide) (by decide) (by decide) dC_Mod_init_136 (fun H locs hW => ?_)
  refine lv_dup (pc := 137) hx hb dC_Mod_init_137 rfl ?_
  refine lv_bipush (pc := 138) (v := 19) hx hb dC_Mod_init_138 (by decide) ?_
  refine lv_ldc2 (pc := 140) (v := 2442003) hx hb hown (hT _ qc_1502) dC_Mod_init_140 ?_
  refine x_stJ (pc := 143) C hW (i := 19) (x := 2442003) (by decide) (by decide) (by decide) dC_Mod_init_143 (fun H locs hW => ?_)
  refine lv_dup (pc := 144) hx hb dC_Mod_init_144 rfl ?_
  refine lv_bipush (pc := 145) (v := 20) hx hb dC_Mod_init_145 (by decide) ?_
  refine lv_ldc2 (pc := 147) (v := 354763539) hx hb hown (hT _ qc_1503) dC_Mod_init_147 ?_
  refine x_stJ (pc := 150) C hW (i := 20) (x := 354763539) (by decide) (by decide) (by decide) dC_Mod_init_150 (fun H locs hW => ?_)
  refine lv_dup (pc := 151) hx hb dC_Mod_init_151 rfl ?_
  refine lv_bipush (pc := 152) (v := 21) hx hb dC_Mod_init_152 (by decide) ?_
  refine lv_ldc2 (pc := 154) (v := 2434008) hx hb hown (hT _ qc_1504) dC_Mod_init_154 ?_
  refine x_stJ (pc := 157) C hW (i := 21) (x := 2434008) (by decide) (by decide) (by decide) dC_Mod_init_157 (fun H locs hW => ?_)
  refine lv_dup (pc := 158) hx hb dC_Mod_init_158 rfl ?_
  refine lv_bipush (pc := 159) (v := 22) hx hb dC_Mod_init_159 (by decide) ?_
  refine lv_ldc2 (pc := 161) (v := 38031) hx hb hown (hT _ qc_1505) dC_Mod_init_161 ?_
  refine x_stJ (pc := 164) C hW (i := 22) (x := 38031) (by decide) (by decide) (by decide) dC_Mod_init_164 (fun H locs hW => ?_)
  refine lv_dup (pc := 165) hx hb dC_Mod_init_165 rfl ?_
  refine lv_bipush (pc := 166) (v := 23) hx hb dC_Mod_init_166 (by decide) ?_
  refine lv_ldc2 (pc := 168) (v := 2376577) hx hb hown (hT _ qc_1506) dC_Mod_init_168 ?_
  refine x_stJ (pc := 171) C hW (i := 23) (x := 2376577) (by decide) (by decide) (by decide) dC_Mod_init_171 (fun H locs hW => ?_)
  refine lv_dup (pc := 172) hx hb dC_Mod_init_172 rfl ?_
  refine lv_bipush (pc := 173) (v := 24) hx hb dC_Mod_init_173 (by decide) ?_
  refine lv_ldc2 (pc := 175) (v := 2409235) hx hb hown (hT _ qc_1507) dC_Mod_init_175 ?_
  refine x_stJ (pc := 178) C hW (i := 24) (x := 2409235) (by decide) (by decide) (by decide) dC_Mod_init_178 (fun H locs hW => ?_)
  refine lv_dup (pc := 179) hx hb dC_Mod_init_179 rfl ?_
  refine lv_bipush (pc := 180) (v := 25) hx hb dC_Mod_init_180 (by decide) ?_
  refine lv_ldc2 (pc := 182) (v := 2409619) hx hb hown (hT _ qc_1508) dC_Mod_init_182 ?_
  refine x_stJ (pc := 185) C hW (i := 25) (x := 2409619) (by decide) (by decide) (by decide) dC_Mod_init_185 (fun H locs hW => ?_)
  refine lv_dup (pc := 186) hx hb dC_Mod_init_186 rfl ?_
  refine lv_bipush (pc := 187) (v := 26) hx hb dC_Mod_init_187 (by decide) ?_
  refine lv_ldc2 (pc := 189) (v := 2364563) hx hb hown (hT _ qc_1509) dC_Mod_init_189 ?_
  refine x_stJ (pc := 192) C hW (i := 26) (x := 2364563) (by decide) (by decide) (by decide) dC_Mod_init_192 (fun H locs hW => ?_)
  refine lv_dup (pc := 193) hx hb dC_Mod_init_193 rfl ?_
  refine lv_bipush (pc := 194) (v := 27) hx hb dC_Mod_init_194 (by decide) ?_
  refine lv_ldc2 (pc := 196) (v := 140) hx hb hown (hT _ qc_1510) dC_Mod_init_196 ?_
  refine x_stJ (pc := 199) C hW (i := 27) (x := 140) (by decide) (by decide) (by decide) dC_Mod_init_199 (fun H locs hW => ?_)
  refine lv_dup (pc := 200) hx hb dC_Mod_init_200 rfl ?_
  refine lv_bipush (pc := 201) (v := 28) hx hb dC_Mod_init_201 (by decide) ?_
  refine lv_ldc2 (pc := 203) (v := 524) hx hb hown (hT _ qc_1511) dC_Mod_init_203 ?_
  refine x_stJ (pc := 206) C hW (i := 28) (x := 524) (by decide) (by decide) (by decide) dC_Mod_init_206 (fun H locs hW => ?_)
  refine lv_dup (pc := 207) hx hb dC_Mod_init_207 rfl ?_
  refine lv_bipush (pc := 208) (v := 29) hx hb dC_Mod_init_208 (by decide) ?_
  refine lv_ldc2 (pc := 210) (v := 1484) hx hb hown (hT _ qc_1512) dC_Mod_init_210 ?_
  refine x_stJ (pc := 213) C hW (i := 29) (x := 1484) (by decide) (by decide) (by decide) dC_Mod_init_213 (fun H locs hW => ?_)
  refine lv_dup (pc := 214) hx hb dC_Mod_init_214 rfl ?_
  refine lv_bipush (pc := 215) (v := 30) hx hb dC_Mod_init_215 (by decide) ?_
  refine lv_ldc2 (pc := 217) (v := 86156) hx hb hown (hT _ qc_1513) dC_Mod_init_217 ?_
  refine x_stJ (pc := 220) C hW (i := 30) (x := 86156) (by decide) (by decide) (by decide) dC_Mod_init_220 (fun H locs hW => ?_)
  refine lv_dup (pc := 221) hx hb dC_Mod_init_221 rfl ?_
  refine lv_bipush (pc := 222) (v := 31) hx hb dC_Mod_init_222 (by decide) ?_
  refine lv_ldc2 (pc := 224) (v := 86540) hx hb hown (hT _ qc_1514) dC_Mod_init_224 ?_
  refine x_stJ (pc := 227) C hW (i := 31) (x := 86540) (by decide) (by decide) (by decide) dC_Mod_init_227 (fun H locs hW => ?_)
  exact kk _ _ hW
set_option maxHeartbeats 4000000 in
set_option maxRecDepth 100000 in
theorem bJ_names_32 (C : CxC RM p s m args meth c cC_Mod_init 1 none D dA z A) {a : Nat} {ls : Array Slot} {rest : List Value} (H : Heap) (locs : List Loc) (hW : WdC D A s (Ws ++ [[(a, .inl (dA 0, 128, .inr (.inl (stJ M_names_l 0 32))))]]) H locs) (kk : ∀ (H1 : Heap) (locs1 : List Loc), WdC D A s (Ws ++ [[(a, .inl (dA 0, 128, .inr (.inl (stJ M_names_l 0 48))))]]) H1 locs1 → W p l e R s m args below meth c H1 locs1 cells slots Q (F0 m 340 ls (.ref a :: rest))) : W p l e R s m args below meth c H locs cells slots Q (F0 m 228 ls (.ref a :: rest)) := by
  have hx := C.1.1
  have hb := C.1.2.1
  have hown := C.1.2.2.2.2.1
  have hT := C.1.2.2.2.2.2.1
  refine lv_dup (pc := 228) hx hb dC_Mod_init_228 rfl ?_
  refine lv_bipush (pc := 229) (v := 32) hx hb dC_Mod_init_229 (by decide) ?_
  refine lv_ldc2 (pc := 231) (v := 4767818) hx hb hown (hT _ qc_1515) dC_Mod_init_231 ?_
  refine x_stJ (pc := 234) C hW (i := 32) (x := 4767818) (by decide) (by decide) (by decide) dC_Mod_init_234 (fun H locs hW => ?_)
  refine lv_dup (pc := 235) hx hb dC_Mod_init_235 rfl ?_
  refine lv_bipush (pc := 236) (v := 33) hx hb dC_Mod_init_236 (by decide) ?_
  refine lv_ldc2 (pc := 238) (v := 147) hx hb hown (hT _ qc_1516) dC_Mod_init_238 ?_
  refine x_stJ (pc := 241) C hW (i := 33) (x := 147) (by decide) (by decide) (by decide) dC_Mod_init_241 (fun H locs hW => ?_)
  refine lv_dup (pc := 242) hx hb dC_Mod_init_242 rfl ?_
  refine lv_bipush (pc := 243) (v := 34) hx hb dC_Mod_init_243 (by decide) ?_
  refine lv_ldc2 (pc := 245) (v := 531) hx hb hown (hT _ qc_1517) dC_Mod_init_245 ?_
  refine x_stJ (pc := 248) C hW (i := 34) (x := 531) (by decide) (by decide) (by decide) dC_Mod_init_248 (fun H locs hW => ?_)
  refine lv_dup (pc := 249) hx hb dC_Mod_init_249 rfl ?_
  refine lv_bipush (pc := 250) (v := 35) hx hb dC_Mod_init_250 (by decide) ?_
  refine lv_ldc2 (pc := 252) (v := 1491) hx hb hown (hT _ qc_1518) dC_Mod_init_252 ?_
  refine x_stJ (pc := 255) C hW (i := 35) (x := 1491) (by decide) (by decide) (by decide) dC_Mod_init_255 (fun H locs hW => ?_)
  refine lv_dup (pc := 256) hx hb dC_Mod_init_256 rfl ?_
  refine lv_bipush (pc := 257) (v := 36) hx hb dC_Mod_init_257 (by decide) ?_
  refine lv_ldc2 (pc := 259) (v := 38220) hx hb hown (hT _ qc_1519) dC_Mod_init_259 ?_
  refine x_stJ (pc := 262) C hW (i := 36) (x := 38220) (by decide) (by decide) (by decide) dC_Mod_init_262 (fun H locs hW => ?_)
  refine lv_dup (pc := 263) hx hb dC_Mod_init_263 rfl ?_
  refine lv_bipush (pc := 264) (v := 37) hx hb dC_Mod_init_264 (by decide) ?_
  refine lv_ldc2 (pc := 266) (v := 54564161) hx hb hown (hT _ qc_1520) dC_Mod_init_266 ?_
  refine x_stJ (pc := 269) C hW (i := 37) (x := 54564161) (by decide) (by decide) (by decide) dC_Mod_init_269 (fun H locs hW => ?_)
  refine lv_dup (pc := 270) hx hb dC_Mod_init_270 rfl ?_
  refine lv_bipush (pc := 271) (v := 38) hx hb dC_Mod_init_271 (by decide) ?_
  refine lv_ldc2 (pc := 273) (v := 69954) hx hb hown (hT _ qc_1521) dC_Mod_init_273 ?_
  refine x_stJ (pc := 276) C hW (i := 38) (x := 69954) (by decide) (by decide) (by decide) dC_Mod_init_276 (fun H locs hW => ?_)
  refine lv_dup (pc := 277) hx hb dC_Mod_init_277 rfl ?_
  refine lv_bipush (pc := 278) (v := 39) hx hb dC_Mod_init_278 (by decide) ?_
  refine lv_ldc2 (pc := 280) (v := 21378) hx hb hown (hT _ qc_1522) dC_Mod_init_280 ?_
  refine x_stJ (pc := 283) C hW (i := 39) (x := 21378) (by decide) (by decide) (by decide) dC_Mod_init_283 (fun H locs hW => ?_)
  refine lv_dup (pc := 284) hx hb dC_Mod_init_284 rfl ?_
  refine lv_bipush (pc := 285) (v := 40) hx hb dC_Mod_init_285 (by decide) ?_
  refine lv_ldc2 (pc := 287) (v := 82690) hx hb hown (hT _ qc_1523) dC_Mod_init_287 ?_
  refine x_stJ (pc := 290) C hW (i := 40) (x := 82690) (by decide) (by decide) (by decide) dC_Mod_init_290 (fun H locs hW => ?_)
  refine lv_dup (pc := 291) hx hb dC_Mod_init_291 rfl ?_
  refine lv_bipush (pc := 292) (v := 41) hx hb dC_Mod_init_292 (by decide) ?_
  refine lv_ldc2 (pc := 294) (v := 20930) hx hb hown (hT _ qc_1524) dC_Mod_init_294 ?_
  refine x_stJ (pc := 297) C hW (i := 41) (x := 20930) (by decide) (by decide) (by decide) dC_Mod_init_297 (fun H locs hW => ?_)
  refine lv_dup (pc := 298) hx hb dC_Mod_init_298 rfl ?_
  refine lv_bipush (pc := 299) (v := 42) hx hb dC_Mod_init_299 (by decide) ?_
  refine lv_ldc2 (pc := 301) (v := 5587714) hx hb hown (hT _ qc_1525) dC_Mod_init_301 ?_
  refine x_stJ (pc := 304) C hW (i := 42) (x := 5587714) (by decide) (by decide) (by decide) dC_Mod_init_304 (fun H locs hW => ?_)
  refine lv_dup (pc := 305) hx hb dC_Mod_init_305 rfl ?_
  refine lv_bipush (pc := 306) (v := 43) hx hb dC_Mod_init_306 (by decide) ?_
  refine lv_ldc2 (pc := 308) (v := 5525954) hx hb hown (hT _ qc_1526) dC_Mod_init_308 ?_
  refine x_stJ (pc := 311) C hW (i := 43) (x := 5525954) (by decide) (by decide) (by decide) dC_Mod_init_311 (fun H locs hW => ?_)
  refine lv_dup (pc := 312) hx hb dC_Mod_init_312 rfl ?_
  refine lv_bipush (pc := 313) (v := 44) hx hb dC_Mod_init_313 (by decide) ?_
  refine lv_ldc2 (pc := 315) (v := 49226) hx hb hown (hT _ qc_1527) dC_Mod_init_315 ?_
  refine x_stJ (pc := 318) C hW (i := 44) (x := 49226) (by decide) (by decide) (by decide) dC_Mod_init_318 (fun H locs hW => ?_)
  refine lv_dup (pc := 319) hx hb dC_Mod_init_319 rfl ?_
  refine lv_bipush (pc := 320) (v := 45) hx hb dC_Mod_init_320 (by decide) ?_
  refine lv_ldc2 (pc := 322) (v := 6181075) hx hb hown (hT _ qc_1528) dC_Mod_init_322 ?_
  refine x_stJ (pc := 325) C hW (i := 45) (x := 6181075) (by decide) (by decide) (by decide) dC_Mod_init_325 (fun H locs hW => ?_)
  refine lv_dup (pc := 326) hx hb dC_Mod_init_326 rfl ?_
  refine lv_bipush (pc := 327) (v := 46) hx hb dC_Mod_init_327 (by decide) ?_
  refine lv_ldc2 (pc := 329) (v := 6637753161544513) hx hb hown (hT _ qc_1529) dC_Mod_init_329 ?_
  refine x_stJ (pc := 332) C hW (i := 46) (x := 6637753161544513) (by decide) (by decide) (by decide) dC_Mod_init_332 (fun H locs hW => ?_)
  refine lv_dup (pc := 333) hx hb dC_Mod_init_333 rfl ?_
  refine lv_bipush (pc := 334) (v := 47) hx hb dC_Mod_init_334 (by decide) ?_
  refine lv_ldc2 (pc := 336) (v := 103702052795201) hx hb hown (hT _ qc_1530) dC_Mod_init_336 ?_
  refine x_stJ (pc := 339) C hW (i := 47) (x := 103702052795201) (by decide) (by decide) (by decide) dC_Mod_init_339 (fun H locs hW => ?_)
  exact kk _ _ hW
set_option maxHeartbeats 4000000 in
set_option maxRecDepth 100000 in
theorem bJ_names_48 (C : CxC RM p s m args meth c cC_Mod_init 1 none D dA z A) {a : Nat} {ls : Array Slot} {rest : List Value} (H : Heap) (locs : List Loc) (hW : WdC D A s (Ws ++ [[(a, .inl (dA 0, 128, .inr (.inl (stJ M_names_l 0 48))))]]) H locs) (kk : ∀ (H1 : Heap) (locs1 : List Loc), WdC D A s (Ws ++ [[(a, .inl (dA 0, 128, .inr (.inl (stJ M_names_l 0 64))))]]) H1 locs1 → W p l e R s m args below meth c H1 locs1 cells slots Q (F0 m 452 ls (.ref a :: rest))) : W p l e R s m args below meth c H locs cells slots Q (F0 m 340 ls (.ref a :: rest)) := by
  have hx := C.1.1
  have hb := C.1.2.1
  have hown := C.1.2.2.2.2.1
  have hT := C.1.2.2.2.2.2.1
  refine lv_dup (pc := 340) hx hb dC_Mod_init_340 rfl ?_
  refine lv_bipush (pc := 341) (v := 48) hx hb dC_Mod_init_341 (by decide) ?_
  refine lv_ldc2 (pc := 343) (v := 103717275759425) hx hb hown (hT _ qc_1531) dC_Mod_init_343 ?_
  refine x_stJ (pc := 346) C hW (i := 48) (x := 103717275759425) (by decide) (by decide) (by decide) dC_Mod_init_346 (fun H locs hW => ?_)
  refine lv_dup (pc := 347) hx hb dC_Mod_init_347 rfl ?_
  refine lv_bipush (pc := 348) (v := 49) hx hb dC_Mod_init_348 (by decide) ?_
  refine lv_ldc2 (pc := 350) (v := 103702220567361) hx hb hown (hT _ qc_1532) dC_Mod_init_350 ?_
  refine x_stJ (pc := 353) C hW (i := 49) (x := 103702220567361) (by decide) (by decide) (by decide) dC_Mod_init_353 (fun H locs hW => ?_)
  refine lv_dup (pc := 354) hx hb dC_Mod_init_354 rfl ?_
  refine lv_bipush (pc := 355) (v := 50) hx hb dC_Mod_init_355 (by decide) ?_
  refine lv_ldc2 (pc := 357) (v := 1620582396737) hx hb hown (hT _ qc_1533) dC_Mod_init_357 ?_
  refine x_stJ (pc := 360) C hW (i := 50) (x := 1620582396737) (by decide) (by decide) (by decide) dC_Mod_init_360 (fun H locs hW => ?_)
  refine lv_dup (pc := 361) hx hb dC_Mod_init_361 rfl ?_
  refine lv_bipush (pc := 362) (v := 51) hx hb dC_Mod_init_362 (by decide) ?_
  refine lv_ldc2 (pc := 364) (v := 103712877245249) hx hb hown (hT _ qc_1534) dC_Mod_init_364 ?_
  refine x_stJ (pc := 367) C hW (i := 51) (x := 103712877245249) (by decide) (by decide) (by decide) dC_Mod_init_367 (fun H locs hW => ?_)
  refine lv_dup (pc := 368) hx hb dC_Mod_init_368 rfl ?_
  refine lv_bipush (pc := 369) (v := 52) hx hb dC_Mod_init_369 (by decide) ?_
  refine lv_ldc2 (pc := 371) (v := 103723480445761) hx hb hown (hT _ qc_1535) dC_Mod_init_371 ?_
  refine x_stJ (pc := 374) C hW (i := 52) (x := 103723480445761) (by decide) (by decide) (by decide) dC_Mod_init_374 (fun H locs hW => ?_)
  refine lv_dup (pc := 375) hx hb dC_Mod_init_375 rfl ?_
  refine lv_bipush (pc := 376) (v := 53) hx hb dC_Mod_init_376 (by decide) ?_
  refine lv_ldc2 (pc := 378) (v := 6638110481118017) hx hb hown (hT _ qc_1536) dC_Mod_init_378 ?_
  refine x_stJ (pc := 381) C hW (i := 53) (x := 6638110481118017) (by decide) (by decide) (by decide) dC_Mod_init_381 (fun H locs hW => ?_)
  refine lv_dup (pc := 382) hx hb dC_Mod_init_382 rfl ?_
  refine lv_bipush (pc := 383) (v := 54) hx hb dC_Mod_init_383 (by decide) ?_
  refine lv_ldc2 (pc := 385) (v := 6638121084318529) hx hb hown (hT _ qc_1537) dC_Mod_init_385 ?_
  refine x_stJ (pc := 388) C hW (i := 54) (x := 6638121084318529) (by decide) (by decide) (by decide) dC_Mod_init_388 (fun H locs hW => ?_)
  refine lv_dup (pc := 389) hx hb dC_Mod_init_389 rfl ?_
  refine lv_bipush (pc := 390) (v := 55) hx hb dC_Mod_init_390 (by decide) ?_
  refine lv_ldc2 (pc := 392) (v := 6182028) hx hb hown (hT _ qc_1538) dC_Mod_init_392 ?_
  refine x_stJ (pc := 395) C hW (i := 55) (x := 6182028) (by decide) (by decide) (by decide) dC_Mod_init_395 (fun H locs hW => ?_)
  refine lv_dup (pc := 396) hx hb dC_Mod_init_396 rfl ?_
  refine lv_bipush (pc := 397) (v := 56) hx hb dC_Mod_init_397 (by decide) ?_
  refine lv_ldc2 (pc := 399) (v := 356539183378) hx hb hown (hT _ qc_1539) dC_Mod_init_399 ?_
  refine x_stJ (pc := 402) C hW (i := 56) (x := 356539183378) (by decide) (by decide) (by decide) dC_Mod_init_402 (fun H locs hW => ?_)
  refine lv_dup (pc := 403) hx hb dC_Mod_init_403 rfl ?_
  refine lv_bipush (pc := 404) (v := 57) hx hb dC_Mod_init_404 (by decide) ?_
  refine lv_ldc2 (pc := 406) (v := 5589254418) hx hb hown (hT _ qc_1540) dC_Mod_init_406 ?_
  refine x_stJ (pc := 409) C hW (i := 57) (x := 5589254418) (by decide) (by decide) (by decide) dC_Mod_init_409 (fun H locs hW => ?_)
  refine lv_dup (pc := 410) hx hb dC_Mod_init_410 rfl ?_
  refine lv_bipush (pc := 411) (v := 58) hx hb dC_Mod_init_411 (by decide) ?_
  refine lv_ldc2 (pc := 413) (v := 5652748514660626) hx hb hown (hT _ qc_1541) dC_Mod_init_413 ?_
  refine x_stJ (pc := 416) C hW (i := 58) (x := 5652748514660626) (by decide) (by decide) (by decide) dC_Mod_init_416 (fun H locs hW => ?_)
  refine lv_dup (pc := 417) hx hb dC_Mod_init_417 rfl ?_
  refine lv_bipush (pc := 418) (v := 59) hx hb dC_Mod_init_418 (by decide) ?_
  refine lv_ldc2 (pc := 420) (v := 35540911272210) hx hb hown (hT _ qc_1542) dC_Mod_init_420 ?_
  refine x_stJ (pc := 423) C hW (i := 59) (x := 35540911272210) (by decide) (by decide) (by decide) dC_Mod_init_423 (fun H locs hW => ?_)
  refine lv_dup (pc := 424) hx hb dC_Mod_init_424 rfl ?_
  refine lv_bipush (pc := 425) (v := 60) hx hb dC_Mod_init_425 (by decide) ?_
  refine lv_ldc2 (pc := 427) (v := 555345068306) hx hb hown (hT _ qc_1543) dC_Mod_init_427 ?_
  refine x_stJ (pc := 430) C hW (i := 60) (x := 555345068306) (by decide) (by decide) (by decide) dC_Mod_init_430 (fun H locs hW => ?_)
  refine lv_dup (pc := 431) hx hb dC_Mod_init_431 rfl ?_
  refine lv_bipush (pc := 432) (v := 61) hx hb dC_Mod_init_432 (by decide) ?_
  refine lv_ldc2 (pc := 434) (v := 149767936590516498) hx hb hown (hT _ qc_1544) dC_Mod_init_434 ?_
  refine x_stJ (pc := 437) C hW (i := 61) (x := 149767936590516498) (by decide) (by decide) (by decide) dC_Mod_init_437 (fun H locs hW => ?_)
  refine lv_dup (pc := 438) hx hb dC_Mod_init_438 rfl ?_
  refine lv_bipush (pc := 439) (v := 62) hx hb dC_Mod_init_439 (by decide) ?_
  refine lv_ldc2 (pc := 441) (v := 84730182) hx hb hown (hT _ qc_1545) dC_Mod_init_441 ?_
  refine x_stJ (pc := 444) C hW (i := 62) (x := 84730182) (by decide) (by decide) (by decide) dC_Mod_init_444 (fun H locs hW => ?_)
  refine lv_dup (pc := 445) hx hb dC_Mod_init_445 rfl ?_
  refine lv_bipush (pc := 446) (v := 63) hx hb dC_Mod_init_446 (by decide) ?_
  refine lv_ldc2 (pc := 448) (v := 658288468294) hx hb hown (hT _ qc_1546) dC_Mod_init_448 ?_
  refine x_stJ (pc := 451) C hW (i := 63) (x := 658288468294) (by decide) (by decide) (by decide) dC_Mod_init_451 (fun H locs hW => ?_)
  exact kk _ _ hW
set_option maxHeartbeats 4000000 in
set_option maxRecDepth 100000 in
theorem bJ_names_64 (C : CxC RM p s m args meth c cC_Mod_init 1 none D dA z A) {a : Nat} {ls : Array Slot} {rest : List Value} (H : Heap) (locs : List Loc) (hW : WdC D A s (Ws ++ [[(a, .inl (dA 0, 128, .inr (.inl (stJ M_names_l 0 64))))]]) H locs) (kk : ∀ (H1 : Heap) (locs1 : List Loc), WdC D A s (Ws ++ [[(a, .inl (dA 0, 128, .inr (.inl (stJ M_names_l 0 80))))]]) H1 locs1 → W p l e R s m args below meth c H1 locs1 cells slots Q (F0 m 564 ls (.ref a :: rest))) : W p l e R s m args below meth c H locs cells slots Q (F0 m 452 ls (.ref a :: rest)) := by
  have hx := C.1.1
  have hb := C.1.2.1
  have hown := C.1.2.2.2.2.1
  have hT := C.1.2.2.2.2.2.1
  refine lv_dup (pc := 452) hx hb dC_Mod_init_452 rfl ?_
  refine lv_bipush (pc := 453) (v := 64) hx hb dC_Mod_init_453 (by decide) ?_
  refine lv_ldc2 (pc := 455) (v := 204476613) hx hb hown (hT _ qc_1547) dC_Mod_init_455 ?_
  refine x_stJ (pc := 458) C hW (i := 64) (x := 204476613) (by decide) (by decide) (by decide) dC_Mod_init_458 (fun H locs hW => ?_)
  refine lv_dup (pc := 459) hx hb dC_Mod_init_459 rfl ?_
  refine lv_bipush (pc := 460) (v := 65) hx hb dC_Mod_init_460 (by decide) ?_
  refine lv_ldc2 (pc := 462) (v := 11829321861) hx hb hown (hT _ qc_1548) dC_Mod_init_462 ?_
  refine x_stJ (pc := 465) C hW (i := 65) (x := 11829321861) (by decide) (by decide) (by decide) dC_Mod_init_465 (fun H locs hW => ?_)
  refine lv_dup (pc := 466) hx hb dC_Mod_init_466 rfl ?_
  refine lv_bipush (pc := 467) (v := 66) hx hb dC_Mod_init_467 (by decide) ?_
  refine lv_ldc2 (pc := 469) (v := 66510) hx hb hown (hT _ qc_1549) dC_Mod_init_469 ?_
  refine x_stJ (pc := 472) C hW (i := 66) (x := 66510) (by decide) (by decide) (by decide) dC_Mod_init_472 (fun H locs hW => ?_)
  refine lv_dup (pc := 473) hx hb dC_Mod_init_473 rfl ?_
  refine lv_bipush (pc := 474) (v := 67) hx hb dC_Mod_init_474 (by decide) ?_
  refine lv_ldc2 (pc := 476) (v := 82258) hx hb hown (hT _ qc_1550) dC_Mod_init_476 ?_
  refine x_stJ (pc := 479) C hW (i := 67) (x := 82258) (by decide) (by decide) (by decide) dC_Mod_init_479 (fun H locs hW => ?_)
  refine lv_dup (pc := 480) hx hb dC_Mod_init_480 rfl ?_
  refine lv_bipush (pc := 481) (v := 68) hx hb dC_Mod_init_481 (by decide) ?_
  refine lv_ldc2 (pc := 483) (v := 256790881679448387) hx hb hown (hT _ qc_1551) dC_Mod_init_483 ?_
  refine x_stJ (pc := 486) C hW (i := 68) (x := 256790881679448387) (by decide) (by decide) (by decide) dC_Mod_init_486 (fun H locs hW => ?_)
  refine lv_dup (pc := 487) hx hb dC_Mod_init_487 rfl ?_
  refine lv_bipush (pc := 488) (v := 69) hx hb dC_Mod_init_488 (by decide) ?_
  refine lv_ldc2 (pc := 490) (v := 6080835) hx hb hown (hT _ qc_1552) dC_Mod_init_490 ?_
  refine x_stJ (pc := 493) C hW (i := 69) (x := 6080835) (by decide) (by decide) (by decide) dC_Mod_init_493 (fun H locs hW => ?_)
  refine lv_dup (pc := 494) hx hb dC_Mod_init_494 rfl ?_
  refine lv_bipush (pc := 495) (v := 70) hx hb dC_Mod_init_495 (by decide) ?_
  refine lv_ldc2 (pc := 497) (v := 6109507) hx hb hown (hT _ qc_1553) dC_Mod_init_497 ?_
  refine x_stJ (pc := 500) C hW (i := 70) (x := 6109507) (by decide) (by decide) (by decide) dC_Mod_init_500 (fun H locs hW => ?_)
  refine lv_dup (pc := 501) hx hb dC_Mod_init_501 rfl ?_
  refine lv_bipush (pc := 502) (v := 71) hx hb dC_Mod_init_502 (by decide) ?_
  refine lv_ldc2 (pc := 504) (v := 272427331) hx hb hown (hT _ qc_1554) dC_Mod_init_504 ?_
  refine x_stJ (pc := 507) C hW (i := 71) (x := 272427331) (by decide) (by decide) (by decide) dC_Mod_init_507 (fun H locs hW => ?_)
  refine lv_dup (pc := 508) hx hb dC_Mod_init_508 rfl ?_
  refine lv_bipush (pc := 509) (v := 72) hx hb dC_Mod_init_509 (by decide) ?_
  refine lv_ldc2 (pc := 511) (v := 48452902345027) hx hb hown (hT _ qc_1555) dC_Mod_init_511 ?_
  refine x_stJ (pc := 514) C hW (i := 72) (x := 48452902345027) (by decide) (by decide) (by decide) dC_Mod_init_514 (fun H locs hW => ?_)
  refine lv_dup (pc := 515) hx hb dC_Mod_init_515 rfl ?_
  refine lv_bipush (pc := 516) (v := 73) hx hb dC_Mod_init_516 (by decide) ?_
  refine lv_ldc2 (pc := 518) (v := 9731840323) hx hb hown (hT _ qc_1556) dC_Mod_init_518 ?_
  refine x_stJ (pc := 521) C hW (i := 73) (x := 9731840323) (by decide) (by decide) (by decide) dC_Mod_init_521 (fun H locs hW => ?_)
  refine lv_dup (pc := 522) hx hb dC_Mod_init_522 rfl ?_
  refine lv_bipush (pc := 523) (v := 74) hx hb dC_Mod_init_523 (by decide) ?_
  refine lv_ldc2 (pc := 525) (v := 2410819) hx hb hown (hT _ qc_1557) dC_Mod_init_525 ?_
  refine x_stJ (pc := 528) C hW (i := 74) (x := 2410819) (by decide) (by decide) (by decide) dC_Mod_init_528 (fun H locs hW => ?_)
  refine lv_dup (pc := 529) hx hb dC_Mod_init_529 rfl ?_
  refine lv_bipush (pc := 530) (v := 75) hx hb dC_Mod_init_530 (by decide) ?_
  refine lv_ldc2 (pc := 532) (v := 156551491) hx hb hown (hT _ qc_1558) dC_Mod_init_532 ?_
  refine x_stJ (pc := 535) C hW (i := 75) (x := 156551491) (by decide) (by decide) (by decide) dC_Mod_init_535 (fun H locs hW => ?_)
  refine lv_dup (pc := 536) hx hb dC_Mod_init_536 rfl ?_
  refine lv_bipush (pc := 537) (v := 76) hx hb dC_Mod_init_537 (by decide) ?_
  refine lv_ldc2 (pc := 539) (v := 201632067) hx hb hown (hT _ qc_1559) dC_Mod_init_539 ?_
  refine x_stJ (pc := 542) C hW (i := 76) (x := 201632067) (by decide) (by decide) (by decide) dC_Mod_init_542 (fun H locs hW => ?_)
  refine lv_dup (pc := 543) hx hb dC_Mod_init_543 rfl ?_
  refine lv_bipush (pc := 544) (v := 77) hx hb dC_Mod_init_544 (by decide) ?_
  refine lv_ldc2 (pc := 546) (v := 43331) hx hb hown (hT _ qc_1560) dC_Mod_init_546 ?_
  refine x_stJ (pc := 549) C hW (i := 77) (x := 43331) (by decide) (by decide) (by decide) dC_Mod_init_549 (fun H locs hW => ?_)
  refine lv_dup (pc := 550) hx hb dC_Mod_init_550 rfl ?_
  refine lv_bipush (pc := 551) (v := 78) hx hb dC_Mod_init_551 (by decide) ?_
  refine lv_ldc2 (pc := 553) (v := 293725470121269571) hx hb hown (hT _ qc_1561) dC_Mod_init_553 ?_
  refine x_stJ (pc := 556) C hW (i := 78) (x := 293725470121269571) (by decide) (by decide) (by decide) dC_Mod_init_556 (fun H locs hW => ?_)
  refine lv_dup (pc := 557) hx hb dC_Mod_init_557 rfl ?_
  refine lv_bipush (pc := 558) (v := 79) hx hb dC_Mod_init_558 (by decide) ?_
  refine lv_ldc2 (pc := 560) (v := 9869801795) hx hb hown (hT _ qc_1562) dC_Mod_init_560 ?_
  refine x_stJ (pc := 563) C hW (i := 79) (x := 9869801795) (by decide) (by decide) (by decide) dC_Mod_init_563 (fun H locs hW => ?_)
  exact kk _ _ hW
set_option maxHeartbeats 4000000 in
set_option maxRecDepth 100000 in
theorem bJ_names_80 (C : CxC RM p s m args meth c cC_Mod_init 1 none D dA z A) {a : Nat} {ls : Array Slot} {rest : List Value} (H : Heap) (locs : List Loc) (hW : WdC D A s (Ws ++ [[(a, .inl (dA 0, 128, .inr (.inl (stJ M_names_l 0 80))))]]) H locs) (kk : ∀ (H1 : Heap) (locs1 : List Loc), WdC D A s (Ws ++ [[(a, .inl (dA 0, 128, .inr (.inl (stJ M_names_l 0 96))))]]) H1 locs1 → W p l e R s m args below meth c H1 locs1 cells slots Q (F0 m 676 ls (.ref a :: rest))) : W p l e R s m args below meth c H locs cells slots Q (F0 m 564 ls (.ref a :: rest)) := by
  have hx := C.1.1
  have hb := C.1.2.1
  have hown := C.1.2.2.2.2.1
  have hT := C.1.2.2.2.2.2.1
  refine lv_dup (pc := 564) hx hb dC_Mod_init_564 rfl ?_
  refine lv_bipush (pc := 565) (v := 80) hx hb dC_Mod_init_565 (by decide) ?_
  refine lv_ldc2 (pc := 567) (v := 9685252419) hx hb hown (hT _ qc_1563) dC_Mod_init_567 ?_
  refine x_stJ (pc := 570) C hW (i := 80) (x := 9685252419) (by decide) (by decide) (by decide) dC_Mod_init_570 (fun H locs hW => ?_)
  refine lv_dup (pc := 571) hx hb dC_Mod_init_571 rfl ?_
  refine lv_bipush (pc := 572) (v := 81) hx hb dC_Mod_init_572 (by decide) ?_
  refine lv_ldc2 (pc := 574) (v := 9734461763) hx hb hown (hT _ qc_1564) dC_Mod_init_574 ?_
  refine x_stJ (pc := 577) C hW (i := 81) (x := 9734461763) (by decide) (by decide) (by decide) dC_Mod_init_577 (fun H locs hW => ?_)
  refine lv_dup (pc := 578) hx hb dC_Mod_init_578 rfl ?_
  refine lv_bipush (pc := 579) (v := 82) hx hb dC_Mod_init_579 (by decide) ?_
  refine lv_ldc2 (pc := 581) (v := 39139651) hx hb hown (hT _ qc_1565) dC_Mod_init_581 ?_
  refine x_stJ (pc := 584) C hW (i := 82) (x := 39139651) (by decide) (by decide) (by decide) dC_Mod_init_584 (fun H locs hW => ?_)
  refine lv_dup (pc := 585) hx hb dC_Mod_init_585 rfl ?_
  refine lv_bipush (pc := 586) (v := 83) hx hb dC_Mod_init_586 (by decide) ?_
  refine lv_ldc2 (pc := 588) (v := 306022723) hx hb hown (hT _ qc_1566) dC_Mod_init_588 ?_
  refine x_stJ (pc := 591) C hW (i := 83) (x := 306022723) (by decide) (by decide) (by decide) dC_Mod_init_591 (fun H locs hW => ?_)
  refine lv_dup (pc := 592) hx hb dC_Mod_init_592 rfl ?_
  refine lv_bipush (pc := 593) (v := 84) hx hb dC_Mod_init_593 (by decide) ?_
  refine lv_ldc2 (pc := 595) (v := 4782403) hx hb hown (hT _ qc_1567) dC_Mod_init_595 ?_
  refine x_stJ (pc := 598) C hW (i := 84) (x := 4782403) (by decide) (by decide) (by decide) dC_Mod_init_598 (fun H locs hW => ?_)
  refine lv_dup (pc := 599) hx hb dC_Mod_init_599 rfl ?_
  refine lv_bipush (pc := 600) (v := 85) hx hb dC_Mod_init_600 (by decide) ?_
  refine lv_ldc2 (pc := 602) (v := 70785347) hx hb hown (hT _ qc_1568) dC_Mod_init_602 ?_
  refine x_stJ (pc := 605) C hW (i := 85) (x := 70785347) (by decide) (by decide) (by decide) dC_Mod_init_605 (fun H locs hW => ?_)
  refine lv_dup (pc := 606) hx hb dC_Mod_init_606 rfl ?_
  refine lv_bipush (pc := 607) (v := 86) hx hb dC_Mod_init_607 (by decide) ?_
  refine lv_ldc2 (pc := 609) (v := 28203821379) hx hb hown (hT _ qc_1569) dC_Mod_init_609 ?_
  refine x_stJ (pc := 612) C hW (i := 86) (x := 28203821379) (by decide) (by decide) (by decide) dC_Mod_init_612 (fun H locs hW => ?_)
  refine lv_dup (pc := 613) hx hb dC_Mod_init_613 rfl ?_
  refine lv_bipush (pc := 614) (v := 87) hx hb dC_Mod_init_614 (by decide) ?_
  refine lv_ldc2 (pc := 616) (v := 28004854083) hx hb hown (hT _ qc_1570) dC_Mod_init_616 ?_
  refine x_stJ (pc := 619) C hW (i := 87) (x := 28004854083) (by decide) (by decide) (by decide) dC_Mod_init_619 (fun H locs hW => ?_)
  refine lv_dup (pc := 620) hx hb dC_Mod_init_620 rfl ?_
  refine lv_bipush (pc := 621) (v := 88) hx hb dC_Mod_init_621 (by decide) ?_
  refine lv_ldc2 (pc := 623) (v := 9868228931) hx hb hown (hT _ qc_1571) dC_Mod_init_623 ?_
  refine x_stJ (pc := 626) C hW (i := 88) (x := 9868228931) (by decide) (by decide) (by decide) dC_Mod_init_626 (fun H locs hW => ?_)
  refine lv_dup (pc := 627) hx hb dC_Mod_init_627 rfl ?_
  refine lv_bipush (pc := 628) (v := 89) hx hb dC_Mod_init_628 (by decide) ?_
  refine lv_ldc2 (pc := 630) (v := 17504717123) hx hb hown (hT _ qc_1572) dC_Mod_init_630 ?_
  refine x_stJ (pc := 633) C hW (i := 89) (x := 17504717123) (by decide) (by decide) (by decide) dC_Mod_init_633 (fun H locs hW => ?_)
  refine lv_dup (pc := 634) hx hb dC_Mod_init_634 rfl ?_
  refine lv_bipush (pc := 635) (v := 90) hx hb dC_Mod_init_635 (by decide) ?_
  refine lv_ldc2 (pc := 637) (v := 4761923) hx hb hown (hT _ qc_1573) dC_Mod_init_637 ?_
  refine x_stJ (pc := 640) C hW (i := 90) (x := 4761923) (by decide) (by decide) (by decide) dC_Mod_init_640 (fun H locs hW => ?_)
  refine lv_dup (pc := 641) hx hb dC_Mod_init_641 rfl ?_
  refine lv_bipush (pc := 642) (v := 91) hx hb dC_Mod_init_642 (by decide) ?_
  refine lv_ldc2 (pc := 644) (v := 19528984899) hx hb hown (hT _ qc_1574) dC_Mod_init_644 ?_
  refine x_stJ (pc := 647) C hW (i := 91) (x := 19528984899) (by decide) (by decide) (by decide) dC_Mod_init_647 (fun H locs hW => ?_)
  refine lv_dup (pc := 648) hx hb dC_Mod_init_648 rfl ?_
  refine lv_bipush (pc := 649) (v := 92) hx hb dC_Mod_init_649 (by decide) ?_
  refine lv_ldc2 (pc := 651) (v := 5822787) hx hb hown (hT _ qc_1575) dC_Mod_init_651 ?_
  refine x_stJ (pc := 654) C hW (i := 92) (x := 5822787) (by decide) (by decide) (by decide) dC_Mod_init_654 (fun H locs hW => ?_)
  refine lv_dup (pc := 655) hx hb dC_Mod_init_655 rfl ?_
  refine lv_bipush (pc := 656) (v := 93) hx hb dC_Mod_init_656 (by decide) ?_
  refine lv_ldc2 (pc := 658) (v := 68163907) hx hb hown (hT _ qc_1576) dC_Mod_init_658 ?_
  refine x_stJ (pc := 661) C hW (i := 93) (x := 68163907) (by decide) (by decide) (by decide) dC_Mod_init_661 (fun H locs hW => ?_)
  refine lv_dup (pc := 662) hx hb dC_Mod_init_662 rfl ?_
  refine lv_bipush (pc := 663) (v := 94) hx hb dC_Mod_init_663 (by decide) ?_
  refine lv_ldc2 (pc := 665) (v := 17504745795) hx hb hown (hT _ qc_1577) dC_Mod_init_665 ?_
  refine x_stJ (pc := 668) C hW (i := 94) (x := 17504745795) (by decide) (by decide) (by decide) dC_Mod_init_668 (fun H locs hW => ?_)
  refine lv_dup (pc := 669) hx hb dC_Mod_init_669 rfl ?_
  refine lv_bipush (pc := 670) (v := 95) hx hb dC_Mod_init_670 (by decide) ?_
  refine lv_ldc2 (pc := 672) (v := 1421) hx hb hown (hT _ qc_1578) dC_Mod_init_672 ?_
  refine x_stJ (pc := 675) C hW (i := 95) (x := 1421) (by decide) (by decide) (by decide) dC_Mod_init_675 (fun H locs hW => ?_)
  exact kk _ _ hW
set_option maxHeartbeats 4000000 in
set_option maxRecDepth 100000 in
theorem bJ_names_96 (C : CxC RM p s m args meth c cC_Mod_init 1 none D dA z A) {a : Nat} {ls : Array Slot} {rest : List Value} (H : Heap) (locs : List Loc) (hW : WdC D A s (Ws ++ [[(a, .inl (dA 0, 128, .inr (.inl (stJ M_names_l 0 96))))]]) H locs) (kk : ∀ (H1 : Heap) (locs1 : List Loc), WdC D A s (Ws ++ [[(a, .inl (dA 0, 128, .inr (.inl (stJ M_names_l 0 112))))]]) H1 locs1 → W p l e R s m args below meth c H1 locs1 cells slots Q (F0 m 788 ls (.ref a :: rest))) : W p l e R s m args below meth c H locs cells slots Q (F0 m 676 ls (.ref a :: rest)) := by
  have hx := C.1.1
  have hb := C.1.2.1
  have hown := C.1.2.2.2.2.1
  have hT := C.1.2.2.2.2.2.1
  refine lv_dup (pc := 676) hx hb dC_Mod_init_676 rfl ?_
  refine lv_bipush (pc := 677) (v := 96) hx hb dC_Mod_init_677 (by decide) ?_
  refine lv_ldc2 (pc := 679) (v := 82894) hx hb hown (hT _ qc_1579) dC_Mod_init_679 ?_
  refine x_stJ (pc := 682) C hW (i := 96) (x := 82894) (by decide) (by decide) (by decide) dC_Mod_init_682 (fun H locs hW => ?_)
  refine lv_dup (pc := 683) hx hb dC_Mod_init_683 rfl ?_
  refine lv_bipush (pc := 684) (v := 97) hx hb dC_Mod_init_684 (by decide) ?_
  refine lv_ldc2 (pc := 686) (v := 6885715) hx hb hown (hT _ qc_1580) dC_Mod_init_686 ?_
  refine x_stJ (pc := 689) C hW (i := 97) (x := 6885715) (by decide) (by decide) (by decide) dC_Mod_init_689 (fun H locs hW => ?_)
  refine lv_dup (pc := 690) hx hb dC_Mod_init_690 rfl ?_
  refine lv_bipush (pc := 691) (v := 98) hx hb dC_Mod_init_691 (by decide) ?_
  refine lv_ldc2 (pc := 693) (v := 6898451) hx hb hown (hT _ qc_1581) dC_Mod_init_693 ?_
  refine x_stJ (pc := 696) C hW (i := 98) (x := 6898451) (by decide) (by decide) (by decide) dC_Mod_init_696 (fun H locs hW => ?_)
  refine lv_dup (pc := 697) hx hb dC_Mod_init_697 rfl ?_
  refine lv_bipush (pc := 698) (v := 99) hx hb dC_Mod_init_698 (by decide) ?_
  refine lv_ldc2 (pc := 700) (v := 29006) hx hb hown (hT _ qc_1582) dC_Mod_init_700 ?_
  refine x_stJ (pc := 703) C hW (i := 99) (x := 29006) (by decide) (by decide) (by decide) dC_Mod_init_703 (fun H locs hW => ?_)
  refine lv_dup (pc := 704) hx hb dC_Mod_init_704 rfl ?_
  refine lv_bipush (pc := 705) (v := 100) hx hb dC_Mod_init_705 (by decide) ?_
  refine lv_ldc2 (pc := 707) (v := 6837139) hx hb hown (hT _ qc_1583) dC_Mod_init_707 ?_
  refine x_stJ (pc := 710) C hW (i := 100) (x := 6837139) (by decide) (by decide) (by decide) dC_Mod_init_710 (fun H locs hW => ?_)
  refine lv_dup (pc := 711) hx hb dC_Mod_init_711 rfl ?_
  refine lv_bipush (pc := 712) (v := 101) hx hb dC_Mod_init_712 (by decide) ?_
  refine lv_ldc2 (pc := 714) (v := 6898131) hx hb hown (hT _ qc_1584) dC_Mod_init_714 ?_
  refine x_stJ (pc := 717) C hW (i := 101) (x := 6898131) (by decide) (by decide) (by decide) dC_Mod_init_717 (fun H locs hW => ?_)
  refine lv_dup (pc := 718) hx hb dC_Mod_init_718 rfl ?_
  refine lv_bipush (pc := 719) (v := 102) hx hb dC_Mod_init_719 (by decide) ?_
  refine lv_ldc2 (pc := 721) (v := 1162) hx hb hown (hT _ qc_1585) dC_Mod_init_721 ?_
  refine x_stJ (pc := 724) C hW (i := 102) (x := 1162) (by decide) (by decide) (by decide) dC_Mod_init_724 (fun H locs hW => ?_)
  refine lv_dup (pc := 725) hx hb dC_Mod_init_725 rfl ?_
  refine lv_bipush (pc := 726) (v := 103) hx hb dC_Mod_init_726 (by decide) ?_
  refine lv_ldc2 (pc := 728) (v := 3194947) hx hb hown (hT _ qc_1586) dC_Mod_init_728 ?_
  refine x_stJ (pc := 731) C hW (i := 103) (x := 3194947) (by decide) (by decide) (by decide) dC_Mod_init_731 (fun H locs hW => ?_)
  refine lv_dup (pc := 732) hx hb dC_Mod_init_732 rfl ?_
  refine lv_bipush (pc := 733) (v := 104) hx hb dC_Mod_init_733 (by decide) ?_
  refine lv_ldc2 (pc := 735) (v := 10) hx hb hown (hT _ qc_1587) dC_Mod_init_735 ?_
  refine x_stJ (pc := 738) C hW (i := 104) (x := 10) (by decide) (by decide) (by decide) dC_Mod_init_738 (fun H locs hW => ?_)
  refine lv_dup (pc := 739) hx hb dC_Mod_init_739 rfl ?_
  refine lv_bipush (pc := 740) (v := 105) hx hb dC_Mod_init_740 (by decide) ?_
  refine lv_ldc2 (pc := 742) (v := 3182676) hx hb hown (hT _ qc_1588) dC_Mod_init_742 ?_
  refine x_stJ (pc := 745) C hW (i := 105) (x := 3182676) (by decide) (by decide) (by decide) dC_Mod_init_745 (fun H locs hW => ?_)
  refine lv_dup (pc := 746) hx hb dC_Mod_init_746 rfl ?_
  refine lv_bipush (pc := 747) (v := 106) hx hb dC_Mod_init_747 (by decide) ?_
  refine lv_ldc2 (pc := 749) (v := 6885698) hx hb hown (hT _ qc_1589) dC_Mod_init_749 ?_
  refine x_stJ (pc := 752) C hW (i := 106) (x := 6885698) (by decide) (by decide) (by decide) dC_Mod_init_752 (fun H locs hW => ?_)
  refine lv_dup (pc := 753) hx hb dC_Mod_init_753 rfl ?_
  refine lv_bipush (pc := 754) (v := 107) hx hb dC_Mod_init_754 (by decide) ?_
  refine lv_ldc2 (pc := 756) (v := 6837122) hx hb hown (hT _ qc_1590) dC_Mod_init_756 ?_
  refine x_stJ (pc := 759) C hW (i := 107) (x := 6837122) (by decide) (by decide) (by decide) dC_Mod_init_759 (fun H locs hW => ?_)
  refine lv_dup (pc := 760) hx hb dC_Mod_init_760 rfl ?_
  refine lv_bipush (pc := 761) (v := 108) hx hb dC_Mod_init_761 (by decide) ?_
  refine lv_ldc2 (pc := 763) (v := 6836674) hx hb hown (hT _ qc_1591) dC_Mod_init_763 ?_
  refine x_stJ (pc := 766) C hW (i := 108) (x := 6836674) (by decide) (by decide) (by decide) dC_Mod_init_766 (fun H locs hW => ?_)
  refine lv_dup (pc := 767) hx hb dC_Mod_init_767 rfl ?_
  refine lv_bipush (pc := 768) (v := 109) hx hb dC_Mod_init_768 (by decide) ?_
  refine lv_ldc2 (pc := 770) (v := 6898434) hx hb hown (hT _ qc_1592) dC_Mod_init_770 ?_
  refine x_stJ (pc := 773) C hW (i := 109) (x := 6898434) (by decide) (by decide) (by decide) dC_Mod_init_773 (fun H locs hW => ?_)
  refine lv_dup (pc := 774) hx hb dC_Mod_init_774 rfl ?_
  refine lv_bipush (pc := 775) (v := 110) hx hb dC_Mod_init_775 (by decide) ?_
  refine lv_ldc2 (pc := 777) (v := 6836994) hx hb hown (hT _ qc_1593) dC_Mod_init_777 ?_
  refine x_stJ (pc := 780) C hW (i := 110) (x := 6836994) (by decide) (by decide) (by decide) dC_Mod_init_780 (fun H locs hW => ?_)
  refine lv_dup (pc := 781) hx hb dC_Mod_init_781 rfl ?_
  refine lv_bipush (pc := 782) (v := 111) hx hb dC_Mod_init_782 (by decide) ?_
  refine lv_ldc2 (pc := 784) (v := 6898114) hx hb hown (hT _ qc_1594) dC_Mod_init_784 ?_
  refine x_stJ (pc := 787) C hW (i := 111) (x := 6898114) (by decide) (by decide) (by decide) dC_Mod_init_787 (fun H locs hW => ?_)
  exact kk _ _ hW
set_option maxHeartbeats 4000000 in
set_option maxRecDepth 100000 in
theorem bJ_names_112 (C : CxC RM p s m args meth c cC_Mod_init 1 none D dA z A) {a : Nat} {ls : Array Slot} {rest : List Value} (H : Heap) (locs : List Loc) (hW : WdC D A s (Ws ++ [[(a, .inl (dA 0, 128, .inr (.inl (stJ M_names_l 0 112))))]]) H locs) (kk : ∀ (H1 : Heap) (locs1 : List Loc), WdC D A s (Ws ++ [[(a, .inl (dA 0, 128, .inr (.inl (stJ M_names_l 0 128))))]]) H1 locs1 → W p l e R s m args below meth c H1 locs1 cells slots Q (F0 m 900 ls (.ref a :: rest))) : W p l e R s m args below meth c H locs cells slots Q (F0 m 788 ls (.ref a :: rest)) := by
  have hx := C.1.1
  have hb := C.1.2.1
  have hown := C.1.2.2.2.2.1
  have hT := C.1.2.2.2.2.2.1
  refine lv_dup (pc := 788) hx hb dC_Mod_init_788 rfl ?_
  refine lv_bipush (pc := 789) (v := 112) hx hb dC_Mod_init_789 (by decide) ?_
  refine lv_ldc2 (pc := 791) (v := 82370) hx hb hown (hT _ qc_1595) dC_Mod_init_791 ?_
  refine x_stJ (pc := 794) C hW (i := 112) (x := 82370) (by decide) (by decide) (by decide) dC_Mod_init_794 (fun H locs hW => ?_)
  refine lv_dup (pc := 795) hx hb dC_Mod_init_795 rfl ?_
  refine lv_bipush (pc := 796) (v := 113) hx hb dC_Mod_init_796 (by decide) ?_
  refine lv_ldc2 (pc := 798) (v := 21250) hx hb hown (hT _ qc_1596) dC_Mod_init_798 ?_
  refine x_stJ (pc := 801) C hW (i := 113) (x := 21250) (by decide) (by decide) (by decide) dC_Mod_init_801 (fun H locs hW => ?_)
  refine lv_dup (pc := 802) hx hb dC_Mod_init_802 rfl ?_
  refine lv_bipush (pc := 803) (v := 114) hx hb dC_Mod_init_803 (by decide) ?_
  refine lv_ldc2 (pc := 805) (v := 5587394) hx hb hown (hT _ qc_1597) dC_Mod_init_805 ?_
  refine x_stJ (pc := 808) C hW (i := 114) (x := 5587394) (by decide) (by decide) (by decide) dC_Mod_init_808 (fun H locs hW => ?_)
  refine lv_dup (pc := 809) hx hb dC_Mod_init_809 rfl ?_
  refine lv_bipush (pc := 810) (v := 115) hx hb dC_Mod_init_810 (by decide) ?_
  refine lv_ldc2 (pc := 812) (v := 5526274) hx hb hown (hT _ qc_1598) dC_Mod_init_812 ?_
  refine x_stJ (pc := 815) C hW (i := 115) (x := 5526274) (by decide) (by decide) (by decide) dC_Mod_init_815 (fun H locs hW => ?_)
  refine lv_dup (pc := 816) hx hb dC_Mod_init_816 rfl ?_
  refine lv_bipush (pc := 817) (v := 116) hx hb dC_Mod_init_817 (by decide) ?_
  refine lv_ldc2 (pc := 819) (v := 76) hx hb hown (hT _ qc_1599) dC_Mod_init_819 ?_
  refine x_stJ (pc := 822) C hW (i := 116) (x := 76) (by decide) (by decide) (by decide) dC_Mod_init_822 (fun H locs hW => ?_)
  refine lv_dup (pc := 823) hx hb dC_Mod_init_823 rfl ?_
  refine lv_bipush (pc := 824) (v := 117) hx hb dC_Mod_init_824 (by decide) ?_
  refine lv_ldc2 (pc := 826) (v := 588) hx hb hown (hT _ qc_1600) dC_Mod_init_826 ?_
  refine x_stJ (pc := 829) C hW (i := 117) (x := 588) (by decide) (by decide) (by decide) dC_Mod_init_829 (fun H locs hW => ?_)
  refine lv_dup (pc := 830) hx hb dC_Mod_init_830 rfl ?_
  refine lv_bipush (pc := 831) (v := 118) hx hb dC_Mod_init_831 (by decide) ?_
  refine lv_ldc2 (pc := 833) (v := 341857573) hx hb hown (hT _ qc_1601) dC_Mod_init_833 ?_
  refine x_stJ (pc := 836) C hW (i := 118) (x := 341857573) (by decide) (by decide) (by decide) dC_Mod_init_836 (fun H locs hW => ?_)
  refine lv_dup (pc := 837) hx hb dC_Mod_init_837 rfl ?_
  refine lv_bipush (pc := 838) (v := 119) hx hb dC_Mod_init_838 (by decide) ?_
  refine lv_ldc2 (pc := 840) (v := 22024485) hx hb hown (hT _ qc_1602) dC_Mod_init_840 ?_
  refine x_stJ (pc := 843) C hW (i := 119) (x := 22024485) (by decide) (by decide) (by decide) dC_Mod_init_843 (fun H locs hW => ?_)
  refine lv_dup (pc := 844) hx hb dC_Mod_init_844 rfl ?_
  refine lv_bipush (pc := 845) (v := 120) hx hb dC_Mod_init_845 (by decide) ?_
  refine lv_ldc2 (pc := 847) (v := 5575013) hx hb hown (hT _ qc_1603) dC_Mod_init_847 ?_
  refine x_stJ (pc := 850) C hW (i := 120) (x := 5575013) (by decide) (by decide) (by decide) dC_Mod_init_850 (fun H locs hW => ?_)
  refine lv_dup (pc := 851) hx hb dC_Mod_init_851 rfl ?_
  refine lv_bipush (pc := 852) (v := 121) hx hb dC_Mod_init_852 (by decide) ?_
  refine lv_ldc2 (pc := 854) (v := 89231525) hx hb hown (hT _ qc_1604) dC_Mod_init_854 ?_
  refine x_stJ (pc := 857) C hW (i := 121) (x := 89231525) (by decide) (by decide) (by decide) dC_Mod_init_857 (fun H locs hW => ?_)
  refine lv_dup (pc := 858) hx hb dC_Mod_init_858 rfl ?_
  refine lv_bipush (pc := 859) (v := 122) hx hb dC_Mod_init_859 (by decide) ?_
  refine lv_ldc2 (pc := 861) (v := 103813669) hx hb hown (hT _ qc_1605) dC_Mod_init_861 ?_
  refine x_stJ (pc := 864) C hW (i := 122) (x := 103813669) (by decide) (by decide) (by decide) dC_Mod_init_864 (fun H locs hW => ?_)
  refine lv_dup (pc := 865) hx hb dC_Mod_init_865 rfl ?_
  refine lv_bipush (pc := 866) (v := 123) hx hb dC_Mod_init_866 (by decide) ?_
  refine lv_ldc2 (pc := 868) (v := 71890405) hx hb hown (hT _ qc_1606) dC_Mod_init_868 ?_
  refine x_stJ (pc := 871) C hW (i := 123) (x := 71890405) (by decide) (by decide) (by decide) dC_Mod_init_871 (fun H locs hW => ?_)
  refine lv_dup (pc := 872) hx hb dC_Mod_init_872 rfl ?_
  refine lv_bipush (pc := 873) (v := 124) hx hb dC_Mod_init_873 (by decide) ?_
  refine lv_ldc2 (pc := 875) (v := 9815535717) hx hb hown (hT _ qc_1607) dC_Mod_init_875 ?_
  refine x_stJ (pc := 878) C hW (i := 124) (x := 9815535717) (by decide) (by decide) (by decide) dC_Mod_init_878 (fun H locs hW => ?_)
  refine lv_dup (pc := 879) hx hb dC_Mod_init_879 rfl ?_
  refine lv_bipush (pc := 880) (v := 125) hx hb dC_Mod_init_880 (by decide) ?_
  refine lv_ldc2 (pc := 882) (v := 28069146725) hx hb hown (hT _ qc_1608) dC_Mod_init_882 ?_
  refine x_stJ (pc := 885) C hW (i := 125) (x := 28069146725) (by decide) (by decide) (by decide) dC_Mod_init_885 (fun H locs hW => ?_)
  refine lv_dup (pc := 886) hx hb dC_Mod_init_886 rfl ?_
  refine lv_bipush (pc := 887) (v := 126) hx hb dC_Mod_init_887 (by decide) ?_
  refine lv_ldc2 (pc := 889) (v := 5419369701) hx hb hown (hT _ qc_1609) dC_Mod_init_889 ?_
  refine x_stJ (pc := 892) C hW (i := 126) (x := 5419369701) (by decide) (by decide) (by decide) dC_Mod_init_892 (fun H locs hW => ?_)
  refine lv_dup (pc := 893) hx hb dC_Mod_init_893 rfl ?_
  refine lv_bipush (pc := 894) (v := 127) hx hb dC_Mod_init_894 (by decide) ?_
  refine lv_ldc2 (pc := 896) (v := 15152234597) hx hb hown (hT _ qc_1610) dC_Mod_init_896 ?_
  refine x_stJ (pc := 899) C hW (i := 127) (x := 15152234597) (by decide) (by decide) (by decide) dC_Mod_init_899 (fun H locs hW => ?_)
  exact kk _ _ hW
set_option maxHeartbeats 4000000 in
set_option maxRecDepth 100000 in
theorem bJ_shapes_0 (C : CxC RM p s m args meth c cC_Mod_init 1 none D dA z A) {a : Nat} {ls : Array Slot} {rest : List Value} (H : Heap) (locs : List Loc) (hW : WdC D A s (Ws ++ [[(a, .inl (dA 1, 128, .inl (stJ M_shapes_l 0 0)))]]) H locs) (kk : ∀ (H1 : Heap) (locs1 : List Loc), WdC D A s (Ws ++ [[(a, .inl (dA 1, 128, .inl (stJ M_shapes_l 0 16)))]]) H1 locs1 → W p l e R s m args below meth c H1 locs1 cells slots Q (F0 m 983 ls (.ref a :: rest))) : W p l e R s m args below meth c H locs cells slots Q (F0 m 909 ls (.ref a :: rest)) := by
  have hx := C.1.1
  have hb := C.1.2.1
  have hown := C.1.2.2.2.2.1
  have hT := C.1.2.2.2.2.2.1
  refine lv_dup (pc := 909) hx hb dC_Mod_init_909 rfl ?_
  refine lv_iconst (pc := 910) (v := 0) hx hb dC_Mod_init_910 (by decide) ?_
  refine lv_iconst (pc := 911) (v := 1) hx hb dC_Mod_init_911 (by decide) ?_
  refine x_stB (pc := 912) C hW (i := 0) (x := 1) (by decide) (by decide) (by decide) dC_Mod_init_912 (fun H locs hW => ?_)
  refine lv_dup (pc := 913) hx hb dC_Mod_init_913 rfl ?_
  refine lv_iconst (pc := 914) (v := 1) hx hb dC_Mod_init_914 (by decide) ?_
  refine lv_iconst (pc := 915) (v := 1) hx hb dC_Mod_init_915 (by decide) ?_
  refine x_stB (pc := 916) C hW (i := 1) (x := 1) (by decide) (by decide) (by decide) dC_Mod_init_916 (fun H locs hW => ?_)
  refine lv_dup (pc := 917) hx hb dC_Mod_init_917 rfl ?_
  refine lv_iconst (pc := 918) (v := 2) hx hb dC_Mod_init_918 (by decide) ?_
  refine lv_iconst (pc := 919) (v := 1) hx hb dC_Mod_init_919 (by decide) ?_
  refine x_stB (pc := 920) C hW (i := 2) (x := 1) (by decide) (by decide) (by decide) dC_Mod_init_920 (fun H locs hW => ?_)
  refine lv_dup (pc := 921) hx hb dC_Mod_init_921 rfl ?_
  refine lv_iconst (pc := 922) (v := 3) hx hb dC_Mod_init_922 (by decide) ?_
  refine lv_iconst (pc := 923) (v := 1) hx hb dC_Mod_init_923 (by decide) ?_
  refine x_stB (pc := 924) C hW (i := 3) (x := 1) (by decide) (by decide) (by decide) dC_Mod_init_924 (fun H locs hW => ?_)
  refine lv_dup (pc := 925) hx hb dC_Mod_init_925 rfl ?_
  refine lv_iconst (pc := 926) (v := 4) hx hb dC_Mod_init_926 (by decide) ?_
  refine lv_iconst (pc := 927) (v := 1) hx hb dC_Mod_init_927 (by decide) ?_
  refine x_stB (pc := 928) C hW (i := 4) (x := 1) (by decide) (by decide) (by decide) dC_Mod_init_928 (fun H locs hW => ?_)
  refine lv_dup (pc := 929) hx hb dC_Mod_init_929 rfl ?_
  refine lv_iconst (pc := 930) (v := 5) hx hb dC_Mod_init_930 (by decide) ?_
  refine lv_iconst (pc := 931) (v := 1) hx hb dC_Mod_init_931 (by decide) ?_
  refine x_stB (pc := 932) C hW (i := 5) (x := 1) (by decide) (by decide) (by decide) dC_Mod_init_932 (fun H locs hW => ?_)
  refine lv_dup (pc := 933) hx hb dC_Mod_init_933 rfl ?_
  refine lv_bipush (pc := 934) (v := 6) hx hb dC_Mod_init_934 (by decide) ?_
  refine lv_iconst (pc := 936) (v := 1) hx hb dC_Mod_init_936 (by decide) ?_
  refine x_stB (pc := 937) C hW (i := 6) (x := 1) (by decide) (by decide) (by decide) dC_Mod_init_937 (fun H locs hW => ?_)
  refine lv_dup (pc := 938) hx hb dC_Mod_init_938 rfl ?_
  refine lv_bipush (pc := 939) (v := 7) hx hb dC_Mod_init_939 (by decide) ?_
  refine lv_iconst (pc := 941) (v := 1) hx hb dC_Mod_init_941 (by decide) ?_
  refine x_stB (pc := 942) C hW (i := 7) (x := 1) (by decide) (by decide) (by decide) dC_Mod_init_942 (fun H locs hW => ?_)
  refine lv_dup (pc := 943) hx hb dC_Mod_init_943 rfl ?_
  refine lv_bipush (pc := 944) (v := 8) hx hb dC_Mod_init_944 (by decide) ?_
  refine lv_iconst (pc := 946) (v := 1) hx hb dC_Mod_init_946 (by decide) ?_
  refine x_stB (pc := 947) C hW (i := 8) (x := 1) (by decide) (by decide) (by decide) dC_Mod_init_947 (fun H locs hW => ?_)
  refine lv_dup (pc := 948) hx hb dC_Mod_init_948 rfl ?_
  refine lv_bipush (pc := 949) (v := 9) hx hb dC_Mod_init_949 (by decide) ?_
  refine lv_iconst (pc := 951) (v := 1) hx hb dC_Mod_init_951 (by decide) ?_
  refine x_stB (pc := 952) C hW (i := 9) (x := 1) (by decide) (by decide) (by decide) dC_Mod_init_952 (fun H locs hW => ?_)
  refine lv_dup (pc := 953) hx hb dC_Mod_init_953 rfl ?_
  refine lv_bipush (pc := 954) (v := 10) hx hb dC_Mod_init_954 (by decide) ?_
  refine lv_iconst (pc := 956) (v := 1) hx hb dC_Mod_init_956 (by decide) ?_
  refine x_stB (pc := 957) C hW (i := 10) (x := 1) (by decide) (by decide) (by decide) dC_Mod_init_957 (fun H locs hW => ?_)
  refine lv_dup (pc := 958) hx hb dC_Mod_init_958 rfl ?_
  refine lv_bipush (pc := 959) (v := 11) hx hb dC_Mod_init_959 (by decide) ?_
  refine lv_iconst (pc := 961) (v := 1) hx hb dC_Mod_init_961 (by decide) ?_
  refine x_stB (pc := 962) C hW (i := 11) (x := 1) (by decide) (by decide) (by decide) dC_Mod_init_962 (fun H locs hW => ?_)
  refine lv_dup (pc := 963) hx hb dC_Mod_init_963 rfl ?_
  refine lv_bipush (pc := 964) (v := 12) hx hb dC_Mod_init_964 (by decide) ?_
  refine lv_iconst (pc := 966) (v := 1) hx hb dC_Mod_init_966 (by decide) ?_
  refine x_stB (pc := 967) C hW (i := 12) (x := 1) (by decide) (by decide) (by decide) dC_Mod_init_967 (fun H locs hW => ?_)
  refine lv_dup (pc := 968) hx hb dC_Mod_init_968 rfl ?_
  refine lv_bipush (pc := 969) (v := 13) hx hb dC_Mod_init_969 (by decide) ?_
  refine lv_iconst (pc := 971) (v := 1) hx hb dC_Mod_init_971 (by decide) ?_
  refine x_stB (pc := 972) C hW (i := 13) (x := 1) (by decide) (by decide) (by decide) dC_Mod_init_972 (fun H locs hW => ?_)
  refine lv_dup (pc := 973) hx hb dC_Mod_init_973 rfl ?_
  refine lv_bipush (pc := 974) (v := 14) hx hb dC_Mod_init_974 (by decide) ?_
  refine lv_iconst (pc := 976) (v := 1) hx hb dC_Mod_init_976 (by decide) ?_
  refine x_stB (pc := 977) C hW (i := 14) (x := 1) (by decide) (by decide) (by decide) dC_Mod_init_977 (fun H locs hW => ?_)
  refine lv_dup (pc := 978) hx hb dC_Mod_init_978 rfl ?_
  refine lv_bipush (pc := 979) (v := 15) hx hb dC_Mod_init_979 (by decide) ?_
  refine lv_iconst (pc := 981) (v := 1) hx hb dC_Mod_init_981 (by decide) ?_
  refine x_stB (pc := 982) C hW (i := 15) (x := 1) (by decide) (by decide) (by decide) dC_Mod_init_982 (fun H locs hW => ?_)
  exact kk _ _ hW
set_option maxHeartbeats 4000000 in
set_option maxRecDepth 100000 in
theorem bJ_shapes_16 (C : CxC RM p s m args meth c cC_Mod_init 1 none D dA z A) {a : Nat} {ls : Array Slot} {rest : List Value} (H : Heap) (locs : List Loc) (hW : WdC D A s (Ws ++ [[(a, .inl (dA 1, 128, .inl (stJ M_shapes_l 0 16)))]]) H locs) (kk : ∀ (H1 : Heap) (locs1 : List Loc), WdC D A s (Ws ++ [[(a, .inl (dA 1, 128, .inl (stJ M_shapes_l 0 32)))]]) H1 locs1 → W p l e R s m args below meth c H1 locs1 cells slots Q (F0 m 1063 ls (.ref a :: rest))) : W p l e R s m args below meth c H locs cells slots Q (F0 m 983 ls (.ref a :: rest)) := by
  have hx := C.1.1
  have hb := C.1.2.1
  have hown := C.1.2.2.2.2.1
  have hT := C.1.2.2.2.2.2.1
  refine lv_dup (pc := 983) hx hb dC_Mod_init_983 rfl ?_
  refine lv_bipush (pc := 984) (v := 16) hx hb dC_Mod_init_984 (by decide) ?_
  refine lv_iconst (pc := 986) (v := 1) hx hb dC_Mod_init_986 (by decide) ?_
  refine x_stB (pc := 987) C hW (i := 16) (x := 1) (by decide) (by decide) (by decide) dC_Mod_init_987 (fun H locs hW => ?_)
  refine lv_dup (pc := 988) hx hb dC_Mod_init_988 rfl ?_
  refine lv_bipush (pc := 989) (v := 17) hx hb dC_Mod_init_989 (by decide) ?_
  refine lv_iconst (pc := 991) (v := 1) hx hb dC_Mod_init_991 (by decide) ?_
  refine x_stB (pc := 992) C hW (i := 17) (x := 1) (by decide) (by decide) (by decide) dC_Mod_init_992 (fun H locs hW => ?_)
  refine lv_dup (pc := 993) hx hb dC_Mod_init_993 rfl ?_
  refine lv_bipush (pc := 994) (v := 18) hx hb dC_Mod_init_994 (by decide) ?_
  refine lv_iconst (pc := 996) (v := 2) hx hb dC_Mod_init_996 (by decide) ?_
  refine x_stB (pc := 997) C hW (i := 18) (x := 2) (by decide) (by decide) (by decide) dC_Mod_init_997 (fun H locs hW => ?_)
  refine lv_dup (pc := 998) hx hb dC_Mod_init_998 rfl ?_
  refine lv_bipush (pc := 999) (v := 19) hx hb dC_Mod_init_999 (by decide) ?_
  refine lv_iconst (pc := 1001) (v := 2) hx hb dC_Mod_init_1001 (by decide) ?_
  refine x_stB (pc := 1002) C hW (i := 19) (x := 2) (by decide) (by decide) (by decide) dC_Mod_init_1002 (fun H locs hW => ?_)
  refine lv_dup (pc := 1003) hx hb dC_Mod_init_1003 rfl ?_
  refine lv_bipush (pc := 1004) (v := 20) hx hb dC_Mod_init_1004 (by decide) ?_
  refine lv_iconst (pc := 1006) (v := 2) hx hb dC_Mod_init_1006 (by decide) ?_
  refine x_stB (pc := 1007) C hW (i := 20) (x := 2) (by decide) (by decide) (by decide) dC_Mod_init_1007 (fun H locs hW => ?_)
  refine lv_dup (pc := 1008) hx hb dC_Mod_init_1008 rfl ?_
  refine lv_bipush (pc := 1009) (v := 21) hx hb dC_Mod_init_1009 (by decide) ?_
  refine lv_iconst (pc := 1011) (v := 2) hx hb dC_Mod_init_1011 (by decide) ?_
  refine x_stB (pc := 1012) C hW (i := 21) (x := 2) (by decide) (by decide) (by decide) dC_Mod_init_1012 (fun H locs hW => ?_)
  refine lv_dup (pc := 1013) hx hb dC_Mod_init_1013 rfl ?_
  refine lv_bipush (pc := 1014) (v := 22) hx hb dC_Mod_init_1014 (by decide) ?_
  refine lv_iconst (pc := 1016) (v := 2) hx hb dC_Mod_init_1016 (by decide) ?_
  refine x_stB (pc := 1017) C hW (i := 22) (x := 2) (by decide) (by decide) (by decide) dC_Mod_init_1017 (fun H locs hW => ?_)
  refine lv_dup (pc := 1018) hx hb dC_Mod_init_1018 rfl ?_
  refine lv_bipush (pc := 1019) (v := 23) hx hb dC_Mod_init_1019 (by decide) ?_
  refine lv_iconst (pc := 1021) (v := 2) hx hb dC_Mod_init_1021 (by decide) ?_
  refine x_stB (pc := 1022) C hW (i := 23) (x := 2) (by decide) (by decide) (by decide) dC_Mod_init_1022 (fun H locs hW => ?_)
  refine lv_dup (pc := 1023) hx hb dC_Mod_init_1023 rfl ?_
  refine lv_bipush (pc := 1024) (v := 24) hx hb dC_Mod_init_1024 (by decide) ?_
  refine lv_iconst (pc := 1026) (v := 3) hx hb dC_Mod_init_1026 (by decide) ?_
  refine x_stB (pc := 1027) C hW (i := 24) (x := 3) (by decide) (by decide) (by decide) dC_Mod_init_1027 (fun H locs hW => ?_)
  refine lv_dup (pc := 1028) hx hb dC_Mod_init_1028 rfl ?_
  refine lv_bipush (pc := 1029) (v := 25) hx hb dC_Mod_init_1029 (by decide) ?_
  refine lv_iconst (pc := 1031) (v := 3) hx hb dC_Mod_init_1031 (by decide) ?_
  refine x_stB (pc := 1032) C hW (i := 25) (x := 3) (by decide) (by decide) (by decide) dC_Mod_init_1032 (fun H locs hW => ?_)
  refine lv_dup (pc := 1033) hx hb dC_Mod_init_1033 rfl ?_
  refine lv_bipush (pc := 1034) (v := 26) hx hb dC_Mod_init_1034 (by decide) ?_
  refine lv_iconst (pc := 1036) (v := 3) hx hb dC_Mod_init_1036 (by decide) ?_
  refine x_stB (pc := 1037) C hW (i := 26) (x := 3) (by decide) (by decide) (by decide) dC_Mod_init_1037 (fun H locs hW => ?_)
  refine lv_dup (pc := 1038) hx hb dC_Mod_init_1038 rfl ?_
  refine lv_bipush (pc := 1039) (v := 27) hx hb dC_Mod_init_1039 (by decide) ?_
  refine lv_iconst (pc := 1041) (v := 4) hx hb dC_Mod_init_1041 (by decide) ?_
  refine x_stB (pc := 1042) C hW (i := 27) (x := 4) (by decide) (by decide) (by decide) dC_Mod_init_1042 (fun H locs hW => ?_)
  refine lv_dup (pc := 1043) hx hb dC_Mod_init_1043 rfl ?_
  refine lv_bipush (pc := 1044) (v := 28) hx hb dC_Mod_init_1044 (by decide) ?_
  refine lv_iconst (pc := 1046) (v := 4) hx hb dC_Mod_init_1046 (by decide) ?_
  refine x_stB (pc := 1047) C hW (i := 28) (x := 4) (by decide) (by decide) (by decide) dC_Mod_init_1047 (fun H locs hW => ?_)
  refine lv_dup (pc := 1048) hx hb dC_Mod_init_1048 rfl ?_
  refine lv_bipush (pc := 1049) (v := 29) hx hb dC_Mod_init_1049 (by decide) ?_
  refine lv_iconst (pc := 1051) (v := 4) hx hb dC_Mod_init_1051 (by decide) ?_
  refine x_stB (pc := 1052) C hW (i := 29) (x := 4) (by decide) (by decide) (by decide) dC_Mod_init_1052 (fun H locs hW => ?_)
  refine lv_dup (pc := 1053) hx hb dC_Mod_init_1053 rfl ?_
  refine lv_bipush (pc := 1054) (v := 30) hx hb dC_Mod_init_1054 (by decide) ?_
  refine lv_iconst (pc := 1056) (v := 4) hx hb dC_Mod_init_1056 (by decide) ?_
  refine x_stB (pc := 1057) C hW (i := 30) (x := 4) (by decide) (by decide) (by decide) dC_Mod_init_1057 (fun H locs hW => ?_)
  refine lv_dup (pc := 1058) hx hb dC_Mod_init_1058 rfl ?_
  refine lv_bipush (pc := 1059) (v := 31) hx hb dC_Mod_init_1059 (by decide) ?_
  refine lv_iconst (pc := 1061) (v := 4) hx hb dC_Mod_init_1061 (by decide) ?_
  refine x_stB (pc := 1062) C hW (i := 31) (x := 4) (by decide) (by decide) (by decide) dC_Mod_init_1062 (fun H locs hW => ?_)
  exact kk _ _ hW
set_option maxHeartbeats 4000000 in
set_option maxRecDepth 100000 in
theorem bJ_shapes_32 (C : CxC RM p s m args meth c cC_Mod_init 1 none D dA z A) {a : Nat} {ls : Array Slot} {rest : List Value} (H : Heap) (locs : List Loc) (hW : WdC D A s (Ws ++ [[(a, .inl (dA 1, 128, .inl (stJ M_shapes_l 0 32)))]]) H locs) (kk : ∀ (H1 : Heap) (locs1 : List Loc), WdC D A s (Ws ++ [[(a, .inl (dA 1, 128, .inl (stJ M_shapes_l 0 48)))]]) H1 locs1 → W p l e R s m args below meth c H1 locs1 cells slots Q (F0 m 1156 ls (.ref a :: rest))) : W p l e R s m args below meth c H locs cells slots Q (F0 m 1063 ls (.ref a :: rest)) := by
  have hx := C.1.1
  have hb := C.1.2.1
  have hown := C.1.2.2.2.2.1
  have hT := C.1.2.2.2.2.2.1
  refine lv_dup (pc := 1063) hx hb dC_Mod_init_1063 rfl ?_
  refine lv_bipush (pc := 1064) (v := 32) hx hb dC_Mod_init_1064 (by decide) ?_
  refine lv_bipush (pc := 1066) (v := 30) hx hb dC_Mod_init_1066 (by decide) ?_
  refine x_stB (pc := 1068) C hW (i := 32) (x := 30) (by decide) (by decide) (by decide) dC_Mod_init_1068 (fun H locs hW => ?_)
  refine lv_dup (pc := 1069) hx hb dC_Mod_init_1069 rfl ?_
  refine lv_bipush (pc := 1070) (v := 33) hx hb dC_Mod_init_1070 (by decide) ?_
  refine lv_iconst (pc := 1072) (v := 5) hx hb dC_Mod_init_1072 (by decide) ?_
  refine x_stB (pc := 1073) C hW (i := 33) (x := 5) (by decide) (by decide) (by decide) dC_Mod_init_1073 (fun H locs hW => ?_)
  refine lv_dup (pc := 1074) hx hb dC_Mod_init_1074 rfl ?_
  refine lv_bipush (pc := 1075) (v := 34) hx hb dC_Mod_init_1075 (by decide) ?_
  refine lv_iconst (pc := 1077) (v := 5) hx hb dC_Mod_init_1077 (by decide) ?_
  refine x_stB (pc := 1078) C hW (i := 34) (x := 5) (by decide) (by decide) (by decide) dC_Mod_init_1078 (fun H locs hW => ?_)
  refine lv_dup (pc := 1079) hx hb dC_Mod_init_1079 rfl ?_
  refine lv_bipush (pc := 1080) (v := 35) hx hb dC_Mod_init_1080 (by decide) ?_
  refine lv_iconst (pc := 1082) (v := 5) hx hb dC_Mod_init_1082 (by decide) ?_
  refine x_stB (pc := 1083) C hW (i := 35) (x := 5) (by decide) (by decide) (by decide) dC_Mod_init_1083 (fun H locs hW => ?_)
  refine lv_dup (pc := 1084) hx hb dC_Mod_init_1084 rfl ?_
  refine lv_bipush (pc := 1085) (v := 36) hx hb dC_Mod_init_1085 (by decide) ?_
  refine lv_bipush (pc := 1087) (v := 6) hx hb dC_Mod_init_1087 (by decide) ?_
  refine x_stB (pc := 1089) C hW (i := 36) (x := 6) (by decide) (by decide) (by decide) dC_Mod_init_1089 (fun H locs hW => ?_)
  refine lv_dup (pc := 1090) hx hb dC_Mod_init_1090 rfl ?_
  refine lv_bipush (pc := 1091) (v := 37) hx hb dC_Mod_init_1091 (by decide) ?_
  refine lv_bipush (pc := 1093) (v := 6) hx hb dC_Mod_init_1093 (by decide) ?_
  refine x_stB (pc := 1095) C hW (i := 37) (x := 6) (by decide) (by decide) (by decide) dC_Mod_init_1095 (fun H locs hW => ?_)
  refine lv_dup (pc := 1096) hx hb dC_Mod_init_1096 rfl ?_
  refine lv_bipush (pc := 1097) (v := 38) hx hb dC_Mod_init_1097 (by decide) ?_
  refine lv_bipush (pc := 1099) (v := 7) hx hb dC_Mod_init_1099 (by decide) ?_
  refine x_stB (pc := 1101) C hW (i := 38) (x := 7) (by decide) (by decide) (by decide) dC_Mod_init_1101 (fun H locs hW => ?_)
  refine lv_dup (pc := 1102) hx hb dC_Mod_init_1102 rfl ?_
  refine lv_bipush (pc := 1103) (v := 39) hx hb dC_Mod_init_1103 (by decide) ?_
  refine lv_bipush (pc := 1105) (v := 7) hx hb dC_Mod_init_1105 (by decide) ?_
  refine x_stB (pc := 1107) C hW (i := 39) (x := 7) (by decide) (by decide) (by decide) dC_Mod_init_1107 (fun H locs hW => ?_)
  refine lv_dup (pc := 1108) hx hb dC_Mod_init_1108 rfl ?_
  refine lv_bipush (pc := 1109) (v := 40) hx hb dC_Mod_init_1109 (by decide) ?_
  refine lv_bipush (pc := 1111) (v := 7) hx hb dC_Mod_init_1111 (by decide) ?_
  refine x_stB (pc := 1113) C hW (i := 40) (x := 7) (by decide) (by decide) (by decide) dC_Mod_init_1113 (fun H locs hW => ?_)
  refine lv_dup (pc := 1114) hx hb dC_Mod_init_1114 rfl ?_
  refine lv_bipush (pc := 1115) (v := 41) hx hb dC_Mod_init_1115 (by decide) ?_
  refine lv_bipush (pc := 1117) (v := 7) hx hb dC_Mod_init_1117 (by decide) ?_
  refine x_stB (pc := 1119) C hW (i := 41) (x := 7) (by decide) (by decide) (by decide) dC_Mod_init_1119 (fun H locs hW => ?_)
  refine lv_dup (pc := 1120) hx hb dC_Mod_init_1120 rfl ?_
  refine lv_bipush (pc := 1121) (v := 42) hx hb dC_Mod_init_1121 (by decide) ?_
  refine lv_bipush (pc := 1123) (v := 7) hx hb dC_Mod_init_1123 (by decide) ?_
  refine x_stB (pc := 1125) C hW (i := 42) (x := 7) (by decide) (by decide) (by decide) dC_Mod_init_1125 (fun H locs hW => ?_)
  refine lv_dup (pc := 1126) hx hb dC_Mod_init_1126 rfl ?_
  refine lv_bipush (pc := 1127) (v := 43) hx hb dC_Mod_init_1127 (by decide) ?_
  refine lv_bipush (pc := 1129) (v := 7) hx hb dC_Mod_init_1129 (by decide) ?_
  refine x_stB (pc := 1131) C hW (i := 43) (x := 7) (by decide) (by decide) (by decide) dC_Mod_init_1131 (fun H locs hW => ?_)
  refine lv_dup (pc := 1132) hx hb dC_Mod_init_1132 rfl ?_
  refine lv_bipush (pc := 1133) (v := 44) hx hb dC_Mod_init_1133 (by decide) ?_
  refine lv_bipush (pc := 1135) (v := 8) hx hb dC_Mod_init_1135 (by decide) ?_
  refine x_stB (pc := 1137) C hW (i := 44) (x := 8) (by decide) (by decide) (by decide) dC_Mod_init_1137 (fun H locs hW => ?_)
  refine lv_dup (pc := 1138) hx hb dC_Mod_init_1138 rfl ?_
  refine lv_bipush (pc := 1139) (v := 45) hx hb dC_Mod_init_1139 (by decide) ?_
  refine lv_bipush (pc := 1141) (v := 9) hx hb dC_Mod_init_1141 (by decide) ?_
  refine x_stB (pc := 1143) C hW (i := 45) (x := 9) (by decide) (by decide) (by decide) dC_Mod_init_1143 (fun H locs hW => ?_)
  refine lv_dup (pc := 1144) hx hb dC_Mod_init_1144 rfl ?_
  refine lv_bipush (pc := 1145) (v := 46) hx hb dC_Mod_init_1145 (by decide) ?_
  refine lv_bipush (pc := 1147) (v := 9) hx hb dC_Mod_init_1147 (by decide) ?_
  refine x_stB (pc := 1149) C hW (i := 46) (x := 9) (by decide) (by decide) (by decide) dC_Mod_init_1149 (fun H locs hW => ?_)
  refine lv_dup (pc := 1150) hx hb dC_Mod_init_1150 rfl ?_
  refine lv_bipush (pc := 1151) (v := 47) hx hb dC_Mod_init_1151 (by decide) ?_
  refine lv_bipush (pc := 1153) (v := 9) hx hb dC_Mod_init_1153 (by decide) ?_
  refine x_stB (pc := 1155) C hW (i := 47) (x := 9) (by decide) (by decide) (by decide) dC_Mod_init_1155 (fun H locs hW => ?_)
  exact kk _ _ hW
set_option maxHeartbeats 4000000 in
set_option maxRecDepth 100000 in
theorem bJ_shapes_48 (C : CxC RM p s m args meth c cC_Mod_init 1 none D dA z A) {a : Nat} {ls : Array Slot} {rest : List Value} (H : Heap) (locs : List Loc) (hW : WdC D A s (Ws ++ [[(a, .inl (dA 1, 128, .inl (stJ M_shapes_l 0 48)))]]) H locs) (kk : ∀ (H1 : Heap) (locs1 : List Loc), WdC D A s (Ws ++ [[(a, .inl (dA 1, 128, .inl (stJ M_shapes_l 0 64)))]]) H1 locs1 → W p l e R s m args below meth c H1 locs1 cells slots Q (F0 m 1252 ls (.ref a :: rest))) : W p l e R s m args below meth c H locs cells slots Q (F0 m 1156 ls (.ref a :: rest)) := by
  have hx := C.1.1
  have hb := C.1.2.1
  have hown := C.1.2.2.2.2.1
  have hT := C.1.2.2.2.2.2.1
  refine lv_dup (pc := 1156) hx hb dC_Mod_init_1156 rfl ?_
  refine lv_bipush (pc := 1157) (v := 48) hx hb dC_Mod_init_1157 (by decide) ?_
  refine lv_bipush (pc := 1159) (v := 9) hx hb dC_Mod_init_1159 (by decide) ?_
  refine x_stB (pc := 1161) C hW (i := 48) (x := 9) (by decide) (by decide) (by decide) dC_Mod_init_1161 (fun H locs hW => ?_)
  refine lv_dup (pc := 1162) hx hb dC_Mod_init_1162 rfl ?_
  refine lv_bipush (pc := 1163) (v := 49) hx hb dC_Mod_init_1163 (by decide) ?_
  refine lv_bipush (pc := 1165) (v := 9) hx hb dC_Mod_init_1165 (by decide) ?_
  refine x_stB (pc := 1167) C hW (i := 49) (x := 9) (by decide) (by decide) (by decide) dC_Mod_init_1167 (fun H locs hW => ?_)
  refine lv_dup (pc := 1168) hx hb dC_Mod_init_1168 rfl ?_
  refine lv_bipush (pc := 1169) (v := 50) hx hb dC_Mod_init_1169 (by decide) ?_
  refine lv_bipush (pc := 1171) (v := 9) hx hb dC_Mod_init_1171 (by decide) ?_
  refine x_stB (pc := 1173) C hW (i := 50) (x := 9) (by decide) (by decide) (by decide) dC_Mod_init_1173 (fun H locs hW => ?_)
  refine lv_dup (pc := 1174) hx hb dC_Mod_init_1174 rfl ?_
  refine lv_bipush (pc := 1175) (v := 51) hx hb dC_Mod_init_1175 (by decide) ?_
  refine lv_bipush (pc := 1177) (v := 9) hx hb dC_Mod_init_1177 (by decide) ?_
  refine x_stB (pc := 1179) C hW (i := 51) (x := 9) (by decide) (by decide) (by decide) dC_Mod_init_1179 (fun H locs hW => ?_)
  refine lv_dup (pc := 1180) hx hb dC_Mod_init_1180 rfl ?_
  refine lv_bipush (pc := 1181) (v := 52) hx hb dC_Mod_init_1181 (by decide) ?_
  refine lv_bipush (pc := 1183) (v := 9) hx hb dC_Mod_init_1183 (by decide) ?_
  refine x_stB (pc := 1185) C hW (i := 52) (x := 9) (by decide) (by decide) (by decide) dC_Mod_init_1185 (fun H locs hW => ?_)
  refine lv_dup (pc := 1186) hx hb dC_Mod_init_1186 rfl ?_
  refine lv_bipush (pc := 1187) (v := 53) hx hb dC_Mod_init_1187 (by decide) ?_
  refine lv_bipush (pc := 1189) (v := 9) hx hb dC_Mod_init_1189 (by decide) ?_
  refine x_stB (pc := 1191) C hW (i := 53) (x := 9) (by decide) (by decide) (by decide) dC_Mod_init_1191 (fun H locs hW => ?_)
  refine lv_dup (pc := 1192) hx hb dC_Mod_init_1192 rfl ?_
  refine lv_bipush (pc := 1193) (v := 54) hx hb dC_Mod_init_1193 (by decide) ?_
  refine lv_bipush (pc := 1195) (v := 9) hx hb dC_Mod_init_1195 (by decide) ?_
  refine x_stB (pc := 1197) C hW (i := 54) (x := 9) (by decide) (by decide) (by decide) dC_Mod_init_1197 (fun H locs hW => ?_)
  refine lv_dup (pc := 1198) hx hb dC_Mod_init_1198 rfl ?_
  refine lv_bipush (pc := 1199) (v := 55) hx hb dC_Mod_init_1199 (by decide) ?_
  refine lv_bipush (pc := 1201) (v := 10) hx hb dC_Mod_init_1201 (by decide) ?_
  refine x_stB (pc := 1203) C hW (i := 55) (x := 10) (by decide) (by decide) (by decide) dC_Mod_init_1203 (fun H locs hW => ?_)
  refine lv_dup (pc := 1204) hx hb dC_Mod_init_1204 rfl ?_
  refine lv_bipush (pc := 1205) (v := 56) hx hb dC_Mod_init_1205 (by decide) ?_
  refine lv_bipush (pc := 1207) (v := 11) hx hb dC_Mod_init_1207 (by decide) ?_
  refine x_stB (pc := 1209) C hW (i := 56) (x := 11) (by decide) (by decide) (by decide) dC_Mod_init_1209 (fun H locs hW => ?_)
  refine lv_dup (pc := 1210) hx hb dC_Mod_init_1210 rfl ?_
  refine lv_bipush (pc := 1211) (v := 57) hx hb dC_Mod_init_1211 (by decide) ?_
  refine lv_bipush (pc := 1213) (v := 11) hx hb dC_Mod_init_1213 (by decide) ?_
  refine x_stB (pc := 1215) C hW (i := 57) (x := 11) (by decide) (by decide) (by decide) dC_Mod_init_1215 (fun H locs hW => ?_)
  refine lv_dup (pc := 1216) hx hb dC_Mod_init_1216 rfl ?_
  refine lv_bipush (pc := 1217) (v := 58) hx hb dC_Mod_init_1217 (by decide) ?_
  refine lv_bipush (pc := 1219) (v := 11) hx hb dC_Mod_init_1219 (by decide) ?_
  refine x_stB (pc := 1221) C hW (i := 58) (x := 11) (by decide) (by decide) (by decide) dC_Mod_init_1221 (fun H locs hW => ?_)
  refine lv_dup (pc := 1222) hx hb dC_Mod_init_1222 rfl ?_
  refine lv_bipush (pc := 1223) (v := 59) hx hb dC_Mod_init_1223 (by decide) ?_
  refine lv_bipush (pc := 1225) (v := 11) hx hb dC_Mod_init_1225 (by decide) ?_
  refine x_stB (pc := 1227) C hW (i := 59) (x := 11) (by decide) (by decide) (by decide) dC_Mod_init_1227 (fun H locs hW => ?_)
  refine lv_dup (pc := 1228) hx hb dC_Mod_init_1228 rfl ?_
  refine lv_bipush (pc := 1229) (v := 60) hx hb dC_Mod_init_1229 (by decide) ?_
  refine lv_bipush (pc := 1231) (v := 11) hx hb dC_Mod_init_1231 (by decide) ?_
  refine x_stB (pc := 1233) C hW (i := 60) (x := 11) (by decide) (by decide) (by decide) dC_Mod_init_1233 (fun H locs hW => ?_)
  refine lv_dup (pc := 1234) hx hb dC_Mod_init_1234 rfl ?_
  refine lv_bipush (pc := 1235) (v := 61) hx hb dC_Mod_init_1235 (by decide) ?_
  refine lv_bipush (pc := 1237) (v := 11) hx hb dC_Mod_init_1237 (by decide) ?_
  refine x_stB (pc := 1239) C hW (i := 61) (x := 11) (by decide) (by decide) (by decide) dC_Mod_init_1239 (fun H locs hW => ?_)
  refine lv_dup (pc := 1240) hx hb dC_Mod_init_1240 rfl ?_
  refine lv_bipush (pc := 1241) (v := 62) hx hb dC_Mod_init_1241 (by decide) ?_
  refine lv_bipush (pc := 1243) (v := 12) hx hb dC_Mod_init_1243 (by decide) ?_
  refine x_stB (pc := 1245) C hW (i := 62) (x := 12) (by decide) (by decide) (by decide) dC_Mod_init_1245 (fun H locs hW => ?_)
  refine lv_dup (pc := 1246) hx hb dC_Mod_init_1246 rfl ?_
  refine lv_bipush (pc := 1247) (v := 63) hx hb dC_Mod_init_1247 (by decide) ?_
  refine lv_bipush (pc := 1249) (v := 12) hx hb dC_Mod_init_1249 (by decide) ?_
  refine x_stB (pc := 1251) C hW (i := 63) (x := 12) (by decide) (by decide) (by decide) dC_Mod_init_1251 (fun H locs hW => ?_)
  exact kk _ _ hW
set_option maxHeartbeats 4000000 in
set_option maxRecDepth 100000 in
theorem bJ_shapes_64 (C : CxC RM p s m args meth c cC_Mod_init 1 none D dA z A) {a : Nat} {ls : Array Slot} {rest : List Value} (H : Heap) (locs : List Loc) (hW : WdC D A s (Ws ++ [[(a, .inl (dA 1, 128, .inl (stJ M_shapes_l 0 64)))]]) H locs) (kk : ∀ (H1 : Heap) (locs1 : List Loc), WdC D A s (Ws ++ [[(a, .inl (dA 1, 128, .inl (stJ M_shapes_l 0 80)))]]) H1 locs1 → W p l e R s m args below meth c H1 locs1 cells slots Q (F0 m 1348 ls (.ref a :: rest))) : W p l e R s m args below meth c H locs cells slots Q (F0 m 1252 ls (.ref a :: rest)) := by
  have hx := C.1.1
  have hb := C.1.2.1
  have hown := C.1.2.2.2.2.1
  have hT := C.1.2.2.2.2.2.1
  refine lv_dup (pc := 1252) hx hb dC_Mod_init_1252 rfl ?_
  refine lv_bipush (pc := 1253) (v := 64) hx hb dC_Mod_init_1253 (by decide) ?_
  refine lv_bipush (pc := 1255) (v := 12) hx hb dC_Mod_init_1255 (by decide) ?_
  refine x_stB (pc := 1257) C hW (i := 64) (x := 12) (by decide) (by decide) (by decide) dC_Mod_init_1257 (fun H locs hW => ?_)
  refine lv_dup (pc := 1258) hx hb dC_Mod_init_1258 rfl ?_
  refine lv_bipush (pc := 1259) (v := 65) hx hb dC_Mod_init_1259 (by decide) ?_
  refine lv_bipush (pc := 1261) (v := 12) hx hb dC_Mod_init_1261 (by decide) ?_
  refine x_stB (pc := 1263) C hW (i := 65) (x := 12) (by decide) (by decide) (by decide) dC_Mod_init_1263 (fun H locs hW => ?_)
  refine lv_dup (pc := 1264) hx hb dC_Mod_init_1264 rfl ?_
  refine lv_bipush (pc := 1265) (v := 66) hx hb dC_Mod_init_1265 (by decide) ?_
  refine lv_bipush (pc := 1267) (v := 12) hx hb dC_Mod_init_1267 (by decide) ?_
  refine x_stB (pc := 1269) C hW (i := 66) (x := 12) (by decide) (by decide) (by decide) dC_Mod_init_1269 (fun H locs hW => ?_)
  refine lv_dup (pc := 1270) hx hb dC_Mod_init_1270 rfl ?_
  refine lv_bipush (pc := 1271) (v := 67) hx hb dC_Mod_init_1271 (by decide) ?_
  refine lv_bipush (pc := 1273) (v := 12) hx hb dC_Mod_init_1273 (by decide) ?_
  refine x_stB (pc := 1275) C hW (i := 67) (x := 12) (by decide) (by decide) (by decide) dC_Mod_init_1275 (fun H locs hW => ?_)
  refine lv_dup (pc := 1276) hx hb dC_Mod_init_1276 rfl ?_
  refine lv_bipush (pc := 1277) (v := 68) hx hb dC_Mod_init_1277 (by decide) ?_
  refine lv_bipush (pc := 1279) (v := 13) hx hb dC_Mod_init_1279 (by decide) ?_
  refine x_stB (pc := 1281) C hW (i := 68) (x := 13) (by decide) (by decide) (by decide) dC_Mod_init_1281 (fun H locs hW => ?_)
  refine lv_dup (pc := 1282) hx hb dC_Mod_init_1282 rfl ?_
  refine lv_bipush (pc := 1283) (v := 69) hx hb dC_Mod_init_1283 (by decide) ?_
  refine lv_bipush (pc := 1285) (v := 14) hx hb dC_Mod_init_1285 (by decide) ?_
  refine x_stB (pc := 1287) C hW (i := 69) (x := 14) (by decide) (by decide) (by decide) dC_Mod_init_1287 (fun H locs hW => ?_)
  refine lv_dup (pc := 1288) hx hb dC_Mod_init_1288 rfl ?_
  refine lv_bipush (pc := 1289) (v := 70) hx hb dC_Mod_init_1289 (by decide) ?_
  refine lv_bipush (pc := 1291) (v := 14) hx hb dC_Mod_init_1291 (by decide) ?_
  refine x_stB (pc := 1293) C hW (i := 70) (x := 14) (by decide) (by decide) (by decide) dC_Mod_init_1293 (fun H locs hW => ?_)
  refine lv_dup (pc := 1294) hx hb dC_Mod_init_1294 rfl ?_
  refine lv_bipush (pc := 1295) (v := 71) hx hb dC_Mod_init_1295 (by decide) ?_
  refine lv_bipush (pc := 1297) (v := 16) hx hb dC_Mod_init_1297 (by decide) ?_
  refine x_stB (pc := 1299) C hW (i := 71) (x := 16) (by decide) (by decide) (by decide) dC_Mod_init_1299 (fun H locs hW => ?_)
  refine lv_dup (pc := 1300) hx hb dC_Mod_init_1300 rfl ?_
  refine lv_bipush (pc := 1301) (v := 72) hx hb dC_Mod_init_1301 (by decide) ?_
  refine lv_bipush (pc := 1303) (v := 16) hx hb dC_Mod_init_1303 (by decide) ?_
  refine x_stB (pc := 1305) C hW (i := 72) (x := 16) (by decide) (by decide) (by decide) dC_Mod_init_1305 (fun H locs hW => ?_)
  refine lv_dup (pc := 1306) hx hb dC_Mod_init_1306 rfl ?_
  refine lv_bipush (pc := 1307) (v := 73) hx hb dC_Mod_init_1307 (by decide) ?_
  refine lv_bipush (pc := 1309) (v := 17) hx hb dC_Mod_init_1309 (by decide) ?_
  refine x_stB (pc := 1311) C hW (i := 73) (x := 17) (by decide) (by decide) (by decide) dC_Mod_init_1311 (fun H locs hW => ?_)
  refine lv_dup (pc := 1312) hx hb dC_Mod_init_1312 rfl ?_
  refine lv_bipush (pc := 1313) (v := 74) hx hb dC_Mod_init_1313 (by decide) ?_
  refine lv_bipush (pc := 1315) (v := 17) hx hb dC_Mod_init_1315 (by decide) ?_
  refine x_stB (pc := 1317) C hW (i := 74) (x := 17) (by decide) (by decide) (by decide) dC_Mod_init_1317 (fun H locs hW => ?_)
  refine lv_dup (pc := 1318) hx hb dC_Mod_init_1318 rfl ?_
  refine lv_bipush (pc := 1319) (v := 75) hx hb dC_Mod_init_1319 (by decide) ?_
  refine lv_bipush (pc := 1321) (v := 18) hx hb dC_Mod_init_1321 (by decide) ?_
  refine x_stB (pc := 1323) C hW (i := 75) (x := 18) (by decide) (by decide) (by decide) dC_Mod_init_1323 (fun H locs hW => ?_)
  refine lv_dup (pc := 1324) hx hb dC_Mod_init_1324 rfl ?_
  refine lv_bipush (pc := 1325) (v := 76) hx hb dC_Mod_init_1325 (by decide) ?_
  refine lv_bipush (pc := 1327) (v := 19) hx hb dC_Mod_init_1327 (by decide) ?_
  refine x_stB (pc := 1329) C hW (i := 76) (x := 19) (by decide) (by decide) (by decide) dC_Mod_init_1329 (fun H locs hW => ?_)
  refine lv_dup (pc := 1330) hx hb dC_Mod_init_1330 rfl ?_
  refine lv_bipush (pc := 1331) (v := 77) hx hb dC_Mod_init_1331 (by decide) ?_
  refine lv_bipush (pc := 1333) (v := 19) hx hb dC_Mod_init_1333 (by decide) ?_
  refine x_stB (pc := 1335) C hW (i := 77) (x := 19) (by decide) (by decide) (by decide) dC_Mod_init_1335 (fun H locs hW => ?_)
  refine lv_dup (pc := 1336) hx hb dC_Mod_init_1336 rfl ?_
  refine lv_bipush (pc := 1337) (v := 78) hx hb dC_Mod_init_1337 (by decide) ?_
  refine lv_bipush (pc := 1339) (v := 20) hx hb dC_Mod_init_1339 (by decide) ?_
  refine x_stB (pc := 1341) C hW (i := 78) (x := 20) (by decide) (by decide) (by decide) dC_Mod_init_1341 (fun H locs hW => ?_)
  refine lv_dup (pc := 1342) hx hb dC_Mod_init_1342 rfl ?_
  refine lv_bipush (pc := 1343) (v := 79) hx hb dC_Mod_init_1343 (by decide) ?_
  refine lv_bipush (pc := 1345) (v := 21) hx hb dC_Mod_init_1345 (by decide) ?_
  refine x_stB (pc := 1347) C hW (i := 79) (x := 21) (by decide) (by decide) (by decide) dC_Mod_init_1347 (fun H locs hW => ?_)
  exact kk _ _ hW
set_option maxHeartbeats 4000000 in
set_option maxRecDepth 100000 in
theorem bJ_shapes_80 (C : CxC RM p s m args meth c cC_Mod_init 1 none D dA z A) {a : Nat} {ls : Array Slot} {rest : List Value} (H : Heap) (locs : List Loc) (hW : WdC D A s (Ws ++ [[(a, .inl (dA 1, 128, .inl (stJ M_shapes_l 0 80)))]]) H locs) (kk : ∀ (H1 : Heap) (locs1 : List Loc), WdC D A s (Ws ++ [[(a, .inl (dA 1, 128, .inl (stJ M_shapes_l 0 96)))]]) H1 locs1 → W p l e R s m args below meth c H1 locs1 cells slots Q (F0 m 1444 ls (.ref a :: rest))) : W p l e R s m args below meth c H locs cells slots Q (F0 m 1348 ls (.ref a :: rest)) := by
  have hx := C.1.1
  have hb := C.1.2.1
  have hown := C.1.2.2.2.2.1
  have hT := C.1.2.2.2.2.2.1
  refine lv_dup (pc := 1348) hx hb dC_Mod_init_1348 rfl ?_
  refine lv_bipush (pc := 1349) (v := 80) hx hb dC_Mod_init_1349 (by decide) ?_
  refine lv_bipush (pc := 1351) (v := 21) hx hb dC_Mod_init_1351 (by decide) ?_
  refine x_stB (pc := 1353) C hW (i := 80) (x := 21) (by decide) (by decide) (by decide) dC_Mod_init_1353 (fun H locs hW => ?_)
  refine lv_dup (pc := 1354) hx hb dC_Mod_init_1354 rfl ?_
  refine lv_bipush (pc := 1355) (v := 81) hx hb dC_Mod_init_1355 (by decide) ?_
  refine lv_bipush (pc := 1357) (v := 22) hx hb dC_Mod_init_1357 (by decide) ?_
  refine x_stB (pc := 1359) C hW (i := 81) (x := 22) (by decide) (by decide) (by decide) dC_Mod_init_1359 (fun H locs hW => ?_)
  refine lv_dup (pc := 1360) hx hb dC_Mod_init_1360 rfl ?_
  refine lv_bipush (pc := 1361) (v := 82) hx hb dC_Mod_init_1361 (by decide) ?_
  refine lv_bipush (pc := 1363) (v := 23) hx hb dC_Mod_init_1363 (by decide) ?_
  refine x_stB (pc := 1365) C hW (i := 82) (x := 23) (by decide) (by decide) (by decide) dC_Mod_init_1365 (fun H locs hW => ?_)
  refine lv_dup (pc := 1366) hx hb dC_Mod_init_1366 rfl ?_
  refine lv_bipush (pc := 1367) (v := 83) hx hb dC_Mod_init_1367 (by decide) ?_
  refine lv_bipush (pc := 1369) (v := 23) hx hb dC_Mod_init_1369 (by decide) ?_
  refine x_stB (pc := 1371) C hW (i := 83) (x := 23) (by decide) (by decide) (by decide) dC_Mod_init_1371 (fun H locs hW => ?_)
  refine lv_dup (pc := 1372) hx hb dC_Mod_init_1372 rfl ?_
  refine lv_bipush (pc := 1373) (v := 84) hx hb dC_Mod_init_1373 (by decide) ?_
  refine lv_bipush (pc := 1375) (v := 23) hx hb dC_Mod_init_1375 (by decide) ?_
  refine x_stB (pc := 1377) C hW (i := 84) (x := 23) (by decide) (by decide) (by decide) dC_Mod_init_1377 (fun H locs hW => ?_)
  refine lv_dup (pc := 1378) hx hb dC_Mod_init_1378 rfl ?_
  refine lv_bipush (pc := 1379) (v := 85) hx hb dC_Mod_init_1379 (by decide) ?_
  refine lv_bipush (pc := 1381) (v := 23) hx hb dC_Mod_init_1381 (by decide) ?_
  refine x_stB (pc := 1383) C hW (i := 85) (x := 23) (by decide) (by decide) (by decide) dC_Mod_init_1383 (fun H locs hW => ?_)
  refine lv_dup (pc := 1384) hx hb dC_Mod_init_1384 rfl ?_
  refine lv_bipush (pc := 1385) (v := 86) hx hb dC_Mod_init_1385 (by decide) ?_
  refine lv_bipush (pc := 1387) (v := 24) hx hb dC_Mod_init_1387 (by decide) ?_
  refine x_stB (pc := 1389) C hW (i := 86) (x := 24) (by decide) (by decide) (by decide) dC_Mod_init_1389 (fun H locs hW => ?_)
  refine lv_dup (pc := 1390) hx hb dC_Mod_init_1390 rfl ?_
  refine lv_bipush (pc := 1391) (v := 87) hx hb dC_Mod_init_1391 (by decide) ?_
  refine lv_bipush (pc := 1393) (v := 24) hx hb dC_Mod_init_1393 (by decide) ?_
  refine x_stB (pc := 1395) C hW (i := 87) (x := 24) (by decide) (by decide) (by decide) dC_Mod_init_1395 (fun H locs hW => ?_)
  refine lv_dup (pc := 1396) hx hb dC_Mod_init_1396 rfl ?_
  refine lv_bipush (pc := 1397) (v := 88) hx hb dC_Mod_init_1397 (by decide) ?_
  refine lv_bipush (pc := 1399) (v := 25) hx hb dC_Mod_init_1399 (by decide) ?_
  refine x_stB (pc := 1401) C hW (i := 88) (x := 25) (by decide) (by decide) (by decide) dC_Mod_init_1401 (fun H locs hW => ?_)
  refine lv_dup (pc := 1402) hx hb dC_Mod_init_1402 rfl ?_
  refine lv_bipush (pc := 1403) (v := 89) hx hb dC_Mod_init_1403 (by decide) ?_
  refine lv_bipush (pc := 1405) (v := 26) hx hb dC_Mod_init_1405 (by decide) ?_
  refine x_stB (pc := 1407) C hW (i := 89) (x := 26) (by decide) (by decide) (by decide) dC_Mod_init_1407 (fun H locs hW => ?_)
  refine lv_dup (pc := 1408) hx hb dC_Mod_init_1408 rfl ?_
  refine lv_bipush (pc := 1409) (v := 90) hx hb dC_Mod_init_1409 (by decide) ?_
  refine lv_bipush (pc := 1411) (v := 27) hx hb dC_Mod_init_1411 (by decide) ?_
  refine x_stB (pc := 1413) C hW (i := 90) (x := 27) (by decide) (by decide) (by decide) dC_Mod_init_1413 (fun H locs hW => ?_)
  refine lv_dup (pc := 1414) hx hb dC_Mod_init_1414 rfl ?_
  refine lv_bipush (pc := 1415) (v := 91) hx hb dC_Mod_init_1415 (by decide) ?_
  refine lv_bipush (pc := 1417) (v := 27) hx hb dC_Mod_init_1417 (by decide) ?_
  refine x_stB (pc := 1419) C hW (i := 91) (x := 27) (by decide) (by decide) (by decide) dC_Mod_init_1419 (fun H locs hW => ?_)
  refine lv_dup (pc := 1420) hx hb dC_Mod_init_1420 rfl ?_
  refine lv_bipush (pc := 1421) (v := 92) hx hb dC_Mod_init_1421 (by decide) ?_
  refine lv_bipush (pc := 1423) (v := 28) hx hb dC_Mod_init_1423 (by decide) ?_
  refine x_stB (pc := 1425) C hW (i := 92) (x := 28) (by decide) (by decide) (by decide) dC_Mod_init_1425 (fun H locs hW => ?_)
  refine lv_dup (pc := 1426) hx hb dC_Mod_init_1426 rfl ?_
  refine lv_bipush (pc := 1427) (v := 93) hx hb dC_Mod_init_1427 (by decide) ?_
  refine lv_bipush (pc := 1429) (v := 28) hx hb dC_Mod_init_1429 (by decide) ?_
  refine x_stB (pc := 1431) C hW (i := 93) (x := 28) (by decide) (by decide) (by decide) dC_Mod_init_1431 (fun H locs hW => ?_)
  refine lv_dup (pc := 1432) hx hb dC_Mod_init_1432 rfl ?_
  refine lv_bipush (pc := 1433) (v := 94) hx hb dC_Mod_init_1433 (by decide) ?_
  refine lv_bipush (pc := 1435) (v := 29) hx hb dC_Mod_init_1435 (by decide) ?_
  refine x_stB (pc := 1437) C hW (i := 94) (x := 29) (by decide) (by decide) (by decide) dC_Mod_init_1437 (fun H locs hW => ?_)
  refine lv_dup (pc := 1438) hx hb dC_Mod_init_1438 rfl ?_
  refine lv_bipush (pc := 1439) (v := 95) hx hb dC_Mod_init_1439 (by decide) ?_
  refine lv_bipush (pc := 1441) (v := 31) hx hb dC_Mod_init_1441 (by decide) ?_
  refine x_stB (pc := 1443) C hW (i := 95) (x := 31) (by decide) (by decide) (by decide) dC_Mod_init_1443 (fun H locs hW => ?_)
  exact kk _ _ hW
set_option maxHeartbeats 4000000 in
set_option maxRecDepth 100000 in
theorem bJ_shapes_96 (C : CxC RM p s m args meth c cC_Mod_init 1 none D dA z A) {a : Nat} {ls : Array Slot} {rest : List Value} (H : Heap) (locs : List Loc) (hW : WdC D A s (Ws ++ [[(a, .inl (dA 1, 128, .inl (stJ M_shapes_l 0 96)))]]) H locs) (kk : ∀ (H1 : Heap) (locs1 : List Loc), WdC D A s (Ws ++ [[(a, .inl (dA 1, 128, .inl (stJ M_shapes_l 0 112)))]]) H1 locs1 → W p l e R s m args below meth c H1 locs1 cells slots Q (F0 m 1540 ls (.ref a :: rest))) : W p l e R s m args below meth c H locs cells slots Q (F0 m 1444 ls (.ref a :: rest)) := by
  have hx := C.1.1
  have hb := C.1.2.1
  have hown := C.1.2.2.2.2.1
  have hT := C.1.2.2.2.2.2.1
  refine lv_dup (pc := 1444) hx hb dC_Mod_init_1444 rfl ?_
  refine lv_bipush (pc := 1445) (v := 96) hx hb dC_Mod_init_1445 (by decide) ?_
  refine lv_bipush (pc := 1447) (v := 31) hx hb dC_Mod_init_1447 (by decide) ?_
  refine x_stB (pc := 1449) C hW (i := 96) (x := 31) (by decide) (by decide) (by decide) dC_Mod_init_1449 (fun H locs hW => ?_)
  refine lv_dup (pc := 1450) hx hb dC_Mod_init_1450 rfl ?_
  refine lv_bipush (pc := 1451) (v := 97) hx hb dC_Mod_init_1451 (by decide) ?_
  refine lv_bipush (pc := 1453) (v := 31) hx hb dC_Mod_init_1453 (by decide) ?_
  refine x_stB (pc := 1455) C hW (i := 97) (x := 31) (by decide) (by decide) (by decide) dC_Mod_init_1455 (fun H locs hW => ?_)
  refine lv_dup (pc := 1456) hx hb dC_Mod_init_1456 rfl ?_
  refine lv_bipush (pc := 1457) (v := 98) hx hb dC_Mod_init_1457 (by decide) ?_
  refine lv_bipush (pc := 1459) (v := 31) hx hb dC_Mod_init_1459 (by decide) ?_
  refine x_stB (pc := 1461) C hW (i := 98) (x := 31) (by decide) (by decide) (by decide) dC_Mod_init_1461 (fun H locs hW => ?_)
  refine lv_dup (pc := 1462) hx hb dC_Mod_init_1462 rfl ?_
  refine lv_bipush (pc := 1463) (v := 99) hx hb dC_Mod_init_1463 (by decide) ?_
  refine lv_bipush (pc := 1465) (v := 32) hx hb dC_Mod_init_1465 (by decide) ?_
  refine x_stB (pc := 1467) C hW (i := 99) (x := 32) (by decide) (by decide) (by decide) dC_Mod_init_1467 (fun H locs hW => ?_)
  refine lv_dup (pc := 1468) hx hb dC_Mod_init_1468 rfl ?_
  refine lv_bipush (pc := 1469) (v := 100) hx hb dC_Mod_init_1469 (by decide) ?_
  refine lv_bipush (pc := 1471) (v := 32) hx hb dC_Mod_init_1471 (by decide) ?_
  refine x_stB (pc := 1473) C hW (i := 100) (x := 32) (by decide) (by decide) (by decide) dC_Mod_init_1473 (fun H locs hW => ?_)
  refine lv_dup (pc := 1474) hx hb dC_Mod_init_1474 rfl ?_
  refine lv_bipush (pc := 1475) (v := 101) hx hb dC_Mod_init_1475 (by decide) ?_
  refine lv_bipush (pc := 1477) (v := 32) hx hb dC_Mod_init_1477 (by decide) ?_
  refine x_stB (pc := 1479) C hW (i := 101) (x := 32) (by decide) (by decide) (by decide) dC_Mod_init_1479 (fun H locs hW => ?_)
  refine lv_dup (pc := 1480) hx hb dC_Mod_init_1480 rfl ?_
  refine lv_bipush (pc := 1481) (v := 102) hx hb dC_Mod_init_1481 (by decide) ?_
  refine lv_bipush (pc := 1483) (v := 33) hx hb dC_Mod_init_1483 (by decide) ?_
  refine x_stB (pc := 1485) C hW (i := 102) (x := 33) (by decide) (by decide) (by decide) dC_Mod_init_1485 (fun H locs hW => ?_)
  refine lv_dup (pc := 1486) hx hb dC_Mod_init_1486 rfl ?_
  refine lv_bipush (pc := 1487) (v := 103) hx hb dC_Mod_init_1487 (by decide) ?_
  refine lv_bipush (pc := 1489) (v := 34) hx hb dC_Mod_init_1489 (by decide) ?_
  refine x_stB (pc := 1491) C hW (i := 103) (x := 34) (by decide) (by decide) (by decide) dC_Mod_init_1491 (fun H locs hW => ?_)
  refine lv_dup (pc := 1492) hx hb dC_Mod_init_1492 rfl ?_
  refine lv_bipush (pc := 1493) (v := 104) hx hb dC_Mod_init_1493 (by decide) ?_
  refine lv_bipush (pc := 1495) (v := 34) hx hb dC_Mod_init_1495 (by decide) ?_
  refine x_stB (pc := 1497) C hW (i := 104) (x := 34) (by decide) (by decide) (by decide) dC_Mod_init_1497 (fun H locs hW => ?_)
  refine lv_dup (pc := 1498) hx hb dC_Mod_init_1498 rfl ?_
  refine lv_bipush (pc := 1499) (v := 105) hx hb dC_Mod_init_1499 (by decide) ?_
  refine lv_bipush (pc := 1501) (v := 34) hx hb dC_Mod_init_1501 (by decide) ?_
  refine x_stB (pc := 1503) C hW (i := 105) (x := 34) (by decide) (by decide) (by decide) dC_Mod_init_1503 (fun H locs hW => ?_)
  refine lv_dup (pc := 1504) hx hb dC_Mod_init_1504 rfl ?_
  refine lv_bipush (pc := 1505) (v := 106) hx hb dC_Mod_init_1505 (by decide) ?_
  refine lv_bipush (pc := 1507) (v := 35) hx hb dC_Mod_init_1507 (by decide) ?_
  refine x_stB (pc := 1509) C hW (i := 106) (x := 35) (by decide) (by decide) (by decide) dC_Mod_init_1509 (fun H locs hW => ?_)
  refine lv_dup (pc := 1510) hx hb dC_Mod_init_1510 rfl ?_
  refine lv_bipush (pc := 1511) (v := 107) hx hb dC_Mod_init_1511 (by decide) ?_
  refine lv_bipush (pc := 1513) (v := 35) hx hb dC_Mod_init_1513 (by decide) ?_
  refine x_stB (pc := 1515) C hW (i := 107) (x := 35) (by decide) (by decide) (by decide) dC_Mod_init_1515 (fun H locs hW => ?_)
  refine lv_dup (pc := 1516) hx hb dC_Mod_init_1516 rfl ?_
  refine lv_bipush (pc := 1517) (v := 108) hx hb dC_Mod_init_1517 (by decide) ?_
  refine lv_bipush (pc := 1519) (v := 35) hx hb dC_Mod_init_1519 (by decide) ?_
  refine x_stB (pc := 1521) C hW (i := 108) (x := 35) (by decide) (by decide) (by decide) dC_Mod_init_1521 (fun H locs hW => ?_)
  refine lv_dup (pc := 1522) hx hb dC_Mod_init_1522 rfl ?_
  refine lv_bipush (pc := 1523) (v := 109) hx hb dC_Mod_init_1523 (by decide) ?_
  refine lv_bipush (pc := 1525) (v := 35) hx hb dC_Mod_init_1525 (by decide) ?_
  refine x_stB (pc := 1527) C hW (i := 109) (x := 35) (by decide) (by decide) (by decide) dC_Mod_init_1527 (fun H locs hW => ?_)
  refine lv_dup (pc := 1528) hx hb dC_Mod_init_1528 rfl ?_
  refine lv_bipush (pc := 1529) (v := 110) hx hb dC_Mod_init_1529 (by decide) ?_
  refine lv_bipush (pc := 1531) (v := 36) hx hb dC_Mod_init_1531 (by decide) ?_
  refine x_stB (pc := 1533) C hW (i := 110) (x := 36) (by decide) (by decide) (by decide) dC_Mod_init_1533 (fun H locs hW => ?_)
  refine lv_dup (pc := 1534) hx hb dC_Mod_init_1534 rfl ?_
  refine lv_bipush (pc := 1535) (v := 111) hx hb dC_Mod_init_1535 (by decide) ?_
  refine lv_bipush (pc := 1537) (v := 36) hx hb dC_Mod_init_1537 (by decide) ?_
  refine x_stB (pc := 1539) C hW (i := 111) (x := 36) (by decide) (by decide) (by decide) dC_Mod_init_1539 (fun H locs hW => ?_)
  exact kk _ _ hW
set_option maxHeartbeats 4000000 in
set_option maxRecDepth 100000 in
theorem bJ_shapes_112 (C : CxC RM p s m args meth c cC_Mod_init 1 none D dA z A) {a : Nat} {ls : Array Slot} {rest : List Value} (H : Heap) (locs : List Loc) (hW : WdC D A s (Ws ++ [[(a, .inl (dA 1, 128, .inl (stJ M_shapes_l 0 112)))]]) H locs) (kk : ∀ (H1 : Heap) (locs1 : List Loc), WdC D A s (Ws ++ [[(a, .inl (dA 1, 128, .inl (stJ M_shapes_l 0 128)))]]) H1 locs1 → W p l e R s m args below meth c H1 locs1 cells slots Q (F0 m 1636 ls (.ref a :: rest))) : W p l e R s m args below meth c H locs cells slots Q (F0 m 1540 ls (.ref a :: rest)) := by
  have hx := C.1.1
  have hb := C.1.2.1
  have hown := C.1.2.2.2.2.1
  have hT := C.1.2.2.2.2.2.1
  refine lv_dup (pc := 1540) hx hb dC_Mod_init_1540 rfl ?_
  refine lv_bipush (pc := 1541) (v := 112) hx hb dC_Mod_init_1541 (by decide) ?_
  refine lv_bipush (pc := 1543) (v := 37) hx hb dC_Mod_init_1543 (by decide) ?_
  refine x_stB (pc := 1545) C hW (i := 112) (x := 37) (by decide) (by decide) (by decide) dC_Mod_init_1545 (fun H locs hW => ?_)
  refine lv_dup (pc := 1546) hx hb dC_Mod_init_1546 rfl ?_
  refine lv_bipush (pc := 1547) (v := 113) hx hb dC_Mod_init_1547 (by decide) ?_
  refine lv_bipush (pc := 1549) (v := 37) hx hb dC_Mod_init_1549 (by decide) ?_
  refine x_stB (pc := 1551) C hW (i := 113) (x := 37) (by decide) (by decide) (by decide) dC_Mod_init_1551 (fun H locs hW => ?_)
  refine lv_dup (pc := 1552) hx hb dC_Mod_init_1552 rfl ?_
  refine lv_bipush (pc := 1553) (v := 114) hx hb dC_Mod_init_1553 (by decide) ?_
  refine lv_bipush (pc := 1555) (v := 37) hx hb dC_Mod_init_1555 (by decide) ?_
  refine x_stB (pc := 1557) C hW (i := 114) (x := 37) (by decide) (by decide) (by decide) dC_Mod_init_1557 (fun H locs hW => ?_)
  refine lv_dup (pc := 1558) hx hb dC_Mod_init_1558 rfl ?_
  refine lv_bipush (pc := 1559) (v := 115) hx hb dC_Mod_init_1559 (by decide) ?_
  refine lv_bipush (pc := 1561) (v := 37) hx hb dC_Mod_init_1561 (by decide) ?_
  refine x_stB (pc := 1563) C hW (i := 115) (x := 37) (by decide) (by decide) (by decide) dC_Mod_init_1563 (fun H locs hW => ?_)
  refine lv_dup (pc := 1564) hx hb dC_Mod_init_1564 rfl ?_
  refine lv_bipush (pc := 1565) (v := 116) hx hb dC_Mod_init_1565 (by decide) ?_
  refine lv_bipush (pc := 1567) (v := 38) hx hb dC_Mod_init_1567 (by decide) ?_
  refine x_stB (pc := 1569) C hW (i := 116) (x := 38) (by decide) (by decide) (by decide) dC_Mod_init_1569 (fun H locs hW => ?_)
  refine lv_dup (pc := 1570) hx hb dC_Mod_init_1570 rfl ?_
  refine lv_bipush (pc := 1571) (v := 117) hx hb dC_Mod_init_1571 (by decide) ?_
  refine lv_bipush (pc := 1573) (v := 39) hx hb dC_Mod_init_1573 (by decide) ?_
  refine x_stB (pc := 1575) C hW (i := 117) (x := 39) (by decide) (by decide) (by decide) dC_Mod_init_1575 (fun H locs hW => ?_)
  refine lv_dup (pc := 1576) hx hb dC_Mod_init_1576 rfl ?_
  refine lv_bipush (pc := 1577) (v := 118) hx hb dC_Mod_init_1577 (by decide) ?_
  refine lv_bipush (pc := 1579) (v := 40) hx hb dC_Mod_init_1579 (by decide) ?_
  refine x_stB (pc := 1581) C hW (i := 118) (x := 40) (by decide) (by decide) (by decide) dC_Mod_init_1581 (fun H locs hW => ?_)
  refine lv_dup (pc := 1582) hx hb dC_Mod_init_1582 rfl ?_
  refine lv_bipush (pc := 1583) (v := 119) hx hb dC_Mod_init_1583 (by decide) ?_
  refine lv_bipush (pc := 1585) (v := 41) hx hb dC_Mod_init_1585 (by decide) ?_
  refine x_stB (pc := 1587) C hW (i := 119) (x := 41) (by decide) (by decide) (by decide) dC_Mod_init_1587 (fun H locs hW => ?_)
  refine lv_dup (pc := 1588) hx hb dC_Mod_init_1588 rfl ?_
  refine lv_bipush (pc := 1589) (v := 120) hx hb dC_Mod_init_1589 (by decide) ?_
  refine lv_bipush (pc := 1591) (v := 42) hx hb dC_Mod_init_1591 (by decide) ?_
  refine x_stB (pc := 1593) C hW (i := 120) (x := 42) (by decide) (by decide) (by decide) dC_Mod_init_1593 (fun H locs hW => ?_)
  refine lv_dup (pc := 1594) hx hb dC_Mod_init_1594 rfl ?_
  refine lv_bipush (pc := 1595) (v := 121) hx hb dC_Mod_init_1595 (by decide) ?_
  refine lv_bipush (pc := 1597) (v := 43) hx hb dC_Mod_init_1597 (by decide) ?_
  refine x_stB (pc := 1599) C hW (i := 121) (x := 43) (by decide) (by decide) (by decide) dC_Mod_init_1599 (fun H locs hW => ?_)
  refine lv_dup (pc := 1600) hx hb dC_Mod_init_1600 rfl ?_
  refine lv_bipush (pc := 1601) (v := 122) hx hb dC_Mod_init_1601 (by decide) ?_
  refine lv_bipush (pc := 1603) (v := 44) hx hb dC_Mod_init_1603 (by decide) ?_
  refine x_stB (pc := 1605) C hW (i := 122) (x := 44) (by decide) (by decide) (by decide) dC_Mod_init_1605 (fun H locs hW => ?_)
  refine lv_dup (pc := 1606) hx hb dC_Mod_init_1606 rfl ?_
  refine lv_bipush (pc := 1607) (v := 123) hx hb dC_Mod_init_1607 (by decide) ?_
  refine lv_bipush (pc := 1609) (v := 45) hx hb dC_Mod_init_1609 (by decide) ?_
  refine x_stB (pc := 1611) C hW (i := 123) (x := 45) (by decide) (by decide) (by decide) dC_Mod_init_1611 (fun H locs hW => ?_)
  refine lv_dup (pc := 1612) hx hb dC_Mod_init_1612 rfl ?_
  refine lv_bipush (pc := 1613) (v := 124) hx hb dC_Mod_init_1613 (by decide) ?_
  refine lv_bipush (pc := 1615) (v := 46) hx hb dC_Mod_init_1615 (by decide) ?_
  refine x_stB (pc := 1617) C hW (i := 124) (x := 46) (by decide) (by decide) (by decide) dC_Mod_init_1617 (fun H locs hW => ?_)
  refine lv_dup (pc := 1618) hx hb dC_Mod_init_1618 rfl ?_
  refine lv_bipush (pc := 1619) (v := 125) hx hb dC_Mod_init_1619 (by decide) ?_
  refine lv_bipush (pc := 1621) (v := 47) hx hb dC_Mod_init_1621 (by decide) ?_
  refine x_stB (pc := 1623) C hW (i := 125) (x := 47) (by decide) (by decide) (by decide) dC_Mod_init_1623 (fun H locs hW => ?_)
  refine lv_dup (pc := 1624) hx hb dC_Mod_init_1624 rfl ?_
  refine lv_bipush (pc := 1625) (v := 126) hx hb dC_Mod_init_1625 (by decide) ?_
  refine lv_bipush (pc := 1627) (v := 48) hx hb dC_Mod_init_1627 (by decide) ?_
  refine x_stB (pc := 1629) C hW (i := 126) (x := 48) (by decide) (by decide) (by decide) dC_Mod_init_1629 (fun H locs hW => ?_)
  refine lv_dup (pc := 1630) hx hb dC_Mod_init_1630 rfl ?_
  refine lv_bipush (pc := 1631) (v := 127) hx hb dC_Mod_init_1631 (by decide) ?_
  refine lv_bipush (pc := 1633) (v := 49) hx hb dC_Mod_init_1633 (by decide) ?_
  refine x_stB (pc := 1635) C hW (i := 127) (x := 49) (by decide) (by decide) (by decide) dC_Mod_init_1635 (fun H locs hW => ?_)
  exact kk _ _ hW
set_option maxHeartbeats 4000000 in
set_option maxRecDepth 100000 in
theorem bJ_patterns_0 (C : CxC RM p s m args meth c cC_Mod_init 1 none D dA z A) {a : Nat} {ls : Array Slot} {rest : List Value} (H : Heap) (locs : List Loc) (hW : WdC D A s (Ws ++ [[(a, .inl (dA 2, 128, .inl (stJ M_patterns_l 0 0)))]]) H locs) (kk : ∀ (H1 : Heap) (locs1 : List Loc), WdC D A s (Ws ++ [[(a, .inl (dA 2, 128, .inl (stJ M_patterns_l 0 16)))]]) H1 locs1 → W p l e R s m args below meth c H1 locs1 cells slots Q (F0 m 1750 ls (.ref a :: rest))) : W p l e R s m args below meth c H locs cells slots Q (F0 m 1645 ls (.ref a :: rest)) := by
  have hx := C.1.1
  have hb := C.1.2.1
  have hown := C.1.2.2.2.2.1
  have hT := C.1.2.2.2.2.2.1
  refine lv_dup (pc := 1645) hx hb dC_Mod_init_1645 rfl ?_
  refine lv_iconst (pc := 1646) (v := 0) hx hb dC_Mod_init_1646 (by decide) ?_
  refine lv_bipush (pc := 1647) (v := 51) hx hb dC_Mod_init_1647 (by decide) ?_
  refine x_stK (pc := 1649) C hW (i := 0) (x := 51) (by decide) (by decide) (by decide) dC_Mod_init_1649 (fun H locs hW => ?_)
  refine lv_dup (pc := 1650) hx hb dC_Mod_init_1650 rfl ?_
  refine lv_iconst (pc := 1651) (v := 1) hx hb dC_Mod_init_1651 (by decide) ?_
  refine lv_ldcw (pc := 1652) (v := 1073741875) hx hb hown (hT _ qc_1611) dC_Mod_init_1652 ?_
  refine x_stK (pc := 1655) C hW (i := 1) (x := 1073741875) (by decide) (by decide) (by decide) dC_Mod_init_1655 (fun H locs hW => ?_)
  refine lv_dup (pc := 1656) hx hb dC_Mod_init_1656 rfl ?_
  refine lv_iconst (pc := 1657) (v := 2) hx hb dC_Mod_init_1657 (by decide) ?_
  refine lv_sipush (pc := 1658) (v := 4147) hx hb dC_Mod_init_1658 (by decide) ?_
  refine x_stK (pc := 1661) C hW (i := 2) (x := 4147) (by decide) (by decide) (by decide) dC_Mod_init_1661 (fun H locs hW => ?_)
  refine lv_dup (pc := 1662) hx hb dC_Mod_init_1662 rfl ?_
  refine lv_iconst (pc := 1663) (v := 3) hx hb dC_Mod_init_1663 (by decide) ?_
  refine lv_sipush (pc := 1664) (v := 8243) hx hb dC_Mod_init_1664 (by decide) ?_
  refine x_stK (pc := 1667) C hW (i := 3) (x := 8243) (by decide) (by decide) (by decide) dC_Mod_init_1667 (fun H locs hW => ?_)
  refine lv_dup (pc := 1668) hx hb dC_Mod_init_1668 rfl ?_
  refine lv_iconst (pc := 1669) (v := 4) hx hb dC_Mod_init_1669 (by decide) ?_
  refine lv_sipush (pc := 1670) (v := 12339) hx hb dC_Mod_init_1670 (by decide) ?_
  refine x_stK (pc := 1673) C hW (i := 4) (x := 12339) (by decide) (by decide) (by decide) dC_Mod_init_1673 (fun H locs hW => ?_)
  refine lv_dup (pc := 1674) hx hb dC_Mod_init_1674 rfl ?_
  refine lv_iconst (pc := 1675) (v := 5) hx hb dC_Mod_init_1675 (by decide) ?_
  refine lv_sipush (pc := 1676) (v := 16435) hx hb dC_Mod_init_1676 (by decide) ?_
  refine x_stK (pc := 1679) C hW (i := 5) (x := 16435) (by decide) (by decide) (by decide) dC_Mod_init_1679 (fun H locs hW => ?_)
  refine lv_dup (pc := 1680) hx hb dC_Mod_init_1680 rfl ?_
  refine lv_bipush (pc := 1681) (v := 6) hx hb dC_Mod_init_1681 (by decide) ?_
  refine lv_sipush (pc := 1683) (v := 20531) hx hb dC_Mod_init_1683 (by decide) ?_
  refine x_stK (pc := 1686) C hW (i := 6) (x := 20531) (by decide) (by decide) (by decide) dC_Mod_init_1686 (fun H locs hW => ?_)
  refine lv_dup (pc := 1687) hx hb dC_Mod_init_1687 rfl ?_
  refine lv_bipush (pc := 1688) (v := 7) hx hb dC_Mod_init_1688 (by decide) ?_
  refine lv_ldcw (pc := 1690) (v := 1073762355) hx hb hown (hT _ qc_1612) dC_Mod_init_1690 ?_
  refine x_stK (pc := 1693) C hW (i := 7) (x := 1073762355) (by decide) (by decide) (by decide) dC_Mod_init_1693 (fun H locs hW => ?_)
  refine lv_dup (pc := 1694) hx hb dC_Mod_init_1694 rfl ?_
  refine lv_bipush (pc := 1695) (v := 8) hx hb dC_Mod_init_1695 (by decide) ?_
  refine lv_sipush (pc := 1697) (v := 24627) hx hb dC_Mod_init_1697 (by decide) ?_
  refine x_stK (pc := 1700) C hW (i := 8) (x := 24627) (by decide) (by decide) (by decide) dC_Mod_init_1700 (fun H locs hW => ?_)
  refine lv_dup (pc := 1701) hx hb dC_Mod_init_1701 rfl ?_
  refine lv_bipush (pc := 1702) (v := 9) hx hb dC_Mod_init_1702 (by decide) ?_
  refine lv_sipush (pc := 1704) (v := 28723) hx hb dC_Mod_init_1704 (by decide) ?_
  refine x_stK (pc := 1707) C hW (i := 9) (x := 28723) (by decide) (by decide) (by decide) dC_Mod_init_1707 (fun H locs hW => ?_)
  refine lv_dup (pc := 1708) hx hb dC_Mod_init_1708 rfl ?_
  refine lv_bipush (pc := 1709) (v := 10) hx hb dC_Mod_init_1709 (by decide) ?_
  refine lv_ldcw (pc := 1711) (v := 33554483) hx hb hown (hT _ qc_1613) dC_Mod_init_1711 ?_
  refine x_stK (pc := 1714) C hW (i := 10) (x := 33554483) (by decide) (by decide) (by decide) dC_Mod_init_1714 (fun H locs hW => ?_)
  refine lv_dup (pc := 1715) hx hb dC_Mod_init_1715 rfl ?_
  refine lv_bipush (pc := 1716) (v := 11) hx hb dC_Mod_init_1716 (by decide) ?_
  refine lv_ldcw (pc := 1718) (v := 33558579) hx hb hown (hT _ qc_1614) dC_Mod_init_1718 ?_
  refine x_stK (pc := 1721) C hW (i := 11) (x := 33558579) (by decide) (by decide) (by decide) dC_Mod_init_1721 (fun H locs hW => ?_)
  refine lv_dup (pc := 1722) hx hb dC_Mod_init_1722 rfl ?_
  refine lv_bipush (pc := 1723) (v := 12) hx hb dC_Mod_init_1723 (by decide) ?_
  refine lv_ldcw (pc := 1725) (v := 33562675) hx hb hown (hT _ qc_1615) dC_Mod_init_1725 ?_
  refine x_stK (pc := 1728) C hW (i := 12) (x := 33562675) (by decide) (by decide) (by decide) dC_Mod_init_1728 (fun H locs hW => ?_)
  refine lv_dup (pc := 1729) hx hb dC_Mod_init_1729 rfl ?_
  refine lv_bipush (pc := 1730) (v := 13) hx hb dC_Mod_init_1730 (by decide) ?_
  refine lv_ldcw (pc := 1732) (v := 33566771) hx hb hown (hT _ qc_1616) dC_Mod_init_1732 ?_
  refine x_stK (pc := 1735) C hW (i := 13) (x := 33566771) (by decide) (by decide) (by decide) dC_Mod_init_1735 (fun H locs hW => ?_)
  refine lv_dup (pc := 1736) hx hb dC_Mod_init_1736 rfl ?_
  refine lv_bipush (pc := 1737) (v := 14) hx hb dC_Mod_init_1737 (by decide) ?_
  refine lv_ldcw (pc := 1739) (v := 33570867) hx hb hown (hT _ qc_1617) dC_Mod_init_1739 ?_
  refine x_stK (pc := 1742) C hW (i := 14) (x := 33570867) (by decide) (by decide) (by decide) dC_Mod_init_1742 (fun H locs hW => ?_)
  refine lv_dup (pc := 1743) hx hb dC_Mod_init_1743 rfl ?_
  refine lv_bipush (pc := 1744) (v := 15) hx hb dC_Mod_init_1744 (by decide) ?_
  refine lv_ldcw (pc := 1746) (v := 33574963) hx hb hown (hT _ qc_1618) dC_Mod_init_1746 ?_
  refine x_stK (pc := 1749) C hW (i := 15) (x := 33574963) (by decide) (by decide) (by decide) dC_Mod_init_1749 (fun H locs hW => ?_)
  exact kk _ _ hW
set_option maxHeartbeats 4000000 in
set_option maxRecDepth 100000 in
theorem bJ_patterns_16 (C : CxC RM p s m args meth c cC_Mod_init 1 none D dA z A) {a : Nat} {ls : Array Slot} {rest : List Value} (H : Heap) (locs : List Loc) (hW : WdC D A s (Ws ++ [[(a, .inl (dA 2, 128, .inl (stJ M_patterns_l 0 16)))]]) H locs) (kk : ∀ (H1 : Heap) (locs1 : List Loc), WdC D A s (Ws ++ [[(a, .inl (dA 2, 128, .inl (stJ M_patterns_l 0 32)))]]) H1 locs1 → W p l e R s m args below meth c H1 locs1 cells slots Q (F0 m 1859 ls (.ref a :: rest))) : W p l e R s m args below meth c H locs cells slots Q (F0 m 1750 ls (.ref a :: rest)) := by
  have hx := C.1.1
  have hb := C.1.2.1
  have hown := C.1.2.2.2.2.1
  have hT := C.1.2.2.2.2.2.1
  refine lv_dup (pc := 1750) hx hb dC_Mod_init_1750 rfl ?_
  refine lv_bipush (pc := 1751) (v := 16) hx hb dC_Mod_init_1751 (by decide) ?_
  refine lv_ldcw (pc := 1753) (v := 33579059) hx hb hown (hT _ qc_1619) dC_Mod_init_1753 ?_
  refine x_stK (pc := 1756) C hW (i := 16) (x := 33579059) (by decide) (by decide) (by decide) dC_Mod_init_1756 (fun H locs hW => ?_)
  refine lv_dup (pc := 1757) hx hb dC_Mod_init_1757 rfl ?_
  refine lv_bipush (pc := 1758) (v := 17) hx hb dC_Mod_init_1758 (by decide) ?_
  refine lv_ldcw (pc := 1760) (v := 33583155) hx hb hown (hT _ qc_1620) dC_Mod_init_1760 ?_
  refine x_stK (pc := 1763) C hW (i := 17) (x := 33583155) (by decide) (by decide) (by decide) dC_Mod_init_1763 (fun H locs hW => ?_)
  refine lv_dup (pc := 1764) hx hb dC_Mod_init_1764 rfl ?_
  refine lv_bipush (pc := 1765) (v := 18) hx hb dC_Mod_init_1765 (by decide) ?_
  refine lv_bipush (pc := 1767) (v := 19) hx hb dC_Mod_init_1767 (by decide) ?_
  refine x_stK (pc := 1769) C hW (i := 18) (x := 19) (by decide) (by decide) (by decide) dC_Mod_init_1769 (fun H locs hW => ?_)
  refine lv_dup (pc := 1770) hx hb dC_Mod_init_1770 rfl ?_
  refine lv_bipush (pc := 1771) (v := 19) hx hb dC_Mod_init_1771 (by decide) ?_
  refine lv_sipush (pc := 1773) (v := 8211) hx hb dC_Mod_init_1773 (by decide) ?_
  refine x_stK (pc := 1776) C hW (i := 19) (x := 8211) (by decide) (by decide) (by decide) dC_Mod_init_1776 (fun H locs hW => ?_)
  refine lv_dup (pc := 1777) hx hb dC_Mod_init_1777 rfl ?_
  refine lv_bipush (pc := 1778) (v := 20) hx hb dC_Mod_init_1778 (by decide) ?_
  refine lv_sipush (pc := 1780) (v := 12307) hx hb dC_Mod_init_1780 (by decide) ?_
  refine x_stK (pc := 1783) C hW (i := 20) (x := 12307) (by decide) (by decide) (by decide) dC_Mod_init_1783 (fun H locs hW => ?_)
  refine lv_dup (pc := 1784) hx hb dC_Mod_init_1784 rfl ?_
  refine lv_bipush (pc := 1785) (v := 21) hx hb dC_Mod_init_1785 (by decide) ?_
  refine lv_sipush (pc := 1787) (v := 16403) hx hb dC_Mod_init_1787 (by decide) ?_
  refine x_stK (pc := 1790) C hW (i := 21) (x := 16403) (by decide) (by decide) (by decide) dC_Mod_init_1790 (fun H locs hW => ?_)
  refine lv_dup (pc := 1791) hx hb dC_Mod_init_1791 rfl ?_
  refine lv_bipush (pc := 1792) (v := 22) hx hb dC_Mod_init_1792 (by decide) ?_
  refine lv_sipush (pc := 1794) (v := 24595) hx hb dC_Mod_init_1794 (by decide) ?_
  refine x_stK (pc := 1797) C hW (i := 22) (x := 24595) (by decide) (by decide) (by decide) dC_Mod_init_1797 (fun H locs hW => ?_)
  refine lv_dup (pc := 1798) hx hb dC_Mod_init_1798 rfl ?_
  refine lv_bipush (pc := 1799) (v := 23) hx hb dC_Mod_init_1799 (by decide) ?_
  refine lv_sipush (pc := 1801) (v := 28691) hx hb dC_Mod_init_1801 (by decide) ?_
  refine x_stK (pc := 1804) C hW (i := 23) (x := 28691) (by decide) (by decide) (by decide) dC_Mod_init_1804 (fun H locs hW => ?_)
  refine lv_dup (pc := 1805) hx hb dC_Mod_init_1805 rfl ?_
  refine lv_bipush (pc := 1806) (v := 24) hx hb dC_Mod_init_1806 (by decide) ?_
  refine lv_sipush (pc := 1808) (v := 4115) hx hb dC_Mod_init_1808 (by decide) ?_
  refine x_stK (pc := 1811) C hW (i := 24) (x := 4115) (by decide) (by decide) (by decide) dC_Mod_init_1811 (fun H locs hW => ?_)
  refine lv_dup (pc := 1812) hx hb dC_Mod_init_1812 rfl ?_
  refine lv_bipush (pc := 1813) (v := 25) hx hb dC_Mod_init_1813 (by decide) ?_
  refine lv_sipush (pc := 1815) (v := 20499) hx hb dC_Mod_init_1815 (by decide) ?_
  refine x_stK (pc := 1818) C hW (i := 25) (x := 20499) (by decide) (by decide) (by decide) dC_Mod_init_1818 (fun H locs hW => ?_)
  refine lv_dup (pc := 1819) hx hb dC_Mod_init_1819 rfl ?_
  refine lv_bipush (pc := 1820) (v := 26) hx hb dC_Mod_init_1820 (by decide) ?_
  refine lv_ldcw (pc := 1822) (v := 1073762323) hx hb hown (hT _ qc_1621) dC_Mod_init_1822 ?_
  refine x_stK (pc := 1825) C hW (i := 26) (x := 1073762323) (by decide) (by decide) (by decide) dC_Mod_init_1825 (fun H locs hW => ?_)
  refine lv_dup (pc := 1826) hx hb dC_Mod_init_1826 rfl ?_
  refine lv_bipush (pc := 1827) (v := 27) hx hb dC_Mod_init_1827 (by decide) ?_
  refine lv_iconst (pc := 1829) (v := 3) hx hb dC_Mod_init_1829 (by decide) ?_
  refine x_stK (pc := 1830) C hW (i := 27) (x := 3) (by decide) (by decide) (by decide) dC_Mod_init_1830 (fun H locs hW => ?_)
  refine lv_dup (pc := 1831) hx hb dC_Mod_init_1831 rfl ?_
  refine lv_bipush (pc := 1832) (v := 28) hx hb dC_Mod_init_1832 (by decide) ?_
  refine lv_sipush (pc := 1834) (v := 4099) hx hb dC_Mod_init_1834 (by decide) ?_
  refine x_stK (pc := 1837) C hW (i := 28) (x := 4099) (by decide) (by decide) (by decide) dC_Mod_init_1837 (fun H locs hW => ?_)
  refine lv_dup (pc := 1838) hx hb dC_Mod_init_1838 rfl ?_
  refine lv_bipush (pc := 1839) (v := 29) hx hb dC_Mod_init_1839 (by decide) ?_
  refine lv_sipush (pc := 1841) (v := 8195) hx hb dC_Mod_init_1841 (by decide) ?_
  refine x_stK (pc := 1844) C hW (i := 29) (x := 8195) (by decide) (by decide) (by decide) dC_Mod_init_1844 (fun H locs hW => ?_)
  refine lv_dup (pc := 1845) hx hb dC_Mod_init_1845 rfl ?_
  refine lv_bipush (pc := 1846) (v := 30) hx hb dC_Mod_init_1846 (by decide) ?_
  refine lv_sipush (pc := 1848) (v := 16387) hx hb dC_Mod_init_1848 (by decide) ?_
  refine x_stK (pc := 1851) C hW (i := 30) (x := 16387) (by decide) (by decide) (by decide) dC_Mod_init_1851 (fun H locs hW => ?_)
  refine lv_dup (pc := 1852) hx hb dC_Mod_init_1852 rfl ?_
  refine lv_bipush (pc := 1853) (v := 31) hx hb dC_Mod_init_1853 (by decide) ?_
  refine lv_sipush (pc := 1855) (v := 20483) hx hb dC_Mod_init_1855 (by decide) ?_
  refine x_stK (pc := 1858) C hW (i := 31) (x := 20483) (by decide) (by decide) (by decide) dC_Mod_init_1858 (fun H locs hW => ?_)
  exact kk _ _ hW
set_option maxHeartbeats 4000000 in
set_option maxRecDepth 100000 in
theorem bJ_patterns_32 (C : CxC RM p s m args meth c cC_Mod_init 1 none D dA z A) {a : Nat} {ls : Array Slot} {rest : List Value} (H : Heap) (locs : List Loc) (hW : WdC D A s (Ws ++ [[(a, .inl (dA 2, 128, .inl (stJ M_patterns_l 0 32)))]]) H locs) (kk : ∀ (H1 : Heap) (locs1 : List Loc), WdC D A s (Ws ++ [[(a, .inl (dA 2, 128, .inl (stJ M_patterns_l 0 48)))]]) H1 locs1 → W p l e R s m args below meth c H1 locs1 cells slots Q (F0 m 1965 ls (.ref a :: rest))) : W p l e R s m args below meth c H locs cells slots Q (F0 m 1859 ls (.ref a :: rest)) := by
  have hx := C.1.1
  have hb := C.1.2.1
  have hown := C.1.2.2.2.2.1
  have hT := C.1.2.2.2.2.2.1
  refine lv_dup (pc := 1859) hx hb dC_Mod_init_1859 rfl ?_
  refine lv_bipush (pc := 1860) (v := 32) hx hb dC_Mod_init_1860 (by decide) ?_
  refine lv_bipush (pc := 1862) (v := 103) hx hb dC_Mod_init_1862 (by decide) ?_
  refine x_stK (pc := 1864) C hW (i := 32) (x := 103) (by decide) (by decide) (by decide) dC_Mod_init_1864 (fun H locs hW => ?_)
  refine lv_dup (pc := 1865) hx hb dC_Mod_init_1865 rfl ?_
  refine lv_bipush (pc := 1866) (v := 33) hx hb dC_Mod_init_1866 (by decide) ?_
  refine lv_bipush (pc := 1868) (v := 35) hx hb dC_Mod_init_1868 (by decide) ?_
  refine x_stK (pc := 1870) C hW (i := 33) (x := 35) (by decide) (by decide) (by decide) dC_Mod_init_1870 (fun H locs hW => ?_)
  refine lv_dup (pc := 1871) hx hb dC_Mod_init_1871 rfl ?_
  refine lv_bipush (pc := 1872) (v := 34) hx hb dC_Mod_init_1872 (by decide) ?_
  refine lv_sipush (pc := 1874) (v := 4131) hx hb dC_Mod_init_1874 (by decide) ?_
  refine x_stK (pc := 1877) C hW (i := 34) (x := 4131) (by decide) (by decide) (by decide) dC_Mod_init_1877 (fun H locs hW => ?_)
  refine lv_dup (pc := 1878) hx hb dC_Mod_init_1878 rfl ?_
  refine lv_bipush (pc := 1879) (v := 35) hx hb dC_Mod_init_1879 (by decide) ?_
  refine lv_sipush (pc := 1881) (v := 8227) hx hb dC_Mod_init_1881 (by decide) ?_
  refine x_stK (pc := 1884) C hW (i := 35) (x := 8227) (by decide) (by decide) (by decide) dC_Mod_init_1884 (fun H locs hW => ?_)
  refine lv_dup (pc := 1885) hx hb dC_Mod_init_1885 rfl ?_
  refine lv_bipush (pc := 1886) (v := 36) hx hb dC_Mod_init_1886 (by decide) ?_
  refine lv_bipush (pc := 1888) (v := 55) hx hb dC_Mod_init_1888 (by decide) ?_
  refine x_stK (pc := 1890) C hW (i := 36) (x := 55) (by decide) (by decide) (by decide) dC_Mod_init_1890 (fun H locs hW => ?_)
  refine lv_dup (pc := 1891) hx hb dC_Mod_init_1891 rfl ?_
  refine lv_bipush (pc := 1892) (v := 37) hx hb dC_Mod_init_1892 (by decide) ?_
  refine lv_bipush (pc := 1894) (v := 23) hx hb dC_Mod_init_1894 (by decide) ?_
  refine x_stK (pc := 1896) C hW (i := 37) (x := 23) (by decide) (by decide) (by decide) dC_Mod_init_1896 (fun H locs hW => ?_)
  refine lv_dup (pc := 1897) hx hb dC_Mod_init_1897 rfl ?_
  refine lv_bipush (pc := 1898) (v := 38) hx hb dC_Mod_init_1898 (by decide) ?_
  refine lv_bipush (pc := 1900) (v := 99) hx hb dC_Mod_init_1900 (by decide) ?_
  refine x_stK (pc := 1902) C hW (i := 38) (x := 99) (by decide) (by decide) (by decide) dC_Mod_init_1902 (fun H locs hW => ?_)
  refine lv_dup (pc := 1903) hx hb dC_Mod_init_1903 rfl ?_
  refine lv_bipush (pc := 1904) (v := 39) hx hb dC_Mod_init_1904 (by decide) ?_
  refine lv_sipush (pc := 1906) (v := 4195) hx hb dC_Mod_init_1906 (by decide) ?_
  refine x_stK (pc := 1909) C hW (i := 39) (x := 4195) (by decide) (by decide) (by decide) dC_Mod_init_1909 (fun H locs hW => ?_)
  refine lv_dup (pc := 1910) hx hb dC_Mod_init_1910 rfl ?_
  refine lv_bipush (pc := 1911) (v := 40) hx hb dC_Mod_init_1911 (by decide) ?_
  refine lv_sipush (pc := 1913) (v := 16483) hx hb dC_Mod_init_1913 (by decide) ?_
  refine x_stK (pc := 1916) C hW (i := 40) (x := 16483) (by decide) (by decide) (by decide) dC_Mod_init_1916 (fun H locs hW => ?_)
  refine lv_dup (pc := 1917) hx hb dC_Mod_init_1917 rfl ?_
  refine lv_bipush (pc := 1918) (v := 41) hx hb dC_Mod_init_1918 (by decide) ?_
  refine lv_sipush (pc := 1920) (v := 20579) hx hb dC_Mod_init_1920 (by decide) ?_
  refine x_stK (pc := 1923) C hW (i := 41) (x := 20579) (by decide) (by decide) (by decide) dC_Mod_init_1923 (fun H locs hW => ?_)
  refine lv_dup (pc := 1924) hx hb dC_Mod_init_1924 rfl ?_
  refine lv_bipush (pc := 1925) (v := 42) hx hb dC_Mod_init_1925 (by decide) ?_
  refine lv_sipush (pc := 1927) (v := 24675) hx hb dC_Mod_init_1927 (by decide) ?_
  refine x_stK (pc := 1930) C hW (i := 42) (x := 24675) (by decide) (by decide) (by decide) dC_Mod_init_1930 (fun H locs hW => ?_)
  refine lv_dup (pc := 1931) hx hb dC_Mod_init_1931 rfl ?_
  refine lv_bipush (pc := 1932) (v := 43) hx hb dC_Mod_init_1932 (by decide) ?_
  refine lv_sipush (pc := 1934) (v := 28771) hx hb dC_Mod_init_1934 (by decide) ?_
  refine x_stK (pc := 1937) C hW (i := 43) (x := 28771) (by decide) (by decide) (by decide) dC_Mod_init_1937 (fun H locs hW => ?_)
  refine lv_dup (pc := 1938) hx hb dC_Mod_init_1938 rfl ?_
  refine lv_bipush (pc := 1939) (v := 44) hx hb dC_Mod_init_1939 (by decide) ?_
  refine lv_bipush (pc := 1941) (v := 111) hx hb dC_Mod_init_1941 (by decide) ?_
  refine x_stK (pc := 1943) C hW (i := 44) (x := 111) (by decide) (by decide) (by decide) dC_Mod_init_1943 (fun H locs hW => ?_)
  refine lv_dup (pc := 1944) hx hb dC_Mod_init_1944 rfl ?_
  refine lv_bipush (pc := 1945) (v := 45) hx hb dC_Mod_init_1945 (by decide) ?_
  refine lv_ldcw (pc := 1947) (v := 402661423) hx hb hown (hT _ qc_1622) dC_Mod_init_1947 ?_
  refine x_stK (pc := 1950) C hW (i := 45) (x := 402661423) (by decide) (by decide) (by decide) dC_Mod_init_1950 (fun H locs hW => ?_)
  refine lv_dup (pc := 1951) hx hb dC_Mod_init_1951 rfl ?_
  refine lv_bipush (pc := 1952) (v := 46) hx hb dC_Mod_init_1952 (by decide) ?_
  refine lv_ldcw (pc := 1954) (v := 134225967) hx hb hown (hT _ qc_1623) dC_Mod_init_1954 ?_
  refine x_stK (pc := 1957) C hW (i := 46) (x := 134225967) (by decide) (by decide) (by decide) dC_Mod_init_1957 (fun H locs hW => ?_)
  refine lv_dup (pc := 1958) hx hb dC_Mod_init_1958 rfl ?_
  refine lv_bipush (pc := 1959) (v := 47) hx hb dC_Mod_init_1959 (by decide) ?_
  refine lv_sipush (pc := 1961) (v := 8239) hx hb dC_Mod_init_1961 (by decide) ?_
  refine x_stK (pc := 1964) C hW (i := 47) (x := 8239) (by decide) (by decide) (by decide) dC_Mod_init_1964 (fun H locs hW => ?_)
  exact kk _ _ hW
set_option maxHeartbeats 4000000 in
set_option maxRecDepth 100000 in
theorem bJ_patterns_48 (C : CxC RM p s m args meth c cC_Mod_init 1 none D dA z A) {a : Nat} {ls : Array Slot} {rest : List Value} (H : Heap) (locs : List Loc) (hW : WdC D A s (Ws ++ [[(a, .inl (dA 2, 128, .inl (stJ M_patterns_l 0 48)))]]) H locs) (kk : ∀ (H1 : Heap) (locs1 : List Loc), WdC D A s (Ws ++ [[(a, .inl (dA 2, 128, .inl (stJ M_patterns_l 0 64)))]]) H1 locs1 → W p l e R s m args below meth c H1 locs1 cells slots Q (F0 m 2077 ls (.ref a :: rest))) : W p l e R s m args below meth c H locs cells slots Q (F0 m 1965 ls (.ref a :: rest)) := by
  have hx := C.1.1
  have hb := C.1.2.1
  have hown := C.1.2.2.2.2.1
  have hT := C.1.2.2.2.2.2.1
  refine lv_dup (pc := 1965) hx hb dC_Mod_init_1965 rfl ?_
  refine lv_bipush (pc := 1966) (v := 48) hx hb dC_Mod_init_1966 (by decide) ?_
  refine lv_ldcw (pc := 1968) (v := 536879151) hx hb hown (hT _ qc_1624) dC_Mod_init_1968 ?_
  refine x_stK (pc := 1971) C hW (i := 48) (x := 536879151) (by decide) (by decide) (by decide) dC_Mod_init_1971 (fun H locs hW => ?_)
  refine lv_dup (pc := 1972) hx hb dC_Mod_init_1972 rfl ?_
  refine lv_bipush (pc := 1973) (v := 49) hx hb dC_Mod_init_1973 (by decide) ?_
  refine lv_ldcw (pc := 1975) (v := 1610620975) hx hb hown (hT _ qc_1625) dC_Mod_init_1975 ?_
  refine x_stK (pc := 1978) C hW (i := 49) (x := 1610620975) (by decide) (by decide) (by decide) dC_Mod_init_1978 (fun H locs hW => ?_)
  refine lv_dup (pc := 1979) hx hb dC_Mod_init_1979 rfl ?_
  refine lv_bipush (pc := 1980) (v := 50) hx hb dC_Mod_init_1980 (by decide) ?_
  refine lv_ldcw (pc := 1982) (v := 1073750063) hx hb hown (hT _ qc_1626) dC_Mod_init_1982 ?_
  refine x_stK (pc := 1985) C hW (i := 50) (x := 1073750063) (by decide) (by decide) (by decide) dC_Mod_init_1985 (fun H locs hW => ?_)
  refine lv_dup (pc := 1986) hx hb dC_Mod_init_1986 rfl ?_
  refine lv_bipush (pc := 1987) (v := 51) hx hb dC_Mod_init_1987 (by decide) ?_
  refine lv_ldcw (pc := 1989) (v := -2147475409) hx hb hown (hT _ qc_1627) dC_Mod_init_1989 ?_
  refine x_stK (pc := 1992) C hW (i := 51) (x := -2147475409) (by decide) (by decide) (by decide) dC_Mod_init_1992 (fun H locs hW => ?_)
  refine lv_dup (pc := 1993) hx hb dC_Mod_init_1993 rfl ?_
  refine lv_bipush (pc := 1994) (v := 52) hx hb dC_Mod_init_1994 (by decide) ?_
  refine lv_ldcw (pc := 1996) (v := -1610604497) hx hb hown (hT _ qc_1628) dC_Mod_init_1996 ?_
  refine x_stK (pc := 1999) C hW (i := 52) (x := -1610604497) (by decide) (by decide) (by decide) dC_Mod_init_1999 (fun H locs hW => ?_)
  refine lv_dup (pc := 2000) hx hb dC_Mod_init_2000 rfl ?_
  refine lv_bipush (pc := 2001) (v := 53) hx hb dC_Mod_init_2001 (by decide) ?_
  refine lv_ldcw (pc := 2003) (v := -1073733585) hx hb hown (hT _ qc_1629) dC_Mod_init_2003 ?_
  refine x_stK (pc := 2006) C hW (i := 53) (x := -1073733585) (by decide) (by decide) (by decide) dC_Mod_init_2006 (fun H locs hW => ?_)
  refine lv_dup (pc := 2007) hx hb dC_Mod_init_2007 rfl ?_
  refine lv_bipush (pc := 2008) (v := 54) hx hb dC_Mod_init_2008 (by decide) ?_
  refine lv_ldcw (pc := 2010) (v := -536862673) hx hb hown (hT _ qc_1630) dC_Mod_init_2010 ?_
  refine x_stK (pc := 2013) C hW (i := 54) (x := -536862673) (by decide) (by decide) (by decide) dC_Mod_init_2013 (fun H locs hW => ?_)
  refine lv_dup (pc := 2014) hx hb dC_Mod_init_2014 rfl ?_
  refine lv_bipush (pc := 2015) (v := 55) hx hb dC_Mod_init_2015 (by decide) ?_
  refine lv_ldcw (pc := 2017) (v := 268443695) hx hb hown (hT _ qc_1631) dC_Mod_init_2017 ?_
  refine x_stK (pc := 2020) C hW (i := 55) (x := 268443695) (by decide) (by decide) (by decide) dC_Mod_init_2020 (fun H locs hW => ?_)
  refine lv_dup (pc := 2021) hx hb dC_Mod_init_2021 rfl ?_
  refine lv_bipush (pc := 2022) (v := 56) hx hb dC_Mod_init_2022 (by decide) ?_
  refine lv_ldcw (pc := 2024) (v := -1073733517) hx hb hown (hT _ qc_1632) dC_Mod_init_2024 ?_
  refine x_stK (pc := 2027) C hW (i := 56) (x := -1073733517) (by decide) (by decide) (by decide) dC_Mod_init_2027 (fun H locs hW => ?_)
  refine lv_dup (pc := 2028) hx hb dC_Mod_init_2028 rfl ?_
  refine lv_bipush (pc := 2029) (v := 57) hx hb dC_Mod_init_2029 (by decide) ?_
  refine lv_ldcw (pc := 2031) (v := -1072684941) hx hb hown (hT _ qc_1633) dC_Mod_init_2031 ?_
  refine x_stK (pc := 2034) C hW (i := 57) (x := -1072684941) (by decide) (by decide) (by decide) dC_Mod_init_2034 (fun H locs hW => ?_)
  refine lv_dup (pc := 2035) hx hb dC_Mod_init_2035 rfl ?_
  refine lv_bipush (pc := 2036) (v := 58) hx hb dC_Mod_init_2036 (by decide) ?_
  refine lv_ldcw (pc := 2038) (v := -1071636365) hx hb hown (hT _ qc_1634) dC_Mod_init_2038 ?_
  refine x_stK (pc := 2041) C hW (i := 58) (x := -1071636365) (by decide) (by decide) (by decide) dC_Mod_init_2041 (fun H locs hW => ?_)
  refine lv_dup (pc := 2042) hx hb dC_Mod_init_2042 rfl ?_
  refine lv_bipush (pc := 2043) (v := 59) hx hb dC_Mod_init_2043 (by decide) ?_
  refine lv_ldcw (pc := 2045) (v := -939515789) hx hb hown (hT _ qc_1635) dC_Mod_init_2045 ?_
  refine x_stK (pc := 2048) C hW (i := 59) (x := -939515789) (by decide) (by decide) (by decide) dC_Mod_init_2048 (fun H locs hW => ?_)
  refine lv_dup (pc := 2049) hx hb dC_Mod_init_2049 rfl ?_
  refine lv_bipush (pc := 2050) (v := 60) hx hb dC_Mod_init_2050 (by decide) ?_
  refine lv_ldcw (pc := 2052) (v := -938467213) hx hb hown (hT _ qc_1636) dC_Mod_init_2052 ?_
  refine x_stK (pc := 2055) C hW (i := 60) (x := -938467213) (by decide) (by decide) (by decide) dC_Mod_init_2055 (fun H locs hW => ?_)
  refine lv_dup (pc := 2056) hx hb dC_Mod_init_2056 rfl ?_
  refine lv_bipush (pc := 2057) (v := 61) hx hb dC_Mod_init_2057 (by decide) ?_
  refine lv_ldcw (pc := 2059) (v := -937418637) hx hb hown (hT _ qc_1637) dC_Mod_init_2059 ?_
  refine x_stK (pc := 2062) C hW (i := 61) (x := -937418637) (by decide) (by decide) (by decide) dC_Mod_init_2062 (fun H locs hW => ?_)
  refine lv_dup (pc := 2063) hx hb dC_Mod_init_2063 rfl ?_
  refine lv_bipush (pc := 2064) (v := 62) hx hb dC_Mod_init_2064 (by decide) ?_
  refine lv_ldcw (pc := 2066) (v := 267386895) hx hb hown (hT _ qc_1638) dC_Mod_init_2066 ?_
  refine x_stK (pc := 2069) C hW (i := 62) (x := 267386895) (by decide) (by decide) (by decide) dC_Mod_init_2069 (fun H locs hW => ?_)
  refine lv_dup (pc := 2070) hx hb dC_Mod_init_2070 rfl ?_
  refine lv_bipush (pc := 2071) (v := 63) hx hb dC_Mod_init_2071 (by decide) ?_
  refine lv_sipush (pc := 2073) (v := 4111) hx hb dC_Mod_init_2073 (by decide) ?_
  refine x_stK (pc := 2076) C hW (i := 63) (x := 4111) (by decide) (by decide) (by decide) dC_Mod_init_2076 (fun H locs hW => ?_)
  exact kk _ _ hW
set_option maxHeartbeats 4000000 in
set_option maxRecDepth 100000 in
theorem bJ_patterns_64 (C : CxC RM p s m args meth c cC_Mod_init 1 none D dA z A) {a : Nat} {ls : Array Slot} {rest : List Value} (H : Heap) (locs : List Loc) (hW : WdC D A s (Ws ++ [[(a, .inl (dA 2, 128, .inl (stJ M_patterns_l 0 64)))]]) H locs) (kk : ∀ (H1 : Heap) (locs1 : List Loc), WdC D A s (Ws ++ [[(a, .inl (dA 2, 128, .inl (stJ M_patterns_l 0 80)))]]) H1 locs1 → W p l e R s m args below meth c H1 locs1 cells slots Q (F0 m 2181 ls (.ref a :: rest))) : W p l e R s m args below meth c H locs cells slots Q (F0 m 2077 ls (.ref a :: rest)) := by
  have hx := C.1.1
  have hb := C.1.2.1
  have hown := C.1.2.2.2.2.1
  have hT := C.1.2.2.2.2.2.1
  refine lv_dup (pc := 2077) hx hb dC_Mod_init_2077 rfl ?_
  refine lv_bipush (pc := 2078) (v := 64) hx hb dC_Mod_init_2078 (by decide) ?_
  refine lv_bipush (pc := 2080) (v := 115) hx hb dC_Mod_init_2080 (by decide) ?_
  refine x_stK (pc := 2082) C hW (i := 64) (x := 115) (by decide) (by decide) (by decide) dC_Mod_init_2082 (fun H locs hW => ?_)
  refine lv_dup (pc := 2083) hx hb dC_Mod_init_2083 rfl ?_
  refine lv_bipush (pc := 2084) (v := 65) hx hb dC_Mod_init_2084 (by decide) ?_
  refine lv_ldcw (pc := 2086) (v := 1048691) hx hb hown (hT _ qc_1639) dC_Mod_init_2086 ?_
  refine x_stK (pc := 2089) C hW (i := 65) (x := 1048691) (by decide) (by decide) (by decide) dC_Mod_init_2089 (fun H locs hW => ?_)
  refine lv_dup (pc := 2090) hx hb dC_Mod_init_2090 rfl ?_
  refine lv_bipush (pc := 2091) (v := 66) hx hb dC_Mod_init_2091 (by decide) ?_
  refine lv_bipush (pc := 2093) (v := 19) hx hb dC_Mod_init_2093 (by decide) ?_
  refine x_stK (pc := 2095) C hW (i := 66) (x := 19) (by decide) (by decide) (by decide) dC_Mod_init_2095 (fun H locs hW => ?_)
  refine lv_dup (pc := 2096) hx hb dC_Mod_init_2096 rfl ?_
  refine lv_bipush (pc := 2097) (v := 67) hx hb dC_Mod_init_2097 (by decide) ?_
  refine lv_ldcw (pc := 2099) (v := 32871) hx hb hown (hT _ qc_1640) dC_Mod_init_2099 ?_
  refine x_stK (pc := 2102) C hW (i := 67) (x := 32871) (by decide) (by decide) (by decide) dC_Mod_init_2102 (fun H locs hW => ?_)
  refine lv_dup (pc := 2103) hx hb dC_Mod_init_2103 rfl ?_
  refine lv_bipush (pc := 2104) (v := 68) hx hb dC_Mod_init_2104 (by decide) ?_
  refine lv_iconst (pc := 2106) (v := 0) hx hb dC_Mod_init_2106 (by decide) ?_
  refine x_stK (pc := 2107) C hW (i := 68) (x := 0) (by decide) (by decide) (by decide) dC_Mod_init_2107 (fun H locs hW => ?_)
  refine lv_dup (pc := 2108) hx hb dC_Mod_init_2108 rfl ?_
  refine lv_bipush (pc := 2109) (v := 69) hx hb dC_Mod_init_2109 (by decide) ?_
  refine lv_sipush (pc := 2111) (v := 16384) hx hb dC_Mod_init_2111 (by decide) ?_
  refine x_stK (pc := 2114) C hW (i := 69) (x := 16384) (by decide) (by decide) (by decide) dC_Mod_init_2114 (fun H locs hW => ?_)
  refine lv_dup (pc := 2115) hx hb dC_Mod_init_2115 rfl ?_
  refine lv_bipush (pc := 2116) (v := 70) hx hb dC_Mod_init_2116 (by decide) ?_
  refine lv_ldcw (pc := 2118) (v := 49152) hx hb hown (hT _ qc_1641) dC_Mod_init_2118 ?_
  refine x_stK (pc := 2121) C hW (i := 70) (x := 49152) (by decide) (by decide) (by decide) dC_Mod_init_2121 (fun H locs hW => ?_)
  refine lv_dup (pc := 2122) hx hb dC_Mod_init_2122 rfl ?_
  refine lv_bipush (pc := 2123) (v := 71) hx hb dC_Mod_init_2123 (by decide) ?_
  refine lv_iconst (pc := 2125) (v := 1) hx hb dC_Mod_init_2125 (by decide) ?_
  refine x_stK (pc := 2126) C hW (i := 71) (x := 1) (by decide) (by decide) (by decide) dC_Mod_init_2126 (fun H locs hW => ?_)
  refine lv_dup (pc := 2127) hx hb dC_Mod_init_2127 rfl ?_
  refine lv_bipush (pc := 2128) (v := 72) hx hb dC_Mod_init_2128 (by decide) ?_
  refine lv_ldcw (pc := 2130) (v := 36866) hx hb hown (hT _ qc_1642) dC_Mod_init_2130 ?_
  refine x_stK (pc := 2133) C hW (i := 72) (x := 36866) (by decide) (by decide) (by decide) dC_Mod_init_2133 (fun H locs hW => ?_)
  refine lv_dup (pc := 2134) hx hb dC_Mod_init_2134 rfl ?_
  refine lv_bipush (pc := 2135) (v := 73) hx hb dC_Mod_init_2135 (by decide) ?_
  refine lv_iconst (pc := 2137) (v := 1) hx hb dC_Mod_init_2137 (by decide) ?_
  refine x_stK (pc := 2138) C hW (i := 73) (x := 1) (by decide) (by decide) (by decide) dC_Mod_init_2138 (fun H locs hW => ?_)
  refine lv_dup (pc := 2139) hx hb dC_Mod_init_2139 rfl ?_
  refine lv_bipush (pc := 2140) (v := 74) hx hb dC_Mod_init_2140 (by decide) ?_
  refine lv_sipush (pc := 2142) (v := 16385) hx hb dC_Mod_init_2142 (by decide) ?_
  refine x_stK (pc := 2145) C hW (i := 74) (x := 16385) (by decide) (by decide) (by decide) dC_Mod_init_2145 (fun H locs hW => ?_)
  refine lv_dup (pc := 2146) hx hb dC_Mod_init_2146 rfl ?_
  refine lv_bipush (pc := 2147) (v := 75) hx hb dC_Mod_init_2147 (by decide) ?_
  refine lv_sipush (pc := 2149) (v := 24577) hx hb dC_Mod_init_2149 (by decide) ?_
  refine x_stK (pc := 2152) C hW (i := 75) (x := 24577) (by decide) (by decide) (by decide) dC_Mod_init_2152 (fun H locs hW => ?_)
  refine lv_dup (pc := 2153) hx hb dC_Mod_init_2153 rfl ?_
  refine lv_bipush (pc := 2154) (v := 76) hx hb dC_Mod_init_2154 (by decide) ?_
  refine lv_sipush (pc := 2156) (v := 8193) hx hb dC_Mod_init_2156 (by decide) ?_
  refine x_stK (pc := 2159) C hW (i := 76) (x := 8193) (by decide) (by decide) (by decide) dC_Mod_init_2159 (fun H locs hW => ?_)
  refine lv_dup (pc := 2160) hx hb dC_Mod_init_2160 rfl ?_
  refine lv_bipush (pc := 2161) (v := 77) hx hb dC_Mod_init_2161 (by decide) ?_
  refine lv_ldcw (pc := 2163) (v := 40961) hx hb hown (hT _ qc_1643) dC_Mod_init_2163 ?_
  refine x_stK (pc := 2166) C hW (i := 77) (x := 40961) (by decide) (by decide) (by decide) dC_Mod_init_2166 (fun H locs hW => ?_)
  refine lv_dup (pc := 2167) hx hb dC_Mod_init_2167 rfl ?_
  refine lv_bipush (pc := 2168) (v := 78) hx hb dC_Mod_init_2168 (by decide) ?_
  refine lv_sipush (pc := 2170) (v := 24833) hx hb dC_Mod_init_2170 (by decide) ?_
  refine x_stK (pc := 2173) C hW (i := 78) (x := 24833) (by decide) (by decide) (by decide) dC_Mod_init_2173 (fun H locs hW => ?_)
  refine lv_dup (pc := 2174) hx hb dC_Mod_init_2174 rfl ?_
  refine lv_bipush (pc := 2175) (v := 79) hx hb dC_Mod_init_2175 (by decide) ?_
  refine lv_ldcw (pc := 2177) (v := 32769) hx hb hown (hT _ qc_1644) dC_Mod_init_2177 ?_
  refine x_stK (pc := 2180) C hW (i := 79) (x := 32769) (by decide) (by decide) (by decide) dC_Mod_init_2180 (fun H locs hW => ?_)
  exact kk _ _ hW
set_option maxHeartbeats 4000000 in
set_option maxRecDepth 100000 in
theorem bJ_patterns_80 (C : CxC RM p s m args meth c cC_Mod_init 1 none D dA z A) {a : Nat} {ls : Array Slot} {rest : List Value} (H : Heap) (locs : List Loc) (hW : WdC D A s (Ws ++ [[(a, .inl (dA 2, 128, .inl (stJ M_patterns_l 0 80)))]]) H locs) (kk : ∀ (H1 : Heap) (locs1 : List Loc), WdC D A s (Ws ++ [[(a, .inl (dA 2, 128, .inl (stJ M_patterns_l 0 96)))]]) H1 locs1 → W p l e R s m args below meth c H1 locs1 cells slots Q (F0 m 2290 ls (.ref a :: rest))) : W p l e R s m args below meth c H locs cells slots Q (F0 m 2181 ls (.ref a :: rest)) := by
  have hx := C.1.1
  have hb := C.1.2.1
  have hown := C.1.2.2.2.2.1
  have hT := C.1.2.2.2.2.2.1
  refine lv_dup (pc := 2181) hx hb dC_Mod_init_2181 rfl ?_
  refine lv_bipush (pc := 2182) (v := 80) hx hb dC_Mod_init_2182 (by decide) ?_
  refine lv_ldcw (pc := 2184) (v := 33793) hx hb hown (hT _ qc_1645) dC_Mod_init_2184 ?_
  refine x_stK (pc := 2187) C hW (i := 80) (x := 33793) (by decide) (by decide) (by decide) dC_Mod_init_2187 (fun H locs hW => ?_)
  refine lv_dup (pc := 2188) hx hb dC_Mod_init_2188 rfl ?_
  refine lv_bipush (pc := 2189) (v := 81) hx hb dC_Mod_init_2189 (by decide) ?_
  refine lv_ldcw (pc := 2191) (v := 34817) hx hb hown (hT _ qc_1646) dC_Mod_init_2191 ?_
  refine x_stK (pc := 2194) C hW (i := 81) (x := 34817) (by decide) (by decide) (by decide) dC_Mod_init_2194 (fun H locs hW => ?_)
  refine lv_dup (pc := 2195) hx hb dC_Mod_init_2195 rfl ?_
  refine lv_bipush (pc := 2196) (v := 82) hx hb dC_Mod_init_2196 (by decide) ?_
  refine lv_ldcw (pc := 2198) (v := 35841) hx hb hown (hT _ qc_1647) dC_Mod_init_2198 ?_
  refine x_stK (pc := 2201) C hW (i := 82) (x := 35841) (by decide) (by decide) (by decide) dC_Mod_init_2201 (fun H locs hW => ?_)
  refine lv_dup (pc := 2202) hx hb dC_Mod_init_2202 rfl ?_
  refine lv_bipush (pc := 2203) (v := 83) hx hb dC_Mod_init_2203 (by decide) ?_
  refine lv_ldcw (pc := 2205) (v := 35873) hx hb hown (hT _ qc_1648) dC_Mod_init_2205 ?_
  refine x_stK (pc := 2208) C hW (i := 83) (x := 35873) (by decide) (by decide) (by decide) dC_Mod_init_2208 (fun H locs hW => ?_)
  refine lv_dup (pc := 2209) hx hb dC_Mod_init_2209 rfl ?_
  refine lv_bipush (pc := 2210) (v := 84) hx hb dC_Mod_init_2210 (by decide) ?_
  refine lv_ldcw (pc := 2212) (v := 35905) hx hb hown (hT _ qc_1649) dC_Mod_init_2212 ?_
  refine x_stK (pc := 2215) C hW (i := 84) (x := 35905) (by decide) (by decide) (by decide) dC_Mod_init_2215 (fun H locs hW => ?_)
  refine lv_dup (pc := 2216) hx hb dC_Mod_init_2216 rfl ?_
  refine lv_bipush (pc := 2217) (v := 85) hx hb dC_Mod_init_2217 (by decide) ?_
  refine lv_ldcw (pc := 2219) (v := 35937) hx hb hown (hT _ qc_1650) dC_Mod_init_2219 ?_
  refine x_stK (pc := 2222) C hW (i := 85) (x := 35937) (by decide) (by decide) (by decide) dC_Mod_init_2222 (fun H locs hW => ?_)
  refine lv_dup (pc := 2223) hx hb dC_Mod_init_2223 rfl ?_
  refine lv_bipush (pc := 2224) (v := 86) hx hb dC_Mod_init_2224 (by decide) ?_
  refine lv_ldcw (pc := 2226) (v := 49153) hx hb hown (hT _ qc_1651) dC_Mod_init_2226 ?_
  refine x_stK (pc := 2229) C hW (i := 86) (x := 49153) (by decide) (by decide) (by decide) dC_Mod_init_2229 (fun H locs hW => ?_)
  refine lv_dup (pc := 2230) hx hb dC_Mod_init_2230 rfl ?_
  refine lv_bipush (pc := 2231) (v := 87) hx hb dC_Mod_init_2231 (by decide) ?_
  refine lv_ldcw (pc := 2233) (v := 57345) hx hb hown (hT _ qc_1652) dC_Mod_init_2233 ?_
  refine x_stK (pc := 2236) C hW (i := 87) (x := 57345) (by decide) (by decide) (by decide) dC_Mod_init_2236 (fun H locs hW => ?_)
  refine lv_dup (pc := 2237) hx hb dC_Mod_init_2237 rfl ?_
  refine lv_bipush (pc := 2238) (v := 88) hx hb dC_Mod_init_2238 (by decide) ?_
  refine lv_iconst (pc := 2240) (v := 2) hx hb dC_Mod_init_2240 (by decide) ?_
  refine x_stK (pc := 2241) C hW (i := 88) (x := 2) (by decide) (by decide) (by decide) dC_Mod_init_2241 (fun H locs hW => ?_)
  refine lv_dup (pc := 2242) hx hb dC_Mod_init_2242 rfl ?_
  refine lv_bipush (pc := 2243) (v := 89) hx hb dC_Mod_init_2243 (by decide) ?_
  refine lv_sipush (pc := 2245) (v := 16386) hx hb dC_Mod_init_2245 (by decide) ?_
  refine x_stK (pc := 2248) C hW (i := 89) (x := 16386) (by decide) (by decide) (by decide) dC_Mod_init_2248 (fun H locs hW => ?_)
  refine lv_dup (pc := 2249) hx hb dC_Mod_init_2249 rfl ?_
  refine lv_bipush (pc := 2250) (v := 90) hx hb dC_Mod_init_2250 (by decide) ?_
  refine lv_ldcw (pc := 2252) (v := 32770) hx hb hown (hT _ qc_1653) dC_Mod_init_2252 ?_
  refine x_stK (pc := 2255) C hW (i := 90) (x := 32770) (by decide) (by decide) (by decide) dC_Mod_init_2255 (fun H locs hW => ?_)
  refine lv_dup (pc := 2256) hx hb dC_Mod_init_2256 rfl ?_
  refine lv_bipush (pc := 2257) (v := 91) hx hb dC_Mod_init_2257 (by decide) ?_
  refine lv_ldcw (pc := 2259) (v := 36866) hx hb hown (hT _ qc_1642) dC_Mod_init_2259 ?_
  refine x_stK (pc := 2262) C hW (i := 91) (x := 36866) (by decide) (by decide) (by decide) dC_Mod_init_2262 (fun H locs hW => ?_)
  refine lv_dup (pc := 2263) hx hb dC_Mod_init_2263 rfl ?_
  refine lv_bipush (pc := 2264) (v := 92) hx hb dC_Mod_init_2264 (by decide) ?_
  refine lv_ldcw (pc := 2266) (v := 32770) hx hb hown (hT _ qc_1653) dC_Mod_init_2266 ?_
  refine x_stK (pc := 2269) C hW (i := 92) (x := 32770) (by decide) (by decide) (by decide) dC_Mod_init_2269 (fun H locs hW => ?_)
  refine lv_dup (pc := 2270) hx hb dC_Mod_init_2270 rfl ?_
  refine lv_bipush (pc := 2271) (v := 93) hx hb dC_Mod_init_2271 (by decide) ?_
  refine lv_ldcw (pc := 2273) (v := 36866) hx hb hown (hT _ qc_1642) dC_Mod_init_2273 ?_
  refine x_stK (pc := 2276) C hW (i := 93) (x := 36866) (by decide) (by decide) (by decide) dC_Mod_init_2276 (fun H locs hW => ?_)
  refine lv_dup (pc := 2277) hx hb dC_Mod_init_2277 rfl ?_
  refine lv_bipush (pc := 2278) (v := 94) hx hb dC_Mod_init_2278 (by decide) ?_
  refine lv_ldcw (pc := 2280) (v := 49154) hx hb hown (hT _ qc_1654) dC_Mod_init_2280 ?_
  refine x_stK (pc := 2283) C hW (i := 94) (x := 49154) (by decide) (by decide) (by decide) dC_Mod_init_2283 (fun H locs hW => ?_)
  refine lv_dup (pc := 2284) hx hb dC_Mod_init_2284 rfl ?_
  refine lv_bipush (pc := 2285) (v := 95) hx hb dC_Mod_init_2285 (by decide) ?_
  refine lv_bipush (pc := 2287) (v := 19) hx hb dC_Mod_init_2287 (by decide) ?_
  refine x_stK (pc := 2289) C hW (i := 95) (x := 19) (by decide) (by decide) (by decide) dC_Mod_init_2289 (fun H locs hW => ?_)
  exact kk _ _ hW
set_option maxHeartbeats 4000000 in
set_option maxRecDepth 100000 in
theorem bJ_patterns_96 (C : CxC RM p s m args meth c cC_Mod_init 1 none D dA z A) {a : Nat} {ls : Array Slot} {rest : List Value} (H : Heap) (locs : List Loc) (hW : WdC D A s (Ws ++ [[(a, .inl (dA 2, 128, .inl (stJ M_patterns_l 0 96)))]]) H locs) (kk : ∀ (H1 : Heap) (locs1 : List Loc), WdC D A s (Ws ++ [[(a, .inl (dA 2, 128, .inl (stJ M_patterns_l 0 112)))]]) H1 locs1 → W p l e R s m args below meth c H1 locs1 cells slots Q (F0 m 2394 ls (.ref a :: rest))) : W p l e R s m args below meth c H locs cells slots Q (F0 m 2290 ls (.ref a :: rest)) := by
  have hx := C.1.1
  have hb := C.1.2.1
  have hown := C.1.2.2.2.2.1
  have hT := C.1.2.2.2.2.2.1
  refine lv_dup (pc := 2290) hx hb dC_Mod_init_2290 rfl ?_
  refine lv_bipush (pc := 2291) (v := 96) hx hb dC_Mod_init_2291 (by decide) ?_
  refine lv_ldcw (pc := 2293) (v := -1032173) hx hb hown (hT _ qc_1655) dC_Mod_init_2293 ?_
  refine x_stK (pc := 2296) C hW (i := 96) (x := -1032173) (by decide) (by decide) (by decide) dC_Mod_init_2296 (fun H locs hW => ?_)
  refine lv_dup (pc := 2297) hx hb dC_Mod_init_2297 rfl ?_
  refine lv_bipush (pc := 2298) (v := 97) hx hb dC_Mod_init_2298 (by decide) ?_
  refine lv_ldcw (pc := 2300) (v := 1060883) hx hb hown (hT _ qc_1656) dC_Mod_init_2300 ?_
  refine x_stK (pc := 2303) C hW (i := 97) (x := 1060883) (by decide) (by decide) (by decide) dC_Mod_init_2303 (fun H locs hW => ?_)
  refine lv_dup (pc := 2304) hx hb dC_Mod_init_2304 rfl ?_
  refine lv_bipush (pc := 2305) (v := 98) hx hb dC_Mod_init_2305 (by decide) ?_
  refine lv_sipush (pc := 2307) (v := 8243) hx hb dC_Mod_init_2307 (by decide) ?_
  refine x_stK (pc := 2310) C hW (i := 98) (x := 8243) (by decide) (by decide) (by decide) dC_Mod_init_2310 (fun H locs hW => ?_)
  refine lv_dup (pc := 2311) hx hb dC_Mod_init_2311 rfl ?_
  refine lv_bipush (pc := 2312) (v := 99) hx hb dC_Mod_init_2312 (by decide) ?_
  refine lv_ldcw (pc := 2314) (v := 1073741875) hx hb hown (hT _ qc_1611) dC_Mod_init_2314 ?_
  refine x_stK (pc := 2317) C hW (i := 99) (x := 1073741875) (by decide) (by decide) (by decide) dC_Mod_init_2317 (fun H locs hW => ?_)
  refine lv_dup (pc := 2318) hx hb dC_Mod_init_2318 rfl ?_
  refine lv_bipush (pc := 2319) (v := 100) hx hb dC_Mod_init_2319 (by decide) ?_
  refine lv_sipush (pc := 2321) (v := 12339) hx hb dC_Mod_init_2321 (by decide) ?_
  refine x_stK (pc := 2324) C hW (i := 100) (x := 12339) (by decide) (by decide) (by decide) dC_Mod_init_2324 (fun H locs hW => ?_)
  refine lv_dup (pc := 2325) hx hb dC_Mod_init_2325 rfl ?_
  refine lv_bipush (pc := 2326) (v := 101) hx hb dC_Mod_init_2326 (by decide) ?_
  refine lv_sipush (pc := 2328) (v := 8243) hx hb dC_Mod_init_2328 (by decide) ?_
  refine x_stK (pc := 2331) C hW (i := 101) (x := 8243) (by decide) (by decide) (by decide) dC_Mod_init_2331 (fun H locs hW => ?_)
  refine lv_dup (pc := 2332) hx hb dC_Mod_init_2332 rfl ?_
  refine lv_bipush (pc := 2333) (v := 102) hx hb dC_Mod_init_2333 (by decide) ?_
  refine lv_bipush (pc := 2335) (v := 103) hx hb dC_Mod_init_2335 (by decide) ?_
  refine x_stK (pc := 2337) C hW (i := 102) (x := 103) (by decide) (by decide) (by decide) dC_Mod_init_2337 (fun H locs hW => ?_)
  refine lv_dup (pc := 2338) hx hb dC_Mod_init_2338 rfl ?_
  refine lv_bipush (pc := 2339) (v := 103) hx hb dC_Mod_init_2339 (by decide) ?_
  refine lv_iconst (pc := 2341) (v := 1) hx hb dC_Mod_init_2341 (by decide) ?_
  refine x_stK (pc := 2342) C hW (i := 103) (x := 1) (by decide) (by decide) (by decide) dC_Mod_init_2342 (fun H locs hW => ?_)
  refine lv_dup (pc := 2343) hx hb dC_Mod_init_2343 rfl ?_
  refine lv_bipush (pc := 2344) (v := 104) hx hb dC_Mod_init_2344 (by decide) ?_
  refine lv_iconst (pc := 2346) (v := 0) hx hb dC_Mod_init_2346 (by decide) ?_
  refine x_stK (pc := 2347) C hW (i := 104) (x := 0) (by decide) (by decide) (by decide) dC_Mod_init_2347 (fun H locs hW => ?_)
  refine lv_dup (pc := 2348) hx hb dC_Mod_init_2348 rfl ?_
  refine lv_bipush (pc := 2349) (v := 105) hx hb dC_Mod_init_2349 (by decide) ?_
  refine lv_iconst (pc := 2351) (v := 0) hx hb dC_Mod_init_2351 (by decide) ?_
  refine x_stK (pc := 2352) C hW (i := 105) (x := 0) (by decide) (by decide) (by decide) dC_Mod_init_2352 (fun H locs hW => ?_)
  refine lv_dup (pc := 2353) hx hb dC_Mod_init_2353 rfl ?_
  refine lv_bipush (pc := 2354) (v := 106) hx hb dC_Mod_init_2354 (by decide) ?_
  refine lv_bipush (pc := 2356) (v := 99) hx hb dC_Mod_init_2356 (by decide) ?_
  refine x_stK (pc := 2358) C hW (i := 106) (x := 99) (by decide) (by decide) (by decide) dC_Mod_init_2358 (fun H locs hW => ?_)
  refine lv_dup (pc := 2359) hx hb dC_Mod_init_2359 rfl ?_
  refine lv_bipush (pc := 2360) (v := 107) hx hb dC_Mod_init_2360 (by decide) ?_
  refine lv_sipush (pc := 2362) (v := 4195) hx hb dC_Mod_init_2362 (by decide) ?_
  refine x_stK (pc := 2365) C hW (i := 107) (x := 4195) (by decide) (by decide) (by decide) dC_Mod_init_2365 (fun H locs hW => ?_)
  refine lv_dup (pc := 2366) hx hb dC_Mod_init_2366 rfl ?_
  refine lv_bipush (pc := 2367) (v := 108) hx hb dC_Mod_init_2367 (by decide) ?_
  refine lv_sipush (pc := 2369) (v := 20579) hx hb dC_Mod_init_2369 (by decide) ?_
  refine x_stK (pc := 2372) C hW (i := 108) (x := 20579) (by decide) (by decide) (by decide) dC_Mod_init_2372 (fun H locs hW => ?_)
  refine lv_dup (pc := 2373) hx hb dC_Mod_init_2373 rfl ?_
  refine lv_bipush (pc := 2374) (v := 109) hx hb dC_Mod_init_2374 (by decide) ?_
  refine lv_sipush (pc := 2376) (v := 16483) hx hb dC_Mod_init_2376 (by decide) ?_
  refine x_stK (pc := 2379) C hW (i := 109) (x := 16483) (by decide) (by decide) (by decide) dC_Mod_init_2379 (fun H locs hW => ?_)
  refine lv_dup (pc := 2380) hx hb dC_Mod_init_2380 rfl ?_
  refine lv_bipush (pc := 2381) (v := 110) hx hb dC_Mod_init_2381 (by decide) ?_
  refine lv_sipush (pc := 2383) (v := 20579) hx hb dC_Mod_init_2383 (by decide) ?_
  refine x_stK (pc := 2386) C hW (i := 110) (x := 20579) (by decide) (by decide) (by decide) dC_Mod_init_2386 (fun H locs hW => ?_)
  refine lv_dup (pc := 2387) hx hb dC_Mod_init_2387 rfl ?_
  refine lv_bipush (pc := 2388) (v := 111) hx hb dC_Mod_init_2388 (by decide) ?_
  refine lv_sipush (pc := 2390) (v := 16483) hx hb dC_Mod_init_2390 (by decide) ?_
  refine x_stK (pc := 2393) C hW (i := 111) (x := 16483) (by decide) (by decide) (by decide) dC_Mod_init_2393 (fun H locs hW => ?_)
  exact kk _ _ hW
set_option maxHeartbeats 4000000 in
set_option maxRecDepth 100000 in
theorem bJ_patterns_112 (C : CxC RM p s m args meth c cC_Mod_init 1 none D dA z A) {a : Nat} {ls : Array Slot} {rest : List Value} (H : Heap) (locs : List Loc) (hW : WdC D A s (Ws ++ [[(a, .inl (dA 2, 128, .inl (stJ M_patterns_l 0 112)))]]) H locs) (kk : ∀ (H1 : Heap) (locs1 : List Loc), WdC D A s (Ws ++ [[(a, .inl (dA 2, 128, .inl (stJ M_patterns_l 0 128)))]]) H1 locs1 → W p l e R s m args below meth c H1 locs1 cells slots Q (F0 m 2482 ls (.ref a :: rest))) : W p l e R s m args below meth c H locs cells slots Q (F0 m 2394 ls (.ref a :: rest)) := by
  have hx := C.1.1
  have hb := C.1.2.1
  have hown := C.1.2.2.2.2.1
  have hT := C.1.2.2.2.2.2.1
  refine lv_dup (pc := 2394) hx hb dC_Mod_init_2394 rfl ?_
  refine lv_bipush (pc := 2395) (v := 112) hx hb dC_Mod_init_2395 (by decide) ?_
  refine lv_sipush (pc := 2397) (v := 16483) hx hb dC_Mod_init_2397 (by decide) ?_
  refine x_stK (pc := 2400) C hW (i := 112) (x := 16483) (by decide) (by decide) (by decide) dC_Mod_init_2400 (fun H locs hW => ?_)
  refine lv_dup (pc := 2401) hx hb dC_Mod_init_2401 rfl ?_
  refine lv_bipush (pc := 2402) (v := 113) hx hb dC_Mod_init_2402 (by decide) ?_
  refine lv_sipush (pc := 2404) (v := 20579) hx hb dC_Mod_init_2404 (by decide) ?_
  refine x_stK (pc := 2407) C hW (i := 113) (x := 20579) (by decide) (by decide) (by decide) dC_Mod_init_2407 (fun H locs hW => ?_)
  refine lv_dup (pc := 2408) hx hb dC_Mod_init_2408 rfl ?_
  refine lv_bipush (pc := 2409) (v := 114) hx hb dC_Mod_init_2409 (by decide) ?_
  refine lv_sipush (pc := 2411) (v := 24675) hx hb dC_Mod_init_2411 (by decide) ?_
  refine x_stK (pc := 2414) C hW (i := 114) (x := 24675) (by decide) (by decide) (by decide) dC_Mod_init_2414 (fun H locs hW => ?_)
  refine lv_dup (pc := 2415) hx hb dC_Mod_init_2415 rfl ?_
  refine lv_bipush (pc := 2416) (v := 115) hx hb dC_Mod_init_2416 (by decide) ?_
  refine lv_sipush (pc := 2418) (v := 28771) hx hb dC_Mod_init_2418 (by decide) ?_
  refine x_stK (pc := 2421) C hW (i := 115) (x := 28771) (by decide) (by decide) (by decide) dC_Mod_init_2421 (fun H locs hW => ?_)
  refine lv_dup (pc := 2422) hx hb dC_Mod_init_2422 rfl ?_
  refine lv_bipush (pc := 2423) (v := 116) hx hb dC_Mod_init_2423 (by decide) ?_
  refine lv_iconst (pc := 2425) (v := 0) hx hb dC_Mod_init_2425 (by decide) ?_
  refine x_stK (pc := 2426) C hW (i := 116) (x := 0) (by decide) (by decide) (by decide) dC_Mod_init_2426 (fun H locs hW => ?_)
  refine lv_dup (pc := 2427) hx hb dC_Mod_init_2427 rfl ?_
  refine lv_bipush (pc := 2428) (v := 117) hx hb dC_Mod_init_2428 (by decide) ?_
  refine lv_iconst (pc := 2430) (v := 0) hx hb dC_Mod_init_2430 (by decide) ?_
  refine x_stK (pc := 2431) C hW (i := 117) (x := 0) (by decide) (by decide) (by decide) dC_Mod_init_2431 (fun H locs hW => ?_)
  refine lv_dup (pc := 2432) hx hb dC_Mod_init_2432 rfl ?_
  refine lv_bipush (pc := 2433) (v := 118) hx hb dC_Mod_init_2433 (by decide) ?_
  refine lv_iconst (pc := 2435) (v := 0) hx hb dC_Mod_init_2435 (by decide) ?_
  refine x_stK (pc := 2436) C hW (i := 118) (x := 0) (by decide) (by decide) (by decide) dC_Mod_init_2436 (fun H locs hW => ?_)
  refine lv_dup (pc := 2437) hx hb dC_Mod_init_2437 rfl ?_
  refine lv_bipush (pc := 2438) (v := 119) hx hb dC_Mod_init_2438 (by decide) ?_
  refine lv_iconst (pc := 2440) (v := 0) hx hb dC_Mod_init_2440 (by decide) ?_
  refine x_stK (pc := 2441) C hW (i := 119) (x := 0) (by decide) (by decide) (by decide) dC_Mod_init_2441 (fun H locs hW => ?_)
  refine lv_dup (pc := 2442) hx hb dC_Mod_init_2442 rfl ?_
  refine lv_bipush (pc := 2443) (v := 120) hx hb dC_Mod_init_2443 (by decide) ?_
  refine lv_iconst (pc := 2445) (v := 0) hx hb dC_Mod_init_2445 (by decide) ?_
  refine x_stK (pc := 2446) C hW (i := 120) (x := 0) (by decide) (by decide) (by decide) dC_Mod_init_2446 (fun H locs hW => ?_)
  refine lv_dup (pc := 2447) hx hb dC_Mod_init_2447 rfl ?_
  refine lv_bipush (pc := 2448) (v := 121) hx hb dC_Mod_init_2448 (by decide) ?_
  refine lv_iconst (pc := 2450) (v := 1) hx hb dC_Mod_init_2450 (by decide) ?_
  refine x_stK (pc := 2451) C hW (i := 121) (x := 1) (by decide) (by decide) (by decide) dC_Mod_init_2451 (fun H locs hW => ?_)
  refine lv_dup (pc := 2452) hx hb dC_Mod_init_2452 rfl ?_
  refine lv_bipush (pc := 2453) (v := 122) hx hb dC_Mod_init_2453 (by decide) ?_
  refine lv_iconst (pc := 2455) (v := 2) hx hb dC_Mod_init_2455 (by decide) ?_
  refine x_stK (pc := 2456) C hW (i := 122) (x := 2) (by decide) (by decide) (by decide) dC_Mod_init_2456 (fun H locs hW => ?_)
  refine lv_dup (pc := 2457) hx hb dC_Mod_init_2457 rfl ?_
  refine lv_bipush (pc := 2458) (v := 123) hx hb dC_Mod_init_2458 (by decide) ?_
  refine lv_iconst (pc := 2460) (v := 4) hx hb dC_Mod_init_2460 (by decide) ?_
  refine x_stK (pc := 2461) C hW (i := 123) (x := 4) (by decide) (by decide) (by decide) dC_Mod_init_2461 (fun H locs hW => ?_)
  refine lv_dup (pc := 2462) hx hb dC_Mod_init_2462 rfl ?_
  refine lv_bipush (pc := 2463) (v := 124) hx hb dC_Mod_init_2463 (by decide) ?_
  refine lv_iconst (pc := 2465) (v := 0) hx hb dC_Mod_init_2465 (by decide) ?_
  refine x_stK (pc := 2466) C hW (i := 124) (x := 0) (by decide) (by decide) (by decide) dC_Mod_init_2466 (fun H locs hW => ?_)
  refine lv_dup (pc := 2467) hx hb dC_Mod_init_2467 rfl ?_
  refine lv_bipush (pc := 2468) (v := 125) hx hb dC_Mod_init_2468 (by decide) ?_
  refine lv_iconst (pc := 2470) (v := 0) hx hb dC_Mod_init_2470 (by decide) ?_
  refine x_stK (pc := 2471) C hW (i := 125) (x := 0) (by decide) (by decide) (by decide) dC_Mod_init_2471 (fun H locs hW => ?_)
  refine lv_dup (pc := 2472) hx hb dC_Mod_init_2472 rfl ?_
  refine lv_bipush (pc := 2473) (v := 126) hx hb dC_Mod_init_2473 (by decide) ?_
  refine lv_iconst (pc := 2475) (v := 0) hx hb dC_Mod_init_2475 (by decide) ?_
  refine x_stK (pc := 2476) C hW (i := 126) (x := 0) (by decide) (by decide) (by decide) dC_Mod_init_2476 (fun H locs hW => ?_)
  refine lv_dup (pc := 2477) hx hb dC_Mod_init_2477 rfl ?_
  refine lv_bipush (pc := 2478) (v := 127) hx hb dC_Mod_init_2478 (by decide) ?_
  refine lv_iconst (pc := 2480) (v := 0) hx hb dC_Mod_init_2480 (by decide) ?_
  refine x_stK (pc := 2481) C hW (i := 127) (x := 0) (by decide) (by decide) (by decide) dC_Mod_init_2481 (fun H locs hW => ?_)
  exact kk _ _ hW
end
def M0s : MS := (fun _ => 0, fun _ _ => 0)
set_option maxHeartbeats 4000000 in
set_option maxRecDepth 100000 in
theorem kC_Mod_init (l : Launch) (D : va_G) (dA : Nat → ClassId) (z : Nat → Nat) (q : Nat) : KC l D dA z yC_Mod_init cC_Mod_init 1 none 1 40 11 19894 [[(q, .inr (0, [.null, .null, .null, .int 0, .null, .int 0, .null, .int 0, .int 0, .int 0, .null, .null, .null, .int 0, .null, .null, .int 0, .int 0, .int 0, .int 0, .int 0, .int 0, .int 0, .int 0, .int 0, .int 0, .int 0, .int 0, .int 0, .int 0, .int 0, .int 0, .int 0, .int 0, .int 0, .int 0, .int 0, .null, .int 0, .int 0]))]] [.ref q] (fun Ws' ov => ∃ h : Nat → Nat, h 0 = q ∧ Ws' = [wM dA h M0s] ∧ ov = none) := by
  refine x_enterC (by decide +kernel) (Nat.le_of_ble_eq_true rfl) (fun p e s m args below meth c A C hname hW ls hl => ?_)
  have hx := C.1.1
  have hb := C.1.2.1
  have hown := C.1.2.2.2.2.1
  have hT := C.1.2.2.2.2.2.1
  have hl : lv_has ls 1 [(0, .ref q)] := hl
  refine lv_aload_n (pc := 0) hx hb dC_Mod_init_0 rfl (lv_at hl 0 rfl) ?_
  refine x_objI (pc := 1) C qc_1482 qc_44 qc_45 hl.1 dC_Mod_init_1 (Nat.le_of_ble_eq_true rfl) (Nat.le_of_ble_eq_true rfl) ?_
  refine lv_aload_n (pc := 4) hx hb dC_Mod_init_4 rfl (lv_at hl 0 rfl) ?_
  refine lv_sipush (pc := 5) (v := 128) hx hb dC_Mod_init_5 (by decide) ?_
  refine x_nwJ (pc := 8) (k := 128) C hW (by decide) (by decide) (by decide) (by show _ + 1 ≤ 11; omega) (by show _ + 128 ≤ 19894; omega) qc_1778 dC_Mod_init_8 (fun a1 H hW => ?_)
  have hW := x_inJ (L := M_names_l) hW
  refine bJ_names_0 C _ _ hW (fun H locs hW => ?_)
  refine bJ_names_16 C _ _ hW (fun H locs hW => ?_)
  refine bJ_names_32 C _ _ hW (fun H locs hW => ?_)
  refine bJ_names_48 C _ _ hW (fun H locs hW => ?_)
  refine bJ_names_64 C _ _ hW (fun H locs hW => ?_)
  refine bJ_names_80 C _ _ hW (fun H locs hW => ?_)
  refine bJ_names_96 C _ _ hW (fun H locs hW => ?_)
  refine bJ_names_112 C _ _ hW (fun H locs hW => ?_)
  have hW : WdC D A s [[(q, .inr (0, [.null, .null, .null, .int 0, .null, .int 0, .null, .int 0, .int 0, .int 0, .null, .null, .null, .int 0, .null, .null, .int 0, .int 0, .int 0, .int 0, .int 0, .int 0, .int 0, .int 0, .int 0, .int 0, .int 0, .int 0, .int 0, .int 0, .int 0, .int 0, .int 0, .int 0, .int 0, .int 0, .int 0, .null, .int 0, .int 0]))], [(a1, .inl (dA 0, 128, .inr (.inl M_names)))]] H locs := by rw [stJ_full (by decide)] at hW; exact hW
  refine x_putF (pc := 900) (ty := .array .long) (v := .ref a1) (Ws' := [[(q, .inr (0, [.ref a1, .null, .null, .int 0, .null, .int 0, .null, .int 0, .int 0, .int 0, .null, .null, .null, .int 0, .null, .null, .int 0, .int 0, .int 0, .int 0, .int 0, .int 0, .int 0, .int 0, .int 0, .int 0, .int 0, .int 0, .int 0, .int 0, .int 0, .int 0, .int 0, .int 0, .int 0, .int 0, .int 0, .null, .int 0, .int 0]))], [(a1, .inl (dA 0, 128, .inr (.inl M_names)))]]) C hW 0 rfl (ci := 0) rfl iM tM_ok nM 0 (by decide) qc_1657 rfl rfl hname rfl (by decide +kernel) rfl rfl (Nat.le_of_ble_eq_true rfl) rfl dC_Mod_init_900 (fun H locs hW => ?_)
  refine lv_aload_n (pc := 903) hx hb dC_Mod_init_903 rfl (lv_at hl 0 rfl) ?_
  refine lv_sipush (pc := 904) (v := 128) hx hb dC_Mod_init_904 (by decide) ?_
  refine x_nwB (pc := 907) (k := 128) C hW (by decide) (by decide) (by decide) (by show _ + 1 ≤ 11; omega) (by show _ + 128 ≤ 19894; omega) qc_269 dC_Mod_init_907 (fun a2 H hW => ?_)
  have hW := x_inB (L := M_shapes_l) hW
  refine bJ_shapes_0 C _ _ hW (fun H locs hW => ?_)
  refine bJ_shapes_16 C _ _ hW (fun H locs hW => ?_)
  refine bJ_shapes_32 C _ _ hW (fun H locs hW => ?_)
  refine bJ_shapes_48 C _ _ hW (fun H locs hW => ?_)
  refine bJ_shapes_64 C _ _ hW (fun H locs hW => ?_)
  refine bJ_shapes_80 C _ _ hW (fun H locs hW => ?_)
  refine bJ_shapes_96 C _ _ hW (fun H locs hW => ?_)
  refine bJ_shapes_112 C _ _ hW (fun H locs hW => ?_)
  have hW : WdC D A s [[(q, .inr (0, [.ref a1, .null, .null, .int 0, .null, .int 0, .null, .int 0, .int 0, .int 0, .null, .null, .null, .int 0, .null, .null, .int 0, .int 0, .int 0, .int 0, .int 0, .int 0, .int 0, .int 0, .int 0, .int 0, .int 0, .int 0, .int 0, .int 0, .int 0, .int 0, .int 0, .int 0, .int 0, .int 0, .int 0, .null, .int 0, .int 0]))], [(a1, .inl (dA 0, 128, .inr (.inl M_names)))], [(a2, .inl (dA 1, 128, .inl M_shapes))]] H locs := by rw [stJ_full (by decide)] at hW; exact hW
  refine x_putF (pc := 1636) (ty := .array .byte) (v := .ref a2) (Ws' := [[(q, .inr (0, [.ref a1, .ref a2, .null, .int 0, .null, .int 0, .null, .int 0, .int 0, .int 0, .null, .null, .null, .int 0, .null, .null, .int 0, .int 0, .int 0, .int 0, .int 0, .int 0, .int 0, .int 0, .int 0, .int 0, .int 0, .int 0, .int 0, .int 0, .int 0, .int 0, .int 0, .int 0, .int 0, .int 0, .int 0, .null, .int 0, .int 0]))], [(a1, .inl (dA 0, 128, .inr (.inl M_names)))], [(a2, .inl (dA 1, 128, .inl M_shapes))]]) C hW 0 rfl (ci := 0) rfl iM tM_ok nM 1 (by decide) qc_1658 rfl rfl hname rfl (by decide +kernel) rfl rfl (Nat.le_of_ble_eq_true rfl) rfl dC_Mod_init_1636 (fun H locs hW => ?_)
  refine lv_aload_n (pc := 1639) hx hb dC_Mod_init_1639 rfl (lv_at hl 0 rfl) ?_
  refine lv_sipush (pc := 1640) (v := 128) hx hb dC_Mod_init_1640 (by decide) ?_
  refine x_nwK (pc := 1643) (k := 128) C hW (by decide) (by decide) (by decide) (by show _ + 1 ≤ 11; omega) (by show _ + 128 ≤ 19894; omega) qc_63 dC_Mod_init_1643 (fun a3 H hW => ?_)
  have hW := x_inK (L := M_patterns_l) hW
  refine bJ_patterns_0 C _ _ hW (fun H locs hW => ?_)
  refine bJ_patterns_16 C _ _ hW (fun H locs hW => ?_)
  refine bJ_patterns_32 C _ _ hW (fun H locs hW => ?_)
  refine bJ_patterns_48 C _ _ hW (fun H locs hW => ?_)
  refine bJ_patterns_64 C _ _ hW (fun H locs hW => ?_)
  refine bJ_patterns_80 C _ _ hW (fun H locs hW => ?_)
  refine bJ_patterns_96 C _ _ hW (fun H locs hW => ?_)
  refine bJ_patterns_112 C _ _ hW (fun H locs hW => ?_)
  have hW : WdC D A s [[(q, .inr (0, [.ref a1, .ref a2, .null, .int 0, .null, .int 0, .null, .int 0, .int 0, .int 0, .null, .null, .null, .int 0, .null, .null, .int 0, .int 0, .int 0, .int 0, .int 0, .int 0, .int 0, .int 0, .int 0, .int 0, .int 0, .int 0, .int 0, .int 0, .int 0, .int 0, .int 0, .int 0, .int 0, .int 0, .int 0, .null, .int 0, .int 0]))], [(a1, .inl (dA 0, 128, .inr (.inl M_names)))], [(a2, .inl (dA 1, 128, .inl M_shapes))], [(a3, .inl (dA 2, 128, .inl M_patterns))]] H locs := by rw [stJ_full (by decide)] at hW; exact hW
  refine x_putF (pc := 2482) (ty := .array .int) (v := .ref a3) (Ws' := [[(q, .inr (0, [.ref a1, .ref a2, .ref a3, .int 0, .null, .int 0, .null, .int 0, .int 0, .int 0, .null, .null, .null, .int 0, .null, .null, .int 0, .int 0, .int 0, .int 0, .int 0, .int 0, .int 0, .int 0, .int 0, .int 0, .int 0, .int 0, .int 0, .int 0, .int 0, .int 0, .int 0, .int 0, .int 0, .int 0, .int 0, .null, .int 0, .int 0]))], [(a1, .inl (dA 0, 128, .inr (.inl M_names)))], [(a2, .inl (dA 1, 128, .inl M_shapes))], [(a3, .inl (dA 2, 128, .inl M_patterns))]]) C hW 0 rfl (ci := 0) rfl iM tM_ok nM 2 (by decide) qc_1659 rfl rfl hname rfl (by decide +kernel) rfl rfl (Nat.le_of_ble_eq_true rfl) rfl dC_Mod_init_2482 (fun H locs hW => ?_)
  refine lv_aload_n (pc := 2485) hx hb dC_Mod_init_2485 rfl (lv_at hl 0 rfl) ?_
  refine lv_sipush (pc := 2486) (v := 4100) hx hb dC_Mod_init_2486 (by decide) ?_
  refine x_nwC (pc := 2489) (k := 4100) C hW (by decide) (by decide) (by decide) (by show _ + 1 ≤ 11; omega) (by show _ + 4100 ≤ 19894; omega) qc_1779 dC_Mod_init_2489 (fun a4 H hW => ?_)
  have hW : WdC D A s [[(q, .inr (0, [.ref a1, .ref a2, .ref a3, .int 0, .null, .int 0, .null, .int 0, .int 0, .int 0, .null, .null, .null, .int 0, .null, .null, .int 0, .int 0, .int 0, .int 0, .int 0, .int 0, .int 0, .int 0, .int 0, .int 0, .int 0, .int 0, .int 0, .int 0, .int 0, .int 0, .int 0, .int 0, .int 0, .int 0, .int 0, .null, .int 0, .int 0]))], [(a1, .inl (dA 0, 128, .inr (.inl M_names)))], [(a2, .inl (dA 1, 128, .inl M_shapes))], [(a3, .inl (dA 2, 128, .inl M_patterns))], [(a4, .inl (dA 3, 4100, .inl (fun _ => 0)))]] H _ := hW
  refine x_putF (pc := 2491) (ty := .array .char) (v := .ref a4) (Ws' := [[(q, .inr (0, [.ref a1, .ref a2, .ref a3, .int 0, .ref a4, .int 0, .null, .int 0, .int 0, .int 0, .null, .null, .null, .int 0, .null, .null, .int 0, .int 0, .int 0, .int 0, .int 0, .int 0, .int 0, .int 0, .int 0, .int 0, .int 0, .int 0, .int 0, .int 0, .int 0, .int 0, .int 0, .int 0, .int 0, .int 0, .int 0, .null, .int 0, .int 0]))], [(a1, .inl (dA 0, 128, .inr (.inl M_names)))], [(a2, .inl (dA 1, 128, .inl M_shapes))], [(a3, .inl (dA 2, 128, .inl M_patterns))], [(a4, .inl (dA 3, 4100, .inl (fun _ => 0)))]]) C hW 0 rfl (ci := 0) rfl iM tM_ok nM 4 (by decide) qc_1661 rfl rfl hname rfl (by decide +kernel) rfl rfl (Nat.le_of_ble_eq_true rfl) rfl dC_Mod_init_2491 (fun H locs hW => ?_)
  refine lv_aload_n (pc := 2494) hx hb dC_Mod_init_2494 rfl (lv_at hl 0 rfl) ?_
  refine lv_sipush (pc := 2495) (v := 4100) hx hb dC_Mod_init_2495 (by decide) ?_
  refine x_nwC (pc := 2498) (k := 4100) C hW (by decide) (by decide) (by decide) (by show _ + 1 ≤ 11; omega) (by show _ + 4100 ≤ 19894; omega) qc_1779 dC_Mod_init_2498 (fun a5 H hW => ?_)
  have hW : WdC D A s [[(q, .inr (0, [.ref a1, .ref a2, .ref a3, .int 0, .ref a4, .int 0, .null, .int 0, .int 0, .int 0, .null, .null, .null, .int 0, .null, .null, .int 0, .int 0, .int 0, .int 0, .int 0, .int 0, .int 0, .int 0, .int 0, .int 0, .int 0, .int 0, .int 0, .int 0, .int 0, .int 0, .int 0, .int 0, .int 0, .int 0, .int 0, .null, .int 0, .int 0]))], [(a1, .inl (dA 0, 128, .inr (.inl M_names)))], [(a2, .inl (dA 1, 128, .inl M_shapes))], [(a3, .inl (dA 2, 128, .inl M_patterns))], [(a4, .inl (dA 3, 4100, .inl (fun _ => 0)))], [(a5, .inl (dA 3, 4100, .inl (fun _ => 0)))]] H _ := hW
  refine x_putF (pc := 2500) (ty := .array .char) (v := .ref a5) (Ws' := [[(q, .inr (0, [.ref a1, .ref a2, .ref a3, .int 0, .ref a4, .int 0, .ref a5, .int 0, .int 0, .int 0, .null, .null, .null, .int 0, .null, .null, .int 0, .int 0, .int 0, .int 0, .int 0, .int 0, .int 0, .int 0, .int 0, .int 0, .int 0, .int 0, .int 0, .int 0, .int 0, .int 0, .int 0, .int 0, .int 0, .int 0, .int 0, .null, .int 0, .int 0]))], [(a1, .inl (dA 0, 128, .inr (.inl M_names)))], [(a2, .inl (dA 1, 128, .inl M_shapes))], [(a3, .inl (dA 2, 128, .inl M_patterns))], [(a4, .inl (dA 3, 4100, .inl (fun _ => 0)))], [(a5, .inl (dA 3, 4100, .inl (fun _ => 0)))]]) C hW 0 rfl (ci := 0) rfl iM tM_ok nM 6 (by decide) qc_1663 rfl rfl hname rfl (by decide +kernel) rfl rfl (Nat.le_of_ble_eq_true rfl) rfl dC_Mod_init_2500 (fun H locs hW => ?_)
  refine lv_aload_n (pc := 2503) hx hb dC_Mod_init_2503 rfl (lv_at hl 0 rfl) ?_
  refine lv_sipush (pc := 2504) (v := 1030) hx hb dC_Mod_init_2504 (by decide) ?_
  refine x_nwK (pc := 2507) (k := 1030) C hW (by decide) (by decide) (by decide) (by show _ + 1 ≤ 11; omega) (by show _ + 1030 ≤ 19894; omega) qc_63 dC_Mod_init_2507 (fun a6 H hW => ?_)
  have hW : WdC D A s [[(q, .inr (0, [.ref a1, .ref a2, .ref a3, .int 0, .ref a4, .int 0, .ref a5, .int 0, .int 0, .int 0, .null, .null, .null, .int 0, .null, .null, .int 0, .int 0, .int 0, .int 0, .int 0, .int 0, .int 0, .int 0, .int 0, .int 0, .int 0, .int 0, .int 0, .int 0, .int 0, .int 0, .int 0, .int 0, .int 0, .int 0, .int 0, .null, .int 0, .int 0]))], [(a1, .inl (dA 0, 128, .inr (.inl M_names)))], [(a2, .inl (dA 1, 128, .inl M_shapes))], [(a3, .inl (dA 2, 128, .inl M_patterns))], [(a4, .inl (dA 3, 4100, .inl (fun _ => 0)))], [(a5, .inl (dA 3, 4100, .inl (fun _ => 0)))], [(a6, .inl (dA 2, 1030, .inl (fun _ => 0)))]] H _ := hW
  refine x_putF (pc := 2509) (ty := .array .int) (v := .ref a6) (Ws' := [[(q, .inr (0, [.ref a1, .ref a2, .ref a3, .int 0, .ref a4, .int 0, .ref a5, .int 0, .int 0, .int 0, .ref a6, .null, .null, .int 0, .null, .null, .int 0, .int 0, .int 0, .int 0, .int 0, .int 0, .int 0, .int 0, .int 0, .int 0, .int 0, .int 0, .int 0, .int 0, .int 0, .int 0, .int 0, .int 0, .int 0, .int 0, .int 0, .null, .int 0, .int 0]))], [(a1, .inl (dA 0, 128, .inr (.inl M_names)))], [(a2, .inl (dA 1, 128, .inl M_shapes))], [(a3, .inl (dA 2, 128, .inl M_patterns))], [(a4, .inl (dA 3, 4100, .inl (fun _ => 0)))], [(a5, .inl (dA 3, 4100, .inl (fun _ => 0)))], [(a6, .inl (dA 2, 1030, .inl (fun _ => 0)))]]) C hW 0 rfl (ci := 0) rfl iM tM_ok nM 10 (by decide) qc_1667 rfl rfl hname rfl (by decide +kernel) rfl rfl (Nat.le_of_ble_eq_true rfl) rfl dC_Mod_init_2509 (fun H locs hW => ?_)
  refine lv_aload_n (pc := 2512) hx hb dC_Mod_init_2512 rfl (lv_at hl 0 rfl) ?_
  refine lv_sipush (pc := 2513) (v := 1030) hx hb dC_Mod_init_2513 (by decide) ?_
  refine x_nwK (pc := 2516) (k := 1030) C hW (by decide) (by decide) (by decide) (by show _ + 1 ≤ 11; omega) (by show _ + 1030 ≤ 19894; omega) qc_63 dC_Mod_init_2516 (fun a7 H hW => ?_)
  have hW : WdC D A s [[(q, .inr (0, [.ref a1, .ref a2, .ref a3, .int 0, .ref a4, .int 0, .ref a5, .int 0, .int 0, .int 0, .ref a6, .null, .null, .int 0, .null, .null, .int 0, .int 0, .int 0, .int 0, .int 0, .int 0, .int 0, .int 0, .int 0, .int 0, .int 0, .int 0, .int 0, .int 0, .int 0, .int 0, .int 0, .int 0, .int 0, .int 0, .int 0, .null, .int 0, .int 0]))], [(a1, .inl (dA 0, 128, .inr (.inl M_names)))], [(a2, .inl (dA 1, 128, .inl M_shapes))], [(a3, .inl (dA 2, 128, .inl M_patterns))], [(a4, .inl (dA 3, 4100, .inl (fun _ => 0)))], [(a5, .inl (dA 3, 4100, .inl (fun _ => 0)))], [(a6, .inl (dA 2, 1030, .inl (fun _ => 0)))], [(a7, .inl (dA 2, 1030, .inl (fun _ => 0)))]] H _ := hW
  refine x_putF (pc := 2518) (ty := .array .int) (v := .ref a7) (Ws' := [[(q, .inr (0, [.ref a1, .ref a2, .ref a3, .int 0, .ref a4, .int 0, .ref a5, .int 0, .int 0, .int 0, .ref a6, .ref a7, .null, .int 0, .null, .null, .int 0, .int 0, .int 0, .int 0, .int 0, .int 0, .int 0, .int 0, .int 0, .int 0, .int 0, .int 0, .int 0, .int 0, .int 0, .int 0, .int 0, .int 0, .int 0, .int 0, .int 0, .null, .int 0, .int 0]))], [(a1, .inl (dA 0, 128, .inr (.inl M_names)))], [(a2, .inl (dA 1, 128, .inl M_shapes))], [(a3, .inl (dA 2, 128, .inl M_patterns))], [(a4, .inl (dA 3, 4100, .inl (fun _ => 0)))], [(a5, .inl (dA 3, 4100, .inl (fun _ => 0)))], [(a6, .inl (dA 2, 1030, .inl (fun _ => 0)))], [(a7, .inl (dA 2, 1030, .inl (fun _ => 0)))]]) C hW 0 rfl (ci := 0) rfl iM tM_ok nM 11 (by decide) qc_1668 rfl rfl hname rfl (by decide +kernel) rfl rfl (Nat.le_of_ble_eq_true rfl) rfl dC_Mod_init_2518 (fun H locs hW => ?_)
  refine lv_aload_n (pc := 2521) hx hb dC_Mod_init_2521 rfl (lv_at hl 0 rfl) ?_
  refine lv_sipush (pc := 2522) (v := 1030) hx hb dC_Mod_init_2522 (by decide) ?_
  refine x_nwK (pc := 2525) (k := 1030) C hW (by decide) (by decide) (by decide) (by show _ + 1 ≤ 11; omega) (by show _ + 1030 ≤ 19894; omega) qc_63 dC_Mod_init_2525 (fun a8 H hW => ?_)
  have hW : WdC D A s [[(q, .inr (0, [.ref a1, .ref a2, .ref a3, .int 0, .ref a4, .int 0, .ref a5, .int 0, .int 0, .int 0, .ref a6, .ref a7, .null, .int 0, .null, .null, .int 0, .int 0, .int 0, .int 0, .int 0, .int 0, .int 0, .int 0, .int 0, .int 0, .int 0, .int 0, .int 0, .int 0, .int 0, .int 0, .int 0, .int 0, .int 0, .int 0, .int 0, .null, .int 0, .int 0]))], [(a1, .inl (dA 0, 128, .inr (.inl M_names)))], [(a2, .inl (dA 1, 128, .inl M_shapes))], [(a3, .inl (dA 2, 128, .inl M_patterns))], [(a4, .inl (dA 3, 4100, .inl (fun _ => 0)))], [(a5, .inl (dA 3, 4100, .inl (fun _ => 0)))], [(a6, .inl (dA 2, 1030, .inl (fun _ => 0)))], [(a7, .inl (dA 2, 1030, .inl (fun _ => 0)))], [(a8, .inl (dA 2, 1030, .inl (fun _ => 0)))]] H _ := hW
  refine x_putF (pc := 2527) (ty := .array .int) (v := .ref a8) (Ws' := [[(q, .inr (0, [.ref a1, .ref a2, .ref a3, .int 0, .ref a4, .int 0, .ref a5, .int 0, .int 0, .int 0, .ref a6, .ref a7, .ref a8, .int 0, .null, .null, .int 0, .int 0, .int 0, .int 0, .int 0, .int 0, .int 0, .int 0, .int 0, .int 0, .int 0, .int 0, .int 0, .int 0, .int 0, .int 0, .int 0, .int 0, .int 0, .int 0, .int 0, .null, .int 0, .int 0]))], [(a1, .inl (dA 0, 128, .inr (.inl M_names)))], [(a2, .inl (dA 1, 128, .inl M_shapes))], [(a3, .inl (dA 2, 128, .inl M_patterns))], [(a4, .inl (dA 3, 4100, .inl (fun _ => 0)))], [(a5, .inl (dA 3, 4100, .inl (fun _ => 0)))], [(a6, .inl (dA 2, 1030, .inl (fun _ => 0)))], [(a7, .inl (dA 2, 1030, .inl (fun _ => 0)))], [(a8, .inl (dA 2, 1030, .inl (fun _ => 0)))]]) C hW 0 rfl (ci := 0) rfl iM tM_ok nM 12 (by decide) qc_1669 rfl rfl hname rfl (by decide +kernel) rfl rfl (Nat.le_of_ble_eq_true rfl) rfl dC_Mod_init_2527 (fun H locs hW => ?_)
  refine lv_aload_n (pc := 2530) hx hb dC_Mod_init_2530 rfl (lv_at hl 0 rfl) ?_
  refine lv_sipush (pc := 2531) (v := 2060) hx hb dC_Mod_init_2531 (by decide) ?_
  refine x_nwK (pc := 2534) (k := 2060) C hW (by decide) (by decide) (by decide) (by show _ + 1 ≤ 11; omega) (by show _ + 2060 ≤ 19894; omega) qc_63 dC_Mod_init_2534 (fun a9 H hW => ?_)
  have hW : WdC D A s [[(q, .inr (0, [.ref a1, .ref a2, .ref a3, .int 0, .ref a4, .int 0, .ref a5, .int 0, .int 0, .int 0, .ref a6, .ref a7, .ref a8, .int 0, .null, .null, .int 0, .int 0, .int 0, .int 0, .int 0, .int 0, .int 0, .int 0, .int 0, .int 0, .int 0, .int 0, .int 0, .int 0, .int 0, .int 0, .int 0, .int 0, .int 0, .int 0, .int 0, .null, .int 0, .int 0]))], [(a1, .inl (dA 0, 128, .inr (.inl M_names)))], [(a2, .inl (dA 1, 128, .inl M_shapes))], [(a3, .inl (dA 2, 128, .inl M_patterns))], [(a4, .inl (dA 3, 4100, .inl (fun _ => 0)))], [(a5, .inl (dA 3, 4100, .inl (fun _ => 0)))], [(a6, .inl (dA 2, 1030, .inl (fun _ => 0)))], [(a7, .inl (dA 2, 1030, .inl (fun _ => 0)))], [(a8, .inl (dA 2, 1030, .inl (fun _ => 0)))], [(a9, .inl (dA 2, 2060, .inl (fun _ => 0)))]] H _ := hW
  refine x_putF (pc := 2536) (ty := .array .int) (v := .ref a9) (Ws' := [[(q, .inr (0, [.ref a1, .ref a2, .ref a3, .int 0, .ref a4, .int 0, .ref a5, .int 0, .int 0, .int 0, .ref a6, .ref a7, .ref a8, .int 0, .ref a9, .null, .int 0, .int 0, .int 0, .int 0, .int 0, .int 0, .int 0, .int 0, .int 0, .int 0, .int 0, .int 0, .int 0, .int 0, .int 0, .int 0, .int 0, .int 0, .int 0, .int 0, .int 0, .null, .int 0, .int 0]))], [(a1, .inl (dA 0, 128, .inr (.inl M_names)))], [(a2, .inl (dA 1, 128, .inl M_shapes))], [(a3, .inl (dA 2, 128, .inl M_patterns))], [(a4, .inl (dA 3, 4100, .inl (fun _ => 0)))], [(a5, .inl (dA 3, 4100, .inl (fun _ => 0)))], [(a6, .inl (dA 2, 1030, .inl (fun _ => 0)))], [(a7, .inl (dA 2, 1030, .inl (fun _ => 0)))], [(a8, .inl (dA 2, 1030, .inl (fun _ => 0)))], [(a9, .inl (dA 2, 2060, .inl (fun _ => 0)))]]) C hW 0 rfl (ci := 0) rfl iM tM_ok nM 14 (by decide) qc_1671 rfl rfl hname rfl (by decide +kernel) rfl rfl (Nat.le_of_ble_eq_true rfl) rfl dC_Mod_init_2536 (fun H locs hW => ?_)
  refine lv_aload_n (pc := 2539) hx hb dC_Mod_init_2539 rfl (lv_at hl 0 rfl) ?_
  refine lv_sipush (pc := 2540) (v := 2060) hx hb dC_Mod_init_2540 (by decide) ?_
  refine x_nwK (pc := 2543) (k := 2060) C hW (by decide) (by decide) (by decide) (by show _ + 1 ≤ 11; omega) (by show _ + 2060 ≤ 19894; omega) qc_63 dC_Mod_init_2543 (fun a10 H hW => ?_)
  have hW : WdC D A s [[(q, .inr (0, [.ref a1, .ref a2, .ref a3, .int 0, .ref a4, .int 0, .ref a5, .int 0, .int 0, .int 0, .ref a6, .ref a7, .ref a8, .int 0, .ref a9, .null, .int 0, .int 0, .int 0, .int 0, .int 0, .int 0, .int 0, .int 0, .int 0, .int 0, .int 0, .int 0, .int 0, .int 0, .int 0, .int 0, .int 0, .int 0, .int 0, .int 0, .int 0, .null, .int 0, .int 0]))], [(a1, .inl (dA 0, 128, .inr (.inl M_names)))], [(a2, .inl (dA 1, 128, .inl M_shapes))], [(a3, .inl (dA 2, 128, .inl M_patterns))], [(a4, .inl (dA 3, 4100, .inl (fun _ => 0)))], [(a5, .inl (dA 3, 4100, .inl (fun _ => 0)))], [(a6, .inl (dA 2, 1030, .inl (fun _ => 0)))], [(a7, .inl (dA 2, 1030, .inl (fun _ => 0)))], [(a8, .inl (dA 2, 1030, .inl (fun _ => 0)))], [(a9, .inl (dA 2, 2060, .inl (fun _ => 0)))], [(a10, .inl (dA 2, 2060, .inl (fun _ => 0)))]] H _ := hW
  refine x_putF (pc := 2545) (ty := .array .int) (v := .ref a10) (Ws' := [[(q, .inr (0, [.ref a1, .ref a2, .ref a3, .int 0, .ref a4, .int 0, .ref a5, .int 0, .int 0, .int 0, .ref a6, .ref a7, .ref a8, .int 0, .ref a9, .ref a10, .int 0, .int 0, .int 0, .int 0, .int 0, .int 0, .int 0, .int 0, .int 0, .int 0, .int 0, .int 0, .int 0, .int 0, .int 0, .int 0, .int 0, .int 0, .int 0, .int 0, .int 0, .null, .int 0, .int 0]))], [(a1, .inl (dA 0, 128, .inr (.inl M_names)))], [(a2, .inl (dA 1, 128, .inl M_shapes))], [(a3, .inl (dA 2, 128, .inl M_patterns))], [(a4, .inl (dA 3, 4100, .inl (fun _ => 0)))], [(a5, .inl (dA 3, 4100, .inl (fun _ => 0)))], [(a6, .inl (dA 2, 1030, .inl (fun _ => 0)))], [(a7, .inl (dA 2, 1030, .inl (fun _ => 0)))], [(a8, .inl (dA 2, 1030, .inl (fun _ => 0)))], [(a9, .inl (dA 2, 2060, .inl (fun _ => 0)))], [(a10, .inl (dA 2, 2060, .inl (fun _ => 0)))]]) C hW 0 rfl (ci := 0) rfl iM tM_ok nM 15 (by decide) qc_1672 rfl rfl hname rfl (by decide +kernel) rfl rfl (Nat.le_of_ble_eq_true rfl) rfl dC_Mod_init_2545 (fun H locs hW => ?_)
  refine lv_aload_n (pc := 2548) hx hb dC_Mod_init_2548 rfl (lv_at hl 0 rfl) ?_
  refine lv_sipush (pc := 2549) (v := 4100) hx hb dC_Mod_init_2549 (by decide) ?_
  refine x_nwK (pc := 2552) (k := 4100) C hW (by decide) (by decide) (by decide) (by show _ + 1 ≤ 11; omega) (by show _ + 4100 ≤ 19894; omega) qc_63 dC_Mod_init_2552 (fun a11 H hW => ?_)
  have hW : WdC D A s [[(q, .inr (0, [.ref a1, .ref a2, .ref a3, .int 0, .ref a4, .int 0, .ref a5, .int 0, .int 0, .int 0, .ref a6, .ref a7, .ref a8, .int 0, .ref a9, .ref a10, .int 0, .int 0, .int 0, .int 0, .int 0, .int 0, .int 0, .int 0, .int 0, .int 0, .int 0, .int 0, .int 0, .int 0, .int 0, .int 0, .int 0, .int 0, .int 0, .int 0, .int 0, .null, .int 0, .int 0]))], [(a1, .inl (dA 0, 128, .inr (.inl M_names)))], [(a2, .inl (dA 1, 128, .inl M_shapes))], [(a3, .inl (dA 2, 128, .inl M_patterns))], [(a4, .inl (dA 3, 4100, .inl (fun _ => 0)))], [(a5, .inl (dA 3, 4100, .inl (fun _ => 0)))], [(a6, .inl (dA 2, 1030, .inl (fun _ => 0)))], [(a7, .inl (dA 2, 1030, .inl (fun _ => 0)))], [(a8, .inl (dA 2, 1030, .inl (fun _ => 0)))], [(a9, .inl (dA 2, 2060, .inl (fun _ => 0)))], [(a10, .inl (dA 2, 2060, .inl (fun _ => 0)))], [(a11, .inl (dA 2, 4100, .inl (fun _ => 0)))]] H _ := hW
  refine x_putF (pc := 2554) (ty := .array .int) (v := .ref a11) (Ws' := [[(q, .inr (0, [.ref a1, .ref a2, .ref a3, .int 0, .ref a4, .int 0, .ref a5, .int 0, .int 0, .int 0, .ref a6, .ref a7, .ref a8, .int 0, .ref a9, .ref a10, .int 0, .int 0, .int 0, .int 0, .int 0, .int 0, .int 0, .int 0, .int 0, .int 0, .int 0, .int 0, .int 0, .int 0, .int 0, .int 0, .int 0, .int 0, .int 0, .int 0, .int 0, .ref a11, .int 0, .int 0]))], [(a1, .inl (dA 0, 128, .inr (.inl M_names)))], [(a2, .inl (dA 1, 128, .inl M_shapes))], [(a3, .inl (dA 2, 128, .inl M_patterns))], [(a4, .inl (dA 3, 4100, .inl (fun _ => 0)))], [(a5, .inl (dA 3, 4100, .inl (fun _ => 0)))], [(a6, .inl (dA 2, 1030, .inl (fun _ => 0)))], [(a7, .inl (dA 2, 1030, .inl (fun _ => 0)))], [(a8, .inl (dA 2, 1030, .inl (fun _ => 0)))], [(a9, .inl (dA 2, 2060, .inl (fun _ => 0)))], [(a10, .inl (dA 2, 2060, .inl (fun _ => 0)))], [(a11, .inl (dA 2, 4100, .inl (fun _ => 0)))]]) C hW 0 rfl (ci := 0) rfl iM tM_ok nM 37 (by decide) qc_1694 rfl rfl hname rfl (by decide +kernel) rfl rfl (Nat.le_of_ble_eq_true rfl) rfl dC_Mod_init_2554 (fun H locs hW => ?_)
  have hW := hW.eqf (Ws' := [wM dA (fun k => if k = 0 then q else if k = 1 then a1 else if k = 2 then a2 else if k = 3 then a3 else if k = 4 then a4 else if k = 5 then a5 else if k = 6 then a6 else if k = 7 then a7 else if k = 8 then a8 else if k = 9 then a9 else if k = 10 then a10 else if k = 11 then a11 else 0) M0s]) rfl
  exact x_retCv (pc := 2557) C rfl hW ⟨(fun k => if k = 0 then q else if k = 1 then a1 else if k = 2 then a2 else if k = 3 then a3 else if k = 4 then a4 else if k = 5 then a5 else if k = 6 then a6 else if k = 7 then a7 else if k = 8 then a8 else if k = 9 then a9 else if k = 10 then a10 else if k = 11 then a11 else 0), rfl, rfl, rfl⟩ (by show _ ≤ 11; omega) (by show _ ≤ 19894; omega) dC_Mod_init_2557
