/-! THE LAW: its calls, one by one -/
theorem cl_L_157 : Cond.constantLong RL 157 (4294967295) ∈ tw := tw_in 1727 (by decide +kernel) rfl
theorem lk_L_13 : LkV RL 13 m_X11_looker 1 := ⟨tw_in 463 (by decide +kernel) rfl, tw_in 464 (by decide +kernel) rfl, tw_in 465 (by decide +kernel) rfl, ini_StoneInLentils, cw_X11_looker, ⟨by decide +kernel, by decide +kernel⟩, by decide +kernel⟩
theorem lk_L_17 : LkV RL 17 m_X12_looker 1 := ⟨tw_in 1290 (by decide +kernel) rfl, tw_in 1291 (by decide +kernel) rfl, tw_in 1292 (by decide +kernel) rfl, ini_StoneInLentilsModel, cw_X12_looker, ⟨by decide +kernel, by decide +kernel⟩, by decide +kernel⟩
theorem lk_L_18 : LkV RL 18 m_X11_lookers 3 := ⟨tw_in 479 (by decide +kernel) rfl, tw_in 480 (by decide +kernel) rfl, tw_in 481 (by decide +kernel) rfl, ini_StoneInLentils, cw_X11_lookers, ⟨by decide +kernel, by decide +kernel⟩, by decide +kernel⟩
theorem lk_L_22 : LkV RL 22 m_X12_lookers 3 := ⟨tw_in 1298 (by decide +kernel) rfl, tw_in 1299 (by decide +kernel) rfl, tw_in 1300 (by decide +kernel) rfl, ini_StoneInLentilsModel, cw_X12_lookers, ⟨by decide +kernel, by decide +kernel⟩, by decide +kernel⟩
theorem lk_L_23 : LkV RL 23 m_X11_mend 3 := ⟨tw_in 511 (by decide +kernel) rfl, tw_in 512 (by decide +kernel) rfl, tw_in 513 (by decide +kernel) rfl, ini_StoneInLentils, cw_X11_mend, ⟨by decide +kernel, by decide +kernel⟩, by decide +kernel⟩
theorem lk_L_26 : LkV RL 26 m_X12_mend 3 := ⟨tw_in 1320 (by decide +kernel) rfl, tw_in 1321 (by decide +kernel) rfl, tw_in 1322 (by decide +kernel) rfl, ini_StoneInLentilsModel, cw_X12_mend, ⟨by decide +kernel, by decide +kernel⟩, by decide +kernel⟩
theorem lk_L_27 : LkV RL 27 m_X11_of 2 := ⟨tw_in 537 (by decide +kernel) rfl, tw_in 538 (by decide +kernel) rfl, tw_in 539 (by decide +kernel) rfl, ini_StoneInLentils, cw_X11_of, ⟨by decide +kernel, by decide +kernel⟩, by decide +kernel⟩
theorem lk_L_31 : LkV RL 31 m_X12_of 2 := ⟨tw_in 1346 (by decide +kernel) rfl, tw_in 1347 (by decide +kernel) rfl, tw_in 1348 (by decide +kernel) rfl, ini_StoneInLentilsModel, cw_X12_of, ⟨by decide +kernel, by decide +kernel⟩, by decide +kernel⟩
theorem lk_L_32 : LkV RL 32 m_X11_feed 1 := ⟨tw_in 546 (by decide +kernel) rfl, tw_in 547 (by decide +kernel) rfl, tw_in 548 (by decide +kernel) rfl, ini_StoneInLentils, cw_X11_feed, ⟨by decide +kernel, by decide +kernel⟩, by decide +kernel⟩
theorem lk_L_35 : LkV RL 35 m_X12_feed 1 := ⟨tw_in 1350 (by decide +kernel) rfl, tw_in 1351 (by decide +kernel) rfl, tw_in 1352 (by decide +kernel) rfl, ini_StoneInLentilsModel, cw_X12_feed, ⟨by decide +kernel, by decide +kernel⟩, by decide +kernel⟩
theorem lk_L_36 : LkV RL 36 m_X11_law 0 := ⟨tw_in 558 (by decide +kernel) rfl, tw_in 559 (by decide +kernel) rfl, tw_in 560 (by decide +kernel) rfl, ini_StoneInLentils, cw_X11_law, ⟨by decide +kernel, by decide +kernel⟩, by decide +kernel⟩
theorem lk_L_40 : LkV RL 40 m_X12_law 0 := ⟨tw_in 1354 (by decide +kernel) rfl, tw_in 1355 (by decide +kernel) rfl, tw_in 1356 (by decide +kernel) rfl, ini_StoneInLentilsModel, cw_X12_law, ⟨by decide +kernel, by decide +kernel⟩, by decide +kernel⟩
theorem lk_L_41 : LkV RL 41 m_X11_finds 2 := ⟨tw_in 608 (by decide +kernel) rfl, tw_in 609 (by decide +kernel) rfl, tw_in 610 (by decide +kernel) rfl, ini_StoneInLentils, cw_X11_finds, ⟨by decide +kernel, by decide +kernel⟩, by decide +kernel⟩
theorem lk_L_44 : LkV RL 44 m_X12_finds 2 := ⟨tw_in 1413 (by decide +kernel) rfl, tw_in 1414 (by decide +kernel) rfl, tw_in 1415 (by decide +kernel) rfl, ini_StoneInLentilsModel, cw_X12_finds, ⟨by decide +kernel, by decide +kernel⟩, by decide +kernel⟩
theorem lk_L_45 : LkV RL 45 m_X11_left 4 := ⟨tw_in 650 (by decide +kernel) rfl, tw_in 651 (by decide +kernel) rfl, tw_in 652 (by decide +kernel) rfl, ini_StoneInLentils, cw_X11_left, ⟨by decide +kernel, by decide +kernel⟩, by decide +kernel⟩
theorem lk_L_49 : LkV RL 49 m_X12_left 4 := ⟨tw_in 1432 (by decide +kernel) rfl, tw_in 1433 (by decide +kernel) rfl, tw_in 1434 (by decide +kernel) rfl, ini_StoneInLentilsModel, cw_X12_left, ⟨by decide +kernel, by decide +kernel⟩, by decide +kernel⟩
theorem lk_L_50 : LkV RL 50 m_X11_mean 4 := ⟨tw_in 722 (by decide +kernel) rfl, tw_in 723 (by decide +kernel) rfl, tw_in 724 (by decide +kernel) rfl, ini_StoneInLentils, cw_X11_mean, ⟨by decide +kernel, by decide +kernel⟩, by decide +kernel⟩
theorem lk_L_53 : LkV RL 53 m_X12_mean 4 := ⟨tw_in 1483 (by decide +kernel) rfl, tw_in 1484 (by decide +kernel) rfl, tw_in 1485 (by decide +kernel) rfl, ini_StoneInLentilsModel, cw_X12_mean, ⟨by decide +kernel, by decide +kernel⟩, by decide +kernel⟩
theorem lk_L_54 : LkV RL 54 m_X11_worth 3 := ⟨tw_in 737 (by decide +kernel) rfl, tw_in 738 (by decide +kernel) rfl, tw_in 739 (by decide +kernel) rfl, ini_StoneInLentils, cw_X11_worth, ⟨by decide +kernel, by decide +kernel⟩, by decide +kernel⟩
theorem lk_L_58 : LkV RL 58 m_X12_worth 3 := ⟨tw_in 1498 (by decide +kernel) rfl, tw_in 1499 (by decide +kernel) rfl, tw_in 1500 (by decide +kernel) rfl, ini_StoneInLentilsModel, cw_X12_worth, ⟨by decide +kernel, by decide +kernel⟩, by decide +kernel⟩
theorem lk_L_59 : LkV RL 59 m_X11_next 2 := ⟨tw_in 746 (by decide +kernel) rfl, tw_in 747 (by decide +kernel) rfl, tw_in 748 (by decide +kernel) rfl, ini_StoneInLentils, cw_X11_next, ⟨by decide +kernel, by decide +kernel⟩, by decide +kernel⟩
theorem lk_L_62 : LkV RL 62 m_X12_next 2 := ⟨tw_in 1509 (by decide +kernel) rfl, tw_in 1510 (by decide +kernel) rfl, tw_in 1511 (by decide +kernel) rfl, ini_StoneInLentilsModel, cw_X12_next, ⟨by decide +kernel, by decide +kernel⟩, by decide +kernel⟩
theorem lk_L_63 : LkV RL 63 m_X11_plan 3 := ⟨tw_in 756 (by decide +kernel) rfl, tw_in 757 (by decide +kernel) rfl, tw_in 758 (by decide +kernel) rfl, ini_StoneInLentils, cw_X11_plan, ⟨by decide +kernel, by decide +kernel⟩, by decide +kernel⟩
theorem lk_L_66 : LkV RL 66 m_X12_plan 3 := ⟨tw_in 1513 (by decide +kernel) rfl, tw_in 1514 (by decide +kernel) rfl, tw_in 1515 (by decide +kernel) rfl, ini_StoneInLentilsModel, cw_X12_plan, ⟨by decide +kernel, by decide +kernel⟩, by decide +kernel⟩
theorem lk_L_67 : LkV RL 67 m_X11_buy 1 := ⟨tw_in 792 (by decide +kernel) rfl, tw_in 793 (by decide +kernel) rfl, tw_in 794 (by decide +kernel) rfl, ini_StoneInLentils, cw_X11_buy, ⟨by decide +kernel, by decide +kernel⟩, by decide +kernel⟩
theorem lk_L_71 : LkV RL 71 m_X12_buy 1 := ⟨tw_in 1525 (by decide +kernel) rfl, tw_in 1526 (by decide +kernel) rfl, tw_in 1527 (by decide +kernel) rfl, ini_StoneInLentilsModel, cw_X12_buy, ⟨by decide +kernel, by decide +kernel⟩, by decide +kernel⟩
theorem lk_L_72 : LkV RL 72 m_X11_lists 3 := ⟨tw_in 797 (by decide +kernel) rfl, tw_in 798 (by decide +kernel) rfl, tw_in 799 (by decide +kernel) rfl, ini_StoneInLentils, cw_X11_lists, ⟨by decide +kernel, by decide +kernel⟩, by decide +kernel⟩
theorem lk_L_75 : LkV RL 75 m_X12_lists 3 := ⟨tw_in 1529 (by decide +kernel) rfl, tw_in 1530 (by decide +kernel) rfl, tw_in 1531 (by decide +kernel) rfl, ini_StoneInLentilsModel, cw_X12_lists, ⟨by decide +kernel, by decide +kernel⟩, by decide +kernel⟩
theorem lk_L_76 : LkV RL 76 m_X11_likeliest 1 := ⟨tw_in 804 (by decide +kernel) rfl, tw_in 805 (by decide +kernel) rfl, tw_in 806 (by decide +kernel) rfl, ini_StoneInLentils, cw_X11_likeliest, ⟨by decide +kernel, by decide +kernel⟩, by decide +kernel⟩
theorem lk_L_79 : LkV RL 79 m_X12_likeliest 1 := ⟨tw_in 1536 (by decide +kernel) rfl, tw_in 1537 (by decide +kernel) rfl, tw_in 1538 (by decide +kernel) rfl, ini_StoneInLentilsModel, cw_X12_likeliest, ⟨by decide +kernel, by decide +kernel⟩, by decide +kernel⟩
theorem lk_L_80 : LkV RL 80 m_X11_seesFor 1 := ⟨tw_in 808 (by decide +kernel) rfl, tw_in 809 (by decide +kernel) rfl, tw_in 810 (by decide +kernel) rfl, ini_StoneInLentils, cw_X11_seesFor, ⟨by decide +kernel, by decide +kernel⟩, by decide +kernel⟩
theorem lk_L_83 : LkV RL 83 m_X12_seesFor 1 := ⟨tw_in 1540 (by decide +kernel) rfl, tw_in 1541 (by decide +kernel) rfl, tw_in 1542 (by decide +kernel) rfl, ini_StoneInLentilsModel, cw_X12_seesFor, ⟨by decide +kernel, by decide +kernel⟩, by decide +kernel⟩
theorem lk_L_84 : LkV RL 84 m_X11_besides 3 := ⟨tw_in 825 (by decide +kernel) rfl, tw_in 826 (by decide +kernel) rfl, tw_in 827 (by decide +kernel) rfl, ini_StoneInLentils, cw_X11_besides, ⟨by decide +kernel, by decide +kernel⟩, by decide +kernel⟩
theorem lk_L_87 : LkV RL 87 m_X12_besides 3 := ⟨tw_in 1560 (by decide +kernel) rfl, tw_in 1561 (by decide +kernel) rfl, tw_in 1562 (by decide +kernel) rfl, ini_StoneInLentilsModel, cw_X12_besides, ⟨by decide +kernel, by decide +kernel⟩, by decide +kernel⟩
theorem lk_L_88 : LkV RL 88 m_X11_handful 4 := ⟨tw_in 829 (by decide +kernel) rfl, tw_in 830 (by decide +kernel) rfl, tw_in 831 (by decide +kernel) rfl, ini_StoneInLentils, cw_X11_handful, ⟨by decide +kernel, by decide +kernel⟩, by decide +kernel⟩
theorem lk_L_91 : LkV RL 91 m_X12_handful 4 := ⟨tw_in 1564 (by decide +kernel) rfl, tw_in 1565 (by decide +kernel) rfl, tw_in 1566 (by decide +kernel) rfl, ini_StoneInLentilsModel, cw_X12_handful, ⟨by decide +kernel, by decide +kernel⟩, by decide +kernel⟩
theorem lk_L_92 : LkV RL 92 m_X11_heaps 3 := ⟨tw_in 836 (by decide +kernel) rfl, tw_in 837 (by decide +kernel) rfl, tw_in 838 (by decide +kernel) rfl, ini_StoneInLentils, cw_X11_heaps, ⟨by decide +kernel, by decide +kernel⟩, by decide +kernel⟩
theorem lk_L_95 : LkV RL 95 m_X12_heaps 3 := ⟨tw_in 1575 (by decide +kernel) rfl, tw_in 1576 (by decide +kernel) rfl, tw_in 1577 (by decide +kernel) rfl, ini_StoneInLentilsModel, cw_X12_heaps, ⟨by decide +kernel, by decide +kernel⟩, by decide +kernel⟩
theorem lk_L_96 : LkV RL 96 m_X11_who 4 := ⟨tw_in 865 (by decide +kernel) rfl, tw_in 866 (by decide +kernel) rfl, tw_in 867 (by decide +kernel) rfl, ini_StoneInLentils, cw_X11_who, ⟨by decide +kernel, by decide +kernel⟩, by decide +kernel⟩
theorem lk_L_100 : LkV RL 100 m_X12_who 4 := ⟨tw_in 1579 (by decide +kernel) rfl, tw_in 1580 (by decide +kernel) rfl, tw_in 1581 (by decide +kernel) rfl, ini_StoneInLentilsModel, cw_X12_who, ⟨by decide +kernel, by decide +kernel⟩, by decide +kernel⟩
theorem lk_L_101 : LkV RL 101 m_X11_drawn 4 := ⟨tw_in 909 (by decide +kernel) rfl, tw_in 910 (by decide +kernel) rfl, tw_in 911 (by decide +kernel) rfl, ini_StoneInLentils, cw_X11_drawn, ⟨by decide +kernel, by decide +kernel⟩, by decide +kernel⟩
theorem lk_L_104 : LkV RL 104 m_X12_drawn 4 := ⟨tw_in 1587 (by decide +kernel) rfl, tw_in 1588 (by decide +kernel) rfl, tw_in 1589 (by decide +kernel) rfl, ini_StoneInLentilsModel, cw_X12_drawn, ⟨by decide +kernel, by decide +kernel⟩, by decide +kernel⟩
theorem lk_L_105 : LkV RL 105 m_X11_open 2 := ⟨tw_in 931 (by decide +kernel) rfl, tw_in 932 (by decide +kernel) rfl, tw_in 933 (by decide +kernel) rfl, ini_StoneInLentils, cw_X11_open, ⟨by decide +kernel, by decide +kernel⟩, by decide +kernel⟩
theorem lk_L_108 : LkV RL 108 m_X12_open 2 := ⟨tw_in 1604 (by decide +kernel) rfl, tw_in 1605 (by decide +kernel) rfl, tw_in 1606 (by decide +kernel) rfl, ini_StoneInLentilsModel, cw_X12_open, ⟨by decide +kernel, by decide +kernel⟩, by decide +kernel⟩
theorem lk_L_109 : LkV RL 109 m_X11_look 1 := ⟨tw_in 939 (by decide +kernel) rfl, tw_in 940 (by decide +kernel) rfl, tw_in 941 (by decide +kernel) rfl, ini_StoneInLentils, cw_X11_look, ⟨by decide +kernel, by decide +kernel⟩, by decide +kernel⟩
theorem lk_L_112 : LkV RL 112 m_X12_look 1 := ⟨tw_in 1608 (by decide +kernel) rfl, tw_in 1609 (by decide +kernel) rfl, tw_in 1610 (by decide +kernel) rfl, ini_StoneInLentilsModel, cw_X12_look, ⟨by decide +kernel, by decide +kernel⟩, by decide +kernel⟩
theorem lk_L_113 : LkV RL 113 m_X11_eat 0 := ⟨tw_in 947 (by decide +kernel) rfl, tw_in 948 (by decide +kernel) rfl, tw_in 949 (by decide +kernel) rfl, ini_StoneInLentils, cw_X11_eat, ⟨by decide +kernel, by decide +kernel⟩, by decide +kernel⟩
theorem lk_L_116 : LkV RL 116 m_X12_eat 0 := ⟨tw_in 1612 (by decide +kernel) rfl, tw_in 1613 (by decide +kernel) rfl, tw_in 1614 (by decide +kernel) rfl, ini_StoneInLentilsModel, cw_X12_eat, ⟨by decide +kernel, by decide +kernel⟩, by decide +kernel⟩
theorem lk_L_117 : LkV RL 117 m_X11_led 1 := ⟨tw_in 955 (by decide +kernel) rfl, tw_in 956 (by decide +kernel) rfl, tw_in 957 (by decide +kernel) rfl, ini_StoneInLentils, cw_X11_led, ⟨by decide +kernel, by decide +kernel⟩, by decide +kernel⟩
theorem lk_L_120 : LkV RL 120 m_X12_led 1 := ⟨tw_in 1616 (by decide +kernel) rfl, tw_in 1617 (by decide +kernel) rfl, tw_in 1618 (by decide +kernel) rfl, ini_StoneInLentilsModel, cw_X12_led, ⟨by decide +kernel, by decide +kernel⟩, by decide +kernel⟩
theorem lk_L_121 : LkV RL 121 m_X11_image 0 := ⟨tw_in 959 (by decide +kernel) rfl, tw_in 960 (by decide +kernel) rfl, tw_in 961 (by decide +kernel) rfl, ini_StoneInLentils, cw_X11_image, ⟨by decide +kernel, by decide +kernel⟩, by decide +kernel⟩
theorem lk_L_124 : LkV RL 124 m_X12_image 0 := ⟨tw_in 1620 (by decide +kernel) rfl, tw_in 1621 (by decide +kernel) rfl, tw_in 1622 (by decide +kernel) rfl, ini_StoneInLentilsModel, cw_X12_image, ⟨by decide +kernel, by decide +kernel⟩, by decide +kernel⟩
theorem lk_L_125 : LkV RL 125 m_X11_back 0 := ⟨tw_in 967 (by decide +kernel) rfl, tw_in 968 (by decide +kernel) rfl, tw_in 969 (by decide +kernel) rfl, ini_StoneInLentils, cw_X11_back, ⟨by decide +kernel, by decide +kernel⟩, by decide +kernel⟩
theorem lk_L_128 : LkV RL 128 m_X12_back 0 := ⟨tw_in 1624 (by decide +kernel) rfl, tw_in 1625 (by decide +kernel) rfl, tw_in 1626 (by decide +kernel) rfl, ini_StoneInLentilsModel, cw_X12_back, ⟨by decide +kernel, by decide +kernel⟩, by decide +kernel⟩
theorem lk_L_129 : LkV RL 129 m_X11_undo 0 := ⟨tw_in 971 (by decide +kernel) rfl, tw_in 972 (by decide +kernel) rfl, tw_in 973 (by decide +kernel) rfl, ini_StoneInLentils, cw_X11_undo, ⟨by decide +kernel, by decide +kernel⟩, by decide +kernel⟩
theorem lk_L_132 : LkV RL 132 m_X12_undo 0 := ⟨tw_in 1308 (by decide +kernel) rfl, tw_in 1309 (by decide +kernel) rfl, tw_in 1310 (by decide +kernel) rfl, ini_StoneInLentilsModel, cw_X12_undo, ⟨by decide +kernel, by decide +kernel⟩, by decide +kernel⟩
theorem lk_L_133 : LkV RL 133 m_X11_redo 0 := ⟨tw_in 979 (by decide +kernel) rfl, tw_in 980 (by decide +kernel) rfl, tw_in 981 (by decide +kernel) rfl, ini_StoneInLentils, cw_X11_redo, ⟨by decide +kernel, by decide +kernel⟩, by decide +kernel⟩
theorem lk_L_136 : LkV RL 136 m_X12_redo 0 := ⟨tw_in 1316 (by decide +kernel) rfl, tw_in 1317 (by decide +kernel) rfl, tw_in 1318 (by decide +kernel) rfl, ini_StoneInLentilsModel, cw_X12_redo, ⟨by decide +kernel, by decide +kernel⟩, by decide +kernel⟩
theorem lk_L_137 : LkV RL 137 m_X11_body 1 := ⟨tw_in 987 (by decide +kernel) rfl, tw_in 988 (by decide +kernel) rfl, tw_in 989 (by decide +kernel) rfl, ini_StoneInLentils, cw_X11_body, ⟨by decide +kernel, by decide +kernel⟩, by decide +kernel⟩
theorem lk_L_140 : LkV RL 140 m_X12_body 1 := ⟨tw_in 1632 (by decide +kernel) rfl, tw_in 1633 (by decide +kernel) rfl, tw_in 1634 (by decide +kernel) rfl, ini_StoneInLentilsModel, cw_X12_body, ⟨by decide +kernel, by decide +kernel⟩, by decide +kernel⟩
theorem lk_L_141 : LkV RL 141 m_X11_act 3 := ⟨tw_in 998 (by decide +kernel) rfl, tw_in 999 (by decide +kernel) rfl, tw_in 1000 (by decide +kernel) rfl, ini_StoneInLentils, cw_X11_act, ⟨by decide +kernel, by decide +kernel⟩, by decide +kernel⟩
theorem lk_L_144 : LkV RL 144 m_X12_act 3 := ⟨tw_in 1636 (by decide +kernel) rfl, tw_in 1637 (by decide +kernel) rfl, tw_in 1638 (by decide +kernel) rfl, ini_StoneInLentilsModel, cw_X12_act, ⟨by decide +kernel, by decide +kernel⟩, by decide +kernel⟩
theorem lk_L_145 : LkV RL 145 m_X11_trace 1 := ⟨tw_in 1044 (by decide +kernel) rfl, tw_in 1045 (by decide +kernel) rfl, tw_in 1046 (by decide +kernel) rfl, ini_StoneInLentils, cw_X11_trace, ⟨by decide +kernel, by decide +kernel⟩, by decide +kernel⟩
theorem lk_L_148 : LkV RL 148 m_X12_trace 1 := ⟨tw_in 1628 (by decide +kernel) rfl, tw_in 1629 (by decide +kernel) rfl, tw_in 1630 (by decide +kernel) rfl, ini_StoneInLentilsModel, cw_X12_trace, ⟨by decide +kernel, by decide +kernel⟩, by decide +kernel⟩
theorem lk_L_149 : LkV RL 149 m_X11_keep 2 := ⟨tw_in 1052 (by decide +kernel) rfl, tw_in 1053 (by decide +kernel) rfl, tw_in 1054 (by decide +kernel) rfl, ini_StoneInLentils, cw_X11_keep, ⟨by decide +kernel, by decide +kernel⟩, by decide +kernel⟩
theorem lk_L_152 : LkV RL 152 m_X12_keep 2 := ⟨tw_in 1699 (by decide +kernel) rfl, tw_in 1700 (by decide +kernel) rfl, tw_in 1701 (by decide +kernel) rfl, ini_StoneInLentilsModel, cw_X12_keep, ⟨by decide +kernel, by decide +kernel⟩, by decide +kernel⟩
theorem lk_L_153 : LkV RL 153 m_X11_row 3 := ⟨tw_in 1064 (by decide +kernel) rfl, tw_in 1065 (by decide +kernel) rfl, tw_in 1066 (by decide +kernel) rfl, ini_StoneInLentils, cw_X11_row, ⟨by decide +kernel, by decide +kernel⟩, by decide +kernel⟩
theorem lk_L_156 : LkV RL 156 m_X12_row 3 := ⟨tw_in 1703 (by decide +kernel) rfl, tw_in 1704 (by decide +kernel) rfl, tw_in 1705 (by decide +kernel) rfl, ini_StoneInLentilsModel, cw_X12_row, ⟨by decide +kernel, by decide +kernel⟩, by decide +kernel⟩
theorem lk_L_159 : LkV RL 159 m_X11_put 3 := ⟨tw_in 1072 (by decide +kernel) rfl, tw_in 1073 (by decide +kernel) rfl, tw_in 1074 (by decide +kernel) rfl, ini_StoneInLentils, cw_X11_put, ⟨by decide +kernel, by decide +kernel⟩, by decide +kernel⟩
theorem lk_L_163 : LkV RL 163 m_X12_put 3 := ⟨tw_in 1707 (by decide +kernel) rfl, tw_in 1708 (by decide +kernel) rfl, tw_in 1709 (by decide +kernel) rfl, ini_StoneInLentilsModel, cw_X12_put, ⟨by decide +kernel, by decide +kernel⟩, by decide +kernel⟩
theorem lk_L_164 : LkV RL 164 m_X11_element 2 := ⟨tw_in 1088 (by decide +kernel) rfl, tw_in 1089 (by decide +kernel) rfl, tw_in 1090 (by decide +kernel) rfl, ini_StoneInLentils, cw_X11_element, ⟨by decide +kernel, by decide +kernel⟩, by decide +kernel⟩
theorem lk_L_168 : LkV RL 168 m_X12_element 2 := ⟨tw_in 1715 (by decide +kernel) rfl, tw_in 1716 (by decide +kernel) rfl, tw_in 1717 (by decide +kernel) rfl, ini_StoneInLentilsModel, cw_X12_element, ⟨by decide +kernel, by decide +kernel⟩, by decide +kernel⟩
theorem lk_L_169 : LkV RL 169 m_X11_shift 5 := ⟨tw_in 1092 (by decide +kernel) rfl, tw_in 1093 (by decide +kernel) rfl, tw_in 1094 (by decide +kernel) rfl, ini_StoneInLentils, cw_X11_shift, ⟨by decide +kernel, by decide +kernel⟩, by decide +kernel⟩
theorem lk_L_173 : LkV RL 173 m_X12_shift 5 := ⟨tw_in 1719 (by decide +kernel) rfl, tw_in 1720 (by decide +kernel) rfl, tw_in 1721 (by decide +kernel) rfl, ini_StoneInLentilsModel, cw_X12_shift, ⟨by decide +kernel, by decide +kernel⟩, by decide +kernel⟩
theorem lk_L_174 : LkV RL 174 m_X11_taken 2 := ⟨tw_in 1102 (by decide +kernel) rfl, tw_in 1103 (by decide +kernel) rfl, tw_in 1104 (by decide +kernel) rfl, ini_StoneInLentils, cw_X11_taken, ⟨by decide +kernel, by decide +kernel⟩, by decide +kernel⟩
theorem lk_L_177 : LkV RL 177 m_X12_taken 2 := ⟨tw_in 1723 (by decide +kernel) rfl, tw_in 1724 (by decide +kernel) rfl, tw_in 1725 (by decide +kernel) rfl, ini_StoneInLentilsModel, cw_X12_taken, ⟨by decide +kernel, by decide +kernel⟩, by decide +kernel⟩
theorem lk_L_178 : LkV RL 178 m_X11_count 1 := ⟨tw_in 1110 (by decide +kernel) rfl, tw_in 1111 (by decide +kernel) rfl, tw_in 1112 (by decide +kernel) rfl, ini_StoneInLentils, cw_X11_count, ⟨by decide +kernel, by decide +kernel⟩, by decide +kernel⟩
theorem lk_L_181 : LkV RL 181 m_X12_count 1 := ⟨tw_in 1695 (by decide +kernel) rfl, tw_in 1696 (by decide +kernel) rfl, tw_in 1697 (by decide +kernel) rfl, ini_StoneInLentilsModel, cw_X12_count, ⟨by decide +kernel, by decide +kernel⟩, by decide +kernel⟩
theorem L_c0 {X : Xt} {b L : Nat} {xs : Nat → Int32} {i : Nat} {w : Wd} (h : Rel w) (hi : i + 6 ≤ L) (ih : ∀ w1 : Wd, Rel w1 → LW X b L xs 1540 (lvI X b i) [] w1) : LW X b L xs 204 (lvI X b i) [] w := by
  obtain ⟨r, w1, w2, p1, p2, p3⟩ := Rc_looker h (xs (i + 1))
  refine L_ald1 (by decide) dL_law_204 ?_
  refine L_arg hi (j := 1) (by omega) dL_law_205 dL_law_206 dL_law_207 dL_law_208 dL_law_209 ?_
  refine L_callWI (cl := 0) (ci := 11) (d2 := 2) (r := r) (w1 := w1) rfl Kc11 (cf_X11_looker X (xs (i + 1)) w) p1 lk_L_13 (by decide) (by decide) rfl rfl (by simp [Value.category]) dL_law_210 ?_
  refine L_ald2 (by decide) dL_law_213 ?_
  refine L_arg hi (j := 1) (by omega) dL_law_214 dL_law_215 dL_law_216 dL_law_217 dL_law_218 ?_
  refine L_callWI (cl := 54) (ci := 12) (d2 := 2) (r := r) (w1 := w2) rfl Kc12 (cf_X12_looker X (xs (i + 1)) w1) p2 lk_L_17 (by decide) (by decide) rfl rfl (by simp [Value.category]) dL_law_219 ?_
  refine L_eqI (tgt := 1540) dL_law_222 (by decide) ?_
  exact ih w2 p3
theorem L_c1 {X : Xt} {b L : Nat} {xs : Nat → Int32} {i : Nat} {w : Wd} (h : Rel w) (hi : i + 6 ≤ L) (ih : ∀ w1 : Wd, Rel w1 → LW X b L xs 1540 (lvI X b i) [] w1) : LW X b L xs 227 (lvI X b i) [] w := by
  obtain ⟨r, w1, w2, p1, p2, p3⟩ := Rc_lookers h (xs (i + 1)) (xs (i + 2)) (xs (i + 3))
  refine L_ald1 (by decide) dL_law_227 ?_
  refine L_arg hi (j := 1) (by omega) dL_law_228 dL_law_229 dL_law_230 dL_law_231 dL_law_232 ?_
  refine L_arg hi (j := 2) (by omega) dL_law_233 dL_law_234 dL_law_235 dL_law_236 dL_law_237 ?_
  refine L_arg hi (j := 3) (by omega) dL_law_238 dL_law_239 dL_law_240 dL_law_241 dL_law_242 ?_
  refine L_callWI (cl := 0) (ci := 11) (d2 := 4) (r := r) (w1 := w1) rfl Kc11 (cf_X11_lookers X (xs (i + 1)) (xs (i + 2)) (xs (i + 3)) w) p1 lk_L_18 (by decide) (by decide) rfl rfl (by simp [Value.category]) dL_law_243 ?_
  refine L_ald2 (by decide) dL_law_246 ?_
  refine L_arg hi (j := 1) (by omega) dL_law_247 dL_law_248 dL_law_249 dL_law_250 dL_law_251 ?_
  refine L_arg hi (j := 2) (by omega) dL_law_252 dL_law_253 dL_law_254 dL_law_255 dL_law_256 ?_
  refine L_arg hi (j := 3) (by omega) dL_law_257 dL_law_258 dL_law_259 dL_law_260 dL_law_261 ?_
  refine L_callWI (cl := 54) (ci := 12) (d2 := 3) (r := r) (w1 := w2) rfl Kc12 (cf_X12_lookers X (xs (i + 1)) (xs (i + 2)) (xs (i + 3)) w1) p2 lk_L_22 (by decide) (by decide) rfl rfl (by simp [Value.category]) dL_law_262 ?_
  refine L_eqI (tgt := 1540) dL_law_265 (by decide) ?_
  exact ih w2 p3
theorem L_c2 {X : Xt} {b L : Nat} {xs : Nat → Int32} {i : Nat} {w : Wd} (h : Rel w) (hi : i + 6 ≤ L) (ih : ∀ w1 : Wd, Rel w1 → LW X b L xs 1540 (lvI X b i) [] w1) : LW X b L xs 270 (lvI X b i) [] w := by
  obtain ⟨r, w1, w2, p1, p2, p3⟩ := Rc_mend h (xs (i + 1)) (xs (i + 2)) (xs (i + 3))
  refine L_ald1 (by decide) dL_law_270 ?_
  refine L_arg hi (j := 1) (by omega) dL_law_271 dL_law_272 dL_law_273 dL_law_274 dL_law_275 ?_
  refine L_arg hi (j := 2) (by omega) dL_law_276 dL_law_277 dL_law_278 dL_law_279 dL_law_280 ?_
  refine L_arg hi (j := 3) (by omega) dL_law_281 dL_law_282 dL_law_283 dL_law_284 dL_law_285 ?_
  refine L_callWI (cl := 0) (ci := 11) (d2 := 3) (r := r) (w1 := w1) rfl Kc11 (cf_X11_mend X (xs (i + 1)) (xs (i + 2)) (xs (i + 3)) w) p1 lk_L_23 (by decide) (by decide) rfl rfl (by simp [Value.category]) dL_law_286 ?_
  refine L_ald2 (by decide) dL_law_289 ?_
  refine L_arg hi (j := 1) (by omega) dL_law_290 dL_law_291 dL_law_292 dL_law_293 dL_law_294 ?_
  refine L_arg hi (j := 2) (by omega) dL_law_295 dL_law_296 dL_law_297 dL_law_298 dL_law_299 ?_
  refine L_arg hi (j := 3) (by omega) dL_law_300 dL_law_301 dL_law_302 dL_law_303 dL_law_304 ?_
  refine L_callWI (cl := 54) (ci := 12) (d2 := 4) (r := r) (w1 := w2) rfl Kc12 (cf_X12_mend X (xs (i + 1)) (xs (i + 2)) (xs (i + 3)) w1) p2 lk_L_26 (by decide) (by decide) rfl rfl (by simp [Value.category]) dL_law_305 ?_
  refine L_eqI (tgt := 1540) dL_law_308 (by decide) ?_
  exact ih w2 p3
theorem L_c3 {X : Xt} {b L : Nat} {xs : Nat → Int32} {i : Nat} {w : Wd} (h : Rel w) (hi : i + 6 ≤ L) (ih : ∀ w1 : Wd, Rel w1 → LW X b L xs 1540 (lvI X b i) [] w1) : LW X b L xs 313 (lvI X b i) [] w := by
  obtain ⟨r, p1, p2⟩ := Rc_of h (xs (i + 1)) (xs (i + 2))
  refine L_ald1 (by decide) dL_law_313 ?_
  refine L_arg hi (j := 1) (by omega) dL_law_314 dL_law_315 dL_law_316 dL_law_317 dL_law_318 ?_
  refine L_arg hi (j := 2) (by omega) dL_law_319 dL_law_320 dL_law_321 dL_law_322 dL_law_323 ?_
  refine L_callRI (cl := 0) (ci := 11) (d2 := 4) (r := r) rfl Kc11 (cf_X11_of X (xs (i + 1)) (xs (i + 2)) w) p1 lk_L_27 (by decide) (by decide) rfl rfl (by simp [Value.category]) dL_law_324 ?_
  refine L_ald2 (by decide) dL_law_327 ?_
  refine L_arg hi (j := 1) (by omega) dL_law_328 dL_law_329 dL_law_330 dL_law_331 dL_law_332 ?_
  refine L_arg hi (j := 2) (by omega) dL_law_333 dL_law_334 dL_law_335 dL_law_336 dL_law_337 ?_
  refine L_callRI (cl := 54) (ci := 12) (d2 := 4) (r := r) rfl Kc12 (cf_X12_of X (xs (i + 1)) (xs (i + 2)) w) p2 lk_L_31 (by decide) (by decide) rfl rfl (by simp [Value.category]) dL_law_338 ?_
  refine L_eqI (tgt := 1540) dL_law_341 (by decide) ?_
  exact ih w h
theorem L_c4 {X : Xt} {b L : Nat} {xs : Nat → Int32} {i : Nat} {w : Wd} (h : Rel w) (hi : i + 6 ≤ L) (ih : ∀ w1 : Wd, Rel w1 → LW X b L xs 1540 (lvI X b i) [] w1) : LW X b L xs 346 (lvI X b i) [] w := by
  obtain ⟨r, w1, w2, p1, p2, p3⟩ := Rc_feed h (xs (i + 1))
  refine L_ald1 (by decide) dL_law_346 ?_
  refine L_arg hi (j := 1) (by omega) dL_law_347 dL_law_348 dL_law_349 dL_law_350 dL_law_351 ?_
  refine L_callWI (cl := 0) (ci := 11) (d2 := 2) (r := r) (w1 := w1) rfl Kc11 (cf_X11_feed X (xs (i + 1)) w) p1 lk_L_32 (by decide) (by decide) rfl rfl (by simp [Value.category]) dL_law_352 ?_
  refine L_ald2 (by decide) dL_law_355 ?_
  refine L_arg hi (j := 1) (by omega) dL_law_356 dL_law_357 dL_law_358 dL_law_359 dL_law_360 ?_
  refine L_callWI (cl := 54) (ci := 12) (d2 := 2) (r := r) (w1 := w2) rfl Kc12 (cf_X12_feed X (xs (i + 1)) w1) p2 lk_L_35 (by decide) (by decide) rfl rfl (by simp [Value.category]) dL_law_361 ?_
  refine L_eqI (tgt := 1540) dL_law_364 (by decide) ?_
  exact ih w2 p3
theorem L_c5 {X : Xt} {b L : Nat} {xs : Nat → Int32} {i : Nat} {w : Wd} (h : Rel w) (hi : i + 6 ≤ L) (ih : ∀ w1 : Wd, Rel w1 → LW X b L xs 1540 (lvI X b i) [] w1) : LW X b L xs 369 (lvI X b i) [] w := by
  obtain ⟨r, w1, w2, p1, p2, p3⟩ := Rc_law h 
  refine L_ald1 (by decide) dL_law_369 ?_
  refine L_callWI (cl := 0) (ci := 11) (d2 := 87) (r := r) (w1 := w1) rfl Kc11 (cf_X11_law X  w) p1 lk_L_36 (by decide) (by decide) rfl rfl (by simp [Value.category]) dL_law_370 ?_
  refine L_ald2 (by decide) dL_law_373 ?_
  refine L_callWI (cl := 54) (ci := 12) (d2 := 86) (r := r) (w1 := w2) rfl Kc12 (cf_X12_law X  w1) p2 lk_L_40 (by decide) (by decide) rfl rfl (by simp [Value.category]) dL_law_374 ?_
  refine L_eqI (tgt := 1540) dL_law_377 (by decide) ?_
  exact ih w2 p3
theorem L_c6 {X : Xt} {b L : Nat} {xs : Nat → Int32} {i : Nat} {w : Wd} (h : Rel w) (hi : i + 6 ≤ L) (ih : ∀ w1 : Wd, Rel w1 → LW X b L xs 1540 (lvI X b i) [] w1) : LW X b L xs 382 (lvI X b i) [] w := by
  obtain ⟨r, w1, w2, p1, p2, p3⟩ := Rc_finds h (xs (i + 1)) (xs (i + 2))
  refine L_ald1 (by decide) dL_law_382 ?_
  refine L_arg hi (j := 1) (by omega) dL_law_383 dL_law_384 dL_law_385 dL_law_386 dL_law_387 ?_
  refine L_arg hi (j := 2) (by omega) dL_law_388 dL_law_389 dL_law_390 dL_law_391 dL_law_392 ?_
  refine L_callWI (cl := 0) (ci := 11) (d2 := 6) (r := r) (w1 := w1) rfl Kc11 (cf_X11_finds X (xs (i + 1)) (xs (i + 2)) w) p1 lk_L_41 (by decide) (by decide) rfl rfl (by simp [Value.category]) dL_law_393 ?_
  refine L_ald2 (by decide) dL_law_396 ?_
  refine L_arg hi (j := 1) (by omega) dL_law_397 dL_law_398 dL_law_399 dL_law_400 dL_law_401 ?_
  refine L_arg hi (j := 2) (by omega) dL_law_402 dL_law_403 dL_law_404 dL_law_405 dL_law_406 ?_
  refine L_callWI (cl := 54) (ci := 12) (d2 := 5) (r := r) (w1 := w2) rfl Kc12 (cf_X12_finds X (xs (i + 1)) (xs (i + 2)) w1) p2 lk_L_44 (by decide) (by decide) rfl rfl (by simp [Value.category]) dL_law_407 ?_
  refine L_eqI (tgt := 1540) dL_law_410 (by decide) ?_
  exact ih w2 p3
theorem L_c7 {X : Xt} {b L : Nat} {xs : Nat → Int32} {i : Nat} {w : Wd} (h : Rel w) (hi : i + 6 ≤ L) (ih : ∀ w1 : Wd, Rel w1 → LW X b L xs 1540 (lvI X b i) [] w1) : LW X b L xs 415 (lvI X b i) [] w := by
  obtain ⟨r, w1, w2, p1, p2, p3⟩ := Rc_left h (xs (i + 1)) (xs (i + 2)) (xs (i + 3)) (xs (i + 4))
  refine L_ald1 (by decide) dL_law_415 ?_
  refine L_arg hi (j := 1) (by omega) dL_law_416 dL_law_417 dL_law_418 dL_law_419 dL_law_420 ?_
  refine L_arg hi (j := 2) (by omega) dL_law_421 dL_law_422 dL_law_423 dL_law_424 dL_law_425 ?_
  refine L_arg hi (j := 3) (by omega) dL_law_426 dL_law_427 dL_law_428 dL_law_429 dL_law_430 ?_
  refine L_arg hi (j := 4) (by omega) dL_law_431 dL_law_432 dL_law_433 dL_law_434 dL_law_435 ?_
  refine L_callWL (cl := 0) (ci := 11) (d2 := 7) (r := r) (w1 := w1) rfl Kc11 (cf_X11_left X (xs (i + 1)) (xs (i + 2)) (xs (i + 3)) (xs (i + 4)) w) p1 lk_L_45 (by decide) (by decide) rfl rfl (by simp [Value.category]) dL_law_436 ?_
  refine L_ald2 (by decide) dL_law_439 ?_
  refine L_arg hi (j := 1) (by omega) dL_law_440 dL_law_441 dL_law_442 dL_law_443 dL_law_444 ?_
  refine L_arg hi (j := 2) (by omega) dL_law_445 dL_law_446 dL_law_447 dL_law_448 dL_law_449 ?_
  refine L_arg hi (j := 3) (by omega) dL_law_450 dL_law_451 dL_law_452 dL_law_453 dL_law_454 ?_
  refine L_arg hi (j := 4) (by omega) dL_law_455 dL_law_456 dL_law_457 dL_law_458 dL_law_459 ?_
  refine L_callWL (cl := 54) (ci := 12) (d2 := 6) (r := r) (w1 := w2) rfl Kc12 (cf_X12_left X (xs (i + 1)) (xs (i + 2)) (xs (i + 3)) (xs (i + 4)) w1) p2 lk_L_49 (by decide) (by decide) rfl rfl (by simp [Value.category]) dL_law_460 ?_
  refine L_eqL (tgt := 1540) dL_law_463 dL_law_464 (by decide) ?_
  exact ih w2 p3
theorem L_c8 {X : Xt} {b L : Nat} {xs : Nat → Int32} {i : Nat} {w : Wd} (h : Rel w) (hi : i + 6 ≤ L) (ih : ∀ w1 : Wd, Rel w1 → LW X b L xs 1540 (lvI X b i) [] w1) : LW X b L xs 469 (lvI X b i) [] w := by
  obtain ⟨r, w1, w2, p1, p2, p3⟩ := Rc_mean h (xs (i + 1)) (xs (i + 2)) (xs (i + 3)) (xs (i + 4))
  refine L_ald1 (by decide) dL_law_469 ?_
  refine L_arg hi (j := 1) (by omega) dL_law_470 dL_law_471 dL_law_472 dL_law_473 dL_law_474 ?_
  refine L_arg hi (j := 2) (by omega) dL_law_475 dL_law_476 dL_law_477 dL_law_478 dL_law_479 ?_
  refine L_arg hi (j := 3) (by omega) dL_law_480 dL_law_481 dL_law_482 dL_law_483 dL_law_484 ?_
  refine L_arg hi (j := 4) (by omega) dL_law_485 dL_law_486 dL_law_487 dL_law_488 dL_law_489 ?_
  refine L_callWL (cl := 0) (ci := 11) (d2 := 7) (r := r) (w1 := w1) rfl Kc11 (cf_X11_mean X (xs (i + 1)) (xs (i + 2)) (xs (i + 3)) (xs (i + 4)) w) p1 lk_L_50 (by decide) (by decide) rfl rfl (by simp [Value.category]) dL_law_490 ?_
  refine L_ald2 (by decide) dL_law_493 ?_
  refine L_arg hi (j := 1) (by omega) dL_law_494 dL_law_495 dL_law_496 dL_law_497 dL_law_498 ?_
  refine L_arg hi (j := 2) (by omega) dL_law_499 dL_law_500 dL_law_501 dL_law_502 dL_law_503 ?_
  refine L_arg hi (j := 3) (by omega) dL_law_504 dL_law_505 dL_law_506 dL_law_507 dL_law_508 ?_
  refine L_arg hi (j := 4) (by omega) dL_law_509 dL_law_510 dL_law_511 dL_law_512 dL_law_513 ?_
  refine L_callWL (cl := 54) (ci := 12) (d2 := 6) (r := r) (w1 := w2) rfl Kc12 (cf_X12_mean X (xs (i + 1)) (xs (i + 2)) (xs (i + 3)) (xs (i + 4)) w1) p2 lk_L_53 (by decide) (by decide) rfl rfl (by simp [Value.category]) dL_law_514 ?_
  refine L_eqL (tgt := 1540) dL_law_517 dL_law_518 (by decide) ?_
  exact ih w2 p3
theorem L_c9 {X : Xt} {b L : Nat} {xs : Nat → Int32} {i : Nat} {w : Wd} (h : Rel w) (hi : i + 6 ≤ L) (ih : ∀ w1 : Wd, Rel w1 → LW X b L xs 1540 (lvI X b i) [] w1) : LW X b L xs 523 (lvI X b i) [] w := by
  obtain ⟨r, w1, w2, p1, p2, p3⟩ := Rc_worth h (xs (i + 1)) (xs (i + 2)) (xs (i + 3))
  refine L_ald1 (by decide) dL_law_523 ?_
  refine L_arg hi (j := 1) (by omega) dL_law_524 dL_law_525 dL_law_526 dL_law_527 dL_law_528 ?_
  refine L_arg hi (j := 2) (by omega) dL_law_529 dL_law_530 dL_law_531 dL_law_532 dL_law_533 ?_
  refine L_arg hi (j := 3) (by omega) dL_law_534 dL_law_535 dL_law_536 dL_law_537 dL_law_538 ?_
  refine L_callWL (cl := 0) (ci := 11) (d2 := 7) (r := r) (w1 := w1) rfl Kc11 (cf_X11_worth X (xs (i + 1)) (xs (i + 2)) (xs (i + 3)) w) p1 lk_L_54 (by decide) (by decide) rfl rfl (by simp [Value.category]) dL_law_539 ?_
  refine L_ald2 (by decide) dL_law_542 ?_
  refine L_arg hi (j := 1) (by omega) dL_law_543 dL_law_544 dL_law_545 dL_law_546 dL_law_547 ?_
  refine L_arg hi (j := 2) (by omega) dL_law_548 dL_law_549 dL_law_550 dL_law_551 dL_law_552 ?_
  refine L_arg hi (j := 3) (by omega) dL_law_553 dL_law_554 dL_law_555 dL_law_556 dL_law_557 ?_
  refine L_callWL (cl := 54) (ci := 12) (d2 := 6) (r := r) (w1 := w2) rfl Kc12 (cf_X12_worth X (xs (i + 1)) (xs (i + 2)) (xs (i + 3)) w1) p2 lk_L_58 (by decide) (by decide) rfl rfl (by simp [Value.category]) dL_law_558 ?_
  refine L_eqL (tgt := 1540) dL_law_561 dL_law_562 (by decide) ?_
  exact ih w2 p3
theorem L_c10 {X : Xt} {b L : Nat} {xs : Nat → Int32} {i : Nat} {w : Wd} (h : Rel w) (hi : i + 6 ≤ L) (ih : ∀ w1 : Wd, Rel w1 → LW X b L xs 1540 (lvI X b i) [] w1) : LW X b L xs 567 (lvI X b i) [] w := by
  obtain ⟨r, w1, w2, p1, p2, p3⟩ := Rc_next h (xs (i + 1)) (xs (i + 2))
  refine L_ald1 (by decide) dL_law_567 ?_
  refine L_arg hi (j := 1) (by omega) dL_law_568 dL_law_569 dL_law_570 dL_law_571 dL_law_572 ?_
  refine L_arg hi (j := 2) (by omega) dL_law_573 dL_law_574 dL_law_575 dL_law_576 dL_law_577 ?_
  refine L_callWI (cl := 0) (ci := 11) (d2 := 7) (r := r) (w1 := w1) rfl Kc11 (cf_X11_next X (xs (i + 1)) (xs (i + 2)) w) p1 lk_L_59 (by decide) (by decide) rfl rfl (by simp [Value.category]) dL_law_578 ?_
  refine L_ald2 (by decide) dL_law_581 ?_
  refine L_arg hi (j := 1) (by omega) dL_law_582 dL_law_583 dL_law_584 dL_law_585 dL_law_586 ?_
  refine L_arg hi (j := 2) (by omega) dL_law_587 dL_law_588 dL_law_589 dL_law_590 dL_law_591 ?_
  refine L_callWI (cl := 54) (ci := 12) (d2 := 6) (r := r) (w1 := w2) rfl Kc12 (cf_X12_next X (xs (i + 1)) (xs (i + 2)) w1) p2 lk_L_62 (by decide) (by decide) rfl rfl (by simp [Value.category]) dL_law_592 ?_
  refine L_eqI (tgt := 1540) dL_law_595 (by decide) ?_
  exact ih w2 p3
theorem L_c11 {X : Xt} {b L : Nat} {xs : Nat → Int32} {i : Nat} {w : Wd} (h : Rel w) (hi : i + 6 ≤ L) (ih : ∀ w1 : Wd, Rel w1 → LW X b L xs 1540 (lvI X b i) [] w1) : LW X b L xs 600 (lvI X b i) [] w := by
  obtain ⟨r, w1, w2, p1, p2, p3⟩ := Rc_plan h (xs (i + 1)) (xs (i + 2)) (xs (i + 3))
  refine L_ald1 (by decide) dL_law_600 ?_
  refine L_arg hi (j := 1) (by omega) dL_law_601 dL_law_602 dL_law_603 dL_law_604 dL_law_605 ?_
  refine L_arg hi (j := 2) (by omega) dL_law_606 dL_law_607 dL_law_608 dL_law_609 dL_law_610 ?_
  refine L_arg hi (j := 3) (by omega) dL_law_611 dL_law_612 dL_law_613 dL_law_614 dL_law_615 ?_
  refine L_callWL (cl := 0) (ci := 11) (d2 := 86) (r := r) (w1 := w1) rfl Kc11 (cf_X11_plan X (xs (i + 1)) (xs (i + 2)) (xs (i + 3)) w) p1 lk_L_63 (by decide) (by decide) rfl rfl (by simp [Value.category]) dL_law_616 ?_
  refine L_ald2 (by decide) dL_law_619 ?_
  refine L_arg hi (j := 1) (by omega) dL_law_620 dL_law_621 dL_law_622 dL_law_623 dL_law_624 ?_
  refine L_arg hi (j := 2) (by omega) dL_law_625 dL_law_626 dL_law_627 dL_law_628 dL_law_629 ?_
  refine L_arg hi (j := 3) (by omega) dL_law_630 dL_law_631 dL_law_632 dL_law_633 dL_law_634 ?_
  refine L_callWL (cl := 54) (ci := 12) (d2 := 87) (r := r) (w1 := w2) rfl Kc12 (cf_X12_plan X (xs (i + 1)) (xs (i + 2)) (xs (i + 3)) w1) p2 lk_L_66 (by decide) (by decide) rfl rfl (by simp [Value.category]) dL_law_635 ?_
  refine L_eqL (tgt := 1540) dL_law_638 dL_law_639 (by decide) ?_
  exact ih w2 p3
theorem L_c12 {X : Xt} {b L : Nat} {xs : Nat → Int32} {i : Nat} {w : Wd} (h : Rel w) (hi : i + 6 ≤ L) (ih : ∀ w1 : Wd, Rel w1 → LW X b L xs 1540 (lvI X b i) [] w1) : LW X b L xs 644 (lvI X b i) [] w := by
  obtain ⟨r, w1, w2, p1, p2, p3⟩ := Rc_buy h (xs (i + 1))
  refine L_ald1 (by decide) dL_law_644 ?_
  refine L_arg hi (j := 1) (by omega) dL_law_645 dL_law_646 dL_law_647 dL_law_648 dL_law_649 ?_
  refine L_callWL (cl := 0) (ci := 11) (d2 := 86) (r := r) (w1 := w1) rfl Kc11 (cf_X11_buy X (xs (i + 1)) w) p1 lk_L_67 (by decide) (by decide) rfl rfl (by simp [Value.category]) dL_law_650 ?_
  refine L_ald2 (by decide) dL_law_653 ?_
  refine L_arg hi (j := 1) (by omega) dL_law_654 dL_law_655 dL_law_656 dL_law_657 dL_law_658 ?_
  refine L_callWL (cl := 54) (ci := 12) (d2 := 87) (r := r) (w1 := w2) rfl Kc12 (cf_X12_buy X (xs (i + 1)) w1) p2 lk_L_71 (by decide) (by decide) rfl rfl (by simp [Value.category]) dL_law_659 ?_
  refine L_eqL (tgt := 1540) dL_law_662 dL_law_663 (by decide) ?_
  exact ih w2 p3
theorem L_c13 {X : Xt} {b L : Nat} {xs : Nat → Int32} {i : Nat} {w : Wd} (h : Rel w) (hi : i + 6 ≤ L) (ih : ∀ w1 : Wd, Rel w1 → LW X b L xs 1540 (lvI X b i) [] w1) : LW X b L xs 668 (lvI X b i) [] w := by
  obtain ⟨r, p1, p2⟩ := T_lists (xs (i + 1)) (xs (i + 2)) (xs (i + 3))
  refine L_ald1 (by decide) dL_law_668 ?_
  refine L_arg hi (j := 1) (by omega) dL_law_669 dL_law_670 dL_law_671 dL_law_672 dL_law_673 ?_
  refine L_arg hi (j := 2) (by omega) dL_law_674 dL_law_675 dL_law_676 dL_law_677 dL_law_678 ?_
  refine L_arg hi (j := 3) (by omega) dL_law_679 dL_law_680 dL_law_681 dL_law_682 dL_law_683 ?_
  refine L_callRL (cl := 0) (ci := 11) (d2 := 2) (r := r) rfl Kc11 (cf_X11_lists X (xs (i + 1)) (xs (i + 2)) (xs (i + 3)) w) p1 lk_L_72 (by decide) (by decide) rfl rfl (by simp [Value.category]) dL_law_684 ?_
  refine L_ald2 (by decide) dL_law_687 ?_
  refine L_arg hi (j := 1) (by omega) dL_law_688 dL_law_689 dL_law_690 dL_law_691 dL_law_692 ?_
  refine L_arg hi (j := 2) (by omega) dL_law_693 dL_law_694 dL_law_695 dL_law_696 dL_law_697 ?_
  refine L_arg hi (j := 3) (by omega) dL_law_698 dL_law_699 dL_law_700 dL_law_701 dL_law_702 ?_
  refine L_callRL (cl := 54) (ci := 12) (d2 := 3) (r := r) rfl Kc12 (cf_X12_lists X (xs (i + 1)) (xs (i + 2)) (xs (i + 3)) w) p2 lk_L_75 (by decide) (by decide) rfl rfl (by simp [Value.category]) dL_law_703 ?_
  refine L_eqL (tgt := 1540) dL_law_706 dL_law_707 (by decide) ?_
  exact ih w h
theorem L_c14 {X : Xt} {b L : Nat} {xs : Nat → Int32} {i : Nat} {w : Wd} (h : Rel w) (hi : i + 6 ≤ L) (ih : ∀ w1 : Wd, Rel w1 → LW X b L xs 1540 (lvI X b i) [] w1) : LW X b L xs 712 (lvI X b i) [] w := by
  obtain ⟨r, p1, p2⟩ := T_likeliest (xs (i + 1))
  refine L_ald1 (by decide) dL_law_712 ?_
  refine L_arg hi (j := 1) (by omega) dL_law_713 dL_law_714 dL_law_715 dL_law_716 dL_law_717 ?_
  refine L_callRI (cl := 0) (ci := 11) (d2 := 2) (r := r) rfl Kc11 (cf_X11_likeliest X (xs (i + 1)) w) p1 lk_L_76 (by decide) (by decide) rfl rfl (by simp [Value.category]) dL_law_718 ?_
  refine L_ald2 (by decide) dL_law_721 ?_
  refine L_arg hi (j := 1) (by omega) dL_law_722 dL_law_723 dL_law_724 dL_law_725 dL_law_726 ?_
  refine L_callRI (cl := 54) (ci := 12) (d2 := 2) (r := r) rfl Kc12 (cf_X12_likeliest X (xs (i + 1)) w) p2 lk_L_79 (by decide) (by decide) rfl rfl (by simp [Value.category]) dL_law_727 ?_
  refine L_eqI (tgt := 1540) dL_law_730 (by decide) ?_
  exact ih w h
theorem L_c15 {X : Xt} {b L : Nat} {xs : Nat → Int32} {i : Nat} {w : Wd} (h : Rel w) (hi : i + 6 ≤ L) (ih : ∀ w1 : Wd, Rel w1 → LW X b L xs 1540 (lvI X b i) [] w1) : LW X b L xs 735 (lvI X b i) [] w := by
  obtain ⟨r, w2, p1, p2, p3⟩ := Rc_seesFor h (xs (i + 1))
  refine L_ald1 (by decide) dL_law_735 ?_
  refine L_arg hi (j := 1) (by omega) dL_law_736 dL_law_737 dL_law_738 dL_law_739 dL_law_740 ?_
  refine L_callRI (cl := 0) (ci := 11) (d2 := 4) (r := r) rfl Kc11 (cf_X11_seesFor X (xs (i + 1)) w) p1 lk_L_80 (by decide) (by decide) rfl rfl (by simp [Value.category]) dL_law_741 ?_
  refine L_ald2 (by decide) dL_law_744 ?_
  refine L_arg hi (j := 1) (by omega) dL_law_745 dL_law_746 dL_law_747 dL_law_748 dL_law_749 ?_
  refine L_callWI (cl := 54) (ci := 12) (d2 := 3) (r := r) (w1 := w2) rfl Kc12 (cf_X12_seesFor X (xs (i + 1)) w) p2 lk_L_83 (by decide) (by decide) rfl rfl (by simp [Value.category]) dL_law_750 ?_
  refine L_eqI (tgt := 1540) dL_law_753 (by decide) ?_
  exact ih w2 p3
theorem L_c16 {X : Xt} {b L : Nat} {xs : Nat → Int32} {i : Nat} {w : Wd} (h : Rel w) (hi : i + 6 ≤ L) (ih : ∀ w1 : Wd, Rel w1 → LW X b L xs 1540 (lvI X b i) [] w1) : LW X b L xs 758 (lvI X b i) [] w := by
  obtain ⟨r, w2, p1, p2, p3⟩ := Rc_besides h (xs (i + 1)) (xs (i + 2)) (xs (i + 3))
  refine L_ald1 (by decide) dL_law_758 ?_
  refine L_arg hi (j := 1) (by omega) dL_law_759 dL_law_760 dL_law_761 dL_law_762 dL_law_763 ?_
  refine L_arg hi (j := 2) (by omega) dL_law_764 dL_law_765 dL_law_766 dL_law_767 dL_law_768 ?_
  refine L_arg hi (j := 3) (by omega) dL_law_769 dL_law_770 dL_law_771 dL_law_772 dL_law_773 ?_
  refine L_callRL (cl := 0) (ci := 11) (d2 := 4) (r := r) rfl Kc11 (cf_X11_besides X (xs (i + 1)) (xs (i + 2)) (xs (i + 3)) w) p1 lk_L_84 (by decide) (by decide) rfl rfl (by simp [Value.category]) dL_law_774 ?_
  refine L_ald2 (by decide) dL_law_777 ?_
  refine L_arg hi (j := 1) (by omega) dL_law_778 dL_law_779 dL_law_780 dL_law_781 dL_law_782 ?_
  refine L_arg hi (j := 2) (by omega) dL_law_783 dL_law_784 dL_law_785 dL_law_786 dL_law_787 ?_
  refine L_arg hi (j := 3) (by omega) dL_law_788 dL_law_789 dL_law_790 dL_law_791 dL_law_792 ?_
  refine L_callWL (cl := 54) (ci := 12) (d2 := 3) (r := r) (w1 := w2) rfl Kc12 (cf_X12_besides X (xs (i + 1)) (xs (i + 2)) (xs (i + 3)) w) p2 lk_L_87 (by decide) (by decide) rfl rfl (by simp [Value.category]) dL_law_793 ?_
  refine L_eqL (tgt := 1540) dL_law_796 dL_law_797 (by decide) ?_
  exact ih w2 p3
theorem L_c17 {X : Xt} {b L : Nat} {xs : Nat → Int32} {i : Nat} {w : Wd} (h : Rel w) (hi : i + 6 ≤ L) (ih : ∀ w1 : Wd, Rel w1 → LW X b L xs 1540 (lvI X b i) [] w1) : LW X b L xs 802 (lvI X b i) [] w := by
  obtain ⟨r, p1, p2⟩ := Rc_handful h (xs (i + 1)) (xs (i + 2)) (xs (i + 3)) (xs (i + 4))
  refine L_ald1 (by decide) dL_law_802 ?_
  refine L_arg hi (j := 1) (by omega) dL_law_803 dL_law_804 dL_law_805 dL_law_806 dL_law_807 ?_
  refine L_arg hi (j := 2) (by omega) dL_law_808 dL_law_809 dL_law_810 dL_law_811 dL_law_812 ?_
  refine L_arg hi (j := 3) (by omega) dL_law_813 dL_law_814 dL_law_815 dL_law_816 dL_law_817 ?_
  refine L_arg hi (j := 4) (by omega) dL_law_818 dL_law_819 dL_law_820 dL_law_821 dL_law_822 ?_
  refine L_callRL (cl := 0) (ci := 11) (d2 := 4) (r := r) rfl Kc11 (cf_X11_handful X (xs (i + 1)) (xs (i + 2)) (xs (i + 3)) (xs (i + 4)) w) p1 lk_L_88 (by decide) (by decide) rfl rfl (by simp [Value.category]) dL_law_823 ?_
  refine L_ald2 (by decide) dL_law_826 ?_
  refine L_arg hi (j := 1) (by omega) dL_law_827 dL_law_828 dL_law_829 dL_law_830 dL_law_831 ?_
  refine L_arg hi (j := 2) (by omega) dL_law_832 dL_law_833 dL_law_834 dL_law_835 dL_law_836 ?_
  refine L_arg hi (j := 3) (by omega) dL_law_837 dL_law_838 dL_law_839 dL_law_840 dL_law_841 ?_
  refine L_arg hi (j := 4) (by omega) dL_law_842 dL_law_843 dL_law_844 dL_law_845 dL_law_846 ?_
  refine L_callRL (cl := 54) (ci := 12) (d2 := 3) (r := r) rfl Kc12 (cf_X12_handful X (xs (i + 1)) (xs (i + 2)) (xs (i + 3)) (xs (i + 4)) w) p2 lk_L_91 (by decide) (by decide) rfl rfl (by simp [Value.category]) dL_law_847 ?_
  refine L_eqL (tgt := 1540) dL_law_850 dL_law_851 (by decide) ?_
  exact ih w h
theorem L_c18 {X : Xt} {b L : Nat} {xs : Nat → Int32} {i : Nat} {w : Wd} (h : Rel w) (hi : i + 6 ≤ L) (ih : ∀ w1 : Wd, Rel w1 → LW X b L xs 1540 (lvI X b i) [] w1) : LW X b L xs 856 (lvI X b i) [] w := by
  obtain ⟨r, w1, w2, p1, p2, p3⟩ := Rc_heaps h (xs (i + 1)) (xs (i + 2)) (xs (i + 3))
  refine L_ald1 (by decide) dL_law_856 ?_
  refine L_arg hi (j := 1) (by omega) dL_law_857 dL_law_858 dL_law_859 dL_law_860 dL_law_861 ?_
  refine L_arg hi (j := 2) (by omega) dL_law_862 dL_law_863 dL_law_864 dL_law_865 dL_law_866 ?_
  refine L_arg hi (j := 3) (by omega) dL_law_867 dL_law_868 dL_law_869 dL_law_870 dL_law_871 ?_
  refine L_callWI (cl := 0) (ci := 11) (d2 := 6) (r := r) (w1 := w1) rfl Kc11 (cf_X11_heaps X (xs (i + 1)) (xs (i + 2)) (xs (i + 3)) w) p1 lk_L_92 (by decide) (by decide) rfl rfl (by simp [Value.category]) dL_law_872 ?_
  refine L_ald2 (by decide) dL_law_875 ?_
  refine L_arg hi (j := 1) (by omega) dL_law_876 dL_law_877 dL_law_878 dL_law_879 dL_law_880 ?_
  refine L_arg hi (j := 2) (by omega) dL_law_881 dL_law_882 dL_law_883 dL_law_884 dL_law_885 ?_
  refine L_arg hi (j := 3) (by omega) dL_law_886 dL_law_887 dL_law_888 dL_law_889 dL_law_890 ?_
  refine L_callWI (cl := 54) (ci := 12) (d2 := 5) (r := r) (w1 := w2) rfl Kc12 (cf_X12_heaps X (xs (i + 1)) (xs (i + 2)) (xs (i + 3)) w1) p2 lk_L_95 (by decide) (by decide) rfl rfl (by simp [Value.category]) dL_law_891 ?_
  refine L_eqI (tgt := 1540) dL_law_894 (by decide) ?_
  exact ih w2 p3
theorem L_c19 {X : Xt} {b L : Nat} {xs : Nat → Int32} {i : Nat} {w : Wd} (h : Rel w) (hi : i + 6 ≤ L) (ih : ∀ w1 : Wd, Rel w1 → LW X b L xs 1540 (lvI X b i) [] w1) : LW X b L xs 899 (lvI X b i) [] w := by
  obtain ⟨r, w1, w2, p1, p2, p3⟩ := Rc_who h (xs (i + 1)) (xs (i + 2)) (xs (i + 3)) (xs (i + 4))
  refine L_ald1 (by decide) dL_law_899 ?_
  refine L_arg hi (j := 1) (by omega) dL_law_900 dL_law_901 dL_law_902 dL_law_903 dL_law_904 ?_
  refine L_arg hi (j := 2) (by omega) dL_law_905 dL_law_906 dL_law_907 dL_law_908 dL_law_909 ?_
  refine L_arg hi (j := 3) (by omega) dL_law_910 dL_law_911 dL_law_912 dL_law_913 dL_law_914 ?_
  refine L_arg hi (j := 4) (by omega) dL_law_915 dL_law_916 dL_law_917 dL_law_918 dL_law_919 ?_
  refine L_callWI (cl := 0) (ci := 11) (d2 := 86) (r := r) (w1 := w1) rfl Kc11 (cf_X11_who X (xs (i + 1)) (xs (i + 2)) (xs (i + 3)) (xs (i + 4)) w) p1 lk_L_96 (by decide) (by decide) rfl rfl (by simp [Value.category]) dL_law_920 ?_
  refine L_ald2 (by decide) dL_law_923 ?_
  refine L_arg hi (j := 1) (by omega) dL_law_924 dL_law_925 dL_law_926 dL_law_927 dL_law_928 ?_
  refine L_arg hi (j := 2) (by omega) dL_law_929 dL_law_930 dL_law_931 dL_law_932 dL_law_933 ?_
  refine L_arg hi (j := 3) (by omega) dL_law_934 dL_law_935 dL_law_936 dL_law_937 dL_law_938 ?_
  refine L_arg hi (j := 4) (by omega) dL_law_939 dL_law_940 dL_law_941 dL_law_942 dL_law_943 ?_
  refine L_callWI (cl := 54) (ci := 12) (d2 := 86) (r := r) (w1 := w2) rfl Kc12 (cf_X12_who X (xs (i + 1)) (xs (i + 2)) (xs (i + 3)) (xs (i + 4)) w1) p2 lk_L_100 (by decide) (by decide) rfl rfl (by simp [Value.category]) dL_law_944 ?_
  refine L_eqI (tgt := 1540) dL_law_947 (by decide) ?_
  exact ih w2 p3
theorem L_c20 {X : Xt} {b L : Nat} {xs : Nat → Int32} {i : Nat} {w : Wd} (h : Rel w) (hi : i + 6 ≤ L) (ih : ∀ w1 : Wd, Rel w1 → LW X b L xs 1540 (lvI X b i) [] w1) : LW X b L xs 952 (lvI X b i) [] w := by
  obtain ⟨r, w1, w2, p1, p2, p3⟩ := Rc_drawn h (xs (i + 1)) (xs (i + 2)) (xs (i + 3)) (xs (i + 4))
  refine L_ald1 (by decide) dL_law_952 ?_
  refine L_arg hi (j := 1) (by omega) dL_law_953 dL_law_954 dL_law_955 dL_law_956 dL_law_957 ?_
  refine L_arg hi (j := 2) (by omega) dL_law_958 dL_law_959 dL_law_960 dL_law_961 dL_law_962 ?_
  refine L_arg hi (j := 3) (by omega) dL_law_963 dL_law_964 dL_law_965 dL_law_966 dL_law_967 ?_
  refine L_arg hi (j := 4) (by omega) dL_law_968 dL_law_969 dL_law_970 dL_law_971 dL_law_972 ?_
  refine L_callWI (cl := 0) (ci := 11) (d2 := 7) (r := r) (w1 := w1) rfl Kc11 (cf_X11_drawn X (xs (i + 1)) (xs (i + 2)) (xs (i + 3)) (xs (i + 4)) w) p1 lk_L_101 (by decide) (by decide) rfl rfl (by simp [Value.category]) dL_law_973 ?_
  refine L_ald2 (by decide) dL_law_976 ?_
  refine L_arg hi (j := 1) (by omega) dL_law_977 dL_law_978 dL_law_979 dL_law_980 dL_law_981 ?_
  refine L_arg hi (j := 2) (by omega) dL_law_982 dL_law_983 dL_law_984 dL_law_985 dL_law_986 ?_
  refine L_arg hi (j := 3) (by omega) dL_law_987 dL_law_988 dL_law_989 dL_law_990 dL_law_991 ?_
  refine L_arg hi (j := 4) (by omega) dL_law_992 dL_law_993 dL_law_994 dL_law_995 dL_law_996 ?_
  refine L_callWI (cl := 54) (ci := 12) (d2 := 5) (r := r) (w1 := w2) rfl Kc12 (cf_X12_drawn X (xs (i + 1)) (xs (i + 2)) (xs (i + 3)) (xs (i + 4)) w1) p2 lk_L_104 (by decide) (by decide) rfl rfl (by simp [Value.category]) dL_law_997 ?_
  refine L_eqI (tgt := 1540) dL_law_1000 (by decide) ?_
  exact ih w2 p3
theorem L_c21 {X : Xt} {b L : Nat} {xs : Nat → Int32} {i : Nat} {w : Wd} (h : Rel w) (hi : i + 6 ≤ L) (ih : ∀ w1 : Wd, Rel w1 → LW X b L xs 1540 (lvI X b i) [] w1) : LW X b L xs 1005 (lvI X b i) [] w := by
  obtain ⟨r, w1, w2, p1, p2, p3⟩ := Rc_open h (xs (i + 1)) (xs (i + 2))
  refine L_ald1 (by decide) dL_law_1005 ?_
  refine L_arg hi (j := 1) (by omega) dL_law_1006 dL_law_1007 dL_law_1008 dL_law_1009 dL_law_1010 ?_
  refine L_arg hi (j := 2) (by omega) dL_law_1011 dL_law_1012 dL_law_1013 dL_law_1014 dL_law_1015 ?_
  refine L_callWI (cl := 0) (ci := 11) (d2 := 5) (r := r) (w1 := w1) rfl Kc11 (cf_X11_open X (xs (i + 1)) (xs (i + 2)) w) p1 lk_L_105 (by decide) (by decide) rfl rfl (by simp [Value.category]) dL_law_1016 ?_
  refine L_ald2 (by decide) dL_law_1019 ?_
  refine L_arg hi (j := 1) (by omega) dL_law_1020 dL_law_1021 dL_law_1022 dL_law_1023 dL_law_1024 ?_
  refine L_arg hi (j := 2) (by omega) dL_law_1025 dL_law_1026 dL_law_1027 dL_law_1028 dL_law_1029 ?_
  refine L_callWI (cl := 54) (ci := 12) (d2 := 3) (r := r) (w1 := w2) rfl Kc12 (cf_X12_open X (xs (i + 1)) (xs (i + 2)) w1) p2 lk_L_108 (by decide) (by decide) rfl rfl (by simp [Value.category]) dL_law_1030 ?_
  refine L_eqI (tgt := 1540) dL_law_1033 (by decide) ?_
  exact ih w2 p3
theorem L_c22 {X : Xt} {b L : Nat} {xs : Nat → Int32} {i : Nat} {w : Wd} (h : Rel w) (hi : i + 6 ≤ L) (ih : ∀ w1 : Wd, Rel w1 → LW X b L xs 1540 (lvI X b i) [] w1) : LW X b L xs 1038 (lvI X b i) [] w := by
  obtain ⟨r, w1, w2, p1, p2, p3⟩ := Rc_look h (xs (i + 1))
  refine L_ald1 (by decide) dL_law_1038 ?_
  refine L_arg hi (j := 1) (by omega) dL_law_1039 dL_law_1040 dL_law_1041 dL_law_1042 dL_law_1043 ?_
  refine L_callWI (cl := 0) (ci := 11) (d2 := 6) (r := r) (w1 := w1) rfl Kc11 (cf_X11_look X (xs (i + 1)) w) p1 lk_L_109 (by decide) (by decide) rfl rfl (by simp [Value.category]) dL_law_1044 ?_
  refine L_ald2 (by decide) dL_law_1047 ?_
  refine L_arg hi (j := 1) (by omega) dL_law_1048 dL_law_1049 dL_law_1050 dL_law_1051 dL_law_1052 ?_
  refine L_callWI (cl := 54) (ci := 12) (d2 := 5) (r := r) (w1 := w2) rfl Kc12 (cf_X12_look X (xs (i + 1)) w1) p2 lk_L_112 (by decide) (by decide) rfl rfl (by simp [Value.category]) dL_law_1053 ?_
  refine L_eqI (tgt := 1540) dL_law_1056 (by decide) ?_
  exact ih w2 p3
theorem L_c23 {X : Xt} {b L : Nat} {xs : Nat → Int32} {i : Nat} {w : Wd} (h : Rel w) (hi : i + 6 ≤ L) (ih : ∀ w1 : Wd, Rel w1 → LW X b L xs 1540 (lvI X b i) [] w1) : LW X b L xs 1061 (lvI X b i) [] w := by
  obtain ⟨r, w1, w2, p1, p2, p3⟩ := Rc_eat h 
  refine L_ald1 (by decide) dL_law_1061 ?_
  refine L_callWI (cl := 0) (ci := 11) (d2 := 4) (r := r) (w1 := w1) rfl Kc11 (cf_X11_eat X  w) p1 lk_L_113 (by decide) (by decide) rfl rfl (by simp [Value.category]) dL_law_1062 ?_
  refine L_ald2 (by decide) dL_law_1065 ?_
  refine L_callWI (cl := 54) (ci := 12) (d2 := 1) (r := r) (w1 := w2) rfl Kc12 (cf_X12_eat X  w1) p2 lk_L_116 (by decide) (by decide) rfl rfl (by simp [Value.category]) dL_law_1066 ?_
  refine L_eqI (tgt := 1540) dL_law_1069 (by decide) ?_
  exact ih w2 p3
theorem L_c24 {X : Xt} {b L : Nat} {xs : Nat → Int32} {i : Nat} {w : Wd} (h : Rel w) (hi : i + 6 ≤ L) (ih : ∀ w1 : Wd, Rel w1 → LW X b L xs 1540 (lvI X b i) [] w1) : LW X b L xs 1074 (lvI X b i) [] w := by
  obtain ⟨r, p1, p2⟩ := Rc_led h (xs (i + 1))
  refine L_ald1 (by decide) dL_law_1074 ?_
  refine L_arg hi (j := 1) (by omega) dL_law_1075 dL_law_1076 dL_law_1077 dL_law_1078 dL_law_1079 ?_
  refine L_callRI (cl := 0) (ci := 11) (d2 := 1) (r := r) rfl Kc11 (cf_X11_led X (xs (i + 1)) w) p1 lk_L_117 (by decide) (by decide) rfl rfl (by simp [Value.category]) dL_law_1080 ?_
  refine L_ald2 (by decide) dL_law_1083 ?_
  refine L_arg hi (j := 1) (by omega) dL_law_1084 dL_law_1085 dL_law_1086 dL_law_1087 dL_law_1088 ?_
  refine L_callRI (cl := 54) (ci := 12) (d2 := 2) (r := r) rfl Kc12 (cf_X12_led X (xs (i + 1)) w) p2 lk_L_120 (by decide) (by decide) rfl rfl (by simp [Value.category]) dL_law_1089 ?_
  refine L_eqI (tgt := 1540) dL_law_1092 (by decide) ?_
  exact ih w h
theorem L_c25 {X : Xt} {b L : Nat} {xs : Nat → Int32} {i : Nat} {w : Wd} (h : Rel w) (hi : i + 6 ≤ L) (ih : ∀ w1 : Wd, Rel w1 → LW X b L xs 1540 (lvI X b i) [] w1) : LW X b L xs 1097 (lvI X b i) [] w := by
  obtain ⟨r, w1, w2, p1, p2, p3⟩ := Rc_image h 
  refine L_ald1 (by decide) dL_law_1097 ?_
  refine L_callWI (cl := 0) (ci := 11) (d2 := 2) (r := r) (w1 := w1) rfl Kc11 (cf_X11_image X  w) p1 lk_L_121 (by decide) (by decide) rfl rfl (by simp [Value.category]) dL_law_1098 ?_
  refine L_ald2 (by decide) dL_law_1101 ?_
  refine L_callWI (cl := 54) (ci := 12) (d2 := 1) (r := r) (w1 := w2) rfl Kc12 (cf_X12_image X  w1) p2 lk_L_124 (by decide) (by decide) rfl rfl (by simp [Value.category]) dL_law_1102 ?_
  refine L_eqI (tgt := 1540) dL_law_1105 (by decide) ?_
  exact ih w2 p3
theorem L_c26 {X : Xt} {b L : Nat} {xs : Nat → Int32} {i : Nat} {w : Wd} (h : Rel w) (hi : i + 6 ≤ L) (ih : ∀ w1 : Wd, Rel w1 → LW X b L xs 1540 (lvI X b i) [] w1) : LW X b L xs 1110 (lvI X b i) [] w := by
  obtain ⟨r, w1, w2, p1, p2, p3⟩ := Rc_back h 
  refine L_ald1 (by decide) dL_law_1110 ?_
  refine L_callWI (cl := 0) (ci := 11) (d2 := 2) (r := r) (w1 := w1) rfl Kc11 (cf_X11_back X  w) p1 lk_L_125 (by decide) (by decide) rfl rfl (by simp [Value.category]) dL_law_1111 ?_
  refine L_ald2 (by decide) dL_law_1114 ?_
  refine L_callWI (cl := 54) (ci := 12) (d2 := 1) (r := r) (w1 := w2) rfl Kc12 (cf_X12_back X  w1) p2 lk_L_128 (by decide) (by decide) rfl rfl (by simp [Value.category]) dL_law_1115 ?_
  refine L_eqI (tgt := 1540) dL_law_1118 (by decide) ?_
  exact ih w2 p3
theorem L_c27 {X : Xt} {b L : Nat} {xs : Nat → Int32} {i : Nat} {w : Wd} (h : Rel w) (hi : i + 6 ≤ L) (ih : ∀ w1 : Wd, Rel w1 → LW X b L xs 1540 (lvI X b i) [] w1) : LW X b L xs 1123 (lvI X b i) [] w := by
  obtain ⟨r, w1, w2, p1, p2, p3⟩ := Rc_undo h 
  refine L_ald1 (by decide) dL_law_1123 ?_
  refine L_callWI (cl := 0) (ci := 11) (d2 := 2) (r := r) (w1 := w1) rfl Kc11 (cf_X11_undo X  w) p1 lk_L_129 (by decide) (by decide) rfl rfl (by simp [Value.category]) dL_law_1124 ?_
  refine L_ald2 (by decide) dL_law_1127 ?_
  refine L_callWI (cl := 54) (ci := 12) (d2 := 2) (r := r) (w1 := w2) rfl Kc12 (cf_X12_undo X  w1) p2 lk_L_132 (by decide) (by decide) rfl rfl (by simp [Value.category]) dL_law_1128 ?_
  refine L_eqI (tgt := 1540) dL_law_1131 (by decide) ?_
  exact ih w2 p3
theorem L_c28 {X : Xt} {b L : Nat} {xs : Nat → Int32} {i : Nat} {w : Wd} (h : Rel w) (hi : i + 6 ≤ L) (ih : ∀ w1 : Wd, Rel w1 → LW X b L xs 1540 (lvI X b i) [] w1) : LW X b L xs 1136 (lvI X b i) [] w := by
  obtain ⟨r, w1, w2, p1, p2, p3⟩ := Rc_redo h 
  refine L_ald1 (by decide) dL_law_1136 ?_
  refine L_callWI (cl := 0) (ci := 11) (d2 := 2) (r := r) (w1 := w1) rfl Kc11 (cf_X11_redo X  w) p1 lk_L_133 (by decide) (by decide) rfl rfl (by simp [Value.category]) dL_law_1137 ?_
  refine L_ald2 (by decide) dL_law_1140 ?_
  refine L_callWI (cl := 54) (ci := 12) (d2 := 2) (r := r) (w1 := w2) rfl Kc12 (cf_X12_redo X  w1) p2 lk_L_136 (by decide) (by decide) rfl rfl (by simp [Value.category]) dL_law_1141 ?_
  refine L_eqI (tgt := 1540) dL_law_1144 (by decide) ?_
  exact ih w2 p3
theorem L_c29 {X : Xt} {b L : Nat} {xs : Nat → Int32} {i : Nat} {w : Wd} (h : Rel w) (hi : i + 6 ≤ L) (ih : ∀ w1 : Wd, Rel w1 → LW X b L xs 1540 (lvI X b i) [] w1) : LW X b L xs 1149 (lvI X b i) [] w := by
  obtain ⟨r, w1, w2, p1, p2, p3⟩ := Rc_body h (xs (i + 1))
  refine L_ald1 (by decide) dL_law_1149 ?_
  refine L_arg hi (j := 1) (by omega) dL_law_1150 dL_law_1151 dL_law_1152 dL_law_1153 dL_law_1154 ?_
  refine L_callWI (cl := 0) (ci := 11) (d2 := 2) (r := r) (w1 := w1) rfl Kc11 (cf_X11_body X (xs (i + 1)) w) p1 lk_L_137 (by decide) (by decide) rfl rfl (by simp [Value.category]) dL_law_1155 ?_
  refine L_ald2 (by decide) dL_law_1158 ?_
  refine L_arg hi (j := 1) (by omega) dL_law_1159 dL_law_1160 dL_law_1161 dL_law_1162 dL_law_1163 ?_
  refine L_callWI (cl := 54) (ci := 12) (d2 := 2) (r := r) (w1 := w2) rfl Kc12 (cf_X12_body X (xs (i + 1)) w1) p2 lk_L_140 (by decide) (by decide) rfl rfl (by simp [Value.category]) dL_law_1164 ?_
  refine L_eqI (tgt := 1540) dL_law_1167 (by decide) ?_
  exact ih w2 p3
theorem L_c30 {X : Xt} {b L : Nat} {xs : Nat → Int32} {i : Nat} {w : Wd} (h : Rel w) (hi : i + 6 ≤ L) (ih : ∀ w1 : Wd, Rel w1 → LW X b L xs 1540 (lvI X b i) [] w1) : LW X b L xs 1172 (lvI X b i) [] w := by
  obtain ⟨r, w1, w2, p1, p2, p3⟩ := Rc_act h (xs (i + 1)) (xs (i + 2)) (xs (i + 3))
  refine L_ald1 (by decide) dL_law_1172 ?_
  refine L_arg hi (j := 1) (by omega) dL_law_1173 dL_law_1174 dL_law_1175 dL_law_1176 dL_law_1177 ?_
  refine L_arg hi (j := 2) (by omega) dL_law_1178 dL_law_1179 dL_law_1180 dL_law_1181 dL_law_1182 ?_
  refine L_arg hi (j := 3) (by omega) dL_law_1183 dL_law_1184 dL_law_1185 dL_law_1186 dL_law_1187 ?_
  refine L_callWI (cl := 0) (ci := 11) (d2 := 85) (r := r) (w1 := w1) rfl Kc11 (cf_X11_act X (xs (i + 1)) (xs (i + 2)) (xs (i + 3)) w) p1 lk_L_141 (by decide) (by decide) rfl rfl (by simp [Value.category]) dL_law_1188 ?_
  refine L_ald2 (by decide) dL_law_1191 ?_
  refine L_arg hi (j := 1) (by omega) dL_law_1192 dL_law_1193 dL_law_1194 dL_law_1195 dL_law_1196 ?_
  refine L_arg hi (j := 2) (by omega) dL_law_1197 dL_law_1198 dL_law_1199 dL_law_1200 dL_law_1201 ?_
  refine L_arg hi (j := 3) (by omega) dL_law_1202 dL_law_1203 dL_law_1204 dL_law_1205 dL_law_1206 ?_
  refine L_callWI (cl := 54) (ci := 12) (d2 := 10) (r := r) (w1 := w2) rfl Kc12 (cf_X12_act X (xs (i + 1)) (xs (i + 2)) (xs (i + 3)) w1) p2 lk_L_144 (by decide) (by decide) rfl rfl (by simp [Value.category]) dL_law_1207 ?_
  refine L_eqI (tgt := 1540) dL_law_1210 (by decide) ?_
  exact ih w2 p3
theorem L_c31 {X : Xt} {b L : Nat} {xs : Nat → Int32} {i : Nat} {w : Wd} (h : Rel w) (hi : i + 6 ≤ L) (ih : ∀ w1 : Wd, Rel w1 → LW X b L xs 1540 (lvI X b i) [] w1) : LW X b L xs 1215 (lvI X b i) [] w := by
  obtain ⟨r, p1, p2⟩ := Rc_trace h (xs (i + 1))
  refine L_ald1 (by decide) dL_law_1215 ?_
  refine L_arg hi (j := 1) (by omega) dL_law_1216 dL_law_1217 dL_law_1218 dL_law_1219 dL_law_1220 ?_
  refine L_callRI (cl := 0) (ci := 11) (d2 := 2) (r := r) rfl Kc11 (cf_X11_trace X (xs (i + 1)) w) p1 lk_L_145 (by decide) (by decide) rfl rfl (by simp [Value.category]) dL_law_1221 ?_
  refine L_ald2 (by decide) dL_law_1224 ?_
  refine L_arg hi (j := 1) (by omega) dL_law_1225 dL_law_1226 dL_law_1227 dL_law_1228 dL_law_1229 ?_
  refine L_callRI (cl := 54) (ci := 12) (d2 := 1) (r := r) rfl Kc12 (cf_X12_trace X (xs (i + 1)) w) p2 lk_L_148 (by decide) (by decide) rfl rfl (by simp [Value.category]) dL_law_1230 ?_
  refine L_eqI (tgt := 1540) dL_law_1233 (by decide) ?_
  exact ih w h
theorem L_c32 {X : Xt} {b L : Nat} {xs : Nat → Int32} {i : Nat} {w : Wd} (h : Rel w) (hi : i + 6 ≤ L) (ih : ∀ w1 : Wd, Rel w1 → LW X b L xs 1540 (lvI X b i) [] w1) : LW X b L xs 1238 (lvI X b i) [] w := by
  obtain ⟨r, w1, w2, p1, p2, p3⟩ := Rc_keep h (xs (i + 1)) (xs (i + 2))
  refine L_ald1 (by decide) dL_law_1238 ?_
  refine L_arg hi (j := 1) (by omega) dL_law_1239 dL_law_1240 dL_law_1241 dL_law_1242 dL_law_1243 ?_
  refine L_arg hi (j := 2) (by omega) dL_law_1244 dL_law_1245 dL_law_1246 dL_law_1247 dL_law_1248 ?_
  refine L_callWI (cl := 0) (ci := 11) (d2 := 2) (r := r) (w1 := w1) rfl Kc11 (cf_X11_keep X (xs (i + 1)) (xs (i + 2)) w) p1 lk_L_149 (by decide) (by decide) rfl rfl (by simp [Value.category]) dL_law_1249 ?_
  refine L_ald2 (by decide) dL_law_1252 ?_
  refine L_arg hi (j := 1) (by omega) dL_law_1253 dL_law_1254 dL_law_1255 dL_law_1256 dL_law_1257 ?_
  refine L_arg hi (j := 2) (by omega) dL_law_1258 dL_law_1259 dL_law_1260 dL_law_1261 dL_law_1262 ?_
  refine L_callWI (cl := 54) (ci := 12) (d2 := 3) (r := r) (w1 := w2) rfl Kc12 (cf_X12_keep X (xs (i + 1)) (xs (i + 2)) w1) p2 lk_L_152 (by decide) (by decide) rfl rfl (by simp [Value.category]) dL_law_1263 ?_
  refine L_eqI (tgt := 1540) dL_law_1266 (by decide) ?_
  exact ih w2 p3
theorem L_c33 {X : Xt} {b L : Nat} {xs : Nat → Int32} {i : Nat} {w : Wd} (h : Rel w) (hi : i + 6 ≤ L) (ih : ∀ w1 : Wd, Rel w1 → LW X b L xs 1540 (lvI X b i) [] w1) : LW X b L xs 1271 (lvI X b i) [] w := by
  obtain ⟨r, w1, w2, p1, p2, p3⟩ := Rc_row h (xs (i + 1)) (xs (i + 2)) (xs (i + 3))
  refine L_ald1 (by decide) dL_law_1271 ?_
  refine L_arg hi (j := 1) (by omega) dL_law_1272 dL_law_1273 dL_law_1274 dL_law_1275 dL_law_1276 ?_
  refine L_arg hi (j := 2) (by omega) dL_law_1277 dL_law_1278 dL_law_1279 dL_law_1280 dL_law_1281 ?_
  refine L_arg hi (j := 3) (by omega) dL_law_1282 dL_law_1283 dL_law_1284 dL_law_1285 dL_law_1286 ?_
  refine L_callWI (cl := 0) (ci := 11) (d2 := 2) (r := r) (w1 := w1) rfl Kc11 (cf_X11_row X (xs (i + 1)) (xs (i + 2)) (xs (i + 3)) w) p1 lk_L_153 (by decide) (by decide) rfl rfl (by simp [Value.category]) dL_law_1287 ?_
  refine L_ald2 (by decide) dL_law_1290 ?_
  refine L_arg hi (j := 1) (by omega) dL_law_1291 dL_law_1292 dL_law_1293 dL_law_1294 dL_law_1295 ?_
  refine L_arg hi (j := 2) (by omega) dL_law_1296 dL_law_1297 dL_law_1298 dL_law_1299 dL_law_1300 ?_
  refine L_arg hi (j := 3) (by omega) dL_law_1301 dL_law_1302 dL_law_1303 dL_law_1304 dL_law_1305 ?_
  refine L_callWI (cl := 54) (ci := 12) (d2 := 3) (r := r) (w1 := w2) rfl Kc12 (cf_X12_row X (xs (i + 1)) (xs (i + 2)) (xs (i + 3)) w1) p2 lk_L_156 (by decide) (by decide) rfl rfl (by simp [Value.category]) dL_law_1306 ?_
  refine L_eqI (tgt := 1540) dL_law_1309 (by decide) ?_
  exact ih w2 p3
theorem L_c34 {X : Xt} {b L : Nat} {xs : Nat → Int32} {i : Nat} {w : Wd} (h : Rel w) (hi : i + 6 ≤ L) (ih : ∀ w1 : Wd, Rel w1 → LW X b L xs 1540 (lvI X b i) [] w1) : LW X b L xs 1314 (lvI X b i) [] w := by
  obtain ⟨r, w1, w2, p1, p2, p3⟩ := Rc_put h (xs (i + 1)) (xs (i + 2)) ((lshl (xs (i + 3)).toInt64 32) ||| ((xs (i + 4)).toInt64 &&& 4294967295))
  refine L_ald1 (by decide) dL_law_1314 ?_
  refine L_arg hi (j := 1) (by omega) dL_law_1315 dL_law_1316 dL_law_1317 dL_law_1318 dL_law_1319 ?_
  refine L_arg hi (j := 2) (by omega) dL_law_1320 dL_law_1321 dL_law_1322 dL_law_1323 dL_law_1324 ?_
  refine L_arg hi (j := 3) (by omega) dL_law_1325 dL_law_1326 dL_law_1327 dL_law_1328 dL_law_1329 ?_
  refine L_i2l dL_law_1330 ?_
  refine L_bip (v := 32) dL_law_1331 (by decide) ?_
  refine L_lshl dL_law_1333 ?_
  refine L_arg hi (j := 4) (by omega) dL_law_1334 dL_law_1335 dL_law_1336 dL_law_1337 dL_law_1338 ?_
  refine L_i2l dL_law_1339 ?_
  refine L_ldc2 dL_law_1340 cl_L_157 ?_
  refine L_land dL_law_1343 ?_
  refine L_lor dL_law_1344 ?_
  refine L_callWI (cl := 0) (ci := 11) (d2 := 3) (r := r) (w1 := w1) rfl Kc11 (cf_X11_put X (xs (i + 1)) (xs (i + 2)) ((lshl (xs (i + 3)).toInt64 32) ||| ((xs (i + 4)).toInt64 &&& 4294967295)) w) p1 lk_L_159 (by decide) (by decide) rfl rfl (by simp [Value.category]) dL_law_1345 ?_
  refine L_ald2 (by decide) dL_law_1348 ?_
  refine L_arg hi (j := 1) (by omega) dL_law_1349 dL_law_1350 dL_law_1351 dL_law_1352 dL_law_1353 ?_
  refine L_arg hi (j := 2) (by omega) dL_law_1354 dL_law_1355 dL_law_1356 dL_law_1357 dL_law_1358 ?_
  refine L_arg hi (j := 3) (by omega) dL_law_1359 dL_law_1360 dL_law_1361 dL_law_1362 dL_law_1363 ?_
  refine L_i2l dL_law_1364 ?_
  refine L_bip (v := 32) dL_law_1365 (by decide) ?_
  refine L_lshl dL_law_1367 ?_
  refine L_arg hi (j := 4) (by omega) dL_law_1368 dL_law_1369 dL_law_1370 dL_law_1371 dL_law_1372 ?_
  refine L_i2l dL_law_1373 ?_
  refine L_ldc2 dL_law_1374 cl_L_157 ?_
  refine L_land dL_law_1377 ?_
  refine L_lor dL_law_1378 ?_
  refine L_callWI (cl := 54) (ci := 12) (d2 := 4) (r := r) (w1 := w2) rfl Kc12 (cf_X12_put X (xs (i + 1)) (xs (i + 2)) ((lshl (xs (i + 3)).toInt64 32) ||| ((xs (i + 4)).toInt64 &&& 4294967295)) w1) p2 lk_L_163 (by decide) (by decide) rfl rfl (by simp [Value.category]) dL_law_1379 ?_
  refine L_eqI (tgt := 1540) dL_law_1382 (by decide) ?_
  exact ih w2 p3
theorem L_c35 {X : Xt} {b L : Nat} {xs : Nat → Int32} {i : Nat} {w : Wd} (h : Rel w) (hi : i + 6 ≤ L) (ih : ∀ w1 : Wd, Rel w1 → LW X b L xs 1540 (lvI X b i) [] w1) : LW X b L xs 1387 (lvI X b i) [] w := by
  obtain ⟨r, p1, p2⟩ := Rc_element h (xs (i + 1)) (xs (i + 2))
  refine L_ald1 (by decide) dL_law_1387 ?_
  refine L_arg hi (j := 1) (by omega) dL_law_1388 dL_law_1389 dL_law_1390 dL_law_1391 dL_law_1392 ?_
  refine L_arg hi (j := 2) (by omega) dL_law_1393 dL_law_1394 dL_law_1395 dL_law_1396 dL_law_1397 ?_
  refine L_callRL (cl := 0) (ci := 11) (d2 := 3) (r := r) rfl Kc11 (cf_X11_element X (xs (i + 1)) (xs (i + 2)) w) p1 lk_L_164 (by decide) (by decide) rfl rfl (by simp [Value.category]) dL_law_1398 ?_
  refine L_ald2 (by decide) dL_law_1401 ?_
  refine L_arg hi (j := 1) (by omega) dL_law_1402 dL_law_1403 dL_law_1404 dL_law_1405 dL_law_1406 ?_
  refine L_arg hi (j := 2) (by omega) dL_law_1407 dL_law_1408 dL_law_1409 dL_law_1410 dL_law_1411 ?_
  refine L_callRL (cl := 54) (ci := 12) (d2 := 4) (r := r) rfl Kc12 (cf_X12_element X (xs (i + 1)) (xs (i + 2)) w) p2 lk_L_168 (by decide) (by decide) rfl rfl (by simp [Value.category]) dL_law_1412 ?_
  refine L_eqL (tgt := 1540) dL_law_1415 dL_law_1416 (by decide) ?_
  exact ih w h
theorem L_c36 {X : Xt} {b L : Nat} {xs : Nat → Int32} {i : Nat} {w : Wd} (h : Rel w) (hi : i + 6 ≤ L) (ih : ∀ w1 : Wd, Rel w1 → LW X b L xs 1540 (lvI X b i) [] w1) : LW X b L xs 1421 (lvI X b i) [] w := by
  obtain ⟨r, w1, w2, p1, p2, p3⟩ := Rc_shift h (xs (i + 1)) (xs (i + 2)) (xs (i + 3)) (xs (i + 4)) (xs (i + 5))
  refine L_ald1 (by decide) dL_law_1421 ?_
  refine L_arg hi (j := 1) (by omega) dL_law_1422 dL_law_1423 dL_law_1424 dL_law_1425 dL_law_1426 ?_
  refine L_arg hi (j := 2) (by omega) dL_law_1427 dL_law_1428 dL_law_1429 dL_law_1430 dL_law_1431 ?_
  refine L_arg hi (j := 3) (by omega) dL_law_1432 dL_law_1433 dL_law_1434 dL_law_1435 dL_law_1436 ?_
  refine L_arg hi (j := 4) (by omega) dL_law_1437 dL_law_1438 dL_law_1439 dL_law_1440 dL_law_1441 ?_
  refine L_arg hi (j := 5) (by omega) dL_law_1442 dL_law_1443 dL_law_1444 dL_law_1445 dL_law_1446 ?_
  refine L_callWI (cl := 0) (ci := 11) (d2 := 3) (r := r) (w1 := w1) rfl Kc11 (cf_X11_shift X (xs (i + 1)) (xs (i + 2)) (xs (i + 3)) (xs (i + 4)) (xs (i + 5)) w) p1 lk_L_169 (by decide) (by decide) rfl rfl (by simp [Value.category]) dL_law_1447 ?_
  refine L_ald2 (by decide) dL_law_1450 ?_
  refine L_arg hi (j := 1) (by omega) dL_law_1451 dL_law_1452 dL_law_1453 dL_law_1454 dL_law_1455 ?_
  refine L_arg hi (j := 2) (by omega) dL_law_1456 dL_law_1457 dL_law_1458 dL_law_1459 dL_law_1460 ?_
  refine L_arg hi (j := 3) (by omega) dL_law_1461 dL_law_1462 dL_law_1463 dL_law_1464 dL_law_1465 ?_
  refine L_arg hi (j := 4) (by omega) dL_law_1466 dL_law_1467 dL_law_1468 dL_law_1469 dL_law_1470 ?_
  refine L_arg hi (j := 5) (by omega) dL_law_1471 dL_law_1472 dL_law_1473 dL_law_1474 dL_law_1475 ?_
  refine L_callWI (cl := 54) (ci := 12) (d2 := 3) (r := r) (w1 := w2) rfl Kc12 (cf_X12_shift X (xs (i + 1)) (xs (i + 2)) (xs (i + 3)) (xs (i + 4)) (xs (i + 5)) w1) p2 lk_L_173 (by decide) (by decide) rfl rfl (by simp [Value.category]) dL_law_1476 ?_
  refine L_eqI (tgt := 1540) dL_law_1479 (by decide) ?_
  exact ih w2 p3
theorem L_c37 {X : Xt} {b L : Nat} {xs : Nat → Int32} {i : Nat} {w : Wd} (h : Rel w) (hi : i + 6 ≤ L) (ih : ∀ w1 : Wd, Rel w1 → LW X b L xs 1540 (lvI X b i) [] w1) : LW X b L xs 1484 (lvI X b i) [] w := by
  obtain ⟨r, p1, p2⟩ := Rc_taken h (xs (i + 1)) (xs (i + 2))
  refine L_ald1 (by decide) dL_law_1484 ?_
  refine L_arg hi (j := 1) (by omega) dL_law_1485 dL_law_1486 dL_law_1487 dL_law_1488 dL_law_1489 ?_
  refine L_arg hi (j := 2) (by omega) dL_law_1490 dL_law_1491 dL_law_1492 dL_law_1493 dL_law_1494 ?_
  refine L_callRI (cl := 0) (ci := 11) (d2 := 3) (r := r) rfl Kc11 (cf_X11_taken X (xs (i + 1)) (xs (i + 2)) w) p1 lk_L_174 (by decide) (by decide) rfl rfl (by simp [Value.category]) dL_law_1495 ?_
  refine L_ald2 (by decide) dL_law_1498 ?_
  refine L_arg hi (j := 1) (by omega) dL_law_1499 dL_law_1500 dL_law_1501 dL_law_1502 dL_law_1503 ?_
  refine L_arg hi (j := 2) (by omega) dL_law_1504 dL_law_1505 dL_law_1506 dL_law_1507 dL_law_1508 ?_
  refine L_callRI (cl := 54) (ci := 12) (d2 := 3) (r := r) rfl Kc12 (cf_X12_taken X (xs (i + 1)) (xs (i + 2)) w) p2 lk_L_177 (by decide) (by decide) rfl rfl (by simp [Value.category]) dL_law_1509 ?_
  refine L_eqI (tgt := 1540) dL_law_1512 (by decide) ?_
  exact ih w h
theorem L_c38 {X : Xt} {b L : Nat} {xs : Nat → Int32} {i : Nat} {w : Wd} (h : Rel w) (hi : i + 6 ≤ L) (ih : ∀ w1 : Wd, Rel w1 → LW X b L xs 1540 (lvI X b i) [] w1) : LW X b L xs 1517 (lvI X b i) [] w := by
  obtain ⟨r, p1, p2⟩ := Rc_count h (xs (i + 1))
  refine L_ald1 (by decide) dL_law_1517 ?_
  refine L_arg hi (j := 1) (by omega) dL_law_1518 dL_law_1519 dL_law_1520 dL_law_1521 dL_law_1522 ?_
  refine L_callRI (cl := 0) (ci := 11) (d2 := 1) (r := r) rfl Kc11 (cf_X11_count X (xs (i + 1)) w) p1 lk_L_178 (by decide) (by decide) rfl rfl (by simp [Value.category]) dL_law_1523 ?_
  refine L_ald2 (by decide) dL_law_1526 ?_
  refine L_arg hi (j := 1) (by omega) dL_law_1527 dL_law_1528 dL_law_1529 dL_law_1530 dL_law_1531 ?_
  refine L_callRI (cl := 54) (ci := 12) (d2 := 1) (r := r) rfl Kc12 (cf_X12_count X (xs (i + 1)) w) p2 lk_L_181 (by decide) (by decide) rfl rfl (by simp [Value.category]) dL_law_1532 ?_
  refine L_eqI (tgt := 1540) dL_law_1535 (by decide) ?_
  exact ih w h
theorem L_sw {X : Xt} {b L : Nat} {xs : Nat → Int32} {i n : Nat} {w : Wd} (hn : n ≤ 63) (h : Rel w) (hi : i + 6 ≤ L) (ih : ∀ w1 : Wd, Rel w1 → LW X b L xs 1540 (lvI X b i) [] w1) : LW X b L xs 33 (lvI X b i) [.int (nI n)] w := by
  by_cases hb : 38 < n
  · refine L_tabOut dL_law_33 (Or.inr ?_) (by decide) (ih w h)
    rw [nI_toInt (by omega)]; omega
  · rcases (show n = 0 ∨ n = 1 ∨ n = 2 ∨ n = 3 ∨ n = 4 ∨ n = 5 ∨ n = 6 ∨ n = 7 ∨ n = 8 ∨ n = 9 ∨ n = 10 ∨ n = 11 ∨ n = 12 ∨ n = 13 ∨ n = 14 ∨ n = 15 ∨ n = 16 ∨ n = 17 ∨ n = 18 ∨ n = 19 ∨ n = 20 ∨ n = 21 ∨ n = 22 ∨ n = 23 ∨ n = 24 ∨ n = 25 ∨ n = 26 ∨ n = 27 ∨ n = 28 ∨ n = 29 ∨ n = 30 ∨ n = 31 ∨ n = 32 ∨ n = 33 ∨ n = 34 ∨ n = 35 ∨ n = 36 ∨ n = 37 ∨ n = 38 by omega) with rfl | rfl | rfl | rfl | rfl | rfl | rfl | rfl | rfl | rfl | rfl | rfl | rfl | rfl | rfl | rfl | rfl | rfl | rfl | rfl | rfl | rfl | rfl | rfl | rfl | rfl | rfl | rfl | rfl | rfl | rfl | rfl | rfl | rfl | rfl | rfl | rfl | rfl | rfl
    · exact L_tabIn dL_law_33 (by decide) (by decide) rfl (by decide) (L_c0 h hi ih)
    · exact L_tabIn dL_law_33 (by decide) (by decide) rfl (by decide) (L_c1 h hi ih)
    · exact L_tabIn dL_law_33 (by decide) (by decide) rfl (by decide) (L_c2 h hi ih)
    · exact L_tabIn dL_law_33 (by decide) (by decide) rfl (by decide) (L_c3 h hi ih)
    · exact L_tabIn dL_law_33 (by decide) (by decide) rfl (by decide) (L_c4 h hi ih)
    · exact L_tabIn dL_law_33 (by decide) (by decide) rfl (by decide) (L_c5 h hi ih)
    · exact L_tabIn dL_law_33 (by decide) (by decide) rfl (by decide) (L_c6 h hi ih)
    · exact L_tabIn dL_law_33 (by decide) (by decide) rfl (by decide) (L_c7 h hi ih)
    · exact L_tabIn dL_law_33 (by decide) (by decide) rfl (by decide) (L_c8 h hi ih)
    · exact L_tabIn dL_law_33 (by decide) (by decide) rfl (by decide) (L_c9 h hi ih)
    · exact L_tabIn dL_law_33 (by decide) (by decide) rfl (by decide) (L_c10 h hi ih)
    · exact L_tabIn dL_law_33 (by decide) (by decide) rfl (by decide) (L_c11 h hi ih)
    · exact L_tabIn dL_law_33 (by decide) (by decide) rfl (by decide) (L_c12 h hi ih)
    · exact L_tabIn dL_law_33 (by decide) (by decide) rfl (by decide) (L_c13 h hi ih)
    · exact L_tabIn dL_law_33 (by decide) (by decide) rfl (by decide) (L_c14 h hi ih)
    · exact L_tabIn dL_law_33 (by decide) (by decide) rfl (by decide) (L_c15 h hi ih)
    · exact L_tabIn dL_law_33 (by decide) (by decide) rfl (by decide) (L_c16 h hi ih)
    · exact L_tabIn dL_law_33 (by decide) (by decide) rfl (by decide) (L_c17 h hi ih)
    · exact L_tabIn dL_law_33 (by decide) (by decide) rfl (by decide) (L_c18 h hi ih)
    · exact L_tabIn dL_law_33 (by decide) (by decide) rfl (by decide) (L_c19 h hi ih)
    · exact L_tabIn dL_law_33 (by decide) (by decide) rfl (by decide) (L_c20 h hi ih)
    · exact L_tabIn dL_law_33 (by decide) (by decide) rfl (by decide) (L_c21 h hi ih)
    · exact L_tabIn dL_law_33 (by decide) (by decide) rfl (by decide) (L_c22 h hi ih)
    · exact L_tabIn dL_law_33 (by decide) (by decide) rfl (by decide) (L_c23 h hi ih)
    · exact L_tabIn dL_law_33 (by decide) (by decide) rfl (by decide) (L_c24 h hi ih)
    · exact L_tabIn dL_law_33 (by decide) (by decide) rfl (by decide) (L_c25 h hi ih)
    · exact L_tabIn dL_law_33 (by decide) (by decide) rfl (by decide) (L_c26 h hi ih)
    · exact L_tabIn dL_law_33 (by decide) (by decide) rfl (by decide) (L_c27 h hi ih)
    · exact L_tabIn dL_law_33 (by decide) (by decide) rfl (by decide) (L_c28 h hi ih)
    · exact L_tabIn dL_law_33 (by decide) (by decide) rfl (by decide) (L_c29 h hi ih)
    · exact L_tabIn dL_law_33 (by decide) (by decide) rfl (by decide) (L_c30 h hi ih)
    · exact L_tabIn dL_law_33 (by decide) (by decide) rfl (by decide) (L_c31 h hi ih)
    · exact L_tabIn dL_law_33 (by decide) (by decide) rfl (by decide) (L_c32 h hi ih)
    · exact L_tabIn dL_law_33 (by decide) (by decide) rfl (by decide) (L_c33 h hi ih)
    · exact L_tabIn dL_law_33 (by decide) (by decide) rfl (by decide) (L_c34 h hi ih)
    · exact L_tabIn dL_law_33 (by decide) (by decide) rfl (by decide) (L_c35 h hi ih)
    · exact L_tabIn dL_law_33 (by decide) (by decide) rfl (by decide) (L_c36 h hi ih)
    · exact L_tabIn dL_law_33 (by decide) (by decide) rfl (by decide) (L_c37 h hi ih)
    · exact L_tabIn dL_law_33 (by decide) (by decide) rfl (by decide) (L_c38 h hi ih)
