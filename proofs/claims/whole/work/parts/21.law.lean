/-! THE LAW (by program) -/
abbrev M_L_law (N : Nat) (xs : Nat → Int32) : MD := (RL, cL_law, 4, some .boolean, 8, 195, false, scrX N xs)
theorem ml_L_13 : ML RL 13 yX10_row M_X10_row := ⟨inWS 488 (by decide +kernel) (by decide +kernel), inWS 91 (by decide +kernel) (by decide +kernel), inWS 491 (by decide +kernel) (by decide +kernel), by decide +kernel⟩
theorem mv_X10_row : MLv yX10_row := ⟨inWS 489 (by decide +kernel) (by decide +kernel), inWS 490 (by decide +kernel) (by decide +kernel)⟩
theorem ml_L_17 : ML RL 17 yX11_row M_X11_row := ⟨inWS 1441 (by decide +kernel) (by decide +kernel), inWS 101 (by decide +kernel) (by decide +kernel), inWS 1444 (by decide +kernel) (by decide +kernel), by decide +kernel⟩
theorem mv_X11_row : MLv yX11_row := ⟨inWS 1442 (by decide +kernel) (by decide +kernel), inWS 1443 (by decide +kernel) (by decide +kernel)⟩
theorem wc_L_18 : Cond.constantLong "ClashDaysLaw" 18 (4294967295 : Int64) ∈ WS := inWS 1875 (by decide +kernel) (by decide +kernel)
theorem ml_L_20 : ML RL 20 yX10_set M_X10_set := ⟨inWS 506 (by decide +kernel) (by decide +kernel), inWS 91 (by decide +kernel) (by decide +kernel), inWS 509 (by decide +kernel) (by decide +kernel), by decide +kernel⟩
theorem mv_X10_set : MLv yX10_set := ⟨inWS 507 (by decide +kernel) (by decide +kernel), inWS 508 (by decide +kernel) (by decide +kernel)⟩
theorem ml_L_24 : ML RL 24 yX11_set M_X11_set := ⟨inWS 1458 (by decide +kernel) (by decide +kernel), inWS 101 (by decide +kernel) (by decide +kernel), inWS 1461 (by decide +kernel) (by decide +kernel), by decide +kernel⟩
theorem mv_X11_set : MLv yX11_set := ⟨inWS 1459 (by decide +kernel) (by decide +kernel), inWS 1460 (by decide +kernel) (by decide +kernel)⟩
theorem ml_L_25 : ML RL 25 yX10_copy M_X10_copy := ⟨inWS 531 (by decide +kernel) (by decide +kernel), inWS 91 (by decide +kernel) (by decide +kernel), inWS 534 (by decide +kernel) (by decide +kernel), by decide +kernel⟩
theorem mv_X10_copy : MLv yX10_copy := ⟨inWS 532 (by decide +kernel) (by decide +kernel), inWS 533 (by decide +kernel) (by decide +kernel)⟩
theorem ml_L_29 : ML RL 29 yX11_copy M_X11_copy := ⟨inWS 1462 (by decide +kernel) (by decide +kernel), inWS 101 (by decide +kernel) (by decide +kernel), inWS 1465 (by decide +kernel) (by decide +kernel), by decide +kernel⟩
theorem mv_X11_copy : MLv yX11_copy := ⟨inWS 1463 (by decide +kernel) (by decide +kernel), inWS 1464 (by decide +kernel) (by decide +kernel)⟩
theorem ml_L_30 : ML RL 30 yX10_element M_X10_element := ⟨inWS 547 (by decide +kernel) (by decide +kernel), inWS 91 (by decide +kernel) (by decide +kernel), inWS 550 (by decide +kernel) (by decide +kernel), by decide +kernel⟩
theorem mv_X10_element : MLv yX10_element := ⟨inWS 548 (by decide +kernel) (by decide +kernel), inWS 549 (by decide +kernel) (by decide +kernel)⟩
theorem ml_L_34 : ML RL 34 yX11_element M_X11_element := ⟨inWS 1466 (by decide +kernel) (by decide +kernel), inWS 101 (by decide +kernel) (by decide +kernel), inWS 1469 (by decide +kernel) (by decide +kernel), by decide +kernel⟩
theorem mv_X11_element : MLv yX11_element := ⟨inWS 1467 (by decide +kernel) (by decide +kernel), inWS 1468 (by decide +kernel) (by decide +kernel)⟩
theorem ml_L_35 : ML RL 35 yX10_holds M_X10_holds := ⟨inWS 555 (by decide +kernel) (by decide +kernel), inWS 91 (by decide +kernel) (by decide +kernel), inWS 558 (by decide +kernel) (by decide +kernel), by decide +kernel⟩
theorem mv_X10_holds : MLv yX10_holds := ⟨inWS 556 (by decide +kernel) (by decide +kernel), inWS 557 (by decide +kernel) (by decide +kernel)⟩
theorem ml_L_39 : ML RL 39 yX11_holds M_X11_holds := ⟨inWS 1474 (by decide +kernel) (by decide +kernel), inWS 101 (by decide +kernel) (by decide +kernel), inWS 1477 (by decide +kernel) (by decide +kernel), by decide +kernel⟩
theorem mv_X11_holds : MLv yX11_holds := ⟨inWS 1475 (by decide +kernel) (by decide +kernel), inWS 1476 (by decide +kernel) (by decide +kernel)⟩
theorem ml_L_40 : ML RL 40 yX10_show M_X10_show := ⟨inWS 559 (by decide +kernel) (by decide +kernel), inWS 91 (by decide +kernel) (by decide +kernel), inWS 562 (by decide +kernel) (by decide +kernel), by decide +kernel⟩
theorem mv_X10_show : MLv yX10_show := ⟨inWS 560 (by decide +kernel) (by decide +kernel), inWS 561 (by decide +kernel) (by decide +kernel)⟩
theorem ml_L_44 : ML RL 44 yX11_show M_X11_show := ⟨inWS 1478 (by decide +kernel) (by decide +kernel), inWS 101 (by decide +kernel) (by decide +kernel), inWS 1481 (by decide +kernel) (by decide +kernel), by decide +kernel⟩
theorem mv_X11_show : MLv yX11_show := ⟨inWS 1479 (by decide +kernel) (by decide +kernel), inWS 1480 (by decide +kernel) (by decide +kernel)⟩
theorem ml_L_45 : ML RL 45 yX10_says M_X10_says := ⟨inWS 571 (by decide +kernel) (by decide +kernel), inWS 91 (by decide +kernel) (by decide +kernel), inWS 574 (by decide +kernel) (by decide +kernel), by decide +kernel⟩
theorem mv_X10_says : MLv yX10_says := ⟨inWS 572 (by decide +kernel) (by decide +kernel), inWS 573 (by decide +kernel) (by decide +kernel)⟩
theorem ml_L_48 : ML RL 48 yX11_says M_X11_says := ⟨inWS 1486 (by decide +kernel) (by decide +kernel), inWS 101 (by decide +kernel) (by decide +kernel), inWS 1489 (by decide +kernel) (by decide +kernel), by decide +kernel⟩
theorem mv_X11_says : MLv yX11_says := ⟨inWS 1487 (by decide +kernel) (by decide +kernel), inWS 1488 (by decide +kernel) (by decide +kernel)⟩
theorem ml_L_49 : ML RL 49 yX10_paper M_X10_paper := ⟨inWS 597 (by decide +kernel) (by decide +kernel), inWS 91 (by decide +kernel) (by decide +kernel), inWS 600 (by decide +kernel) (by decide +kernel), by decide +kernel⟩
theorem mv_X10_paper : MLv yX10_paper := ⟨inWS 598 (by decide +kernel) (by decide +kernel), inWS 599 (by decide +kernel) (by decide +kernel)⟩
theorem ml_L_52 : ML RL 52 yX11_paper M_X11_paper := ⟨inWS 1505 (by decide +kernel) (by decide +kernel), inWS 101 (by decide +kernel) (by decide +kernel), inWS 1508 (by decide +kernel) (by decide +kernel), by decide +kernel⟩
theorem ml_L_53 : ML RL 53 yX10_starts M_X10_starts := ⟨inWS 611 (by decide +kernel) (by decide +kernel), inWS 91 (by decide +kernel) (by decide +kernel), inWS 614 (by decide +kernel) (by decide +kernel), by decide +kernel⟩
theorem mv_X10_starts : MLv yX10_starts := ⟨inWS 612 (by decide +kernel) (by decide +kernel), inWS 613 (by decide +kernel) (by decide +kernel)⟩
theorem ml_L_56 : ML RL 56 yX11_starts M_X11_starts := ⟨inWS 1516 (by decide +kernel) (by decide +kernel), inWS 101 (by decide +kernel) (by decide +kernel), inWS 1519 (by decide +kernel) (by decide +kernel), by decide +kernel⟩
theorem mv_X11_starts : MLv yX11_starts := ⟨inWS 1517 (by decide +kernel) (by decide +kernel), inWS 1518 (by decide +kernel) (by decide +kernel)⟩
theorem ml_L_57 : ML RL 57 yX10_cand M_X10_cand := ⟨inWS 623 (by decide +kernel) (by decide +kernel), inWS 91 (by decide +kernel) (by decide +kernel), inWS 626 (by decide +kernel) (by decide +kernel), by decide +kernel⟩
theorem mv_X10_cand : MLv yX10_cand := ⟨inWS 624 (by decide +kernel) (by decide +kernel), inWS 625 (by decide +kernel) (by decide +kernel)⟩
theorem ml_L_60 : ML RL 60 yX11_cand M_X11_cand := ⟨inWS 1528 (by decide +kernel) (by decide +kernel), inWS 101 (by decide +kernel) (by decide +kernel), inWS 1531 (by decide +kernel) (by decide +kernel), by decide +kernel⟩
theorem ml_L_61 : ML RL 61 yX10_takes M_X10_takes := ⟨inWS 635 (by decide +kernel) (by decide +kernel), inWS 91 (by decide +kernel) (by decide +kernel), inWS 638 (by decide +kernel) (by decide +kernel), by decide +kernel⟩
theorem mv_X10_takes : MLv yX10_takes := ⟨inWS 636 (by decide +kernel) (by decide +kernel), inWS 637 (by decide +kernel) (by decide +kernel)⟩
theorem ml_L_64 : ML RL 64 yX11_takes M_X11_takes := ⟨inWS 1533 (by decide +kernel) (by decide +kernel), inWS 101 (by decide +kernel) (by decide +kernel), inWS 1536 (by decide +kernel) (by decide +kernel), by decide +kernel⟩
theorem mv_X11_takes : MLv yX11_takes := ⟨inWS 1534 (by decide +kernel) (by decide +kernel), inWS 1535 (by decide +kernel) (by decide +kernel)⟩
theorem ml_L_65 : ML RL 65 yX10_night M_X10_night := ⟨inWS 668 (by decide +kernel) (by decide +kernel), inWS 91 (by decide +kernel) (by decide +kernel), inWS 671 (by decide +kernel) (by decide +kernel), by decide +kernel⟩
theorem mv_X10_night : MLv yX10_night := ⟨inWS 669 (by decide +kernel) (by decide +kernel), inWS 670 (by decide +kernel) (by decide +kernel)⟩
theorem ml_L_68 : ML RL 68 yX11_night M_X11_night := ⟨inWS 1560 (by decide +kernel) (by decide +kernel), inWS 101 (by decide +kernel) (by decide +kernel), inWS 1563 (by decide +kernel) (by decide +kernel), by decide +kernel⟩
theorem mv_X11_night : MLv yX11_night := ⟨inWS 1561 (by decide +kernel) (by decide +kernel), inWS 1562 (by decide +kernel) (by decide +kernel)⟩
theorem ml_L_69 : ML RL 69 yX10_room M_X10_room := ⟨inWS 672 (by decide +kernel) (by decide +kernel), inWS 91 (by decide +kernel) (by decide +kernel), inWS 675 (by decide +kernel) (by decide +kernel), by decide +kernel⟩
theorem mv_X10_room : MLv yX10_room := ⟨inWS 673 (by decide +kernel) (by decide +kernel), inWS 674 (by decide +kernel) (by decide +kernel)⟩
theorem ml_L_72 : ML RL 72 yX11_room M_X11_room := ⟨inWS 1564 (by decide +kernel) (by decide +kernel), inWS 101 (by decide +kernel) (by decide +kernel), inWS 1567 (by decide +kernel) (by decide +kernel), by decide +kernel⟩
theorem mv_X11_room : MLv yX11_room := ⟨inWS 1565 (by decide +kernel) (by decide +kernel), inWS 1566 (by decide +kernel) (by decide +kernel)⟩
theorem ml_L_73 : ML RL 73 yX10_hours M_X10_hours := ⟨inWS 684 (by decide +kernel) (by decide +kernel), inWS 91 (by decide +kernel) (by decide +kernel), inWS 687 (by decide +kernel) (by decide +kernel), by decide +kernel⟩
theorem mv_X10_hours : MLv yX10_hours := ⟨inWS 685 (by decide +kernel) (by decide +kernel), inWS 686 (by decide +kernel) (by decide +kernel)⟩
theorem ml_L_76 : ML RL 76 yX11_hours M_X11_hours := ⟨inWS 1568 (by decide +kernel) (by decide +kernel), inWS 101 (by decide +kernel) (by decide +kernel), inWS 1571 (by decide +kernel) (by decide +kernel), by decide +kernel⟩
theorem mv_X11_hours : MLv yX11_hours := ⟨inWS 1569 (by decide +kernel) (by decide +kernel), inWS 1570 (by decide +kernel) (by decide +kernel)⟩
theorem ml_L_77 : ML RL 77 yX10_turn M_X10_turn := ⟨inWS 688 (by decide +kernel) (by decide +kernel), inWS 91 (by decide +kernel) (by decide +kernel), inWS 691 (by decide +kernel) (by decide +kernel), by decide +kernel⟩
theorem mv_X10_turn : MLv yX10_turn := ⟨inWS 689 (by decide +kernel) (by decide +kernel), inWS 690 (by decide +kernel) (by decide +kernel)⟩
theorem ml_L_80 : ML RL 80 yX11_turn M_X11_turn := ⟨inWS 1573 (by decide +kernel) (by decide +kernel), inWS 101 (by decide +kernel) (by decide +kernel), inWS 1576 (by decide +kernel) (by decide +kernel), by decide +kernel⟩
theorem mv_X11_turn : MLv yX11_turn := ⟨inWS 1574 (by decide +kernel) (by decide +kernel), inWS 1575 (by decide +kernel) (by decide +kernel)⟩
theorem ml_L_81 : ML RL 81 yX10_feed M_X10_feed := ⟨inWS 692 (by decide +kernel) (by decide +kernel), inWS 91 (by decide +kernel) (by decide +kernel), inWS 695 (by decide +kernel) (by decide +kernel), by decide +kernel⟩
theorem mv_X10_feed : MLv yX10_feed := ⟨inWS 693 (by decide +kernel) (by decide +kernel), inWS 694 (by decide +kernel) (by decide +kernel)⟩
theorem ml_L_84 : ML RL 84 yX11_feed M_X11_feed := ⟨inWS 1577 (by decide +kernel) (by decide +kernel), inWS 101 (by decide +kernel) (by decide +kernel), inWS 1580 (by decide +kernel) (by decide +kernel), by decide +kernel⟩
theorem mv_X11_feed : MLv yX11_feed := ⟨inWS 1578 (by decide +kernel) (by decide +kernel), inWS 1579 (by decide +kernel) (by decide +kernel)⟩
theorem ml_L_85 : ML RL 85 yX10_wipe M_X10_wipe := ⟨inWS 704 (by decide +kernel) (by decide +kernel), inWS 91 (by decide +kernel) (by decide +kernel), inWS 707 (by decide +kernel) (by decide +kernel), by decide +kernel⟩
theorem mv_X10_wipe : MLv yX10_wipe := ⟨inWS 705 (by decide +kernel) (by decide +kernel), inWS 706 (by decide +kernel) (by decide +kernel)⟩
theorem ml_L_89 : ML RL 89 yX11_wipe M_X11_wipe := ⟨inWS 1582 (by decide +kernel) (by decide +kernel), inWS 101 (by decide +kernel) (by decide +kernel), inWS 1585 (by decide +kernel) (by decide +kernel), by decide +kernel⟩
theorem mv_X11_wipe : MLv yX11_wipe := ⟨inWS 1583 (by decide +kernel) (by decide +kernel), inWS 1584 (by decide +kernel) (by decide +kernel)⟩
theorem ml_L_90 : ML RL 90 yX10_book M_X10_book := ⟨inWS 712 (by decide +kernel) (by decide +kernel), inWS 91 (by decide +kernel) (by decide +kernel), inWS 715 (by decide +kernel) (by decide +kernel), by decide +kernel⟩
theorem mv_X10_book : MLv yX10_book := ⟨inWS 713 (by decide +kernel) (by decide +kernel), inWS 714 (by decide +kernel) (by decide +kernel)⟩
theorem ml_L_93 : ML RL 93 yX11_book M_X11_book := ⟨inWS 1586 (by decide +kernel) (by decide +kernel), inWS 101 (by decide +kernel) (by decide +kernel), inWS 1589 (by decide +kernel) (by decide +kernel), by decide +kernel⟩
theorem mv_X11_book : MLv yX11_book := ⟨inWS 1587 (by decide +kernel) (by decide +kernel), inWS 1588 (by decide +kernel) (by decide +kernel)⟩
theorem ml_L_94 : ML RL 94 yX10_candOf M_X10_candOf := ⟨inWS 854 (by decide +kernel) (by decide +kernel), inWS 91 (by decide +kernel) (by decide +kernel), inWS 857 (by decide +kernel) (by decide +kernel), by decide +kernel⟩
theorem mv_X10_candOf : MLv yX10_candOf := ⟨inWS 855 (by decide +kernel) (by decide +kernel), inWS 856 (by decide +kernel) (by decide +kernel)⟩
theorem ml_L_97 : ML RL 97 yX11_candOf M_X11_candOf := ⟨inWS 1623 (by decide +kernel) (by decide +kernel), inWS 101 (by decide +kernel) (by decide +kernel), inWS 1626 (by decide +kernel) (by decide +kernel), by decide +kernel⟩
theorem mv_X11_candOf : MLv yX11_candOf := ⟨inWS 1624 (by decide +kernel) (by decide +kernel), inWS 1625 (by decide +kernel) (by decide +kernel)⟩
theorem ml_L_98 : ML RL 98 yX10_paperOf M_X10_paperOf := ⟨inWS 968 (by decide +kernel) (by decide +kernel), inWS 91 (by decide +kernel) (by decide +kernel), inWS 971 (by decide +kernel) (by decide +kernel), by decide +kernel⟩
theorem mv_X10_paperOf : MLv yX10_paperOf := ⟨inWS 969 (by decide +kernel) (by decide +kernel), inWS 970 (by decide +kernel) (by decide +kernel)⟩
theorem ml_L_101 : ML RL 101 yX11_paperOf M_X11_paperOf := ⟨inWS 1680 (by decide +kernel) (by decide +kernel), inWS 101 (by decide +kernel) (by decide +kernel), inWS 1683 (by decide +kernel) (by decide +kernel), by decide +kernel⟩
theorem mv_X11_paperOf : MLv yX11_paperOf := ⟨inWS 1681 (by decide +kernel) (by decide +kernel), inWS 1682 (by decide +kernel) (by decide +kernel)⟩
theorem ml_L_102 : ML RL 102 yX10_time M_X10_time := ⟨inWS 984 (by decide +kernel) (by decide +kernel), inWS 91 (by decide +kernel) (by decide +kernel), inWS 987 (by decide +kernel) (by decide +kernel), by decide +kernel⟩
theorem mv_X10_time : MLv yX10_time := ⟨inWS 985 (by decide +kernel) (by decide +kernel), inWS 986 (by decide +kernel) (by decide +kernel)⟩
theorem ml_L_105 : ML RL 105 yX11_time M_X11_time := ⟨inWS 1688 (by decide +kernel) (by decide +kernel), inWS 101 (by decide +kernel) (by decide +kernel), inWS 1691 (by decide +kernel) (by decide +kernel), by decide +kernel⟩
theorem mv_X11_time : MLv yX11_time := ⟨inWS 1689 (by decide +kernel) (by decide +kernel), inWS 1690 (by decide +kernel) (by decide +kernel)⟩
theorem ml_L_106 : ML RL 106 yX10_plan M_X10_plan := ⟨inWS 989 (by decide +kernel) (by decide +kernel), inWS 91 (by decide +kernel) (by decide +kernel), inWS 992 (by decide +kernel) (by decide +kernel), by decide +kernel⟩
theorem mv_X10_plan : MLv yX10_plan := ⟨inWS 990 (by decide +kernel) (by decide +kernel), inWS 991 (by decide +kernel) (by decide +kernel)⟩
theorem ml_L_109 : ML RL 109 yX11_plan M_X11_plan := ⟨inWS 1692 (by decide +kernel) (by decide +kernel), inWS 101 (by decide +kernel) (by decide +kernel), inWS 1695 (by decide +kernel) (by decide +kernel), by decide +kernel⟩
theorem mv_X11_plan : MLv yX11_plan := ⟨inWS 1693 (by decide +kernel) (by decide +kernel), inWS 1694 (by decide +kernel) (by decide +kernel)⟩
theorem ml_L_110 : ML RL 110 yX10_sits M_X10_sits := ⟨inWS 999 (by decide +kernel) (by decide +kernel), inWS 91 (by decide +kernel) (by decide +kernel), inWS 1002 (by decide +kernel) (by decide +kernel), by decide +kernel⟩
theorem mv_X10_sits : MLv yX10_sits := ⟨inWS 1000 (by decide +kernel) (by decide +kernel), inWS 1001 (by decide +kernel) (by decide +kernel)⟩
theorem ml_L_114 : ML RL 114 yX11_sits M_X11_sits := ⟨inWS 1705 (by decide +kernel) (by decide +kernel), inWS 101 (by decide +kernel) (by decide +kernel), inWS 1708 (by decide +kernel) (by decide +kernel), by decide +kernel⟩
theorem mv_X11_sits : MLv yX11_sits := ⟨inWS 1706 (by decide +kernel) (by decide +kernel), inWS 1707 (by decide +kernel) (by decide +kernel)⟩
theorem ml_L_115 : ML RL 115 yX10_does M_X10_does := ⟨inWS 1003 (by decide +kernel) (by decide +kernel), inWS 91 (by decide +kernel) (by decide +kernel), inWS 1006 (by decide +kernel) (by decide +kernel), by decide +kernel⟩
theorem mv_X10_does : MLv yX10_does := ⟨inWS 1004 (by decide +kernel) (by decide +kernel), inWS 1005 (by decide +kernel) (by decide +kernel)⟩
theorem ml_L_118 : ML RL 118 yX11_does M_X11_does := ⟨inWS 1710 (by decide +kernel) (by decide +kernel), inWS 101 (by decide +kernel) (by decide +kernel), inWS 1713 (by decide +kernel) (by decide +kernel), by decide +kernel⟩
theorem mv_X11_does : MLv yX11_does := ⟨inWS 1711 (by decide +kernel) (by decide +kernel), inWS 1712 (by decide +kernel) (by decide +kernel)⟩
theorem ml_L_119 : ML RL 119 yX10_measure M_X10_measure := ⟨inWS 1015 (by decide +kernel) (by decide +kernel), inWS 91 (by decide +kernel) (by decide +kernel), inWS 1018 (by decide +kernel) (by decide +kernel), by decide +kernel⟩
theorem mv_X10_measure : MLv yX10_measure := ⟨inWS 1016 (by decide +kernel) (by decide +kernel), inWS 1017 (by decide +kernel) (by decide +kernel)⟩
theorem ml_L_122 : ML RL 122 yX11_measure M_X11_measure := ⟨inWS 1718 (by decide +kernel) (by decide +kernel), inWS 101 (by decide +kernel) (by decide +kernel), inWS 1721 (by decide +kernel) (by decide +kernel), by decide +kernel⟩
theorem mv_X11_measure : MLv yX11_measure := ⟨inWS 1719 (by decide +kernel) (by decide +kernel), inWS 1720 (by decide +kernel) (by decide +kernel)⟩
theorem ml_L_123 : ML RL 123 yX10_best M_X10_best := ⟨inWS 1028 (by decide +kernel) (by decide +kernel), inWS 91 (by decide +kernel) (by decide +kernel), inWS 1031 (by decide +kernel) (by decide +kernel), by decide +kernel⟩
theorem mv_X10_best : MLv yX10_best := ⟨inWS 1029 (by decide +kernel) (by decide +kernel), inWS 1030 (by decide +kernel) (by decide +kernel)⟩
theorem ml_L_126 : ML RL 126 yX11_best M_X11_best := ⟨inWS 1726 (by decide +kernel) (by decide +kernel), inWS 101 (by decide +kernel) (by decide +kernel), inWS 1729 (by decide +kernel) (by decide +kernel), by decide +kernel⟩
theorem mv_X11_best : MLv yX11_best := ⟨inWS 1727 (by decide +kernel) (by decide +kernel), inWS 1728 (by decide +kernel) (by decide +kernel)⟩
theorem ml_L_127 : ML RL 127 yX10_lawful M_X10_lawful := ⟨inWS 1040 (by decide +kernel) (by decide +kernel), inWS 91 (by decide +kernel) (by decide +kernel), inWS 1043 (by decide +kernel) (by decide +kernel), by decide +kernel⟩
theorem mv_X10_lawful : MLv yX10_lawful := ⟨inWS 1041 (by decide +kernel) (by decide +kernel), inWS 1042 (by decide +kernel) (by decide +kernel)⟩
theorem ml_L_130 : ML RL 130 yX11_lawful M_X11_lawful := ⟨inWS 1730 (by decide +kernel) (by decide +kernel), inWS 101 (by decide +kernel) (by decide +kernel), inWS 1733 (by decide +kernel) (by decide +kernel), by decide +kernel⟩
theorem mv_X11_lawful : MLv yX11_lawful := ⟨inWS 1731 (by decide +kernel) (by decide +kernel), inWS 1732 (by decide +kernel) (by decide +kernel)⟩
theorem ml_L_131 : ML RL 131 yX10_watch M_X10_watch := ⟨inWS 1048 (by decide +kernel) (by decide +kernel), inWS 91 (by decide +kernel) (by decide +kernel), inWS 1051 (by decide +kernel) (by decide +kernel), by decide +kernel⟩
theorem mv_X10_watch : MLv yX10_watch := ⟨inWS 1049 (by decide +kernel) (by decide +kernel), inWS 1050 (by decide +kernel) (by decide +kernel)⟩
theorem ml_L_134 : ML RL 134 yX11_watch M_X11_watch := ⟨inWS 1734 (by decide +kernel) (by decide +kernel), inWS 101 (by decide +kernel) (by decide +kernel), inWS 1737 (by decide +kernel) (by decide +kernel), by decide +kernel⟩
theorem mv_X11_watch : MLv yX11_watch := ⟨inWS 1735 (by decide +kernel) (by decide +kernel), inWS 1736 (by decide +kernel) (by decide +kernel)⟩
theorem ml_L_135 : ML RL 135 yX10_duty M_X10_duty := ⟨inWS 1098 (by decide +kernel) (by decide +kernel), inWS 91 (by decide +kernel) (by decide +kernel), inWS 1101 (by decide +kernel) (by decide +kernel), by decide +kernel⟩
theorem mv_X10_duty : MLv yX10_duty := ⟨inWS 1099 (by decide +kernel) (by decide +kernel), inWS 1100 (by decide +kernel) (by decide +kernel)⟩
theorem ml_L_138 : ML RL 138 yX11_duty M_X11_duty := ⟨inWS 1762 (by decide +kernel) (by decide +kernel), inWS 101 (by decide +kernel) (by decide +kernel), inWS 1765 (by decide +kernel) (by decide +kernel), by decide +kernel⟩
theorem mv_X11_duty : MLv yX11_duty := ⟨inWS 1763 (by decide +kernel) (by decide +kernel), inWS 1764 (by decide +kernel) (by decide +kernel)⟩
theorem ml_L_139 : ML RL 139 yX10_pieces M_X10_pieces := ⟨inWS 1106 (by decide +kernel) (by decide +kernel), inWS 91 (by decide +kernel) (by decide +kernel), inWS 1109 (by decide +kernel) (by decide +kernel), by decide +kernel⟩
theorem mv_X10_pieces : MLv yX10_pieces := ⟨inWS 1107 (by decide +kernel) (by decide +kernel), inWS 1108 (by decide +kernel) (by decide +kernel)⟩
theorem ml_L_142 : ML RL 142 yX11_pieces M_X11_pieces := ⟨inWS 1766 (by decide +kernel) (by decide +kernel), inWS 101 (by decide +kernel) (by decide +kernel), inWS 1769 (by decide +kernel) (by decide +kernel), by decide +kernel⟩
theorem mv_X11_pieces : MLv yX11_pieces := ⟨inWS 1767 (by decide +kernel) (by decide +kernel), inWS 1768 (by decide +kernel) (by decide +kernel)⟩
theorem ml_L_143 : ML RL 143 yX10_roomOf M_X10_roomOf := ⟨inWS 1159 (by decide +kernel) (by decide +kernel), inWS 91 (by decide +kernel) (by decide +kernel), inWS 1162 (by decide +kernel) (by decide +kernel), by decide +kernel⟩
theorem mv_X10_roomOf : MLv yX10_roomOf := ⟨inWS 1160 (by decide +kernel) (by decide +kernel), inWS 1161 (by decide +kernel) (by decide +kernel)⟩
theorem ml_L_146 : ML RL 146 yX11_roomOf M_X11_roomOf := ⟨inWS 1791 (by decide +kernel) (by decide +kernel), inWS 101 (by decide +kernel) (by decide +kernel), inWS 1794 (by decide +kernel) (by decide +kernel), by decide +kernel⟩
theorem mv_X11_roomOf : MLv yX11_roomOf := ⟨inWS 1792 (by decide +kernel) (by decide +kernel), inWS 1793 (by decide +kernel) (by decide +kernel)⟩
theorem ml_L_147 : ML RL 147 yX10_left M_X10_left := ⟨inWS 1167 (by decide +kernel) (by decide +kernel), inWS 91 (by decide +kernel) (by decide +kernel), inWS 1170 (by decide +kernel) (by decide +kernel), by decide +kernel⟩
theorem mv_X10_left : MLv yX10_left := ⟨inWS 1168 (by decide +kernel) (by decide +kernel), inWS 1169 (by decide +kernel) (by decide +kernel)⟩
theorem ml_L_150 : ML RL 150 yX11_left M_X11_left := ⟨inWS 1795 (by decide +kernel) (by decide +kernel), inWS 101 (by decide +kernel) (by decide +kernel), inWS 1798 (by decide +kernel) (by decide +kernel), by decide +kernel⟩
theorem mv_X11_left : MLv yX11_left := ⟨inWS 1796 (by decide +kernel) (by decide +kernel), inWS 1797 (by decide +kernel) (by decide +kernel)⟩
theorem ml_L_151 : ML RL 151 yX10_whatIf M_X10_whatIf := ⟨inWS 1179 (by decide +kernel) (by decide +kernel), inWS 91 (by decide +kernel) (by decide +kernel), inWS 1182 (by decide +kernel) (by decide +kernel), by decide +kernel⟩
theorem mv_X10_whatIf : MLv yX10_whatIf := ⟨inWS 1180 (by decide +kernel) (by decide +kernel), inWS 1181 (by decide +kernel) (by decide +kernel)⟩
theorem ml_L_154 : ML RL 154 yX11_whatIf M_X11_whatIf := ⟨inWS 1799 (by decide +kernel) (by decide +kernel), inWS 101 (by decide +kernel) (by decide +kernel), inWS 1802 (by decide +kernel) (by decide +kernel), by decide +kernel⟩
theorem mv_X11_whatIf : MLv yX11_whatIf := ⟨inWS 1800 (by decide +kernel) (by decide +kernel), inWS 1801 (by decide +kernel) (by decide +kernel)⟩
theorem ml_L_155 : ML RL 155 yX10_both M_X10_both := ⟨inWS 1197 (by decide +kernel) (by decide +kernel), inWS 91 (by decide +kernel) (by decide +kernel), inWS 1200 (by decide +kernel) (by decide +kernel), by decide +kernel⟩
theorem mv_X10_both : MLv yX10_both := ⟨inWS 1198 (by decide +kernel) (by decide +kernel), inWS 1199 (by decide +kernel) (by decide +kernel)⟩
theorem ml_L_158 : ML RL 158 yX11_both M_X11_both := ⟨inWS 1803 (by decide +kernel) (by decide +kernel), inWS 101 (by decide +kernel) (by decide +kernel), inWS 1806 (by decide +kernel) (by decide +kernel), by decide +kernel⟩
theorem mv_X11_both : MLv yX11_both := ⟨inWS 1804 (by decide +kernel) (by decide +kernel), inWS 1805 (by decide +kernel) (by decide +kernel)⟩
theorem ml_L_159 : ML RL 159 yX10_relief M_X10_relief := ⟨inWS 1209 (by decide +kernel) (by decide +kernel), inWS 91 (by decide +kernel) (by decide +kernel), inWS 1212 (by decide +kernel) (by decide +kernel), by decide +kernel⟩
theorem mv_X10_relief : MLv yX10_relief := ⟨inWS 1210 (by decide +kernel) (by decide +kernel), inWS 1211 (by decide +kernel) (by decide +kernel)⟩
theorem ml_L_162 : ML RL 162 yX11_relief M_X11_relief := ⟨inWS 1811 (by decide +kernel) (by decide +kernel), inWS 101 (by decide +kernel) (by decide +kernel), inWS 1814 (by decide +kernel) (by decide +kernel), by decide +kernel⟩
theorem mv_X11_relief : MLv yX11_relief := ⟨inWS 1812 (by decide +kernel) (by decide +kernel), inWS 1813 (by decide +kernel) (by decide +kernel)⟩
theorem ml_L_163 : ML RL 163 yX10_retime M_X10_retime := ⟨inWS 1213 (by decide +kernel) (by decide +kernel), inWS 91 (by decide +kernel) (by decide +kernel), inWS 1216 (by decide +kernel) (by decide +kernel), by decide +kernel⟩
theorem mv_X10_retime : MLv yX10_retime := ⟨inWS 1214 (by decide +kernel) (by decide +kernel), inWS 1215 (by decide +kernel) (by decide +kernel)⟩
theorem ml_L_166 : ML RL 166 yX11_retime M_X11_retime := ⟨inWS 1815 (by decide +kernel) (by decide +kernel), inWS 101 (by decide +kernel) (by decide +kernel), inWS 1818 (by decide +kernel) (by decide +kernel), by decide +kernel⟩
theorem mv_X11_retime : MLv yX11_retime := ⟨inWS 1816 (by decide +kernel) (by decide +kernel), inWS 1817 (by decide +kernel) (by decide +kernel)⟩
theorem ml_L_167 : ML RL 167 yX10_hoursFor M_X10_hoursFor := ⟨inWS 1221 (by decide +kernel) (by decide +kernel), inWS 91 (by decide +kernel) (by decide +kernel), inWS 1224 (by decide +kernel) (by decide +kernel), by decide +kernel⟩
theorem mv_X10_hoursFor : MLv yX10_hoursFor := ⟨inWS 1222 (by decide +kernel) (by decide +kernel), inWS 1223 (by decide +kernel) (by decide +kernel)⟩
theorem ml_L_170 : ML RL 170 yX11_hoursFor M_X11_hoursFor := ⟨inWS 1819 (by decide +kernel) (by decide +kernel), inWS 101 (by decide +kernel) (by decide +kernel), inWS 1822 (by decide +kernel) (by decide +kernel), by decide +kernel⟩
theorem mv_X11_hoursFor : MLv yX11_hoursFor := ⟨inWS 1820 (by decide +kernel) (by decide +kernel), inWS 1821 (by decide +kernel) (by decide +kernel)⟩
theorem ml_L_171 : ML RL 171 yX10_kinds M_X10_kinds := ⟨inWS 1225 (by decide +kernel) (by decide +kernel), inWS 91 (by decide +kernel) (by decide +kernel), inWS 1228 (by decide +kernel) (by decide +kernel), by decide +kernel⟩
theorem mv_X10_kinds : MLv yX10_kinds := ⟨inWS 1226 (by decide +kernel) (by decide +kernel), inWS 1227 (by decide +kernel) (by decide +kernel)⟩
theorem ml_L_174 : ML RL 174 yX11_kinds M_X11_kinds := ⟨inWS 1823 (by decide +kernel) (by decide +kernel), inWS 101 (by decide +kernel) (by decide +kernel), inWS 1826 (by decide +kernel) (by decide +kernel), by decide +kernel⟩
theorem mv_X11_kinds : MLv yX11_kinds := ⟨inWS 1824 (by decide +kernel) (by decide +kernel), inWS 1825 (by decide +kernel) (by decide +kernel)⟩
theorem ml_L_175 : ML RL 175 yX10_judge M_X10_judge := ⟨inWS 1237 (by decide +kernel) (by decide +kernel), inWS 91 (by decide +kernel) (by decide +kernel), inWS 1240 (by decide +kernel) (by decide +kernel), by decide +kernel⟩
theorem mv_X10_judge : MLv yX10_judge := ⟨inWS 1238 (by decide +kernel) (by decide +kernel), inWS 1239 (by decide +kernel) (by decide +kernel)⟩
theorem ml_L_178 : ML RL 178 yX11_judge M_X11_judge := ⟨inWS 1831 (by decide +kernel) (by decide +kernel), inWS 101 (by decide +kernel) (by decide +kernel), inWS 1834 (by decide +kernel) (by decide +kernel), by decide +kernel⟩
theorem mv_X11_judge : MLv yX11_judge := ⟨inWS 1832 (by decide +kernel) (by decide +kernel), inWS 1833 (by decide +kernel) (by decide +kernel)⟩
theorem ml_L_179 : ML RL 179 yX10_together M_X10_together := ⟨inWS 1248 (by decide +kernel) (by decide +kernel), inWS 91 (by decide +kernel) (by decide +kernel), inWS 1251 (by decide +kernel) (by decide +kernel), by decide +kernel⟩
theorem mv_X10_together : MLv yX10_together := ⟨inWS 1249 (by decide +kernel) (by decide +kernel), inWS 1250 (by decide +kernel) (by decide +kernel)⟩
theorem ml_L_182 : ML RL 182 yX11_together M_X11_together := ⟨inWS 1836 (by decide +kernel) (by decide +kernel), inWS 101 (by decide +kernel) (by decide +kernel), inWS 1839 (by decide +kernel) (by decide +kernel), by decide +kernel⟩
theorem mv_X11_together : MLv yX11_together := ⟨inWS 1837 (by decide +kernel) (by decide +kernel), inWS 1838 (by decide +kernel) (by decide +kernel)⟩
theorem ml_L_183 : ML RL 183 yX10_changes M_X10_changes := ⟨inWS 1252 (by decide +kernel) (by decide +kernel), inWS 91 (by decide +kernel) (by decide +kernel), inWS 1255 (by decide +kernel) (by decide +kernel), by decide +kernel⟩
theorem mv_X10_changes : MLv yX10_changes := ⟨inWS 1253 (by decide +kernel) (by decide +kernel), inWS 1254 (by decide +kernel) (by decide +kernel)⟩
theorem ml_L_186 : ML RL 186 yX11_changes M_X11_changes := ⟨inWS 1840 (by decide +kernel) (by decide +kernel), inWS 101 (by decide +kernel) (by decide +kernel), inWS 1843 (by decide +kernel) (by decide +kernel), by decide +kernel⟩
theorem mv_X11_changes : MLv yX11_changes := ⟨inWS 1841 (by decide +kernel) (by decide +kernel), inWS 1842 (by decide +kernel) (by decide +kernel)⟩
theorem ml_L_187 : ML RL 187 yX10_seed M_X10_seed := ⟨inWS 1261 (by decide +kernel) (by decide +kernel), inWS 91 (by decide +kernel) (by decide +kernel), inWS 1264 (by decide +kernel) (by decide +kernel), by decide +kernel⟩
theorem mv_X10_seed : MLv yX10_seed := ⟨inWS 1262 (by decide +kernel) (by decide +kernel), inWS 1263 (by decide +kernel) (by decide +kernel)⟩
theorem ml_L_190 : ML RL 190 yX11_seed M_X11_seed := ⟨inWS 1850 (by decide +kernel) (by decide +kernel), inWS 101 (by decide +kernel) (by decide +kernel), inWS 1853 (by decide +kernel) (by decide +kernel), by decide +kernel⟩
theorem mv_X11_seed : MLv yX11_seed := ⟨inWS 1851 (by decide +kernel) (by decide +kernel), inWS 1852 (by decide +kernel) (by decide +kernel)⟩
theorem ml_L_191 : ML RL 191 yX10_image M_X10_image := ⟨inWS 1265 (by decide +kernel) (by decide +kernel), inWS 91 (by decide +kernel) (by decide +kernel), inWS 1268 (by decide +kernel) (by decide +kernel), by decide +kernel⟩
theorem mv_X10_image : MLv yX10_image := ⟨inWS 1266 (by decide +kernel) (by decide +kernel), inWS 1267 (by decide +kernel) (by decide +kernel)⟩
theorem ml_L_194 : ML RL 194 yX11_image M_X11_image := ⟨inWS 1854 (by decide +kernel) (by decide +kernel), inWS 101 (by decide +kernel) (by decide +kernel), inWS 1857 (by decide +kernel) (by decide +kernel), by decide +kernel⟩
theorem mv_X11_image : MLv yX11_image := ⟨inWS 1855 (by decide +kernel) (by decide +kernel), inWS 1856 (by decide +kernel) (by decide +kernel)⟩
theorem ml_L_195 : ML RL 195 yX10_back M_X10_back := ⟨inWS 1269 (by decide +kernel) (by decide +kernel), inWS 91 (by decide +kernel) (by decide +kernel), inWS 1272 (by decide +kernel) (by decide +kernel), by decide +kernel⟩
theorem mv_X10_back : MLv yX10_back := ⟨inWS 1270 (by decide +kernel) (by decide +kernel), inWS 1271 (by decide +kernel) (by decide +kernel)⟩
theorem ml_L_198 : ML RL 198 yX11_back M_X11_back := ⟨inWS 1858 (by decide +kernel) (by decide +kernel), inWS 101 (by decide +kernel) (by decide +kernel), inWS 1861 (by decide +kernel) (by decide +kernel), by decide +kernel⟩
theorem mv_X11_back : MLv yX11_back := ⟨inWS 1859 (by decide +kernel) (by decide +kernel), inWS 1860 (by decide +kernel) (by decide +kernel)⟩
theorem ml_L_199 : ML RL 199 yX10_status M_X10_status := ⟨inWS 1278 (by decide +kernel) (by decide +kernel), inWS 91 (by decide +kernel) (by decide +kernel), inWS 1281 (by decide +kernel) (by decide +kernel), by decide +kernel⟩
theorem mv_X10_status : MLv yX10_status := ⟨inWS 1279 (by decide +kernel) (by decide +kernel), inWS 1280 (by decide +kernel) (by decide +kernel)⟩
theorem ml_L_202 : ML RL 202 yX11_status M_X11_status := ⟨inWS 1862 (by decide +kernel) (by decide +kernel), inWS 101 (by decide +kernel) (by decide +kernel), inWS 1865 (by decide +kernel) (by decide +kernel), by decide +kernel⟩
theorem mv_X11_status : MLv yX11_status := ⟨inWS 1863 (by decide +kernel) (by decide +kernel), inWS 1864 (by decide +kernel) (by decide +kernel)⟩
def f_L_law_1774 (N : Nat) (xs : Nat → Int32) (σ : Mem) (x3 : Int) : Option ((Int × Mem) ⊕ ((Mem) ⊕ (Mem) ⊕ (Mem) ⊕ (Mem) ⊕ (Mem) ⊕ (Mem) ⊕ (Mem) ⊕ (Mem) ⊕ (Mem) ⊕ (Mem) ⊕ (Mem) ⊕ (Mem) ⊕ (Mem) ⊕ (Mem) ⊕ (Mem) ⊕ (Mem) ⊕ (Mem) ⊕ (Mem) ⊕ (Mem) ⊕ (Mem) ⊕ (Mem) ⊕ (Mem) ⊕ (Mem) ⊕ (Mem) ⊕ (Mem) ⊕ (Mem) ⊕ (Mem) ⊕ (Mem) ⊕ (Mem) ⊕ (Mem) ⊕ (Mem) ⊕ (Mem) ⊕ (Mem) ⊕ (Mem) ⊕ (Mem) ⊕ (Mem) ⊕ (Mem) ⊕ (Mem) ⊕ (Mem) ⊕ (Mem) ⊕ (Mem) ⊕ (Mem) ⊕ (Mem) ⊕ (Mem) ⊕ (Mem) ⊕ (Mem))) := (some (jadd x3 (6 : Int))).bind fun v181 => (some (.inl (v181, σ)))
def f_L_law_18C (N : Nat) (xs : Nat → Int32) (x3 : Int) (σ : Mem) : Option ((Int × Mem) ⊕ ((Mem) ⊕ (Mem) ⊕ (Mem) ⊕ (Mem) ⊕ (Mem) ⊕ (Mem) ⊕ (Mem) ⊕ (Mem) ⊕ (Mem) ⊕ (Mem) ⊕ (Mem) ⊕ (Mem) ⊕ (Mem) ⊕ (Mem) ⊕ (Mem) ⊕ (Mem) ⊕ (Mem) ⊕ (Mem) ⊕ (Mem) ⊕ (Mem) ⊕ (Mem) ⊕ (Mem) ⊕ (Mem) ⊕ (Mem) ⊕ (Mem) ⊕ (Mem) ⊕ (Mem) ⊕ (Mem) ⊕ (Mem) ⊕ (Mem) ⊕ (Mem) ⊕ (Mem) ⊕ (Mem) ⊕ (Mem) ⊕ (Mem) ⊕ (Mem) ⊕ (Mem) ⊕ (Mem) ⊕ (Mem) ⊕ (Mem) ⊕ (Mem) ⊕ (Mem) ⊕ (Mem) ⊕ (Mem) ⊕ (Mem) ⊕ (Mem))) := if (jsub ((N : Nat) : Int) (6 : Int)) < x3 then (some (.inr (.inr (.inr (.inr (.inr (.inr (.inr (.inr (.inr (.inr (.inr (.inr (.inr (.inr (.inr (.inr (.inr (.inr (.inr (.inr (.inr (.inr (.inr (.inr (.inr (.inr (.inr (.inr (.inr (.inr (.inr (.inr (.inr (.inr (.inr (.inr (.inr (.inr (.inr (.inr (.inr (.inr (.inr (.inr (.inr (.inr σ))))))))))))))))))))))))))))))))))))))))))))))) else (chk (0 ≤ x3 ∧ x3 < ((N : Nat) : Int)) (if (jand ((xs (x3).toNat).toInt) (63 : Int)) = (0 : Int) then (chk (0 ≤ (jadd x3 (1 : Int)) ∧ (jadd x3 (1 : Int)) < ((N : Nat) : Int)) (chk (0 ≤ (jadd x3 (2 : Int)) ∧ (jadd x3 (2 : Int)) < ((N : Nat) : Int)) (chk (0 ≤ (jadd x3 (3 : Int)) ∧ (jadd x3 (3 : Int)) < ((N : Nat) : Int)) ((f_X10_row σ ((xs ((jadd x3 (1 : Int))).toNat).toInt) ((xs ((jadd x3 (2 : Int))).toNat).toInt) ((xs ((jadd x3 (3 : Int))).toNat).toInt)).bind fun v1 => (chk (0 ≤ (jadd x3 (1 : Int)) ∧ (jadd x3 (1 : Int)) < ((N : Nat) : Int)) (chk (0 ≤ (jadd x3 (2 : Int)) ∧ (jadd x3 (2 : Int)) < ((N : Nat) : Int)) (chk (0 ≤ (jadd x3 (3 : Int)) ∧ (jadd x3 (3 : Int)) < ((N : Nat) : Int)) ((f_X11_row v1.2 ((xs ((jadd x3 (1 : Int))).toNat).toInt) ((xs ((jadd x3 (2 : Int))).toNat).toInt) ((xs ((jadd x3 (3 : Int))).toNat).toInt)).bind fun v3 => (if v1.1 = v3.1 then (f_L_law_1774 N xs v3.2 x3) else (some (.inr (.inl v3.2)))))))))))) else (if (jand ((xs (x3).toNat).toInt) (63 : Int)) = (1 : Int) then (chk (0 ≤ (jadd x3 (1 : Int)) ∧ (jadd x3 (1 : Int)) < ((N : Nat) : Int)) (chk (0 ≤ (jadd x3 (2 : Int)) ∧ (jadd x3 (2 : Int)) < ((N : Nat) : Int)) (chk (0 ≤ (jadd x3 (3 : Int)) ∧ (jadd x3 (3 : Int)) < ((N : Nat) : Int)) (chk (0 ≤ (jadd x3 (4 : Int)) ∧ (jadd x3 (4 : Int)) < ((N : Nat) : Int)) ((f_X10_set σ ((xs ((jadd x3 (1 : Int))).toNat).toInt) ((xs ((jadd x3 (2 : Int))).toNat).toInt) (kor (kshl ((xs ((jadd x3 (3 : Int))).toNat).toInt) (32 : Int)) (kand ((xs ((jadd x3 (4 : Int))).toNat).toInt) (4294967295 : Int)))).bind fun v5 => (chk (0 ≤ (jadd x3 (1 : Int)) ∧ (jadd x3 (1 : Int)) < ((N : Nat) : Int)) (chk (0 ≤ (jadd x3 (2 : Int)) ∧ (jadd x3 (2 : Int)) < ((N : Nat) : Int)) (chk (0 ≤ (jadd x3 (3 : Int)) ∧ (jadd x3 (3 : Int)) < ((N : Nat) : Int)) (chk (0 ≤ (jadd x3 (4 : Int)) ∧ (jadd x3 (4 : Int)) < ((N : Nat) : Int)) ((f_X11_set v5.2 ((xs ((jadd x3 (1 : Int))).toNat).toInt) ((xs ((jadd x3 (2 : Int))).toNat).toInt) (kor (kshl ((xs ((jadd x3 (3 : Int))).toNat).toInt) (32 : Int)) (kand ((xs ((jadd x3 (4 : Int))).toNat).toInt) (4294967295 : Int)))).bind fun v7 => (if v5.1 = v7.1 then (f_L_law_1774 N xs v7.2 x3) else (some (.inr (.inr (.inl v7.2))))))))))))))) else (if (jand ((xs (x3).toNat).toInt) (63 : Int)) = (2 : Int) then (chk (0 ≤ (jadd x3 (1 : Int)) ∧ (jadd x3 (1 : Int)) < ((N : Nat) : Int)) (chk (0 ≤ (jadd x3 (2 : Int)) ∧ (jadd x3 (2 : Int)) < ((N : Nat) : Int)) (chk (0 ≤ (jadd x3 (3 : Int)) ∧ (jadd x3 (3 : Int)) < ((N : Nat) : Int)) (chk (0 ≤ (jadd x3 (4 : Int)) ∧ (jadd x3 (4 : Int)) < ((N : Nat) : Int)) (chk (0 ≤ (jadd x3 (5 : Int)) ∧ (jadd x3 (5 : Int)) < ((N : Nat) : Int)) ((f_X10_copy σ ((xs ((jadd x3 (1 : Int))).toNat).toInt) ((xs ((jadd x3 (2 : Int))).toNat).toInt) ((xs ((jadd x3 (3 : Int))).toNat).toInt) ((xs ((jadd x3 (4 : Int))).toNat).toInt) ((xs ((jadd x3 (5 : Int))).toNat).toInt)).bind fun v9 => (chk (0 ≤ (jadd x3 (1 : Int)) ∧ (jadd x3 (1 : Int)) < ((N : Nat) : Int)) (chk (0 ≤ (jadd x3 (2 : Int)) ∧ (jadd x3 (2 : Int)) < ((N : Nat) : Int)) (chk (0 ≤ (jadd x3 (3 : Int)) ∧ (jadd x3 (3 : Int)) < ((N : Nat) : Int)) (chk (0 ≤ (jadd x3 (4 : Int)) ∧ (jadd x3 (4 : Int)) < ((N : Nat) : Int)) (chk (0 ≤ (jadd x3 (5 : Int)) ∧ (jadd x3 (5 : Int)) < ((N : Nat) : Int)) ((f_X11_copy v9.2 ((xs ((jadd x3 (1 : Int))).toNat).toInt) ((xs ((jadd x3 (2 : Int))).toNat).toInt) ((xs ((jadd x3 (3 : Int))).toNat).toInt) ((xs ((jadd x3 (4 : Int))).toNat).toInt) ((xs ((jadd x3 (5 : Int))).toNat).toInt)).bind fun v11 => (if v9.1 = v11.1 then (f_L_law_1774 N xs v11.2 x3) else (some (.inr (.inr (.inr (.inl v11.2)))))))))))))))))) else (if (jand ((xs (x3).toNat).toInt) (63 : Int)) = (3 : Int) then (chk (0 ≤ (jadd x3 (1 : Int)) ∧ (jadd x3 (1 : Int)) < ((N : Nat) : Int)) (chk (0 ≤ (jadd x3 (2 : Int)) ∧ (jadd x3 (2 : Int)) < ((N : Nat) : Int)) ((f_X10_element σ ((xs ((jadd x3 (1 : Int))).toNat).toInt) ((xs ((jadd x3 (2 : Int))).toNat).toInt)).bind fun v13 => (chk (0 ≤ (jadd x3 (1 : Int)) ∧ (jadd x3 (1 : Int)) < ((N : Nat) : Int)) (chk (0 ≤ (jadd x3 (2 : Int)) ∧ (jadd x3 (2 : Int)) < ((N : Nat) : Int)) ((f_X11_element σ ((xs ((jadd x3 (1 : Int))).toNat).toInt) ((xs ((jadd x3 (2 : Int))).toNat).toInt)).bind fun v15 => (if v13 = v15 then (f_L_law_1774 N xs σ x3) else (some (.inr (.inr (.inr (.inr (.inl σ))))))))))))) else (if (jand ((xs (x3).toNat).toInt) (63 : Int)) = (4 : Int) then (chk (0 ≤ (jadd x3 (1 : Int)) ∧ (jadd x3 (1 : Int)) < ((N : Nat) : Int)) ((f_X10_holds σ ((xs ((jadd x3 (1 : Int))).toNat).toInt)).bind fun v17 => (chk (0 ≤ (jadd x3 (1 : Int)) ∧ (jadd x3 (1 : Int)) < ((N : Nat) : Int)) ((f_X11_holds σ ((xs ((jadd x3 (1 : Int))).toNat).toInt)).bind fun v19 => (if v17 = v19 then (f_L_law_1774 N xs σ x3) else (some (.inr (.inr (.inr (.inr (.inr (.inl σ)))))))))))) else (if (jand ((xs (x3).toNat).toInt) (63 : Int)) = (5 : Int) then (chk (0 ≤ (jadd x3 (1 : Int)) ∧ (jadd x3 (1 : Int)) < ((N : Nat) : Int)) (chk (0 ≤ (jadd x3 (2 : Int)) ∧ (jadd x3 (2 : Int)) < ((N : Nat) : Int)) ((f_X10_show σ ((xs ((jadd x3 (1 : Int))).toNat).toInt) ((xs ((jadd x3 (2 : Int))).toNat).toInt)).bind fun v21 => (chk (0 ≤ (jadd x3 (1 : Int)) ∧ (jadd x3 (1 : Int)) < ((N : Nat) : Int)) (chk (0 ≤ (jadd x3 (2 : Int)) ∧ (jadd x3 (2 : Int)) < ((N : Nat) : Int)) ((f_X11_show v21.2 ((xs ((jadd x3 (1 : Int))).toNat).toInt) ((xs ((jadd x3 (2 : Int))).toNat).toInt)).bind fun v23 => (if v21.1 = v23.1 then (f_L_law_1774 N xs v23.2 x3) else (some (.inr (.inr (.inr (.inr (.inr (.inr (.inl v23.2))))))))))))))) else (if (jand ((xs (x3).toNat).toInt) (63 : Int)) = (6 : Int) then (chk (0 ≤ (jadd x3 (1 : Int)) ∧ (jadd x3 (1 : Int)) < ((N : Nat) : Int)) (chk (0 ≤ (jadd x3 (2 : Int)) ∧ (jadd x3 (2 : Int)) < ((N : Nat) : Int)) (chk (0 ≤ (jadd x3 (3 : Int)) ∧ (jadd x3 (3 : Int)) < ((N : Nat) : Int)) ((f_X10_says σ ((xs ((jadd x3 (1 : Int))).toNat).toInt) ((xs ((jadd x3 (2 : Int))).toNat).toInt) ((xs ((jadd x3 (3 : Int))).toNat).toInt)).bind fun v25 => (chk (0 ≤ (jadd x3 (1 : Int)) ∧ (jadd x3 (1 : Int)) < ((N : Nat) : Int)) (chk (0 ≤ (jadd x3 (2 : Int)) ∧ (jadd x3 (2 : Int)) < ((N : Nat) : Int)) (chk (0 ≤ (jadd x3 (3 : Int)) ∧ (jadd x3 (3 : Int)) < ((N : Nat) : Int)) ((f_X11_says v25.2 ((xs ((jadd x3 (1 : Int))).toNat).toInt) ((xs ((jadd x3 (2 : Int))).toNat).toInt) ((xs ((jadd x3 (3 : Int))).toNat).toInt)).bind fun v27 => (if v25.1 = v27.1 then (f_L_law_1774 N xs v27.2 x3) else (some (.inr (.inr (.inr (.inr (.inr (.inr (.inr (.inl v27.2)))))))))))))))))) else (if (jand ((xs (x3).toNat).toInt) (63 : Int)) = (7 : Int) then (chk (0 ≤ (jadd x3 (1 : Int)) ∧ (jadd x3 (1 : Int)) < ((N : Nat) : Int)) (chk (0 ≤ (jadd x3 (2 : Int)) ∧ (jadd x3 (2 : Int)) < ((N : Nat) : Int)) (chk (0 ≤ (jadd x3 (3 : Int)) ∧ (jadd x3 (3 : Int)) < ((N : Nat) : Int)) ((f_X10_paper σ ((xs ((jadd x3 (1 : Int))).toNat).toInt) ((xs ((jadd x3 (2 : Int))).toNat).toInt) ((xs ((jadd x3 (3 : Int))).toNat).toInt)).bind fun v29 => (chk (0 ≤ (jadd x3 (1 : Int)) ∧ (jadd x3 (1 : Int)) < ((N : Nat) : Int)) (chk (0 ≤ (jadd x3 (2 : Int)) ∧ (jadd x3 (2 : Int)) < ((N : Nat) : Int)) (chk (0 ≤ (jadd x3 (3 : Int)) ∧ (jadd x3 (3 : Int)) < ((N : Nat) : Int)) ((f_X11_paper v29.2 ((xs ((jadd x3 (1 : Int))).toNat).toInt) ((xs ((jadd x3 (2 : Int))).toNat).toInt) ((xs ((jadd x3 (3 : Int))).toNat).toInt)).bind fun v31 => (if v29.1 = v31.1 then (f_L_law_1774 N xs v31.2 x3) else (some (.inr (.inr (.inr (.inr (.inr (.inr (.inr (.inr (.inl v31.2))))))))))))))))))) else (if (jand ((xs (x3).toNat).toInt) (63 : Int)) = (8 : Int) then (chk (0 ≤ (jadd x3 (1 : Int)) ∧ (jadd x3 (1 : Int)) < ((N : Nat) : Int)) (chk (0 ≤ (jadd x3 (2 : Int)) ∧ (jadd x3 (2 : Int)) < ((N : Nat) : Int)) ((f_X10_starts σ ((xs ((jadd x3 (1 : Int))).toNat).toInt) ((xs ((jadd x3 (2 : Int))).toNat).toInt)).bind fun v33 => (chk (0 ≤ (jadd x3 (1 : Int)) ∧ (jadd x3 (1 : Int)) < ((N : Nat) : Int)) (chk (0 ≤ (jadd x3 (2 : Int)) ∧ (jadd x3 (2 : Int)) < ((N : Nat) : Int)) ((f_X11_starts v33.2 ((xs ((jadd x3 (1 : Int))).toNat).toInt) ((xs ((jadd x3 (2 : Int))).toNat).toInt)).bind fun v35 => (if v33.1 = v35.1 then (f_L_law_1774 N xs v35.2 x3) else (some (.inr (.inr (.inr (.inr (.inr (.inr (.inr (.inr (.inr (.inl v35.2)))))))))))))))))) else (if (jand ((xs (x3).toNat).toInt) (63 : Int)) = (9 : Int) then (chk (0 ≤ (jadd x3 (1 : Int)) ∧ (jadd x3 (1 : Int)) < ((N : Nat) : Int)) (chk (0 ≤ (jadd x3 (2 : Int)) ∧ (jadd x3 (2 : Int)) < ((N : Nat) : Int)) ((f_X10_cand σ ((xs ((jadd x3 (1 : Int))).toNat).toInt) ((xs ((jadd x3 (2 : Int))).toNat).toInt)).bind fun v37 => (chk (0 ≤ (jadd x3 (1 : Int)) ∧ (jadd x3 (1 : Int)) < ((N : Nat) : Int)) (chk (0 ≤ (jadd x3 (2 : Int)) ∧ (jadd x3 (2 : Int)) < ((N : Nat) : Int)) ((f_X11_cand v37.2 ((xs ((jadd x3 (1 : Int))).toNat).toInt) ((xs ((jadd x3 (2 : Int))).toNat).toInt)).bind fun v39 => (if v37.1 = v39.1 then (f_L_law_1774 N xs v39.2 x3) else (some (.inr (.inr (.inr (.inr (.inr (.inr (.inr (.inr (.inr (.inr (.inl v39.2))))))))))))))))))) else (if (jand ((xs (x3).toNat).toInt) (63 : Int)) = (10 : Int) then (chk (0 ≤ (jadd x3 (1 : Int)) ∧ (jadd x3 (1 : Int)) < ((N : Nat) : Int)) (chk (0 ≤ (jadd x3 (2 : Int)) ∧ (jadd x3 (2 : Int)) < ((N : Nat) : Int)) (chk (0 ≤ (jadd x3 (3 : Int)) ∧ (jadd x3 (3 : Int)) < ((N : Nat) : Int)) ((f_X10_takes σ ((xs ((jadd x3 (1 : Int))).toNat).toInt) ((xs ((jadd x3 (2 : Int))).toNat).toInt) ((xs ((jadd x3 (3 : Int))).toNat).toInt)).bind fun v41 => (chk (0 ≤ (jadd x3 (1 : Int)) ∧ (jadd x3 (1 : Int)) < ((N : Nat) : Int)) (chk (0 ≤ (jadd x3 (2 : Int)) ∧ (jadd x3 (2 : Int)) < ((N : Nat) : Int)) (chk (0 ≤ (jadd x3 (3 : Int)) ∧ (jadd x3 (3 : Int)) < ((N : Nat) : Int)) ((f_X11_takes v41.2 ((xs ((jadd x3 (1 : Int))).toNat).toInt) ((xs ((jadd x3 (2 : Int))).toNat).toInt) ((xs ((jadd x3 (3 : Int))).toNat).toInt)).bind fun v43 => (if v41.1 = v43.1 then (f_L_law_1774 N xs v43.2 x3) else (some (.inr (.inr (.inr (.inr (.inr (.inr (.inr (.inr (.inr (.inr (.inr (.inl v43.2)))))))))))))))))))))) else (if (jand ((xs (x3).toNat).toInt) (63 : Int)) = (11 : Int) then (chk (0 ≤ (jadd x3 (1 : Int)) ∧ (jadd x3 (1 : Int)) < ((N : Nat) : Int)) (chk (0 ≤ (jadd x3 (2 : Int)) ∧ (jadd x3 (2 : Int)) < ((N : Nat) : Int)) ((f_X10_night σ ((xs ((jadd x3 (1 : Int))).toNat).toInt) ((xs ((jadd x3 (2 : Int))).toNat).toInt)).bind fun v45 => (chk (0 ≤ (jadd x3 (1 : Int)) ∧ (jadd x3 (1 : Int)) < ((N : Nat) : Int)) (chk (0 ≤ (jadd x3 (2 : Int)) ∧ (jadd x3 (2 : Int)) < ((N : Nat) : Int)) ((f_X11_night v45.2 ((xs ((jadd x3 (1 : Int))).toNat).toInt) ((xs ((jadd x3 (2 : Int))).toNat).toInt)).bind fun v47 => (if v45.1 = v47.1 then (f_L_law_1774 N xs v47.2 x3) else (some (.inr (.inr (.inr (.inr (.inr (.inr (.inr (.inr (.inr (.inr (.inr (.inr (.inl v47.2))))))))))))))))))))) else (if (jand ((xs (x3).toNat).toInt) (63 : Int)) = (12 : Int) then (chk (0 ≤ (jadd x3 (1 : Int)) ∧ (jadd x3 (1 : Int)) < ((N : Nat) : Int)) ((f_X10_room σ ((xs ((jadd x3 (1 : Int))).toNat).toInt)).bind fun v49 => (chk (0 ≤ (jadd x3 (1 : Int)) ∧ (jadd x3 (1 : Int)) < ((N : Nat) : Int)) ((f_X11_room v49.2 ((xs ((jadd x3 (1 : Int))).toNat).toInt)).bind fun v51 => (if v49.1 = v51.1 then (f_L_law_1774 N xs v51.2 x3) else (some (.inr (.inr (.inr (.inr (.inr (.inr (.inr (.inr (.inr (.inr (.inr (.inr (.inr (.inl v51.2)))))))))))))))))))) else (if (jand ((xs (x3).toNat).toInt) (63 : Int)) = (13 : Int) then (chk (0 ≤ (jadd x3 (1 : Int)) ∧ (jadd x3 (1 : Int)) < ((N : Nat) : Int)) ((f_X10_hours σ ((xs ((jadd x3 (1 : Int))).toNat).toInt)).bind fun v53 => (chk (0 ≤ (jadd x3 (1 : Int)) ∧ (jadd x3 (1 : Int)) < ((N : Nat) : Int)) ((f_X11_hours v53.2 ((xs ((jadd x3 (1 : Int))).toNat).toInt)).bind fun v55 => (if v53.1 = v55.1 then (f_L_law_1774 N xs v55.2 x3) else (some (.inr (.inr (.inr (.inr (.inr (.inr (.inr (.inr (.inr (.inr (.inr (.inr (.inr (.inr (.inl v55.2))))))))))))))))))))) else (if (jand ((xs (x3).toNat).toInt) (63 : Int)) = (14 : Int) then (chk (0 ≤ (jadd x3 (1 : Int)) ∧ (jadd x3 (1 : Int)) < ((N : Nat) : Int)) ((f_X10_turn σ ((xs ((jadd x3 (1 : Int))).toNat).toInt)).bind fun v57 => (chk (0 ≤ (jadd x3 (1 : Int)) ∧ (jadd x3 (1 : Int)) < ((N : Nat) : Int)) ((f_X11_turn v57.2 ((xs ((jadd x3 (1 : Int))).toNat).toInt)).bind fun v59 => (if v57.1 = v59.1 then (f_L_law_1774 N xs v59.2 x3) else (some (.inr (.inr (.inr (.inr (.inr (.inr (.inr (.inr (.inr (.inr (.inr (.inr (.inr (.inr (.inr (.inl v59.2)))))))))))))))))))))) else (if (jand ((xs (x3).toNat).toInt) (63 : Int)) = (15 : Int) then (chk (0 ≤ (jadd x3 (1 : Int)) ∧ (jadd x3 (1 : Int)) < ((N : Nat) : Int)) ((f_X10_feed σ ((xs ((jadd x3 (1 : Int))).toNat).toInt)).bind fun v61 => (chk (0 ≤ (jadd x3 (1 : Int)) ∧ (jadd x3 (1 : Int)) < ((N : Nat) : Int)) ((f_X11_feed v61.2 ((xs ((jadd x3 (1 : Int))).toNat).toInt)).bind fun v63 => (if v61.1 = v63.1 then (f_L_law_1774 N xs v63.2 x3) else (some (.inr (.inr (.inr (.inr (.inr (.inr (.inr (.inr (.inr (.inr (.inr (.inr (.inr (.inr (.inr (.inr (.inl v63.2))))))))))))))))))))))) else (if (jand ((xs (x3).toNat).toInt) (63 : Int)) = (16 : Int) then ((f_X10_wipe σ).bind fun v65 => ((f_X11_wipe v65.2).bind fun v67 => (if v65.1 = v67.1 then (f_L_law_1774 N xs v67.2 x3) else (some (.inr (.inr (.inr (.inr (.inr (.inr (.inr (.inr (.inr (.inr (.inr (.inr (.inr (.inr (.inr (.inr (.inr (.inl v67.2)))))))))))))))))))))) else (if (jand ((xs (x3).toNat).toInt) (63 : Int)) = (17 : Int) then ((f_X10_book σ).bind fun v69 => ((f_X11_book v69.2).bind fun v71 => (if v69.1 = v71.1 then (f_L_law_1774 N xs v71.2 x3) else (some (.inr (.inr (.inr (.inr (.inr (.inr (.inr (.inr (.inr (.inr (.inr (.inr (.inr (.inr (.inr (.inr (.inr (.inr (.inl v71.2))))))))))))))))))))))) else (if (jand ((xs (x3).toNat).toInt) (63 : Int)) = (18 : Int) then (chk (0 ≤ (jadd x3 (1 : Int)) ∧ (jadd x3 (1 : Int)) < ((N : Nat) : Int)) (chk (0 ≤ (jadd x3 (2 : Int)) ∧ (jadd x3 (2 : Int)) < ((N : Nat) : Int)) ((f_X10_candOf σ ((xs ((jadd x3 (1 : Int))).toNat).toInt) ((xs ((jadd x3 (2 : Int))).toNat).toInt)).bind fun v73 => (chk (0 ≤ (jadd x3 (1 : Int)) ∧ (jadd x3 (1 : Int)) < ((N : Nat) : Int)) (chk (0 ≤ (jadd x3 (2 : Int)) ∧ (jadd x3 (2 : Int)) < ((N : Nat) : Int)) ((f_X11_candOf v73.2 ((xs ((jadd x3 (1 : Int))).toNat).toInt) ((xs ((jadd x3 (2 : Int))).toNat).toInt)).bind fun v75 => (if v73.1 = v75.1 then (f_L_law_1774 N xs v75.2 x3) else (some (.inr (.inr (.inr (.inr (.inr (.inr (.inr (.inr (.inr (.inr (.inr (.inr (.inr (.inr (.inr (.inr (.inr (.inr (.inr (.inl v75.2)))))))))))))))))))))))))))) else (if (jand ((xs (x3).toNat).toInt) (63 : Int)) = (19 : Int) then (chk (0 ≤ (jadd x3 (1 : Int)) ∧ (jadd x3 (1 : Int)) < ((N : Nat) : Int)) (chk (0 ≤ (jadd x3 (2 : Int)) ∧ (jadd x3 (2 : Int)) < ((N : Nat) : Int)) ((f_X10_paperOf σ ((xs ((jadd x3 (1 : Int))).toNat).toInt) ((xs ((jadd x3 (2 : Int))).toNat).toInt)).bind fun v77 => (chk (0 ≤ (jadd x3 (1 : Int)) ∧ (jadd x3 (1 : Int)) < ((N : Nat) : Int)) (chk (0 ≤ (jadd x3 (2 : Int)) ∧ (jadd x3 (2 : Int)) < ((N : Nat) : Int)) ((f_X11_paperOf v77.2 ((xs ((jadd x3 (1 : Int))).toNat).toInt) ((xs ((jadd x3 (2 : Int))).toNat).toInt)).bind fun v79 => (if v77.1 = v79.1 then (f_L_law_1774 N xs v79.2 x3) else (some (.inr (.inr (.inr (.inr (.inr (.inr (.inr (.inr (.inr (.inr (.inr (.inr (.inr (.inr (.inr (.inr (.inr (.inr (.inr (.inr (.inl v79.2))))))))))))))))))))))))))))) else (if (jand ((xs (x3).toNat).toInt) (63 : Int)) = (20 : Int) then (chk (0 ≤ (jadd x3 (1 : Int)) ∧ (jadd x3 (1 : Int)) < ((N : Nat) : Int)) (chk (0 ≤ (jadd x3 (2 : Int)) ∧ (jadd x3 (2 : Int)) < ((N : Nat) : Int)) ((f_X10_time σ ((xs ((jadd x3 (1 : Int))).toNat).toInt) ((xs ((jadd x3 (2 : Int))).toNat).toInt)).bind fun v81 => (chk (0 ≤ (jadd x3 (1 : Int)) ∧ (jadd x3 (1 : Int)) < ((N : Nat) : Int)) (chk (0 ≤ (jadd x3 (2 : Int)) ∧ (jadd x3 (2 : Int)) < ((N : Nat) : Int)) ((f_X11_time v81.2 ((xs ((jadd x3 (1 : Int))).toNat).toInt) ((xs ((jadd x3 (2 : Int))).toNat).toInt)).bind fun v83 => (if v81.1 = v83.1 then (f_L_law_1774 N xs v83.2 x3) else (some (.inr (.inr (.inr (.inr (.inr (.inr (.inr (.inr (.inr (.inr (.inr (.inr (.inr (.inr (.inr (.inr (.inr (.inr (.inr (.inr (.inr (.inl v83.2)))))))))))))))))))))))))))))) else (if (jand ((xs (x3).toNat).toInt) (63 : Int)) = (21 : Int) then (chk (0 ≤ (jadd x3 (1 : Int)) ∧ (jadd x3 (1 : Int)) < ((N : Nat) : Int)) (chk (0 ≤ (jadd x3 (2 : Int)) ∧ (jadd x3 (2 : Int)) < ((N : Nat) : Int)) (chk (0 ≤ (jadd x3 (3 : Int)) ∧ (jadd x3 (3 : Int)) < ((N : Nat) : Int)) ((f_X10_plan σ ((xs ((jadd x3 (1 : Int))).toNat).toInt) ((xs ((jadd x3 (2 : Int))).toNat).toInt) ((xs ((jadd x3 (3 : Int))).toNat).toInt)).bind fun v85 => (chk (0 ≤ (jadd x3 (1 : Int)) ∧ (jadd x3 (1 : Int)) < ((N : Nat) : Int)) (chk (0 ≤ (jadd x3 (2 : Int)) ∧ (jadd x3 (2 : Int)) < ((N : Nat) : Int)) (chk (0 ≤ (jadd x3 (3 : Int)) ∧ (jadd x3 (3 : Int)) < ((N : Nat) : Int)) ((f_X11_plan v85.2 ((xs ((jadd x3 (1 : Int))).toNat).toInt) ((xs ((jadd x3 (2 : Int))).toNat).toInt) ((xs ((jadd x3 (3 : Int))).toNat).toInt)).bind fun v87 => (if v85.1 = v87.1 then (f_L_law_1774 N xs v87.2 x3) else (some (.inr (.inr (.inr (.inr (.inr (.inr (.inr (.inr (.inr (.inr (.inr (.inr (.inr (.inr (.inr (.inr (.inr (.inr (.inr (.inr (.inr (.inr (.inl v87.2))))))))))))))))))))))))))))))))) else (if (jand ((xs (x3).toNat).toInt) (63 : Int)) = (22 : Int) then (chk (0 ≤ (jadd x3 (1 : Int)) ∧ (jadd x3 (1 : Int)) < ((N : Nat) : Int)) (chk (0 ≤ (jadd x3 (2 : Int)) ∧ (jadd x3 (2 : Int)) < ((N : Nat) : Int)) (chk (0 ≤ (jadd x3 (3 : Int)) ∧ (jadd x3 (3 : Int)) < ((N : Nat) : Int)) (chk (0 ≤ (jadd x3 (4 : Int)) ∧ (jadd x3 (4 : Int)) < ((N : Nat) : Int)) ((f_X10_sits σ ((xs ((jadd x3 (1 : Int))).toNat).toInt) ((xs ((jadd x3 (2 : Int))).toNat).toInt) ((xs ((jadd x3 (3 : Int))).toNat).toInt) ((xs ((jadd x3 (4 : Int))).toNat).toInt)).bind fun v89 => (chk (0 ≤ (jadd x3 (1 : Int)) ∧ (jadd x3 (1 : Int)) < ((N : Nat) : Int)) (chk (0 ≤ (jadd x3 (2 : Int)) ∧ (jadd x3 (2 : Int)) < ((N : Nat) : Int)) (chk (0 ≤ (jadd x3 (3 : Int)) ∧ (jadd x3 (3 : Int)) < ((N : Nat) : Int)) (chk (0 ≤ (jadd x3 (4 : Int)) ∧ (jadd x3 (4 : Int)) < ((N : Nat) : Int)) ((f_X11_sits v89.2 ((xs ((jadd x3 (1 : Int))).toNat).toInt) ((xs ((jadd x3 (2 : Int))).toNat).toInt) ((xs ((jadd x3 (3 : Int))).toNat).toInt) ((xs ((jadd x3 (4 : Int))).toNat).toInt)).bind fun v91 => (if v89.1 = v91.1 then (f_L_law_1774 N xs v91.2 x3) else (some (.inr (.inr (.inr (.inr (.inr (.inr (.inr (.inr (.inr (.inr (.inr (.inr (.inr (.inr (.inr (.inr (.inr (.inr (.inr (.inr (.inr (.inr (.inr (.inl v91.2)))))))))))))))))))))))))))))))))))) else (if (jand ((xs (x3).toNat).toInt) (63 : Int)) = (23 : Int) then (chk (0 ≤ (jadd x3 (1 : Int)) ∧ (jadd x3 (1 : Int)) < ((N : Nat) : Int)) (chk (0 ≤ (jadd x3 (2 : Int)) ∧ (jadd x3 (2 : Int)) < ((N : Nat) : Int)) (chk (0 ≤ (jadd x3 (3 : Int)) ∧ (jadd x3 (3 : Int)) < ((N : Nat) : Int)) ((f_X10_does σ ((xs ((jadd x3 (1 : Int))).toNat).toInt) ((xs ((jadd x3 (2 : Int))).toNat).toInt) ((xs ((jadd x3 (3 : Int))).toNat).toInt)).bind fun v93 => (chk (0 ≤ (jadd x3 (1 : Int)) ∧ (jadd x3 (1 : Int)) < ((N : Nat) : Int)) (chk (0 ≤ (jadd x3 (2 : Int)) ∧ (jadd x3 (2 : Int)) < ((N : Nat) : Int)) (chk (0 ≤ (jadd x3 (3 : Int)) ∧ (jadd x3 (3 : Int)) < ((N : Nat) : Int)) ((f_X11_does v93.2 ((xs ((jadd x3 (1 : Int))).toNat).toInt) ((xs ((jadd x3 (2 : Int))).toNat).toInt) ((xs ((jadd x3 (3 : Int))).toNat).toInt)).bind fun v95 => (if v93.1 = v95.1 then (f_L_law_1774 N xs v95.2 x3) else (some (.inr (.inr (.inr (.inr (.inr (.inr (.inr (.inr (.inr (.inr (.inr (.inr (.inr (.inr (.inr (.inr (.inr (.inr (.inr (.inr (.inr (.inr (.inr (.inr (.inl v95.2))))))))))))))))))))))))))))))))))) else (if (jand ((xs (x3).toNat).toInt) (63 : Int)) = (24 : Int) then (chk (0 ≤ (jadd x3 (1 : Int)) ∧ (jadd x3 (1 : Int)) < ((N : Nat) : Int)) (chk (0 ≤ (jadd x3 (2 : Int)) ∧ (jadd x3 (2 : Int)) < ((N : Nat) : Int)) (chk (0 ≤ (jadd x3 (3 : Int)) ∧ (jadd x3 (3 : Int)) < ((N : Nat) : Int)) ((f_X10_measure σ ((xs ((jadd x3 (1 : Int))).toNat).toInt) ((xs ((jadd x3 (2 : Int))).toNat).toInt) ((xs ((jadd x3 (3 : Int))).toNat).toInt)).bind fun v97 => (chk (0 ≤ (jadd x3 (1 : Int)) ∧ (jadd x3 (1 : Int)) < ((N : Nat) : Int)) (chk (0 ≤ (jadd x3 (2 : Int)) ∧ (jadd x3 (2 : Int)) < ((N : Nat) : Int)) (chk (0 ≤ (jadd x3 (3 : Int)) ∧ (jadd x3 (3 : Int)) < ((N : Nat) : Int)) ((f_X11_measure v97.2 ((xs ((jadd x3 (1 : Int))).toNat).toInt) ((xs ((jadd x3 (2 : Int))).toNat).toInt) ((xs ((jadd x3 (3 : Int))).toNat).toInt)).bind fun v99 => (if v97.1 = v99.1 then (f_L_law_1774 N xs v99.2 x3) else (some (.inr (.inr (.inr (.inr (.inr (.inr (.inr (.inr (.inr (.inr (.inr (.inr (.inr (.inr (.inr (.inr (.inr (.inr (.inr (.inr (.inr (.inr (.inr (.inr (.inr (.inl v99.2)))))))))))))))))))))))))))))))))))) else (if (jand ((xs (x3).toNat).toInt) (63 : Int)) = (25 : Int) then (chk (0 ≤ (jadd x3 (1 : Int)) ∧ (jadd x3 (1 : Int)) < ((N : Nat) : Int)) (chk (0 ≤ (jadd x3 (2 : Int)) ∧ (jadd x3 (2 : Int)) < ((N : Nat) : Int)) (chk (0 ≤ (jadd x3 (3 : Int)) ∧ (jadd x3 (3 : Int)) < ((N : Nat) : Int)) (chk (0 ≤ (jadd x3 (4 : Int)) ∧ (jadd x3 (4 : Int)) < ((N : Nat) : Int)) ((f_X10_best σ ((xs ((jadd x3 (1 : Int))).toNat).toInt) ((xs ((jadd x3 (2 : Int))).toNat).toInt) ((xs ((jadd x3 (3 : Int))).toNat).toInt) ((xs ((jadd x3 (4 : Int))).toNat).toInt)).bind fun v101 => (chk (0 ≤ (jadd x3 (1 : Int)) ∧ (jadd x3 (1 : Int)) < ((N : Nat) : Int)) (chk (0 ≤ (jadd x3 (2 : Int)) ∧ (jadd x3 (2 : Int)) < ((N : Nat) : Int)) (chk (0 ≤ (jadd x3 (3 : Int)) ∧ (jadd x3 (3 : Int)) < ((N : Nat) : Int)) (chk (0 ≤ (jadd x3 (4 : Int)) ∧ (jadd x3 (4 : Int)) < ((N : Nat) : Int)) ((f_X11_best v101.2 ((xs ((jadd x3 (1 : Int))).toNat).toInt) ((xs ((jadd x3 (2 : Int))).toNat).toInt) ((xs ((jadd x3 (3 : Int))).toNat).toInt) ((xs ((jadd x3 (4 : Int))).toNat).toInt)).bind fun v103 => (if v101.1 = v103.1 then (f_L_law_1774 N xs v103.2 x3) else (some (.inr (.inr (.inr (.inr (.inr (.inr (.inr (.inr (.inr (.inr (.inr (.inr (.inr (.inr (.inr (.inr (.inr (.inr (.inr (.inr (.inr (.inr (.inr (.inr (.inr (.inr (.inl v103.2))))))))))))))))))))))))))))))))))))))) else (if (jand ((xs (x3).toNat).toInt) (63 : Int)) = (26 : Int) then (chk (0 ≤ (jadd x3 (1 : Int)) ∧ (jadd x3 (1 : Int)) < ((N : Nat) : Int)) (chk (0 ≤ (jadd x3 (2 : Int)) ∧ (jadd x3 (2 : Int)) < ((N : Nat) : Int)) ((f_X10_lawful σ ((xs ((jadd x3 (1 : Int))).toNat).toInt) ((xs ((jadd x3 (2 : Int))).toNat).toInt)).bind fun v105 => (chk (0 ≤ (jadd x3 (1 : Int)) ∧ (jadd x3 (1 : Int)) < ((N : Nat) : Int)) (chk (0 ≤ (jadd x3 (2 : Int)) ∧ (jadd x3 (2 : Int)) < ((N : Nat) : Int)) ((f_X11_lawful v105.2 ((xs ((jadd x3 (1 : Int))).toNat).toInt) ((xs ((jadd x3 (2 : Int))).toNat).toInt)).bind fun v107 => (if v105.1 = v107.1 then (f_L_law_1774 N xs v107.2 x3) else (some (.inr (.inr (.inr (.inr (.inr (.inr (.inr (.inr (.inr (.inr (.inr (.inr (.inr (.inr (.inr (.inr (.inr (.inr (.inr (.inr (.inr (.inr (.inr (.inr (.inr (.inr (.inr (.inl v107.2)))))))))))))))))))))))))))))))))))) else (if (jand ((xs (x3).toNat).toInt) (63 : Int)) = (27 : Int) then (chk (0 ≤ (jadd x3 (1 : Int)) ∧ (jadd x3 (1 : Int)) < ((N : Nat) : Int)) ((f_X10_watch σ ((xs ((jadd x3 (1 : Int))).toNat).toInt)).bind fun v109 => (chk (0 ≤ (jadd x3 (1 : Int)) ∧ (jadd x3 (1 : Int)) < ((N : Nat) : Int)) ((f_X11_watch v109.2 ((xs ((jadd x3 (1 : Int))).toNat).toInt)).bind fun v111 => (if v109.1 = v111.1 then (f_L_law_1774 N xs v111.2 x3) else (some (.inr (.inr (.inr (.inr (.inr (.inr (.inr (.inr (.inr (.inr (.inr (.inr (.inr (.inr (.inr (.inr (.inr (.inr (.inr (.inr (.inr (.inr (.inr (.inr (.inr (.inr (.inr (.inr (.inl v111.2))))))))))))))))))))))))))))))))))) else (if (jand ((xs (x3).toNat).toInt) (63 : Int)) = (28 : Int) then (chk (0 ≤ (jadd x3 (1 : Int)) ∧ (jadd x3 (1 : Int)) < ((N : Nat) : Int)) (chk (0 ≤ (jadd x3 (2 : Int)) ∧ (jadd x3 (2 : Int)) < ((N : Nat) : Int)) ((f_X10_duty σ ((xs ((jadd x3 (1 : Int))).toNat).toInt) ((xs ((jadd x3 (2 : Int))).toNat).toInt)).bind fun v113 => (chk (0 ≤ (jadd x3 (1 : Int)) ∧ (jadd x3 (1 : Int)) < ((N : Nat) : Int)) (chk (0 ≤ (jadd x3 (2 : Int)) ∧ (jadd x3 (2 : Int)) < ((N : Nat) : Int)) ((f_X11_duty v113.2 ((xs ((jadd x3 (1 : Int))).toNat).toInt) ((xs ((jadd x3 (2 : Int))).toNat).toInt)).bind fun v115 => (if v113.1 = v115.1 then (f_L_law_1774 N xs v115.2 x3) else (some (.inr (.inr (.inr (.inr (.inr (.inr (.inr (.inr (.inr (.inr (.inr (.inr (.inr (.inr (.inr (.inr (.inr (.inr (.inr (.inr (.inr (.inr (.inr (.inr (.inr (.inr (.inr (.inr (.inr (.inl v115.2)))))))))))))))))))))))))))))))))))))) else (if (jand ((xs (x3).toNat).toInt) (63 : Int)) = (29 : Int) then (chk (0 ≤ (jadd x3 (1 : Int)) ∧ (jadd x3 (1 : Int)) < ((N : Nat) : Int)) (chk (0 ≤ (jadd x3 (2 : Int)) ∧ (jadd x3 (2 : Int)) < ((N : Nat) : Int)) (chk (0 ≤ (jadd x3 (3 : Int)) ∧ (jadd x3 (3 : Int)) < ((N : Nat) : Int)) ((f_X10_pieces σ ((xs ((jadd x3 (1 : Int))).toNat).toInt) ((xs ((jadd x3 (2 : Int))).toNat).toInt) ((xs ((jadd x3 (3 : Int))).toNat).toInt)).bind fun v117 => (chk (0 ≤ (jadd x3 (1 : Int)) ∧ (jadd x3 (1 : Int)) < ((N : Nat) : Int)) (chk (0 ≤ (jadd x3 (2 : Int)) ∧ (jadd x3 (2 : Int)) < ((N : Nat) : Int)) (chk (0 ≤ (jadd x3 (3 : Int)) ∧ (jadd x3 (3 : Int)) < ((N : Nat) : Int)) ((f_X11_pieces v117.2 ((xs ((jadd x3 (1 : Int))).toNat).toInt) ((xs ((jadd x3 (2 : Int))).toNat).toInt) ((xs ((jadd x3 (3 : Int))).toNat).toInt)).bind fun v119 => (if v117.1 = v119.1 then (f_L_law_1774 N xs v119.2 x3) else (some (.inr (.inr (.inr (.inr (.inr (.inr (.inr (.inr (.inr (.inr (.inr (.inr (.inr (.inr (.inr (.inr (.inr (.inr (.inr (.inr (.inr (.inr (.inr (.inr (.inr (.inr (.inr (.inr (.inr (.inr (.inl v119.2))))))))))))))))))))))))))))))))))))))))) else (if (jand ((xs (x3).toNat).toInt) (63 : Int)) = (30 : Int) then (chk (0 ≤ (jadd x3 (1 : Int)) ∧ (jadd x3 (1 : Int)) < ((N : Nat) : Int)) (chk (0 ≤ (jadd x3 (2 : Int)) ∧ (jadd x3 (2 : Int)) < ((N : Nat) : Int)) (chk (0 ≤ (jadd x3 (3 : Int)) ∧ (jadd x3 (3 : Int)) < ((N : Nat) : Int)) ((f_X10_roomOf σ ((xs ((jadd x3 (1 : Int))).toNat).toInt) ((xs ((jadd x3 (2 : Int))).toNat).toInt) ((xs ((jadd x3 (3 : Int))).toNat).toInt)).bind fun v121 => (chk (0 ≤ (jadd x3 (1 : Int)) ∧ (jadd x3 (1 : Int)) < ((N : Nat) : Int)) (chk (0 ≤ (jadd x3 (2 : Int)) ∧ (jadd x3 (2 : Int)) < ((N : Nat) : Int)) (chk (0 ≤ (jadd x3 (3 : Int)) ∧ (jadd x3 (3 : Int)) < ((N : Nat) : Int)) ((f_X11_roomOf v121.2 ((xs ((jadd x3 (1 : Int))).toNat).toInt) ((xs ((jadd x3 (2 : Int))).toNat).toInt) ((xs ((jadd x3 (3 : Int))).toNat).toInt)).bind fun v123 => (if v121.1 = v123.1 then (f_L_law_1774 N xs v123.2 x3) else (some (.inr (.inr (.inr (.inr (.inr (.inr (.inr (.inr (.inr (.inr (.inr (.inr (.inr (.inr (.inr (.inr (.inr (.inr (.inr (.inr (.inr (.inr (.inr (.inr (.inr (.inr (.inr (.inr (.inr (.inr (.inr (.inl v123.2)))))))))))))))))))))))))))))))))))))))))) else (if (jand ((xs (x3).toNat).toInt) (63 : Int)) = (31 : Int) then (chk (0 ≤ (jadd x3 (1 : Int)) ∧ (jadd x3 (1 : Int)) < ((N : Nat) : Int)) (chk (0 ≤ (jadd x3 (2 : Int)) ∧ (jadd x3 (2 : Int)) < ((N : Nat) : Int)) (chk (0 ≤ (jadd x3 (3 : Int)) ∧ (jadd x3 (3 : Int)) < ((N : Nat) : Int)) ((f_X10_left σ ((xs ((jadd x3 (1 : Int))).toNat).toInt) ((xs ((jadd x3 (2 : Int))).toNat).toInt) ((xs ((jadd x3 (3 : Int))).toNat).toInt)).bind fun v125 => (chk (0 ≤ (jadd x3 (1 : Int)) ∧ (jadd x3 (1 : Int)) < ((N : Nat) : Int)) (chk (0 ≤ (jadd x3 (2 : Int)) ∧ (jadd x3 (2 : Int)) < ((N : Nat) : Int)) (chk (0 ≤ (jadd x3 (3 : Int)) ∧ (jadd x3 (3 : Int)) < ((N : Nat) : Int)) ((f_X11_left v125.2 ((xs ((jadd x3 (1 : Int))).toNat).toInt) ((xs ((jadd x3 (2 : Int))).toNat).toInt) ((xs ((jadd x3 (3 : Int))).toNat).toInt)).bind fun v127 => (if v125.1 = v127.1 then (f_L_law_1774 N xs v127.2 x3) else (some (.inr (.inr (.inr (.inr (.inr (.inr (.inr (.inr (.inr (.inr (.inr (.inr (.inr (.inr (.inr (.inr (.inr (.inr (.inr (.inr (.inr (.inr (.inr (.inr (.inr (.inr (.inr (.inr (.inr (.inr (.inr (.inr (.inl v127.2))))))))))))))))))))))))))))))))))))))))))) else (if (jand ((xs (x3).toNat).toInt) (63 : Int)) = (32 : Int) then (chk (0 ≤ (jadd x3 (1 : Int)) ∧ (jadd x3 (1 : Int)) < ((N : Nat) : Int)) (chk (0 ≤ (jadd x3 (2 : Int)) ∧ (jadd x3 (2 : Int)) < ((N : Nat) : Int)) ((f_X10_whatIf σ ((xs ((jadd x3 (1 : Int))).toNat).toInt) ((xs ((jadd x3 (2 : Int))).toNat).toInt)).bind fun v129 => (chk (0 ≤ (jadd x3 (1 : Int)) ∧ (jadd x3 (1 : Int)) < ((N : Nat) : Int)) (chk (0 ≤ (jadd x3 (2 : Int)) ∧ (jadd x3 (2 : Int)) < ((N : Nat) : Int)) ((f_X11_whatIf v129.2 ((xs ((jadd x3 (1 : Int))).toNat).toInt) ((xs ((jadd x3 (2 : Int))).toNat).toInt)).bind fun v131 => (if v129.1 = v131.1 then (f_L_law_1774 N xs v131.2 x3) else (some (.inr (.inr (.inr (.inr (.inr (.inr (.inr (.inr (.inr (.inr (.inr (.inr (.inr (.inr (.inr (.inr (.inr (.inr (.inr (.inr (.inr (.inr (.inr (.inr (.inr (.inr (.inr (.inr (.inr (.inr (.inr (.inr (.inr (.inl v131.2)))))))))))))))))))))))))))))))))))))))))) else (if (jand ((xs (x3).toNat).toInt) (63 : Int)) = (33 : Int) then (chk (0 ≤ (jadd x3 (1 : Int)) ∧ (jadd x3 (1 : Int)) < ((N : Nat) : Int)) (chk (0 ≤ (jadd x3 (2 : Int)) ∧ (jadd x3 (2 : Int)) < ((N : Nat) : Int)) (chk (0 ≤ (jadd x3 (3 : Int)) ∧ (jadd x3 (3 : Int)) < ((N : Nat) : Int)) ((f_X10_both σ ((xs ((jadd x3 (1 : Int))).toNat).toInt) ((xs ((jadd x3 (2 : Int))).toNat).toInt) ((xs ((jadd x3 (3 : Int))).toNat).toInt)).bind fun v133 => (chk (0 ≤ (jadd x3 (1 : Int)) ∧ (jadd x3 (1 : Int)) < ((N : Nat) : Int)) (chk (0 ≤ (jadd x3 (2 : Int)) ∧ (jadd x3 (2 : Int)) < ((N : Nat) : Int)) (chk (0 ≤ (jadd x3 (3 : Int)) ∧ (jadd x3 (3 : Int)) < ((N : Nat) : Int)) ((f_X11_both v133.2 ((xs ((jadd x3 (1 : Int))).toNat).toInt) ((xs ((jadd x3 (2 : Int))).toNat).toInt) ((xs ((jadd x3 (3 : Int))).toNat).toInt)).bind fun v135 => (if v133.1 = v135.1 then (f_L_law_1774 N xs v135.2 x3) else (some (.inr (.inr (.inr (.inr (.inr (.inr (.inr (.inr (.inr (.inr (.inr (.inr (.inr (.inr (.inr (.inr (.inr (.inr (.inr (.inr (.inr (.inr (.inr (.inr (.inr (.inr (.inr (.inr (.inr (.inr (.inr (.inr (.inr (.inr (.inl v135.2))))))))))))))))))))))))))))))))))))))))))))) else (if (jand ((xs (x3).toNat).toInt) (63 : Int)) = (34 : Int) then (chk (0 ≤ (jadd x3 (1 : Int)) ∧ (jadd x3 (1 : Int)) < ((N : Nat) : Int)) ((f_X10_relief σ ((xs ((jadd x3 (1 : Int))).toNat).toInt)).bind fun v137 => (chk (0 ≤ (jadd x3 (1 : Int)) ∧ (jadd x3 (1 : Int)) < ((N : Nat) : Int)) ((f_X11_relief v137.2 ((xs ((jadd x3 (1 : Int))).toNat).toInt)).bind fun v139 => (if v137.1 = v139.1 then (f_L_law_1774 N xs v139.2 x3) else (some (.inr (.inr (.inr (.inr (.inr (.inr (.inr (.inr (.inr (.inr (.inr (.inr (.inr (.inr (.inr (.inr (.inr (.inr (.inr (.inr (.inr (.inr (.inr (.inr (.inr (.inr (.inr (.inr (.inr (.inr (.inr (.inr (.inr (.inr (.inr (.inl v139.2)))))))))))))))))))))))))))))))))))))))))) else (if (jand ((xs (x3).toNat).toInt) (63 : Int)) = (35 : Int) then (chk (0 ≤ (jadd x3 (1 : Int)) ∧ (jadd x3 (1 : Int)) < ((N : Nat) : Int)) ((f_X10_retime σ ((xs ((jadd x3 (1 : Int))).toNat).toInt)).bind fun v141 => (chk (0 ≤ (jadd x3 (1 : Int)) ∧ (jadd x3 (1 : Int)) < ((N : Nat) : Int)) ((f_X11_retime v141.2 ((xs ((jadd x3 (1 : Int))).toNat).toInt)).bind fun v143 => (if v141.1 = v143.1 then (f_L_law_1774 N xs v143.2 x3) else (some (.inr (.inr (.inr (.inr (.inr (.inr (.inr (.inr (.inr (.inr (.inr (.inr (.inr (.inr (.inr (.inr (.inr (.inr (.inr (.inr (.inr (.inr (.inr (.inr (.inr (.inr (.inr (.inr (.inr (.inr (.inr (.inr (.inr (.inr (.inr (.inr (.inl v143.2))))))))))))))))))))))))))))))))))))))))))) else (if (jand ((xs (x3).toNat).toInt) (63 : Int)) = (36 : Int) then (chk (0 ≤ (jadd x3 (1 : Int)) ∧ (jadd x3 (1 : Int)) < ((N : Nat) : Int)) ((f_X10_hoursFor σ ((xs ((jadd x3 (1 : Int))).toNat).toInt)).bind fun v145 => (chk (0 ≤ (jadd x3 (1 : Int)) ∧ (jadd x3 (1 : Int)) < ((N : Nat) : Int)) ((f_X11_hoursFor v145.2 ((xs ((jadd x3 (1 : Int))).toNat).toInt)).bind fun v147 => (if v145.1 = v147.1 then (f_L_law_1774 N xs v147.2 x3) else (some (.inr (.inr (.inr (.inr (.inr (.inr (.inr (.inr (.inr (.inr (.inr (.inr (.inr (.inr (.inr (.inr (.inr (.inr (.inr (.inr (.inr (.inr (.inr (.inr (.inr (.inr (.inr (.inr (.inr (.inr (.inr (.inr (.inr (.inr (.inr (.inr (.inr (.inl v147.2)))))))))))))))))))))))))))))))))))))))))))) else (if (jand ((xs (x3).toNat).toInt) (63 : Int)) = (37 : Int) then (chk (0 ≤ (jadd x3 (1 : Int)) ∧ (jadd x3 (1 : Int)) < ((N : Nat) : Int)) (chk (0 ≤ (jadd x3 (2 : Int)) ∧ (jadd x3 (2 : Int)) < ((N : Nat) : Int)) (chk (0 ≤ (jadd x3 (3 : Int)) ∧ (jadd x3 (3 : Int)) < ((N : Nat) : Int)) ((f_X10_kinds σ ((xs ((jadd x3 (1 : Int))).toNat).toInt) ((xs ((jadd x3 (2 : Int))).toNat).toInt) ((xs ((jadd x3 (3 : Int))).toNat).toInt)).bind fun v149 => (chk (0 ≤ (jadd x3 (1 : Int)) ∧ (jadd x3 (1 : Int)) < ((N : Nat) : Int)) (chk (0 ≤ (jadd x3 (2 : Int)) ∧ (jadd x3 (2 : Int)) < ((N : Nat) : Int)) (chk (0 ≤ (jadd x3 (3 : Int)) ∧ (jadd x3 (3 : Int)) < ((N : Nat) : Int)) ((f_X11_kinds v149.2 ((xs ((jadd x3 (1 : Int))).toNat).toInt) ((xs ((jadd x3 (2 : Int))).toNat).toInt) ((xs ((jadd x3 (3 : Int))).toNat).toInt)).bind fun v151 => (if v149.1 = v151.1 then (f_L_law_1774 N xs v151.2 x3) else (some (.inr (.inr (.inr (.inr (.inr (.inr (.inr (.inr (.inr (.inr (.inr (.inr (.inr (.inr (.inr (.inr (.inr (.inr (.inr (.inr (.inr (.inr (.inr (.inr (.inr (.inr (.inr (.inr (.inr (.inr (.inr (.inr (.inr (.inr (.inr (.inr (.inr (.inr (.inl v151.2))))))))))))))))))))))))))))))))))))))))))))))))) else (if (jand ((xs (x3).toNat).toInt) (63 : Int)) = (38 : Int) then (chk (0 ≤ (jadd x3 (1 : Int)) ∧ (jadd x3 (1 : Int)) < ((N : Nat) : Int)) (chk (0 ≤ (jadd x3 (2 : Int)) ∧ (jadd x3 (2 : Int)) < ((N : Nat) : Int)) (chk (0 ≤ (jadd x3 (3 : Int)) ∧ (jadd x3 (3 : Int)) < ((N : Nat) : Int)) (chk (0 ≤ (jadd x3 (4 : Int)) ∧ (jadd x3 (4 : Int)) < ((N : Nat) : Int)) ((f_X10_judge σ ((xs ((jadd x3 (1 : Int))).toNat).toInt) ((xs ((jadd x3 (2 : Int))).toNat).toInt) ((xs ((jadd x3 (3 : Int))).toNat).toInt) ((xs ((jadd x3 (4 : Int))).toNat).toInt)).bind fun v153 => (chk (0 ≤ (jadd x3 (1 : Int)) ∧ (jadd x3 (1 : Int)) < ((N : Nat) : Int)) (chk (0 ≤ (jadd x3 (2 : Int)) ∧ (jadd x3 (2 : Int)) < ((N : Nat) : Int)) (chk (0 ≤ (jadd x3 (3 : Int)) ∧ (jadd x3 (3 : Int)) < ((N : Nat) : Int)) (chk (0 ≤ (jadd x3 (4 : Int)) ∧ (jadd x3 (4 : Int)) < ((N : Nat) : Int)) ((f_X11_judge v153.2 ((xs ((jadd x3 (1 : Int))).toNat).toInt) ((xs ((jadd x3 (2 : Int))).toNat).toInt) ((xs ((jadd x3 (3 : Int))).toNat).toInt) ((xs ((jadd x3 (4 : Int))).toNat).toInt)).bind fun v155 => (if v153.1 = v155.1 then (f_L_law_1774 N xs v155.2 x3) else (some (.inr (.inr (.inr (.inr (.inr (.inr (.inr (.inr (.inr (.inr (.inr (.inr (.inr (.inr (.inr (.inr (.inr (.inr (.inr (.inr (.inr (.inr (.inr (.inr (.inr (.inr (.inr (.inr (.inr (.inr (.inr (.inr (.inr (.inr (.inr (.inr (.inr (.inr (.inr (.inl v155.2)))))))))))))))))))))))))))))))))))))))))))))))))))) else (if (jand ((xs (x3).toNat).toInt) (63 : Int)) = (39 : Int) then (chk (0 ≤ (jadd x3 (1 : Int)) ∧ (jadd x3 (1 : Int)) < ((N : Nat) : Int)) (chk (0 ≤ (jadd x3 (2 : Int)) ∧ (jadd x3 (2 : Int)) < ((N : Nat) : Int)) (chk (0 ≤ (jadd x3 (3 : Int)) ∧ (jadd x3 (3 : Int)) < ((N : Nat) : Int)) ((f_X10_together σ ((xs ((jadd x3 (1 : Int))).toNat).toInt) ((xs ((jadd x3 (2 : Int))).toNat).toInt) ((xs ((jadd x3 (3 : Int))).toNat).toInt)).bind fun v157 => (chk (0 ≤ (jadd x3 (1 : Int)) ∧ (jadd x3 (1 : Int)) < ((N : Nat) : Int)) (chk (0 ≤ (jadd x3 (2 : Int)) ∧ (jadd x3 (2 : Int)) < ((N : Nat) : Int)) (chk (0 ≤ (jadd x3 (3 : Int)) ∧ (jadd x3 (3 : Int)) < ((N : Nat) : Int)) ((f_X11_together v157.2 ((xs ((jadd x3 (1 : Int))).toNat).toInt) ((xs ((jadd x3 (2 : Int))).toNat).toInt) ((xs ((jadd x3 (3 : Int))).toNat).toInt)).bind fun v159 => (if v157.1 = v159.1 then (f_L_law_1774 N xs v159.2 x3) else (some (.inr (.inr (.inr (.inr (.inr (.inr (.inr (.inr (.inr (.inr (.inr (.inr (.inr (.inr (.inr (.inr (.inr (.inr (.inr (.inr (.inr (.inr (.inr (.inr (.inr (.inr (.inr (.inr (.inr (.inr (.inr (.inr (.inr (.inr (.inr (.inr (.inr (.inr (.inr (.inr (.inl v159.2))))))))))))))))))))))))))))))))))))))))))))))))))) else (if (jand ((xs (x3).toNat).toInt) (63 : Int)) = (40 : Int) then (chk (0 ≤ (jadd x3 (1 : Int)) ∧ (jadd x3 (1 : Int)) < ((N : Nat) : Int)) ((f_X10_changes σ ((xs ((jadd x3 (1 : Int))).toNat).toInt)).bind fun v161 => (chk (0 ≤ (jadd x3 (1 : Int)) ∧ (jadd x3 (1 : Int)) < ((N : Nat) : Int)) ((f_X11_changes v161.2 ((xs ((jadd x3 (1 : Int))).toNat).toInt)).bind fun v163 => (if v161.1 = v163.1 then (f_L_law_1774 N xs v163.2 x3) else (some (.inr (.inr (.inr (.inr (.inr (.inr (.inr (.inr (.inr (.inr (.inr (.inr (.inr (.inr (.inr (.inr (.inr (.inr (.inr (.inr (.inr (.inr (.inr (.inr (.inr (.inr (.inr (.inr (.inr (.inr (.inr (.inr (.inr (.inr (.inr (.inr (.inr (.inr (.inr (.inr (.inr (.inl v163.2)))))))))))))))))))))))))))))))))))))))))))))))) else (if (jand ((xs (x3).toNat).toInt) (63 : Int)) = (41 : Int) then (chk (0 ≤ (jadd x3 (1 : Int)) ∧ (jadd x3 (1 : Int)) < ((N : Nat) : Int)) ((f_X10_seed σ ((xs ((jadd x3 (1 : Int))).toNat).toInt)).bind fun v165 => (chk (0 ≤ (jadd x3 (1 : Int)) ∧ (jadd x3 (1 : Int)) < ((N : Nat) : Int)) ((f_X11_seed v165.2 ((xs ((jadd x3 (1 : Int))).toNat).toInt)).bind fun v167 => (if v165.1 = v167.1 then (f_L_law_1774 N xs v167.2 x3) else (some (.inr (.inr (.inr (.inr (.inr (.inr (.inr (.inr (.inr (.inr (.inr (.inr (.inr (.inr (.inr (.inr (.inr (.inr (.inr (.inr (.inr (.inr (.inr (.inr (.inr (.inr (.inr (.inr (.inr (.inr (.inr (.inr (.inr (.inr (.inr (.inr (.inr (.inr (.inr (.inr (.inr (.inr (.inl v167.2))))))))))))))))))))))))))))))))))))))))))))))))) else (if (jand ((xs (x3).toNat).toInt) (63 : Int)) = (42 : Int) then ((f_X10_image σ).bind fun v169 => ((f_X11_image v169.2).bind fun v171 => (if v169.1 = v171.1 then (f_L_law_1774 N xs v171.2 x3) else (some (.inr (.inr (.inr (.inr (.inr (.inr (.inr (.inr (.inr (.inr (.inr (.inr (.inr (.inr (.inr (.inr (.inr (.inr (.inr (.inr (.inr (.inr (.inr (.inr (.inr (.inr (.inr (.inr (.inr (.inr (.inr (.inr (.inr (.inr (.inr (.inr (.inr (.inr (.inr (.inr (.inr (.inr (.inr (.inl v171.2)))))))))))))))))))))))))))))))))))))))))))))))) else (if (jand ((xs (x3).toNat).toInt) (63 : Int)) = (43 : Int) then ((f_X10_back σ).bind fun v173 => ((f_X11_back v173.2).bind fun v175 => (if v173.1 = v175.1 then (f_L_law_1774 N xs v175.2 x3) else (some (.inr (.inr (.inr (.inr (.inr (.inr (.inr (.inr (.inr (.inr (.inr (.inr (.inr (.inr (.inr (.inr (.inr (.inr (.inr (.inr (.inr (.inr (.inr (.inr (.inr (.inr (.inr (.inr (.inr (.inr (.inr (.inr (.inr (.inr (.inr (.inr (.inr (.inr (.inr (.inr (.inr (.inr (.inr (.inr (.inl v175.2))))))))))))))))))))))))))))))))))))))))))))))))) else (if (jand ((xs (x3).toNat).toInt) (63 : Int)) = (44 : Int) then (chk (0 ≤ (jadd x3 (1 : Int)) ∧ (jadd x3 (1 : Int)) < ((N : Nat) : Int)) ((f_X10_status σ ((xs ((jadd x3 (1 : Int))).toNat).toInt)).bind fun v177 => (chk (0 ≤ (jadd x3 (1 : Int)) ∧ (jadd x3 (1 : Int)) < ((N : Nat) : Int)) ((f_X11_status v177.2 ((xs ((jadd x3 (1 : Int))).toNat).toInt)).bind fun v179 => (if v177.1 = v179.1 then (f_L_law_1774 N xs v179.2 x3) else (some (.inr (.inr (.inr (.inr (.inr (.inr (.inr (.inr (.inr (.inr (.inr (.inr (.inr (.inr (.inr (.inr (.inr (.inr (.inr (.inr (.inr (.inr (.inr (.inr (.inr (.inr (.inr (.inr (.inr (.inr (.inr (.inr (.inr (.inr (.inr (.inr (.inr (.inr (.inr (.inr (.inr (.inr (.inr (.inr (.inr (.inl v179.2)))))))))))))))))))))))))))))))))))))))))))))))))))) else (f_L_law_1774 N xs σ x3)))))))))))))))))))))))))))))))))))))))))))))))
def f_L_law_18B (N : Nat) (xs : Nat → Int32) (a : (Int × Mem)) : Option ((Int × Mem) ⊕ ((Mem) ⊕ (Mem) ⊕ (Mem) ⊕ (Mem) ⊕ (Mem) ⊕ (Mem) ⊕ (Mem) ⊕ (Mem) ⊕ (Mem) ⊕ (Mem) ⊕ (Mem) ⊕ (Mem) ⊕ (Mem) ⊕ (Mem) ⊕ (Mem) ⊕ (Mem) ⊕ (Mem) ⊕ (Mem) ⊕ (Mem) ⊕ (Mem) ⊕ (Mem) ⊕ (Mem) ⊕ (Mem) ⊕ (Mem) ⊕ (Mem) ⊕ (Mem) ⊕ (Mem) ⊕ (Mem) ⊕ (Mem) ⊕ (Mem) ⊕ (Mem) ⊕ (Mem) ⊕ (Mem) ⊕ (Mem) ⊕ (Mem) ⊕ (Mem) ⊕ (Mem) ⊕ (Mem) ⊕ (Mem) ⊕ (Mem) ⊕ (Mem) ⊕ (Mem) ⊕ (Mem) ⊕ (Mem) ⊕ (Mem) ⊕ (Mem))) := f_L_law_18C N xs  a.1 a.2
def f_L_law_18 (N : Nat) (xs : Nat → Int32) (σ : Mem) (x3 : Int) : Option (Int × Mem) := (loop (f_L_law_18B N xs ) FU (x3, σ)).bind (Sum.elim (fun e => some ((0 : Int), e)) (Sum.elim (fun e => some ((0 : Int), e)) (Sum.elim (fun e => some ((0 : Int), e)) (Sum.elim (fun e => some ((0 : Int), e)) (Sum.elim (fun e => some ((0 : Int), e)) (Sum.elim (fun e => some ((0 : Int), e)) (Sum.elim (fun e => some ((0 : Int), e)) (Sum.elim (fun e => some ((0 : Int), e)) (Sum.elim (fun e => some ((0 : Int), e)) (Sum.elim (fun e => some ((0 : Int), e)) (Sum.elim (fun e => some ((0 : Int), e)) (Sum.elim (fun e => some ((0 : Int), e)) (Sum.elim (fun e => some ((0 : Int), e)) (Sum.elim (fun e => some ((0 : Int), e)) (Sum.elim (fun e => some ((0 : Int), e)) (Sum.elim (fun e => some ((0 : Int), e)) (Sum.elim (fun e => some ((0 : Int), e)) (Sum.elim (fun e => some ((0 : Int), e)) (Sum.elim (fun e => some ((0 : Int), e)) (Sum.elim (fun e => some ((0 : Int), e)) (Sum.elim (fun e => some ((0 : Int), e)) (Sum.elim (fun e => some ((0 : Int), e)) (Sum.elim (fun e => some ((0 : Int), e)) (Sum.elim (fun e => some ((0 : Int), e)) (Sum.elim (fun e => some ((0 : Int), e)) (Sum.elim (fun e => some ((0 : Int), e)) (Sum.elim (fun e => some ((0 : Int), e)) (Sum.elim (fun e => some ((0 : Int), e)) (Sum.elim (fun e => some ((0 : Int), e)) (Sum.elim (fun e => some ((0 : Int), e)) (Sum.elim (fun e => some ((0 : Int), e)) (Sum.elim (fun e => some ((0 : Int), e)) (Sum.elim (fun e => some ((0 : Int), e)) (Sum.elim (fun e => some ((0 : Int), e)) (Sum.elim (fun e => some ((0 : Int), e)) (Sum.elim (fun e => some ((0 : Int), e)) (Sum.elim (fun e => some ((0 : Int), e)) (Sum.elim (fun e => some ((0 : Int), e)) (Sum.elim (fun e => some ((0 : Int), e)) (Sum.elim (fun e => some ((0 : Int), e)) (Sum.elim (fun e => some ((0 : Int), e)) (Sum.elim (fun e => some ((0 : Int), e)) (Sum.elim (fun e => some ((0 : Int), e)) (Sum.elim (fun e => some ((0 : Int), e)) (Sum.elim (fun e => some ((0 : Int), e)) (fun e => some ((1 : Int), e)))))))))))))))))))))))))))))))))))))))))))))))
def f_L_law (N : Nat) (xs : Nat → Int32) (σ : Mem) : Option (Int × Mem) := f_L_law_18 N xs σ (0 : Int)
def K_L_law_18 (N : Nat) (xs : Nat → Int32) (r : Option V × Mem × Mem) : (Int × Mem) ⊕ ((Mem) ⊕ (Mem) ⊕ (Mem) ⊕ (Mem) ⊕ (Mem) ⊕ (Mem) ⊕ (Mem) ⊕ (Mem) ⊕ (Mem) ⊕ (Mem) ⊕ (Mem) ⊕ (Mem) ⊕ (Mem) ⊕ (Mem) ⊕ (Mem) ⊕ (Mem) ⊕ (Mem) ⊕ (Mem) ⊕ (Mem) ⊕ (Mem) ⊕ (Mem) ⊕ (Mem) ⊕ (Mem) ⊕ (Mem) ⊕ (Mem) ⊕ (Mem) ⊕ (Mem) ⊕ (Mem) ⊕ (Mem) ⊕ (Mem) ⊕ (Mem) ⊕ (Mem) ⊕ (Mem) ⊕ (Mem) ⊕ (Mem) ⊕ (Mem) ⊕ (Mem) ⊕ (Mem) ⊕ (Mem) ⊕ (Mem) ⊕ (Mem) ⊕ (Mem) ⊕ (Mem) ⊕ (Mem) ⊕ (Mem) ⊕ (Mem)) → Prop := Sum.elim (fun a => Ev (M_L_law N xs) 0 218 r 18 218 rho a.2 [(3, (200000 : Int)), (2, (0 : Int)), (2, (181 : Int)), (0, a.1)] []) (Sum.elim (fun e => Ev (M_L_law N xs) 0 218 r 269 218 rho e [(9, 0), (9, 0), (9, 0), (9, 0)] []) (Sum.elim (fun e => Ev (M_L_law N xs) 0 218 r 342 218 rho e [(9, 0), (9, 0), (9, 0), (9, 0)] []) (Sum.elim (fun e => Ev (M_L_law N xs) 0 218 r 405 218 rho e [(9, 0), (9, 0), (9, 0), (9, 0)] []) (Sum.elim (fun e => Ev (M_L_law N xs) 0 218 r 439 218 rho e [(9, 0), (9, 0), (9, 0), (9, 0)] []) (Sum.elim (fun e => Ev (M_L_law N xs) 0 218 r 462 218 rho e [(9, 0), (9, 0), (9, 0), (9, 0)] []) (Sum.elim (fun e => Ev (M_L_law N xs) 0 218 r 495 218 rho e [(9, 0), (9, 0), (9, 0), (9, 0)] []) (Sum.elim (fun e => Ev (M_L_law N xs) 0 218 r 538 218 rho e [(9, 0), (9, 0), (9, 0), (9, 0)] []) (Sum.elim (fun e => Ev (M_L_law N xs) 0 218 r 581 218 rho e [(9, 0), (9, 0), (9, 0), (9, 0)] []) (Sum.elim (fun e => Ev (M_L_law N xs) 0 218 r 614 218 rho e [(9, 0), (9, 0), (9, 0), (9, 0)] []) (Sum.elim (fun e => Ev (M_L_law N xs) 0 218 r 647 218 rho e [(9, 0), (9, 0), (9, 0), (9, 0)] []) (Sum.elim (fun e => Ev (M_L_law N xs) 0 218 r 690 218 rho e [(9, 0), (9, 0), (9, 0), (9, 0)] []) (Sum.elim (fun e => Ev (M_L_law N xs) 0 218 r 723 218 rho e [(9, 0), (9, 0), (9, 0), (9, 0)] []) (Sum.elim (fun e => Ev (M_L_law N xs) 0 218 r 746 218 rho e [(9, 0), (9, 0), (9, 0), (9, 0)] []) (Sum.elim (fun e => Ev (M_L_law N xs) 0 218 r 769 218 rho e [(9, 0), (9, 0), (9, 0), (9, 0)] []) (Sum.elim (fun e => Ev (M_L_law N xs) 0 218 r 792 218 rho e [(9, 0), (9, 0), (9, 0), (9, 0)] []) (Sum.elim (fun e => Ev (M_L_law N xs) 0 218 r 815 218 rho e [(9, 0), (9, 0), (9, 0), (9, 0)] []) (Sum.elim (fun e => Ev (M_L_law N xs) 0 218 r 828 218 rho e [(9, 0), (9, 0), (9, 0), (9, 0)] []) (Sum.elim (fun e => Ev (M_L_law N xs) 0 218 r 841 218 rho e [(9, 0), (9, 0), (9, 0), (9, 0)] []) (Sum.elim (fun e => Ev (M_L_law N xs) 0 218 r 874 218 rho e [(9, 0), (9, 0), (9, 0), (9, 0)] []) (Sum.elim (fun e => Ev (M_L_law N xs) 0 218 r 907 218 rho e [(9, 0), (9, 0), (9, 0), (9, 0)] []) (Sum.elim (fun e => Ev (M_L_law N xs) 0 218 r 940 218 rho e [(9, 0), (9, 0), (9, 0), (9, 0)] []) (Sum.elim (fun e => Ev (M_L_law N xs) 0 218 r 983 218 rho e [(9, 0), (9, 0), (9, 0), (9, 0)] []) (Sum.elim (fun e => Ev (M_L_law N xs) 0 218 r 1036 218 rho e [(9, 0), (9, 0), (9, 0), (9, 0)] []) (Sum.elim (fun e => Ev (M_L_law N xs) 0 218 r 1079 218 rho e [(9, 0), (9, 0), (9, 0), (9, 0)] []) (Sum.elim (fun e => Ev (M_L_law N xs) 0 218 r 1122 218 rho e [(9, 0), (9, 0), (9, 0), (9, 0)] []) (Sum.elim (fun e => Ev (M_L_law N xs) 0 218 r 1175 218 rho e [(9, 0), (9, 0), (9, 0), (9, 0)] []) (Sum.elim (fun e => Ev (M_L_law N xs) 0 218 r 1208 218 rho e [(9, 0), (9, 0), (9, 0), (9, 0)] []) (Sum.elim (fun e => Ev (M_L_law N xs) 0 218 r 1231 218 rho e [(9, 0), (9, 0), (9, 0), (9, 0)] []) (Sum.elim (fun e => Ev (M_L_law N xs) 0 218 r 1264 218 rho e [(9, 0), (9, 0), (9, 0), (9, 0)] []) (Sum.elim (fun e => Ev (M_L_law N xs) 0 218 r 1307 218 rho e [(9, 0), (9, 0), (9, 0), (9, 0)] []) (Sum.elim (fun e => Ev (M_L_law N xs) 0 218 r 1350 218 rho e [(9, 0), (9, 0), (9, 0), (9, 0)] []) (Sum.elim (fun e => Ev (M_L_law N xs) 0 218 r 1393 218 rho e [(9, 0), (9, 0), (9, 0), (9, 0)] []) (Sum.elim (fun e => Ev (M_L_law N xs) 0 218 r 1426 218 rho e [(9, 0), (9, 0), (9, 0), (9, 0)] []) (Sum.elim (fun e => Ev (M_L_law N xs) 0 218 r 1469 218 rho e [(9, 0), (9, 0), (9, 0), (9, 0)] []) (Sum.elim (fun e => Ev (M_L_law N xs) 0 218 r 1492 218 rho e [(9, 0), (9, 0), (9, 0), (9, 0)] []) (Sum.elim (fun e => Ev (M_L_law N xs) 0 218 r 1515 218 rho e [(9, 0), (9, 0), (9, 0), (9, 0)] []) (Sum.elim (fun e => Ev (M_L_law N xs) 0 218 r 1538 218 rho e [(9, 0), (9, 0), (9, 0), (9, 0)] []) (Sum.elim (fun e => Ev (M_L_law N xs) 0 218 r 1581 218 rho e [(9, 0), (9, 0), (9, 0), (9, 0)] []) (Sum.elim (fun e => Ev (M_L_law N xs) 0 218 r 1634 218 rho e [(9, 0), (9, 0), (9, 0), (9, 0)] []) (Sum.elim (fun e => Ev (M_L_law N xs) 0 218 r 1677 218 rho e [(9, 0), (9, 0), (9, 0), (9, 0)] []) (Sum.elim (fun e => Ev (M_L_law N xs) 0 218 r 1700 218 rho e [(9, 0), (9, 0), (9, 0), (9, 0)] []) (Sum.elim (fun e => Ev (M_L_law N xs) 0 218 r 1723 218 rho e [(9, 0), (9, 0), (9, 0), (9, 0)] []) (Sum.elim (fun e => Ev (M_L_law N xs) 0 218 r 1736 218 rho e [(9, 0), (9, 0), (9, 0), (9, 0)] []) (Sum.elim (fun e => Ev (M_L_law N xs) 0 218 r 1749 218 rho e [(9, 0), (9, 0), (9, 0), (9, 0)] []) (Sum.elim (fun e => Ev (M_L_law N xs) 0 218 r 1772 218 rho e [(9, 0), (9, 0), (9, 0), (9, 0)] []) (fun e => Ev (M_L_law N xs) 0 218 r 1780 218 rho e [(9, 0), (9, 0), (9, 0), (9, 0)] []))))))))))))))))))))))))))))))))))))))))))))))
set_option maxHeartbeats 4000000 in
set_option maxRecDepth 20000 in
theorem e_L_law_1774 (N : Nat) (xs : Nat → Int32) (hN : (N : Int) ≤ 2147483647) (σ : Mem) (x3 : Int)  {q : ((Int × Mem) ⊕ ((Mem) ⊕ (Mem) ⊕ (Mem) ⊕ (Mem) ⊕ (Mem) ⊕ (Mem) ⊕ (Mem) ⊕ (Mem) ⊕ (Mem) ⊕ (Mem) ⊕ (Mem) ⊕ (Mem) ⊕ (Mem) ⊕ (Mem) ⊕ (Mem) ⊕ (Mem) ⊕ (Mem) ⊕ (Mem) ⊕ (Mem) ⊕ (Mem) ⊕ (Mem) ⊕ (Mem) ⊕ (Mem) ⊕ (Mem) ⊕ (Mem) ⊕ (Mem) ⊕ (Mem) ⊕ (Mem) ⊕ (Mem) ⊕ (Mem) ⊕ (Mem) ⊕ (Mem) ⊕ (Mem) ⊕ (Mem) ⊕ (Mem) ⊕ (Mem) ⊕ (Mem) ⊕ (Mem) ⊕ (Mem) ⊕ (Mem) ⊕ (Mem) ⊕ (Mem) ⊕ (Mem) ⊕ (Mem) ⊕ (Mem) ⊕ (Mem)))} (h : f_L_law_1774 N xs σ x3 = some q) {r : Option V × Mem × Mem} (K : K_L_law_18 N xs  r q) : Ev (M_L_law N xs) 0 218 r 1774 218 rho σ [(3, (200000 : Int)), (2, (0 : Int)), (2, (181 : Int)), (0, x3)] [] := by
  unfold f_L_law_1774 at h
  refine ev_iincG dL_law_1774 rfl h rfl (fun v181 h => ?_)
  show Ev _ _ _ _ 1777 _ _ _ [(3, (200000 : Int)), (2, (0 : Int)), (2, (181 : Int)), (0, v181)] _
  refine ev_goto (tgt := 18) dL_law_1777 rfl ?_
  obtain rfl := Option.some.inj h
  exact ev_sub (L2 := [(3, (200000 : Int)), (2, (0 : Int)), (2, (181 : Int)), (0, v181)]) K ⟨.inr rfl, .inr rfl, .inr rfl, .inr rfl, trivial⟩
set_option maxHeartbeats 4000000 in
set_option maxRecDepth 20000 in
theorem b_L_law_18 (N : Nat) (xs : Nat → Int32) (hN : (N : Int) ≤ 2147483647)  {r : Option V × Mem × Mem} : ∀ a x, f_L_law_18B N xs  a = some x → K_L_law_18 N xs  r x → K_L_law_18 N xs  r (.inl a) := by
  intro a x h K
  obtain ⟨x3, σ⟩ := a
  have h : f_L_law_18C N xs  x3 σ = some x := h
  unfold f_L_law_18C at h
  show Ev (M_L_law N xs) 0 218 r 18 218 rho σ [(3, (200000 : Int)), (2, (0 : Int)), (2, (181 : Int)), (0, x3)] []
  refine ev_iload_n dL_law_18 rfl ?_
  refine ev_aloadS dL_law_19 rfl ?_
  refine ev_scl dL_law_20 rfl hN ?_
  refine ev_bipush dL_law_21 (by decide) (by decide) ?_
  refine ev_isub dL_law_23 ?_
  refine ev_icmp_gt (tgt := 1780) dL_law_24 rfl h (fun cb h => ?_) (fun cb h => ?_)
  · obtain rfl := Option.some.inj h
    exact ev_sub (L2 := [(9, 0), (9, 0), (9, 0), (9, 0)]) K ⟨.inl rfl, .inl rfl, .inl rfl, .inl rfl, trivial⟩
  refine ev_aloadS dL_law_27 rfl ?_
  refine ev_iload_n dL_law_28 rfl ?_
  refine ev_scld dL_law_29 rfl h (fun h => ?_)
  refine ev_bipush dL_law_30 (by decide) (by decide) ?_
  refine ev_iand dL_law_32 ?_
  refine ev_by h (fun cs h => ?_) (fun cs0 h => ?_)
  · refine ev_tswIn (off := 195) (tgt := 228) dL_law_33 (by rw [cs]; decide) (by rw [cs]; decide) (by rw [cs]; rfl) rfl ?_
    refine ev_aload_n dL_law_228 rfl (by decide) ?_
    refine ev_aloadS dL_law_229 rfl ?_
    refine ev_iload_n dL_law_230 rfl ?_
    refine ev_iconst dL_law_231 (by decide) ?_
    refine ev_iadd dL_law_232 ?_
    refine ev_scld dL_law_233 rfl h (fun h => ?_)
    refine ev_aloadS dL_law_234 rfl ?_
    refine ev_iload_n dL_law_235 rfl ?_
    refine ev_iconst dL_law_236 (by decide) ?_
    refine ev_iadd dL_law_237 ?_
    refine ev_scld dL_law_238 rfl h (fun h => ?_)
    show Ev _ _ _ _ 239 _ _ _ _ _
    refine ev_aloadS dL_law_239 rfl ?_
    refine ev_iload_n dL_law_240 rfl ?_
    refine ev_iconst dL_law_241 (by decide) ?_
    refine ev_iadd dL_law_242 ?_
    refine ev_scld dL_law_243 rfl h (fun h => ?_)
    obtain ⟨v1, hc2, h⟩ := bind_of h
    refine ev_invV_v (k := (0 : Int)) (av := [(0, ((xs ((jadd x3 (1 : Int))).toNat).toInt)), (0, ((xs ((jadd x3 (2 : Int))).toNat).toInt)), (0, ((xs ((jadd x3 (3 : Int))).toNat).toInt))]) (st := []) (v := (0, v1.1)) (τ := v1.2) dL_law_244 ml_L_13 mv_X10_row (T := TX10) (ci := 9) rfl sp0 (by decide) (by decide) rfl ⟨Nat.le_of_ble_eq_true rfl, Nat.le_of_ble_eq_true rfl⟩ (Nat.le_of_ble_eq_true rfl) (c_X10_row hc2) ?_
    refine ev_aload_n dL_law_247 rfl (by decide) ?_
    refine ev_aloadS dL_law_248 rfl ?_
    refine ev_iload_n dL_law_249 rfl ?_
    refine ev_iconst dL_law_250 (by decide) ?_
    refine ev_iadd dL_law_251 ?_
    refine ev_scld dL_law_252 rfl h (fun h => ?_)
    show Ev _ _ _ _ 253 _ _ _ _ _
    refine ev_aloadS dL_law_253 rfl ?_
    refine ev_iload_n dL_law_254 rfl ?_
    refine ev_iconst dL_law_255 (by decide) ?_
    refine ev_iadd dL_law_256 ?_
    refine ev_scld dL_law_257 rfl h (fun h => ?_)
    refine ev_aloadS dL_law_258 rfl ?_
    refine ev_iload_n dL_law_259 rfl ?_
    refine ev_iconst dL_law_260 (by decide) ?_
    refine ev_iadd dL_law_261 ?_
    refine ev_scld dL_law_262 rfl h (fun h => ?_)
    obtain ⟨v3, hc4, h⟩ := bind_of h
    refine ev_invV_v (k := (181 : Int)) (av := [(0, ((xs ((jadd x3 (1 : Int))).toNat).toInt)), (0, ((xs ((jadd x3 (2 : Int))).toNat).toInt)), (0, ((xs ((jadd x3 (3 : Int))).toNat).toInt))]) (st := [(0, v1.1)]) (v := (0, v3.1)) (τ := v3.2) dL_law_263 ml_L_17 mv_X11_row (T := TX11) (ci := 10) rfl sp181 (by decide) (by decide) rfl ⟨Nat.le_of_ble_eq_true rfl, Nat.le_of_ble_eq_true rfl⟩ (Nat.le_of_ble_eq_true rfl) (c_X11_row hc4) ?_
    refine ev_icmp_eq (tgt := 1774) dL_law_266 rfl h (fun cb h => ?_) (fun cb h => ?_)
    · exact ev_sub (L2 := [(3, (200000 : Int)), (2, (0 : Int)), (2, (181 : Int)), (0, x3)]) (e_L_law_1774 N xs hN v3.2 x3 h K) ⟨.inr rfl, .inr rfl, .inr rfl, .inr rfl, trivial⟩
    obtain rfl := Option.some.inj h
    exact ev_sub (L2 := [(9, 0), (9, 0), (9, 0), (9, 0)]) K ⟨.inl rfl, .inl rfl, .inl rfl, .inl rfl, trivial⟩
  refine ev_by h (fun cs h => ?_) (fun cs1 h => ?_)
  · refine ev_tswIn (off := 238) (tgt := 271) dL_law_33 (by rw [cs]; decide) (by rw [cs]; decide) (by rw [cs]; rfl) rfl ?_
    refine ev_aload_n dL_law_271 rfl (by decide) ?_
    refine ev_aloadS dL_law_272 rfl ?_
    refine ev_iload_n dL_law_273 rfl ?_
    refine ev_iconst dL_law_274 (by decide) ?_
    refine ev_iadd dL_law_275 ?_
    refine ev_scld dL_law_276 rfl h (fun h => ?_)
    refine ev_aloadS dL_law_277 rfl ?_
    refine ev_iload_n dL_law_278 rfl ?_
    refine ev_iconst dL_law_279 (by decide) ?_
    refine ev_iadd dL_law_280 ?_
    refine ev_scld dL_law_281 rfl h (fun h => ?_)
    show Ev _ _ _ _ 282 _ _ _ _ _
    refine ev_aloadS dL_law_282 rfl ?_
    refine ev_iload_n dL_law_283 rfl ?_
    refine ev_iconst dL_law_284 (by decide) ?_
    refine ev_iadd dL_law_285 ?_
    refine ev_scld dL_law_286 rfl h (fun h => ?_)
    refine ev_i2lk dL_law_287 ?_
    refine ev_bipush dL_law_288 (by decide) (by decide) ?_
    refine ev_lshl dL_law_290 ?_
    refine ev_aloadS dL_law_291 rfl ?_
    refine ev_iload_n dL_law_292 rfl ?_
    refine ev_iconst dL_law_293 (by decide) ?_
    refine ev_iadd dL_law_294 ?_
    show Ev _ _ _ _ 295 _ _ _ _ _
    refine ev_scld dL_law_295 rfl h (fun h => ?_)
    refine ev_i2lk dL_law_296 ?_
    refine ev_ldc2 (x := (4294967295 : Int)) dL_law_297 wc_L_18 (by decide) (by decide) ?_
    refine ev_land dL_law_300 ?_
    refine ev_lor dL_law_301 ?_
    obtain ⟨v5, hc6, h⟩ := bind_of h
    refine ev_invV_v (k := (0 : Int)) (av := [(0, ((xs ((jadd x3 (1 : Int))).toNat).toInt)), (0, ((xs ((jadd x3 (2 : Int))).toNat).toInt)), (1, (kor (kshl ((xs ((jadd x3 (3 : Int))).toNat).toInt) (32 : Int)) (kand ((xs ((jadd x3 (4 : Int))).toNat).toInt) (4294967295 : Int))))]) (st := []) (v := (0, v5.1)) (τ := v5.2) dL_law_302 ml_L_20 mv_X10_set (T := TX10) (ci := 9) rfl sp0 (by decide) (by decide) rfl ⟨Nat.le_of_ble_eq_true rfl, Nat.le_of_ble_eq_true rfl⟩ (Nat.le_of_ble_eq_true rfl) (c_X10_set hc6) ?_
    refine ev_aload_n dL_law_305 rfl (by decide) ?_
    refine ev_aloadS dL_law_306 rfl ?_
    refine ev_iload_n dL_law_307 rfl ?_
    refine ev_iconst dL_law_308 (by decide) ?_
    refine ev_iadd dL_law_309 ?_
    refine ev_scld dL_law_310 rfl h (fun h => ?_)
    show Ev _ _ _ _ 311 _ _ _ _ _
    refine ev_aloadS dL_law_311 rfl ?_
    refine ev_iload_n dL_law_312 rfl ?_
    refine ev_iconst dL_law_313 (by decide) ?_
    refine ev_iadd dL_law_314 ?_
    refine ev_scld dL_law_315 rfl h (fun h => ?_)
    refine ev_aloadS dL_law_316 rfl ?_
    refine ev_iload_n dL_law_317 rfl ?_
    refine ev_iconst dL_law_318 (by decide) ?_
    refine ev_iadd dL_law_319 ?_
    refine ev_scld dL_law_320 rfl h (fun h => ?_)
    refine ev_i2lk dL_law_321 ?_
    refine ev_bipush dL_law_322 (by decide) (by decide) ?_
    show Ev _ _ _ _ 324 _ _ _ _ _
    refine ev_lshl dL_law_324 ?_
    refine ev_aloadS dL_law_325 rfl ?_
    refine ev_iload_n dL_law_326 rfl ?_
    refine ev_iconst dL_law_327 (by decide) ?_
    refine ev_iadd dL_law_328 ?_
    refine ev_scld dL_law_329 rfl h (fun h => ?_)
    refine ev_i2lk dL_law_330 ?_
    refine ev_ldc2 (x := (4294967295 : Int)) dL_law_331 wc_L_18 (by decide) (by decide) ?_
    refine ev_land dL_law_334 ?_
    refine ev_lor dL_law_335 ?_
    obtain ⟨v7, hc8, h⟩ := bind_of h
    refine ev_invV_v (k := (181 : Int)) (av := [(0, ((xs ((jadd x3 (1 : Int))).toNat).toInt)), (0, ((xs ((jadd x3 (2 : Int))).toNat).toInt)), (1, (kor (kshl ((xs ((jadd x3 (3 : Int))).toNat).toInt) (32 : Int)) (kand ((xs ((jadd x3 (4 : Int))).toNat).toInt) (4294967295 : Int))))]) (st := [(0, v5.1)]) (v := (0, v7.1)) (τ := v7.2) dL_law_336 ml_L_24 mv_X11_set (T := TX11) (ci := 10) rfl sp181 (by decide) (by decide) rfl ⟨Nat.le_of_ble_eq_true rfl, Nat.le_of_ble_eq_true rfl⟩ (Nat.le_of_ble_eq_true rfl) (c_X11_set hc8) ?_
    refine ev_icmp_eq (tgt := 1774) dL_law_339 rfl h (fun cb h => ?_) (fun cb h => ?_)
    · exact ev_sub (L2 := [(3, (200000 : Int)), (2, (0 : Int)), (2, (181 : Int)), (0, x3)]) (e_L_law_1774 N xs hN v7.2 x3 h K) ⟨.inr rfl, .inr rfl, .inr rfl, .inr rfl, trivial⟩
    obtain rfl := Option.some.inj h
    exact ev_sub (L2 := [(9, 0), (9, 0), (9, 0), (9, 0)]) K ⟨.inl rfl, .inl rfl, .inl rfl, .inl rfl, trivial⟩
  refine ev_by h (fun cs h => ?_) (fun cs2 h => ?_)
  · refine ev_tswIn (off := 311) (tgt := 344) dL_law_33 (by rw [cs]; decide) (by rw [cs]; decide) (by rw [cs]; rfl) rfl ?_
    refine ev_aload_n dL_law_344 rfl (by decide) ?_
    refine ev_aloadS dL_law_345 rfl ?_
    refine ev_iload_n dL_law_346 rfl ?_
    refine ev_iconst dL_law_347 (by decide) ?_
    refine ev_iadd dL_law_348 ?_
    refine ev_scld dL_law_349 rfl h (fun h => ?_)
    refine ev_aloadS dL_law_350 rfl ?_
    refine ev_iload_n dL_law_351 rfl ?_
    refine ev_iconst dL_law_352 (by decide) ?_
    refine ev_iadd dL_law_353 ?_
    refine ev_scld dL_law_354 rfl h (fun h => ?_)
    show Ev _ _ _ _ 355 _ _ _ _ _
    refine ev_aloadS dL_law_355 rfl ?_
    refine ev_iload_n dL_law_356 rfl ?_
    refine ev_iconst dL_law_357 (by decide) ?_
    refine ev_iadd dL_law_358 ?_
    refine ev_scld dL_law_359 rfl h (fun h => ?_)
    refine ev_aloadS dL_law_360 rfl ?_
    refine ev_iload_n dL_law_361 rfl ?_
    refine ev_iconst dL_law_362 (by decide) ?_
    refine ev_iadd dL_law_363 ?_
    refine ev_scld dL_law_364 rfl h (fun h => ?_)
    refine ev_aloadS dL_law_365 rfl ?_
    refine ev_iload_n dL_law_366 rfl ?_
    show Ev _ _ _ _ 367 _ _ _ _ _
    refine ev_iconst dL_law_367 (by decide) ?_
    refine ev_iadd dL_law_368 ?_
    refine ev_scld dL_law_369 rfl h (fun h => ?_)
    obtain ⟨v9, hc10, h⟩ := bind_of h
    refine ev_invV_v (k := (0 : Int)) (av := [(0, ((xs ((jadd x3 (1 : Int))).toNat).toInt)), (0, ((xs ((jadd x3 (2 : Int))).toNat).toInt)), (0, ((xs ((jadd x3 (3 : Int))).toNat).toInt)), (0, ((xs ((jadd x3 (4 : Int))).toNat).toInt)), (0, ((xs ((jadd x3 (5 : Int))).toNat).toInt))]) (st := []) (v := (0, v9.1)) (τ := v9.2) dL_law_370 ml_L_25 mv_X10_copy (T := TX10) (ci := 9) rfl sp0 (by decide) (by decide) rfl ⟨Nat.le_of_ble_eq_true rfl, Nat.le_of_ble_eq_true rfl⟩ (Nat.le_of_ble_eq_true rfl) (c_X10_copy hc10) ?_
    refine ev_aload_n dL_law_373 rfl (by decide) ?_
    refine ev_aloadS dL_law_374 rfl ?_
    refine ev_iload_n dL_law_375 rfl ?_
    refine ev_iconst dL_law_376 (by decide) ?_
    refine ev_iadd dL_law_377 ?_
    refine ev_scld dL_law_378 rfl h (fun h => ?_)
    refine ev_aloadS dL_law_379 rfl ?_
    refine ev_iload_n dL_law_380 rfl ?_
    show Ev _ _ _ _ 381 _ _ _ _ _
    refine ev_iconst dL_law_381 (by decide) ?_
    refine ev_iadd dL_law_382 ?_
    refine ev_scld dL_law_383 rfl h (fun h => ?_)
    refine ev_aloadS dL_law_384 rfl ?_
    refine ev_iload_n dL_law_385 rfl ?_
    refine ev_iconst dL_law_386 (by decide) ?_
    refine ev_iadd dL_law_387 ?_
    refine ev_scld dL_law_388 rfl h (fun h => ?_)
    refine ev_aloadS dL_law_389 rfl ?_
    refine ev_iload_n dL_law_390 rfl ?_
    refine ev_iconst dL_law_391 (by decide) ?_
    refine ev_iadd dL_law_392 ?_
    show Ev _ _ _ _ 393 _ _ _ _ _
    refine ev_scld dL_law_393 rfl h (fun h => ?_)
    refine ev_aloadS dL_law_394 rfl ?_
    refine ev_iload_n dL_law_395 rfl ?_
    refine ev_iconst dL_law_396 (by decide) ?_
    refine ev_iadd dL_law_397 ?_
    refine ev_scld dL_law_398 rfl h (fun h => ?_)
    obtain ⟨v11, hc12, h⟩ := bind_of h
    refine ev_invV_v (k := (181 : Int)) (av := [(0, ((xs ((jadd x3 (1 : Int))).toNat).toInt)), (0, ((xs ((jadd x3 (2 : Int))).toNat).toInt)), (0, ((xs ((jadd x3 (3 : Int))).toNat).toInt)), (0, ((xs ((jadd x3 (4 : Int))).toNat).toInt)), (0, ((xs ((jadd x3 (5 : Int))).toNat).toInt))]) (st := [(0, v9.1)]) (v := (0, v11.1)) (τ := v11.2) dL_law_399 ml_L_29 mv_X11_copy (T := TX11) (ci := 10) rfl sp181 (by decide) (by decide) rfl ⟨Nat.le_of_ble_eq_true rfl, Nat.le_of_ble_eq_true rfl⟩ (Nat.le_of_ble_eq_true rfl) (c_X11_copy hc12) ?_
    refine ev_icmp_eq (tgt := 1774) dL_law_402 rfl h (fun cb h => ?_) (fun cb h => ?_)
    · exact ev_sub (L2 := [(3, (200000 : Int)), (2, (0 : Int)), (2, (181 : Int)), (0, x3)]) (e_L_law_1774 N xs hN v11.2 x3 h K) ⟨.inr rfl, .inr rfl, .inr rfl, .inr rfl, trivial⟩
    obtain rfl := Option.some.inj h
    exact ev_sub (L2 := [(9, 0), (9, 0), (9, 0), (9, 0)]) K ⟨.inl rfl, .inl rfl, .inl rfl, .inl rfl, trivial⟩
  refine ev_by h (fun cs h => ?_) (fun cs3 h => ?_)
  · refine ev_tswIn (off := 374) (tgt := 407) dL_law_33 (by rw [cs]; decide) (by rw [cs]; decide) (by rw [cs]; rfl) rfl ?_
    refine ev_aload_n dL_law_407 rfl (by decide) ?_
    refine ev_aloadS dL_law_408 rfl ?_
    refine ev_iload_n dL_law_409 rfl ?_
    refine ev_iconst dL_law_410 (by decide) ?_
    refine ev_iadd dL_law_411 ?_
    refine ev_scld dL_law_412 rfl h (fun h => ?_)
    refine ev_aloadS dL_law_413 rfl ?_
    refine ev_iload_n dL_law_414 rfl ?_
    refine ev_iconst dL_law_415 (by decide) ?_
    refine ev_iadd dL_law_416 ?_
    refine ev_scld dL_law_417 rfl h (fun h => ?_)
    show Ev _ _ _ _ 418 _ _ _ _ _
    obtain ⟨v13, hc14, h⟩ := bind_of h
    refine ev_invV_v (k := (0 : Int)) (av := [(0, ((xs ((jadd x3 (1 : Int))).toNat).toInt)), (0, ((xs ((jadd x3 (2 : Int))).toNat).toInt))]) (st := []) (v := (1, v13)) (τ := σ) dL_law_418 ml_L_30 mv_X10_element (T := TX10) (ci := 9) rfl sp0 (by decide) (by decide) rfl ⟨Nat.le_of_ble_eq_true rfl, Nat.le_of_ble_eq_true rfl⟩ (Nat.le_of_ble_eq_true rfl) (c_X10_element hc14) ?_
    refine ev_aload_n dL_law_421 rfl (by decide) ?_
    refine ev_aloadS dL_law_422 rfl ?_
    refine ev_iload_n dL_law_423 rfl ?_
    refine ev_iconst dL_law_424 (by decide) ?_
    refine ev_iadd dL_law_425 ?_
    refine ev_scld dL_law_426 rfl h (fun h => ?_)
    refine ev_aloadS dL_law_427 rfl ?_
    refine ev_iload_n dL_law_428 rfl ?_
    refine ev_iconst dL_law_429 (by decide) ?_
    refine ev_iadd dL_law_430 ?_
    refine ev_scld dL_law_431 rfl h (fun h => ?_)
    show Ev _ _ _ _ 432 _ _ _ _ _
    obtain ⟨v15, hc16, h⟩ := bind_of h
    refine ev_invV_v (k := (181 : Int)) (av := [(0, ((xs ((jadd x3 (1 : Int))).toNat).toInt)), (0, ((xs ((jadd x3 (2 : Int))).toNat).toInt))]) (st := [(1, v13)]) (v := (1, v15)) (τ := σ) dL_law_432 ml_L_34 mv_X11_element (T := TX11) (ci := 10) rfl sp181 (by decide) (by decide) rfl ⟨Nat.le_of_ble_eq_true rfl, Nat.le_of_ble_eq_true rfl⟩ (Nat.le_of_ble_eq_true rfl) (c_X11_element hc16) ?_
    refine ev_lc_eq (tgt := 1774) dL_law_435 dL_law_436 rfl h (fun cb h => ?_) (fun cb h => ?_)
    · exact ev_sub (L2 := [(3, (200000 : Int)), (2, (0 : Int)), (2, (181 : Int)), (0, x3)]) (e_L_law_1774 N xs hN σ x3 h K) ⟨.inr rfl, .inr rfl, .inr rfl, .inr rfl, trivial⟩
    obtain rfl := Option.some.inj h
    exact ev_sub (L2 := [(9, 0), (9, 0), (9, 0), (9, 0)]) K ⟨.inl rfl, .inl rfl, .inl rfl, .inl rfl, trivial⟩
  refine ev_by h (fun cs h => ?_) (fun cs4 h => ?_)
  · refine ev_tswIn (off := 408) (tgt := 441) dL_law_33 (by rw [cs]; decide) (by rw [cs]; decide) (by rw [cs]; rfl) rfl ?_
    refine ev_aload_n dL_law_441 rfl (by decide) ?_
    refine ev_aloadS dL_law_442 rfl ?_
    refine ev_iload_n dL_law_443 rfl ?_
    refine ev_iconst dL_law_444 (by decide) ?_
    refine ev_iadd dL_law_445 ?_
    refine ev_scld dL_law_446 rfl h (fun h => ?_)
    obtain ⟨v17, hc18, h⟩ := bind_of h
    refine ev_invV_v (k := (0 : Int)) (av := [(0, ((xs ((jadd x3 (1 : Int))).toNat).toInt))]) (st := []) (v := (0, v17)) (τ := σ) dL_law_447 ml_L_35 mv_X10_holds (T := TX10) (ci := 9) rfl sp0 (by decide) (by decide) rfl ⟨Nat.le_of_ble_eq_true rfl, Nat.le_of_ble_eq_true rfl⟩ (Nat.le_of_ble_eq_true rfl) (c_X10_holds hc18) ?_
    refine ev_aload_n dL_law_450 rfl (by decide) ?_
    refine ev_aloadS dL_law_451 rfl ?_
    refine ev_iload_n dL_law_452 rfl ?_
    refine ev_iconst dL_law_453 (by decide) ?_
    show Ev _ _ _ _ 454 _ _ _ _ _
    refine ev_iadd dL_law_454 ?_
    refine ev_scld dL_law_455 rfl h (fun h => ?_)
    obtain ⟨v19, hc20, h⟩ := bind_of h
    refine ev_invV_v (k := (181 : Int)) (av := [(0, ((xs ((jadd x3 (1 : Int))).toNat).toInt))]) (st := [(0, v17)]) (v := (0, v19)) (τ := σ) dL_law_456 ml_L_39 mv_X11_holds (T := TX11) (ci := 10) rfl sp181 (by decide) (by decide) rfl ⟨Nat.le_of_ble_eq_true rfl, Nat.le_of_ble_eq_true rfl⟩ (Nat.le_of_ble_eq_true rfl) (c_X11_holds hc20) ?_
    refine ev_icmp_eq (tgt := 1774) dL_law_459 rfl h (fun cb h => ?_) (fun cb h => ?_)
    · exact ev_sub (L2 := [(3, (200000 : Int)), (2, (0 : Int)), (2, (181 : Int)), (0, x3)]) (e_L_law_1774 N xs hN σ x3 h K) ⟨.inr rfl, .inr rfl, .inr rfl, .inr rfl, trivial⟩
    obtain rfl := Option.some.inj h
    exact ev_sub (L2 := [(9, 0), (9, 0), (9, 0), (9, 0)]) K ⟨.inl rfl, .inl rfl, .inl rfl, .inl rfl, trivial⟩
  refine ev_by h (fun cs h => ?_) (fun cs5 h => ?_)
  · refine ev_tswIn (off := 431) (tgt := 464) dL_law_33 (by rw [cs]; decide) (by rw [cs]; decide) (by rw [cs]; rfl) rfl ?_
    refine ev_aload_n dL_law_464 rfl (by decide) ?_
    refine ev_aloadS dL_law_465 rfl ?_
    refine ev_iload_n dL_law_466 rfl ?_
    refine ev_iconst dL_law_467 (by decide) ?_
    refine ev_iadd dL_law_468 ?_
    refine ev_scld dL_law_469 rfl h (fun h => ?_)
    refine ev_aloadS dL_law_470 rfl ?_
    refine ev_iload_n dL_law_471 rfl ?_
    refine ev_iconst dL_law_472 (by decide) ?_
    refine ev_iadd dL_law_473 ?_
    refine ev_scld dL_law_474 rfl h (fun h => ?_)
    show Ev _ _ _ _ 475 _ _ _ _ _
    obtain ⟨v21, hc22, h⟩ := bind_of h
    refine ev_invV_v (k := (0 : Int)) (av := [(0, ((xs ((jadd x3 (1 : Int))).toNat).toInt)), (0, ((xs ((jadd x3 (2 : Int))).toNat).toInt))]) (st := []) (v := (0, v21.1)) (τ := v21.2) dL_law_475 ml_L_40 mv_X10_show (T := TX10) (ci := 9) rfl sp0 (by decide) (by decide) rfl ⟨Nat.le_of_ble_eq_true rfl, Nat.le_of_ble_eq_true rfl⟩ (Nat.le_of_ble_eq_true rfl) (c_X10_show hc22) ?_
    refine ev_aload_n dL_law_478 rfl (by decide) ?_
    refine ev_aloadS dL_law_479 rfl ?_
    refine ev_iload_n dL_law_480 rfl ?_
    refine ev_iconst dL_law_481 (by decide) ?_
    refine ev_iadd dL_law_482 ?_
    refine ev_scld dL_law_483 rfl h (fun h => ?_)
    refine ev_aloadS dL_law_484 rfl ?_
    refine ev_iload_n dL_law_485 rfl ?_
    refine ev_iconst dL_law_486 (by decide) ?_
    refine ev_iadd dL_law_487 ?_
    refine ev_scld dL_law_488 rfl h (fun h => ?_)
    show Ev _ _ _ _ 489 _ _ _ _ _
    obtain ⟨v23, hc24, h⟩ := bind_of h
    refine ev_invV_v (k := (181 : Int)) (av := [(0, ((xs ((jadd x3 (1 : Int))).toNat).toInt)), (0, ((xs ((jadd x3 (2 : Int))).toNat).toInt))]) (st := [(0, v21.1)]) (v := (0, v23.1)) (τ := v23.2) dL_law_489 ml_L_44 mv_X11_show (T := TX11) (ci := 10) rfl sp181 (by decide) (by decide) rfl ⟨Nat.le_of_ble_eq_true rfl, Nat.le_of_ble_eq_true rfl⟩ (Nat.le_of_ble_eq_true rfl) (c_X11_show hc24) ?_
    refine ev_icmp_eq (tgt := 1774) dL_law_492 rfl h (fun cb h => ?_) (fun cb h => ?_)
    · exact ev_sub (L2 := [(3, (200000 : Int)), (2, (0 : Int)), (2, (181 : Int)), (0, x3)]) (e_L_law_1774 N xs hN v23.2 x3 h K) ⟨.inr rfl, .inr rfl, .inr rfl, .inr rfl, trivial⟩
    obtain rfl := Option.some.inj h
    exact ev_sub (L2 := [(9, 0), (9, 0), (9, 0), (9, 0)]) K ⟨.inl rfl, .inl rfl, .inl rfl, .inl rfl, trivial⟩
  refine ev_by h (fun cs h => ?_) (fun cs6 h => ?_)
  · refine ev_tswIn (off := 464) (tgt := 497) dL_law_33 (by rw [cs]; decide) (by rw [cs]; decide) (by rw [cs]; rfl) rfl ?_
    refine ev_aload_n dL_law_497 rfl (by decide) ?_
    refine ev_aloadS dL_law_498 rfl ?_
    refine ev_iload_n dL_law_499 rfl ?_
    refine ev_iconst dL_law_500 (by decide) ?_
    refine ev_iadd dL_law_501 ?_
    refine ev_scld dL_law_502 rfl h (fun h => ?_)
    refine ev_aloadS dL_law_503 rfl ?_
    refine ev_iload_n dL_law_504 rfl ?_
    refine ev_iconst dL_law_505 (by decide) ?_
    refine ev_iadd dL_law_506 ?_
    refine ev_scld dL_law_507 rfl h (fun h => ?_)
    show Ev _ _ _ _ 508 _ _ _ _ _
    refine ev_aloadS dL_law_508 rfl ?_
    refine ev_iload_n dL_law_509 rfl ?_
    refine ev_iconst dL_law_510 (by decide) ?_
    refine ev_iadd dL_law_511 ?_
    refine ev_scld dL_law_512 rfl h (fun h => ?_)
    obtain ⟨v25, hc26, h⟩ := bind_of h
    refine ev_invV_v (k := (0 : Int)) (av := [(0, ((xs ((jadd x3 (1 : Int))).toNat).toInt)), (0, ((xs ((jadd x3 (2 : Int))).toNat).toInt)), (0, ((xs ((jadd x3 (3 : Int))).toNat).toInt))]) (st := []) (v := (0, v25.1)) (τ := v25.2) dL_law_513 ml_L_45 mv_X10_says (T := TX10) (ci := 9) rfl sp0 (by decide) (by decide) rfl ⟨Nat.le_of_ble_eq_true rfl, Nat.le_of_ble_eq_true rfl⟩ (Nat.le_of_ble_eq_true rfl) (c_X10_says hc26) ?_
    refine ev_aload_n dL_law_516 rfl (by decide) ?_
    refine ev_aloadS dL_law_517 rfl ?_
    refine ev_iload_n dL_law_518 rfl ?_
    refine ev_iconst dL_law_519 (by decide) ?_
    refine ev_iadd dL_law_520 ?_
    refine ev_scld dL_law_521 rfl h (fun h => ?_)
    show Ev _ _ _ _ 522 _ _ _ _ _
    refine ev_aloadS dL_law_522 rfl ?_
    refine ev_iload_n dL_law_523 rfl ?_
    refine ev_iconst dL_law_524 (by decide) ?_
    refine ev_iadd dL_law_525 ?_
    refine ev_scld dL_law_526 rfl h (fun h => ?_)
    refine ev_aloadS dL_law_527 rfl ?_
    refine ev_iload_n dL_law_528 rfl ?_
    refine ev_iconst dL_law_529 (by decide) ?_
    refine ev_iadd dL_law_530 ?_
    refine ev_scld dL_law_531 rfl h (fun h => ?_)
    obtain ⟨v27, hc28, h⟩ := bind_of h
    refine ev_invV_v (k := (181 : Int)) (av := [(0, ((xs ((jadd x3 (1 : Int))).toNat).toInt)), (0, ((xs ((jadd x3 (2 : Int))).toNat).toInt)), (0, ((xs ((jadd x3 (3 : Int))).toNat).toInt))]) (st := [(0, v25.1)]) (v := (0, v27.1)) (τ := v27.2) dL_law_532 ml_L_48 mv_X11_says (T := TX11) (ci := 10) rfl sp181 (by decide) (by decide) rfl ⟨Nat.le_of_ble_eq_true rfl, Nat.le_of_ble_eq_true rfl⟩ (Nat.le_of_ble_eq_true rfl) (c_X11_says hc28) ?_
    refine ev_icmp_eq (tgt := 1774) dL_law_535 rfl h (fun cb h => ?_) (fun cb h => ?_)
    · exact ev_sub (L2 := [(3, (200000 : Int)), (2, (0 : Int)), (2, (181 : Int)), (0, x3)]) (e_L_law_1774 N xs hN v27.2 x3 h K) ⟨.inr rfl, .inr rfl, .inr rfl, .inr rfl, trivial⟩
    obtain rfl := Option.some.inj h
    exact ev_sub (L2 := [(9, 0), (9, 0), (9, 0), (9, 0)]) K ⟨.inl rfl, .inl rfl, .inl rfl, .inl rfl, trivial⟩
  refine ev_by h (fun cs h => ?_) (fun cs7 h => ?_)
  · refine ev_tswIn (off := 507) (tgt := 540) dL_law_33 (by rw [cs]; decide) (by rw [cs]; decide) (by rw [cs]; rfl) rfl ?_
    refine ev_aload_n dL_law_540 rfl (by decide) ?_
    refine ev_aloadS dL_law_541 rfl ?_
    refine ev_iload_n dL_law_542 rfl ?_
    refine ev_iconst dL_law_543 (by decide) ?_
    refine ev_iadd dL_law_544 ?_
    refine ev_scld dL_law_545 rfl h (fun h => ?_)
    refine ev_aloadS dL_law_546 rfl ?_
    refine ev_iload_n dL_law_547 rfl ?_
    refine ev_iconst dL_law_548 (by decide) ?_
    refine ev_iadd dL_law_549 ?_
    refine ev_scld dL_law_550 rfl h (fun h => ?_)
    show Ev _ _ _ _ 551 _ _ _ _ _
    refine ev_aloadS dL_law_551 rfl ?_
    refine ev_iload_n dL_law_552 rfl ?_
    refine ev_iconst dL_law_553 (by decide) ?_
    refine ev_iadd dL_law_554 ?_
    refine ev_scld dL_law_555 rfl h (fun h => ?_)
    obtain ⟨v29, hc30, h⟩ := bind_of h
    refine ev_invV_v (k := (0 : Int)) (av := [(0, ((xs ((jadd x3 (1 : Int))).toNat).toInt)), (0, ((xs ((jadd x3 (2 : Int))).toNat).toInt)), (0, ((xs ((jadd x3 (3 : Int))).toNat).toInt))]) (st := []) (v := (0, v29.1)) (τ := v29.2) dL_law_556 ml_L_49 mv_X10_paper (T := TX10) (ci := 9) rfl sp0 (by decide) (by decide) rfl ⟨Nat.le_of_ble_eq_true rfl, Nat.le_of_ble_eq_true rfl⟩ (Nat.le_of_ble_eq_true rfl) (c_X10_paper hc30) ?_
    refine ev_aload_n dL_law_559 rfl (by decide) ?_
    refine ev_aloadS dL_law_560 rfl ?_
    refine ev_iload_n dL_law_561 rfl ?_
    refine ev_iconst dL_law_562 (by decide) ?_
    refine ev_iadd dL_law_563 ?_
    refine ev_scld dL_law_564 rfl h (fun h => ?_)
    show Ev _ _ _ _ 565 _ _ _ _ _
    refine ev_aloadS dL_law_565 rfl ?_
    refine ev_iload_n dL_law_566 rfl ?_
    refine ev_iconst dL_law_567 (by decide) ?_
    refine ev_iadd dL_law_568 ?_
    refine ev_scld dL_law_569 rfl h (fun h => ?_)
    refine ev_aloadS dL_law_570 rfl ?_
    refine ev_iload_n dL_law_571 rfl ?_
    refine ev_iconst dL_law_572 (by decide) ?_
    refine ev_iadd dL_law_573 ?_
    refine ev_scld dL_law_574 rfl h (fun h => ?_)
    obtain ⟨v31, hc32, h⟩ := bind_of h
    refine ev_invV_v (k := (181 : Int)) (av := [(0, ((xs ((jadd x3 (1 : Int))).toNat).toInt)), (0, ((xs ((jadd x3 (2 : Int))).toNat).toInt)), (0, ((xs ((jadd x3 (3 : Int))).toNat).toInt))]) (st := [(0, v29.1)]) (v := (0, v31.1)) (τ := v31.2) dL_law_575 ml_L_52 mv_X11_paper (T := TX11) (ci := 10) rfl sp181 (by decide) (by decide) rfl ⟨Nat.le_of_ble_eq_true rfl, Nat.le_of_ble_eq_true rfl⟩ (Nat.le_of_ble_eq_true rfl) (c_X11_paper hc32) ?_
    refine ev_icmp_eq (tgt := 1774) dL_law_578 rfl h (fun cb h => ?_) (fun cb h => ?_)
    · exact ev_sub (L2 := [(3, (200000 : Int)), (2, (0 : Int)), (2, (181 : Int)), (0, x3)]) (e_L_law_1774 N xs hN v31.2 x3 h K) ⟨.inr rfl, .inr rfl, .inr rfl, .inr rfl, trivial⟩
    obtain rfl := Option.some.inj h
    exact ev_sub (L2 := [(9, 0), (9, 0), (9, 0), (9, 0)]) K ⟨.inl rfl, .inl rfl, .inl rfl, .inl rfl, trivial⟩
  refine ev_by h (fun cs h => ?_) (fun cs8 h => ?_)
  · refine ev_tswIn (off := 550) (tgt := 583) dL_law_33 (by rw [cs]; decide) (by rw [cs]; decide) (by rw [cs]; rfl) rfl ?_
    refine ev_aload_n dL_law_583 rfl (by decide) ?_
    refine ev_aloadS dL_law_584 rfl ?_
    refine ev_iload_n dL_law_585 rfl ?_
    refine ev_iconst dL_law_586 (by decide) ?_
    refine ev_iadd dL_law_587 ?_
    refine ev_scld dL_law_588 rfl h (fun h => ?_)
    refine ev_aloadS dL_law_589 rfl ?_
    refine ev_iload_n dL_law_590 rfl ?_
    refine ev_iconst dL_law_591 (by decide) ?_
    refine ev_iadd dL_law_592 ?_
    refine ev_scld dL_law_593 rfl h (fun h => ?_)
    show Ev _ _ _ _ 594 _ _ _ _ _
    obtain ⟨v33, hc34, h⟩ := bind_of h
    refine ev_invV_v (k := (0 : Int)) (av := [(0, ((xs ((jadd x3 (1 : Int))).toNat).toInt)), (0, ((xs ((jadd x3 (2 : Int))).toNat).toInt))]) (st := []) (v := (0, v33.1)) (τ := v33.2) dL_law_594 ml_L_53 mv_X10_starts (T := TX10) (ci := 9) rfl sp0 (by decide) (by decide) rfl ⟨Nat.le_of_ble_eq_true rfl, Nat.le_of_ble_eq_true rfl⟩ (Nat.le_of_ble_eq_true rfl) (c_X10_starts hc34) ?_
    refine ev_aload_n dL_law_597 rfl (by decide) ?_
    refine ev_aloadS dL_law_598 rfl ?_
    refine ev_iload_n dL_law_599 rfl ?_
    refine ev_iconst dL_law_600 (by decide) ?_
    refine ev_iadd dL_law_601 ?_
    refine ev_scld dL_law_602 rfl h (fun h => ?_)
    refine ev_aloadS dL_law_603 rfl ?_
    refine ev_iload_n dL_law_604 rfl ?_
    refine ev_iconst dL_law_605 (by decide) ?_
    refine ev_iadd dL_law_606 ?_
    refine ev_scld dL_law_607 rfl h (fun h => ?_)
    show Ev _ _ _ _ 608 _ _ _ _ _
    obtain ⟨v35, hc36, h⟩ := bind_of h
    refine ev_invV_v (k := (181 : Int)) (av := [(0, ((xs ((jadd x3 (1 : Int))).toNat).toInt)), (0, ((xs ((jadd x3 (2 : Int))).toNat).toInt))]) (st := [(0, v33.1)]) (v := (0, v35.1)) (τ := v35.2) dL_law_608 ml_L_56 mv_X11_starts (T := TX11) (ci := 10) rfl sp181 (by decide) (by decide) rfl ⟨Nat.le_of_ble_eq_true rfl, Nat.le_of_ble_eq_true rfl⟩ (Nat.le_of_ble_eq_true rfl) (c_X11_starts hc36) ?_
    refine ev_icmp_eq (tgt := 1774) dL_law_611 rfl h (fun cb h => ?_) (fun cb h => ?_)
    · exact ev_sub (L2 := [(3, (200000 : Int)), (2, (0 : Int)), (2, (181 : Int)), (0, x3)]) (e_L_law_1774 N xs hN v35.2 x3 h K) ⟨.inr rfl, .inr rfl, .inr rfl, .inr rfl, trivial⟩
    obtain rfl := Option.some.inj h
    exact ev_sub (L2 := [(9, 0), (9, 0), (9, 0), (9, 0)]) K ⟨.inl rfl, .inl rfl, .inl rfl, .inl rfl, trivial⟩
  refine ev_by h (fun cs h => ?_) (fun cs9 h => ?_)
  · refine ev_tswIn (off := 583) (tgt := 616) dL_law_33 (by rw [cs]; decide) (by rw [cs]; decide) (by rw [cs]; rfl) rfl ?_
    refine ev_aload_n dL_law_616 rfl (by decide) ?_
    refine ev_aloadS dL_law_617 rfl ?_
    refine ev_iload_n dL_law_618 rfl ?_
    refine ev_iconst dL_law_619 (by decide) ?_
    refine ev_iadd dL_law_620 ?_
    refine ev_scld dL_law_621 rfl h (fun h => ?_)
    refine ev_aloadS dL_law_622 rfl ?_
    refine ev_iload_n dL_law_623 rfl ?_
    refine ev_iconst dL_law_624 (by decide) ?_
    refine ev_iadd dL_law_625 ?_
    refine ev_scld dL_law_626 rfl h (fun h => ?_)
    show Ev _ _ _ _ 627 _ _ _ _ _
    obtain ⟨v37, hc38, h⟩ := bind_of h
    refine ev_invV_v (k := (0 : Int)) (av := [(0, ((xs ((jadd x3 (1 : Int))).toNat).toInt)), (0, ((xs ((jadd x3 (2 : Int))).toNat).toInt))]) (st := []) (v := (0, v37.1)) (τ := v37.2) dL_law_627 ml_L_57 mv_X10_cand (T := TX10) (ci := 9) rfl sp0 (by decide) (by decide) rfl ⟨Nat.le_of_ble_eq_true rfl, Nat.le_of_ble_eq_true rfl⟩ (Nat.le_of_ble_eq_true rfl) (c_X10_cand hc38) ?_
    refine ev_aload_n dL_law_630 rfl (by decide) ?_
    refine ev_aloadS dL_law_631 rfl ?_
    refine ev_iload_n dL_law_632 rfl ?_
    refine ev_iconst dL_law_633 (by decide) ?_
    refine ev_iadd dL_law_634 ?_
    refine ev_scld dL_law_635 rfl h (fun h => ?_)
    refine ev_aloadS dL_law_636 rfl ?_
    refine ev_iload_n dL_law_637 rfl ?_
    refine ev_iconst dL_law_638 (by decide) ?_
    refine ev_iadd dL_law_639 ?_
    refine ev_scld dL_law_640 rfl h (fun h => ?_)
    show Ev _ _ _ _ 641 _ _ _ _ _
    obtain ⟨v39, hc40, h⟩ := bind_of h
    refine ev_invV_v (k := (181 : Int)) (av := [(0, ((xs ((jadd x3 (1 : Int))).toNat).toInt)), (0, ((xs ((jadd x3 (2 : Int))).toNat).toInt))]) (st := [(0, v37.1)]) (v := (0, v39.1)) (τ := v39.2) dL_law_641 ml_L_60 mv_X11_cand (T := TX11) (ci := 10) rfl sp181 (by decide) (by decide) rfl ⟨Nat.le_of_ble_eq_true rfl, Nat.le_of_ble_eq_true rfl⟩ (Nat.le_of_ble_eq_true rfl) (c_X11_cand hc40) ?_
    refine ev_icmp_eq (tgt := 1774) dL_law_644 rfl h (fun cb h => ?_) (fun cb h => ?_)
    · exact ev_sub (L2 := [(3, (200000 : Int)), (2, (0 : Int)), (2, (181 : Int)), (0, x3)]) (e_L_law_1774 N xs hN v39.2 x3 h K) ⟨.inr rfl, .inr rfl, .inr rfl, .inr rfl, trivial⟩
    obtain rfl := Option.some.inj h
    exact ev_sub (L2 := [(9, 0), (9, 0), (9, 0), (9, 0)]) K ⟨.inl rfl, .inl rfl, .inl rfl, .inl rfl, trivial⟩
  refine ev_by h (fun cs h => ?_) (fun cs10 h => ?_)
  · refine ev_tswIn (off := 616) (tgt := 649) dL_law_33 (by rw [cs]; decide) (by rw [cs]; decide) (by rw [cs]; rfl) rfl ?_
    refine ev_aload_n dL_law_649 rfl (by decide) ?_
    refine ev_aloadS dL_law_650 rfl ?_
    refine ev_iload_n dL_law_651 rfl ?_
    refine ev_iconst dL_law_652 (by decide) ?_
    refine ev_iadd dL_law_653 ?_
    refine ev_scld dL_law_654 rfl h (fun h => ?_)
    refine ev_aloadS dL_law_655 rfl ?_
    refine ev_iload_n dL_law_656 rfl ?_
    refine ev_iconst dL_law_657 (by decide) ?_
    refine ev_iadd dL_law_658 ?_
    refine ev_scld dL_law_659 rfl h (fun h => ?_)
    show Ev _ _ _ _ 660 _ _ _ _ _
    refine ev_aloadS dL_law_660 rfl ?_
    refine ev_iload_n dL_law_661 rfl ?_
    refine ev_iconst dL_law_662 (by decide) ?_
    refine ev_iadd dL_law_663 ?_
    refine ev_scld dL_law_664 rfl h (fun h => ?_)
    obtain ⟨v41, hc42, h⟩ := bind_of h
    refine ev_invV_v (k := (0 : Int)) (av := [(0, ((xs ((jadd x3 (1 : Int))).toNat).toInt)), (0, ((xs ((jadd x3 (2 : Int))).toNat).toInt)), (0, ((xs ((jadd x3 (3 : Int))).toNat).toInt))]) (st := []) (v := (0, v41.1)) (τ := v41.2) dL_law_665 ml_L_61 mv_X10_takes (T := TX10) (ci := 9) rfl sp0 (by decide) (by decide) rfl ⟨Nat.le_of_ble_eq_true rfl, Nat.le_of_ble_eq_true rfl⟩ (Nat.le_of_ble_eq_true rfl) (c_X10_takes hc42) ?_
    refine ev_aload_n dL_law_668 rfl (by decide) ?_
    refine ev_aloadS dL_law_669 rfl ?_
    refine ev_iload_n dL_law_670 rfl ?_
    refine ev_iconst dL_law_671 (by decide) ?_
    refine ev_iadd dL_law_672 ?_
    refine ev_scld dL_law_673 rfl h (fun h => ?_)
    show Ev _ _ _ _ 674 _ _ _ _ _
    refine ev_aloadS dL_law_674 rfl ?_
    refine ev_iload_n dL_law_675 rfl ?_
    refine ev_iconst dL_law_676 (by decide) ?_
    refine ev_iadd dL_law_677 ?_
    refine ev_scld dL_law_678 rfl h (fun h => ?_)
    refine ev_aloadS dL_law_679 rfl ?_
    refine ev_iload_n dL_law_680 rfl ?_
    refine ev_iconst dL_law_681 (by decide) ?_
    refine ev_iadd dL_law_682 ?_
    refine ev_scld dL_law_683 rfl h (fun h => ?_)
    obtain ⟨v43, hc44, h⟩ := bind_of h
    refine ev_invV_v (k := (181 : Int)) (av := [(0, ((xs ((jadd x3 (1 : Int))).toNat).toInt)), (0, ((xs ((jadd x3 (2 : Int))).toNat).toInt)), (0, ((xs ((jadd x3 (3 : Int))).toNat).toInt))]) (st := [(0, v41.1)]) (v := (0, v43.1)) (τ := v43.2) dL_law_684 ml_L_64 mv_X11_takes (T := TX11) (ci := 10) rfl sp181 (by decide) (by decide) rfl ⟨Nat.le_of_ble_eq_true rfl, Nat.le_of_ble_eq_true rfl⟩ (Nat.le_of_ble_eq_true rfl) (c_X11_takes hc44) ?_
    refine ev_icmp_eq (tgt := 1774) dL_law_687 rfl h (fun cb h => ?_) (fun cb h => ?_)
    · exact ev_sub (L2 := [(3, (200000 : Int)), (2, (0 : Int)), (2, (181 : Int)), (0, x3)]) (e_L_law_1774 N xs hN v43.2 x3 h K) ⟨.inr rfl, .inr rfl, .inr rfl, .inr rfl, trivial⟩
    obtain rfl := Option.some.inj h
    exact ev_sub (L2 := [(9, 0), (9, 0), (9, 0), (9, 0)]) K ⟨.inl rfl, .inl rfl, .inl rfl, .inl rfl, trivial⟩
  refine ev_by h (fun cs h => ?_) (fun cs11 h => ?_)
  · refine ev_tswIn (off := 659) (tgt := 692) dL_law_33 (by rw [cs]; decide) (by rw [cs]; decide) (by rw [cs]; rfl) rfl ?_
    refine ev_aload_n dL_law_692 rfl (by decide) ?_
    refine ev_aloadS dL_law_693 rfl ?_
    refine ev_iload_n dL_law_694 rfl ?_
    refine ev_iconst dL_law_695 (by decide) ?_
    refine ev_iadd dL_law_696 ?_
    refine ev_scld dL_law_697 rfl h (fun h => ?_)
    refine ev_aloadS dL_law_698 rfl ?_
    refine ev_iload_n dL_law_699 rfl ?_
    refine ev_iconst dL_law_700 (by decide) ?_
    refine ev_iadd dL_law_701 ?_
    refine ev_scld dL_law_702 rfl h (fun h => ?_)
    show Ev _ _ _ _ 703 _ _ _ _ _
    obtain ⟨v45, hc46, h⟩ := bind_of h
    refine ev_invV_v (k := (0 : Int)) (av := [(0, ((xs ((jadd x3 (1 : Int))).toNat).toInt)), (0, ((xs ((jadd x3 (2 : Int))).toNat).toInt))]) (st := []) (v := (0, v45.1)) (τ := v45.2) dL_law_703 ml_L_65 mv_X10_night (T := TX10) (ci := 9) rfl sp0 (by decide) (by decide) rfl ⟨Nat.le_of_ble_eq_true rfl, Nat.le_of_ble_eq_true rfl⟩ (Nat.le_of_ble_eq_true rfl) (c_X10_night hc46) ?_
    refine ev_aload_n dL_law_706 rfl (by decide) ?_
    refine ev_aloadS dL_law_707 rfl ?_
    refine ev_iload_n dL_law_708 rfl ?_
    refine ev_iconst dL_law_709 (by decide) ?_
    refine ev_iadd dL_law_710 ?_
    refine ev_scld dL_law_711 rfl h (fun h => ?_)
    refine ev_aloadS dL_law_712 rfl ?_
    refine ev_iload_n dL_law_713 rfl ?_
    refine ev_iconst dL_law_714 (by decide) ?_
    refine ev_iadd dL_law_715 ?_
    refine ev_scld dL_law_716 rfl h (fun h => ?_)
    show Ev _ _ _ _ 717 _ _ _ _ _
    obtain ⟨v47, hc48, h⟩ := bind_of h
    refine ev_invV_v (k := (181 : Int)) (av := [(0, ((xs ((jadd x3 (1 : Int))).toNat).toInt)), (0, ((xs ((jadd x3 (2 : Int))).toNat).toInt))]) (st := [(0, v45.1)]) (v := (0, v47.1)) (τ := v47.2) dL_law_717 ml_L_68 mv_X11_night (T := TX11) (ci := 10) rfl sp181 (by decide) (by decide) rfl ⟨Nat.le_of_ble_eq_true rfl, Nat.le_of_ble_eq_true rfl⟩ (Nat.le_of_ble_eq_true rfl) (c_X11_night hc48) ?_
    refine ev_icmp_eq (tgt := 1774) dL_law_720 rfl h (fun cb h => ?_) (fun cb h => ?_)
    · exact ev_sub (L2 := [(3, (200000 : Int)), (2, (0 : Int)), (2, (181 : Int)), (0, x3)]) (e_L_law_1774 N xs hN v47.2 x3 h K) ⟨.inr rfl, .inr rfl, .inr rfl, .inr rfl, trivial⟩
    obtain rfl := Option.some.inj h
    exact ev_sub (L2 := [(9, 0), (9, 0), (9, 0), (9, 0)]) K ⟨.inl rfl, .inl rfl, .inl rfl, .inl rfl, trivial⟩
  refine ev_by h (fun cs h => ?_) (fun cs12 h => ?_)
  · refine ev_tswIn (off := 692) (tgt := 725) dL_law_33 (by rw [cs]; decide) (by rw [cs]; decide) (by rw [cs]; rfl) rfl ?_
    refine ev_aload_n dL_law_725 rfl (by decide) ?_
    refine ev_aloadS dL_law_726 rfl ?_
    refine ev_iload_n dL_law_727 rfl ?_
    refine ev_iconst dL_law_728 (by decide) ?_
    refine ev_iadd dL_law_729 ?_
    refine ev_scld dL_law_730 rfl h (fun h => ?_)
    obtain ⟨v49, hc50, h⟩ := bind_of h
    refine ev_invV_v (k := (0 : Int)) (av := [(0, ((xs ((jadd x3 (1 : Int))).toNat).toInt))]) (st := []) (v := (0, v49.1)) (τ := v49.2) dL_law_731 ml_L_69 mv_X10_room (T := TX10) (ci := 9) rfl sp0 (by decide) (by decide) rfl ⟨Nat.le_of_ble_eq_true rfl, Nat.le_of_ble_eq_true rfl⟩ (Nat.le_of_ble_eq_true rfl) (c_X10_room hc50) ?_
    refine ev_aload_n dL_law_734 rfl (by decide) ?_
    refine ev_aloadS dL_law_735 rfl ?_
    refine ev_iload_n dL_law_736 rfl ?_
    refine ev_iconst dL_law_737 (by decide) ?_
    show Ev _ _ _ _ 738 _ _ _ _ _
    refine ev_iadd dL_law_738 ?_
    refine ev_scld dL_law_739 rfl h (fun h => ?_)
    obtain ⟨v51, hc52, h⟩ := bind_of h
    refine ev_invV_v (k := (181 : Int)) (av := [(0, ((xs ((jadd x3 (1 : Int))).toNat).toInt))]) (st := [(0, v49.1)]) (v := (0, v51.1)) (τ := v51.2) dL_law_740 ml_L_72 mv_X11_room (T := TX11) (ci := 10) rfl sp181 (by decide) (by decide) rfl ⟨Nat.le_of_ble_eq_true rfl, Nat.le_of_ble_eq_true rfl⟩ (Nat.le_of_ble_eq_true rfl) (c_X11_room hc52) ?_
    refine ev_icmp_eq (tgt := 1774) dL_law_743 rfl h (fun cb h => ?_) (fun cb h => ?_)
    · exact ev_sub (L2 := [(3, (200000 : Int)), (2, (0 : Int)), (2, (181 : Int)), (0, x3)]) (e_L_law_1774 N xs hN v51.2 x3 h K) ⟨.inr rfl, .inr rfl, .inr rfl, .inr rfl, trivial⟩
    obtain rfl := Option.some.inj h
    exact ev_sub (L2 := [(9, 0), (9, 0), (9, 0), (9, 0)]) K ⟨.inl rfl, .inl rfl, .inl rfl, .inl rfl, trivial⟩
  refine ev_by h (fun cs h => ?_) (fun cs13 h => ?_)
  · refine ev_tswIn (off := 715) (tgt := 748) dL_law_33 (by rw [cs]; decide) (by rw [cs]; decide) (by rw [cs]; rfl) rfl ?_
    refine ev_aload_n dL_law_748 rfl (by decide) ?_
    refine ev_aloadS dL_law_749 rfl ?_
    refine ev_iload_n dL_law_750 rfl ?_
    refine ev_iconst dL_law_751 (by decide) ?_
    refine ev_iadd dL_law_752 ?_
    refine ev_scld dL_law_753 rfl h (fun h => ?_)
    obtain ⟨v53, hc54, h⟩ := bind_of h
    refine ev_invV_v (k := (0 : Int)) (av := [(0, ((xs ((jadd x3 (1 : Int))).toNat).toInt))]) (st := []) (v := (0, v53.1)) (τ := v53.2) dL_law_754 ml_L_73 mv_X10_hours (T := TX10) (ci := 9) rfl sp0 (by decide) (by decide) rfl ⟨Nat.le_of_ble_eq_true rfl, Nat.le_of_ble_eq_true rfl⟩ (Nat.le_of_ble_eq_true rfl) (c_X10_hours hc54) ?_
    refine ev_aload_n dL_law_757 rfl (by decide) ?_
    refine ev_aloadS dL_law_758 rfl ?_
    refine ev_iload_n dL_law_759 rfl ?_
    refine ev_iconst dL_law_760 (by decide) ?_
    show Ev _ _ _ _ 761 _ _ _ _ _
    refine ev_iadd dL_law_761 ?_
    refine ev_scld dL_law_762 rfl h (fun h => ?_)
    obtain ⟨v55, hc56, h⟩ := bind_of h
    refine ev_invV_v (k := (181 : Int)) (av := [(0, ((xs ((jadd x3 (1 : Int))).toNat).toInt))]) (st := [(0, v53.1)]) (v := (0, v55.1)) (τ := v55.2) dL_law_763 ml_L_76 mv_X11_hours (T := TX11) (ci := 10) rfl sp181 (by decide) (by decide) rfl ⟨Nat.le_of_ble_eq_true rfl, Nat.le_of_ble_eq_true rfl⟩ (Nat.le_of_ble_eq_true rfl) (c_X11_hours hc56) ?_
    refine ev_icmp_eq (tgt := 1774) dL_law_766 rfl h (fun cb h => ?_) (fun cb h => ?_)
    · exact ev_sub (L2 := [(3, (200000 : Int)), (2, (0 : Int)), (2, (181 : Int)), (0, x3)]) (e_L_law_1774 N xs hN v55.2 x3 h K) ⟨.inr rfl, .inr rfl, .inr rfl, .inr rfl, trivial⟩
    obtain rfl := Option.some.inj h
    exact ev_sub (L2 := [(9, 0), (9, 0), (9, 0), (9, 0)]) K ⟨.inl rfl, .inl rfl, .inl rfl, .inl rfl, trivial⟩
  refine ev_by h (fun cs h => ?_) (fun cs14 h => ?_)
  · refine ev_tswIn (off := 738) (tgt := 771) dL_law_33 (by rw [cs]; decide) (by rw [cs]; decide) (by rw [cs]; rfl) rfl ?_
    refine ev_aload_n dL_law_771 rfl (by decide) ?_
    refine ev_aloadS dL_law_772 rfl ?_
    refine ev_iload_n dL_law_773 rfl ?_
    refine ev_iconst dL_law_774 (by decide) ?_
    refine ev_iadd dL_law_775 ?_
    refine ev_scld dL_law_776 rfl h (fun h => ?_)
    obtain ⟨v57, hc58, h⟩ := bind_of h
    refine ev_invV_v (k := (0 : Int)) (av := [(0, ((xs ((jadd x3 (1 : Int))).toNat).toInt))]) (st := []) (v := (0, v57.1)) (τ := v57.2) dL_law_777 ml_L_77 mv_X10_turn (T := TX10) (ci := 9) rfl sp0 (by decide) (by decide) rfl ⟨Nat.le_of_ble_eq_true rfl, Nat.le_of_ble_eq_true rfl⟩ (Nat.le_of_ble_eq_true rfl) (c_X10_turn hc58) ?_
    refine ev_aload_n dL_law_780 rfl (by decide) ?_
    refine ev_aloadS dL_law_781 rfl ?_
    refine ev_iload_n dL_law_782 rfl ?_
    refine ev_iconst dL_law_783 (by decide) ?_
    show Ev _ _ _ _ 784 _ _ _ _ _
    refine ev_iadd dL_law_784 ?_
    refine ev_scld dL_law_785 rfl h (fun h => ?_)
    obtain ⟨v59, hc60, h⟩ := bind_of h
    refine ev_invV_v (k := (181 : Int)) (av := [(0, ((xs ((jadd x3 (1 : Int))).toNat).toInt))]) (st := [(0, v57.1)]) (v := (0, v59.1)) (τ := v59.2) dL_law_786 ml_L_80 mv_X11_turn (T := TX11) (ci := 10) rfl sp181 (by decide) (by decide) rfl ⟨Nat.le_of_ble_eq_true rfl, Nat.le_of_ble_eq_true rfl⟩ (Nat.le_of_ble_eq_true rfl) (c_X11_turn hc60) ?_
    refine ev_icmp_eq (tgt := 1774) dL_law_789 rfl h (fun cb h => ?_) (fun cb h => ?_)
    · exact ev_sub (L2 := [(3, (200000 : Int)), (2, (0 : Int)), (2, (181 : Int)), (0, x3)]) (e_L_law_1774 N xs hN v59.2 x3 h K) ⟨.inr rfl, .inr rfl, .inr rfl, .inr rfl, trivial⟩
    obtain rfl := Option.some.inj h
    exact ev_sub (L2 := [(9, 0), (9, 0), (9, 0), (9, 0)]) K ⟨.inl rfl, .inl rfl, .inl rfl, .inl rfl, trivial⟩
  refine ev_by h (fun cs h => ?_) (fun cs15 h => ?_)
  · refine ev_tswIn (off := 761) (tgt := 794) dL_law_33 (by rw [cs]; decide) (by rw [cs]; decide) (by rw [cs]; rfl) rfl ?_
    refine ev_aload_n dL_law_794 rfl (by decide) ?_
    refine ev_aloadS dL_law_795 rfl ?_
    refine ev_iload_n dL_law_796 rfl ?_
    refine ev_iconst dL_law_797 (by decide) ?_
    refine ev_iadd dL_law_798 ?_
    refine ev_scld dL_law_799 rfl h (fun h => ?_)
    obtain ⟨v61, hc62, h⟩ := bind_of h
    refine ev_invV_v (k := (0 : Int)) (av := [(0, ((xs ((jadd x3 (1 : Int))).toNat).toInt))]) (st := []) (v := (0, v61.1)) (τ := v61.2) dL_law_800 ml_L_81 mv_X10_feed (T := TX10) (ci := 9) rfl sp0 (by decide) (by decide) rfl ⟨Nat.le_of_ble_eq_true rfl, Nat.le_of_ble_eq_true rfl⟩ (Nat.le_of_ble_eq_true rfl) (c_X10_feed hc62) ?_
    refine ev_aload_n dL_law_803 rfl (by decide) ?_
    refine ev_aloadS dL_law_804 rfl ?_
    refine ev_iload_n dL_law_805 rfl ?_
    refine ev_iconst dL_law_806 (by decide) ?_
    show Ev _ _ _ _ 807 _ _ _ _ _
    refine ev_iadd dL_law_807 ?_
    refine ev_scld dL_law_808 rfl h (fun h => ?_)
    obtain ⟨v63, hc64, h⟩ := bind_of h
    refine ev_invV_v (k := (181 : Int)) (av := [(0, ((xs ((jadd x3 (1 : Int))).toNat).toInt))]) (st := [(0, v61.1)]) (v := (0, v63.1)) (τ := v63.2) dL_law_809 ml_L_84 mv_X11_feed (T := TX11) (ci := 10) rfl sp181 (by decide) (by decide) rfl ⟨Nat.le_of_ble_eq_true rfl, Nat.le_of_ble_eq_true rfl⟩ (Nat.le_of_ble_eq_true rfl) (c_X11_feed hc64) ?_
    refine ev_icmp_eq (tgt := 1774) dL_law_812 rfl h (fun cb h => ?_) (fun cb h => ?_)
    · exact ev_sub (L2 := [(3, (200000 : Int)), (2, (0 : Int)), (2, (181 : Int)), (0, x3)]) (e_L_law_1774 N xs hN v63.2 x3 h K) ⟨.inr rfl, .inr rfl, .inr rfl, .inr rfl, trivial⟩
    obtain rfl := Option.some.inj h
    exact ev_sub (L2 := [(9, 0), (9, 0), (9, 0), (9, 0)]) K ⟨.inl rfl, .inl rfl, .inl rfl, .inl rfl, trivial⟩
  refine ev_by h (fun cs h => ?_) (fun cs16 h => ?_)
  · refine ev_tswIn (off := 784) (tgt := 817) dL_law_33 (by rw [cs]; decide) (by rw [cs]; decide) (by rw [cs]; rfl) rfl ?_
    refine ev_aload_n dL_law_817 rfl (by decide) ?_
    obtain ⟨v65, hc66, h⟩ := bind_of h
    refine ev_invV_v (k := (0 : Int)) (av := []) (st := []) (v := (0, v65.1)) (τ := v65.2) dL_law_818 ml_L_85 mv_X10_wipe (T := TX10) (ci := 9) rfl sp0 (by decide) (by decide) rfl ⟨Nat.le_of_ble_eq_true rfl, Nat.le_of_ble_eq_true rfl⟩ (Nat.le_of_ble_eq_true rfl) (c_X10_wipe hc66) ?_
    refine ev_aload_n dL_law_821 rfl (by decide) ?_
    obtain ⟨v67, hc68, h⟩ := bind_of h
    refine ev_invV_v (k := (181 : Int)) (av := []) (st := [(0, v65.1)]) (v := (0, v67.1)) (τ := v67.2) dL_law_822 ml_L_89 mv_X11_wipe (T := TX11) (ci := 10) rfl sp181 (by decide) (by decide) rfl ⟨Nat.le_of_ble_eq_true rfl, Nat.le_of_ble_eq_true rfl⟩ (Nat.le_of_ble_eq_true rfl) (c_X11_wipe hc68) ?_
    refine ev_icmp_eq (tgt := 1774) dL_law_825 rfl h (fun cb h => ?_) (fun cb h => ?_)
    · exact ev_sub (L2 := [(3, (200000 : Int)), (2, (0 : Int)), (2, (181 : Int)), (0, x3)]) (e_L_law_1774 N xs hN v67.2 x3 h K) ⟨.inr rfl, .inr rfl, .inr rfl, .inr rfl, trivial⟩
    obtain rfl := Option.some.inj h
    exact ev_sub (L2 := [(9, 0), (9, 0), (9, 0), (9, 0)]) K ⟨.inl rfl, .inl rfl, .inl rfl, .inl rfl, trivial⟩
  refine ev_by h (fun cs h => ?_) (fun cs17 h => ?_)
  · refine ev_tswIn (off := 797) (tgt := 830) dL_law_33 (by rw [cs]; decide) (by rw [cs]; decide) (by rw [cs]; rfl) rfl ?_
    refine ev_aload_n dL_law_830 rfl (by decide) ?_
    obtain ⟨v69, hc70, h⟩ := bind_of h
    refine ev_invV_v (k := (0 : Int)) (av := []) (st := []) (v := (0, v69.1)) (τ := v69.2) dL_law_831 ml_L_90 mv_X10_book (T := TX10) (ci := 9) rfl sp0 (by decide) (by decide) rfl ⟨Nat.le_of_ble_eq_true rfl, Nat.le_of_ble_eq_true rfl⟩ (Nat.le_of_ble_eq_true rfl) (c_X10_book hc70) ?_
    refine ev_aload_n dL_law_834 rfl (by decide) ?_
    obtain ⟨v71, hc72, h⟩ := bind_of h
    refine ev_invV_v (k := (181 : Int)) (av := []) (st := [(0, v69.1)]) (v := (0, v71.1)) (τ := v71.2) dL_law_835 ml_L_93 mv_X11_book (T := TX11) (ci := 10) rfl sp181 (by decide) (by decide) rfl ⟨Nat.le_of_ble_eq_true rfl, Nat.le_of_ble_eq_true rfl⟩ (Nat.le_of_ble_eq_true rfl) (c_X11_book hc72) ?_
    refine ev_icmp_eq (tgt := 1774) dL_law_838 rfl h (fun cb h => ?_) (fun cb h => ?_)
    · exact ev_sub (L2 := [(3, (200000 : Int)), (2, (0 : Int)), (2, (181 : Int)), (0, x3)]) (e_L_law_1774 N xs hN v71.2 x3 h K) ⟨.inr rfl, .inr rfl, .inr rfl, .inr rfl, trivial⟩
    obtain rfl := Option.some.inj h
    exact ev_sub (L2 := [(9, 0), (9, 0), (9, 0), (9, 0)]) K ⟨.inl rfl, .inl rfl, .inl rfl, .inl rfl, trivial⟩
  refine ev_by h (fun cs h => ?_) (fun cs18 h => ?_)
  · refine ev_tswIn (off := 810) (tgt := 843) dL_law_33 (by rw [cs]; decide) (by rw [cs]; decide) (by rw [cs]; rfl) rfl ?_
    refine ev_aload_n dL_law_843 rfl (by decide) ?_
    refine ev_aloadS dL_law_844 rfl ?_
    refine ev_iload_n dL_law_845 rfl ?_
    refine ev_iconst dL_law_846 (by decide) ?_
    refine ev_iadd dL_law_847 ?_
    refine ev_scld dL_law_848 rfl h (fun h => ?_)
    refine ev_aloadS dL_law_849 rfl ?_
    refine ev_iload_n dL_law_850 rfl ?_
    refine ev_iconst dL_law_851 (by decide) ?_
    refine ev_iadd dL_law_852 ?_
    refine ev_scld dL_law_853 rfl h (fun h => ?_)
    show Ev _ _ _ _ 854 _ _ _ _ _
    obtain ⟨v73, hc74, h⟩ := bind_of h
    refine ev_invV_v (k := (0 : Int)) (av := [(0, ((xs ((jadd x3 (1 : Int))).toNat).toInt)), (0, ((xs ((jadd x3 (2 : Int))).toNat).toInt))]) (st := []) (v := (0, v73.1)) (τ := v73.2) dL_law_854 ml_L_94 mv_X10_candOf (T := TX10) (ci := 9) rfl sp0 (by decide) (by decide) rfl ⟨Nat.le_of_ble_eq_true rfl, Nat.le_of_ble_eq_true rfl⟩ (Nat.le_of_ble_eq_true rfl) (c_X10_candOf hc74) ?_
    refine ev_aload_n dL_law_857 rfl (by decide) ?_
    refine ev_aloadS dL_law_858 rfl ?_
    refine ev_iload_n dL_law_859 rfl ?_
    refine ev_iconst dL_law_860 (by decide) ?_
    refine ev_iadd dL_law_861 ?_
    refine ev_scld dL_law_862 rfl h (fun h => ?_)
    refine ev_aloadS dL_law_863 rfl ?_
    refine ev_iload_n dL_law_864 rfl ?_
    refine ev_iconst dL_law_865 (by decide) ?_
    refine ev_iadd dL_law_866 ?_
    refine ev_scld dL_law_867 rfl h (fun h => ?_)
    show Ev _ _ _ _ 868 _ _ _ _ _
    obtain ⟨v75, hc76, h⟩ := bind_of h
    refine ev_invV_v (k := (181 : Int)) (av := [(0, ((xs ((jadd x3 (1 : Int))).toNat).toInt)), (0, ((xs ((jadd x3 (2 : Int))).toNat).toInt))]) (st := [(0, v73.1)]) (v := (0, v75.1)) (τ := v75.2) dL_law_868 ml_L_97 mv_X11_candOf (T := TX11) (ci := 10) rfl sp181 (by decide) (by decide) rfl ⟨Nat.le_of_ble_eq_true rfl, Nat.le_of_ble_eq_true rfl⟩ (Nat.le_of_ble_eq_true rfl) (c_X11_candOf hc76) ?_
    refine ev_icmp_eq (tgt := 1774) dL_law_871 rfl h (fun cb h => ?_) (fun cb h => ?_)
    · exact ev_sub (L2 := [(3, (200000 : Int)), (2, (0 : Int)), (2, (181 : Int)), (0, x3)]) (e_L_law_1774 N xs hN v75.2 x3 h K) ⟨.inr rfl, .inr rfl, .inr rfl, .inr rfl, trivial⟩
    obtain rfl := Option.some.inj h
    exact ev_sub (L2 := [(9, 0), (9, 0), (9, 0), (9, 0)]) K ⟨.inl rfl, .inl rfl, .inl rfl, .inl rfl, trivial⟩
  refine ev_by h (fun cs h => ?_) (fun cs19 h => ?_)
  · refine ev_tswIn (off := 843) (tgt := 876) dL_law_33 (by rw [cs]; decide) (by rw [cs]; decide) (by rw [cs]; rfl) rfl ?_
    refine ev_aload_n dL_law_876 rfl (by decide) ?_
    refine ev_aloadS dL_law_877 rfl ?_
    refine ev_iload_n dL_law_878 rfl ?_
    refine ev_iconst dL_law_879 (by decide) ?_
    refine ev_iadd dL_law_880 ?_
    refine ev_scld dL_law_881 rfl h (fun h => ?_)
    refine ev_aloadS dL_law_882 rfl ?_
    refine ev_iload_n dL_law_883 rfl ?_
    refine ev_iconst dL_law_884 (by decide) ?_
    refine ev_iadd dL_law_885 ?_
    refine ev_scld dL_law_886 rfl h (fun h => ?_)
    show Ev _ _ _ _ 887 _ _ _ _ _
    obtain ⟨v77, hc78, h⟩ := bind_of h
    refine ev_invV_v (k := (0 : Int)) (av := [(0, ((xs ((jadd x3 (1 : Int))).toNat).toInt)), (0, ((xs ((jadd x3 (2 : Int))).toNat).toInt))]) (st := []) (v := (0, v77.1)) (τ := v77.2) dL_law_887 ml_L_98 mv_X10_paperOf (T := TX10) (ci := 9) rfl sp0 (by decide) (by decide) rfl ⟨Nat.le_of_ble_eq_true rfl, Nat.le_of_ble_eq_true rfl⟩ (Nat.le_of_ble_eq_true rfl) (c_X10_paperOf hc78) ?_
    refine ev_aload_n dL_law_890 rfl (by decide) ?_
    refine ev_aloadS dL_law_891 rfl ?_
    refine ev_iload_n dL_law_892 rfl ?_
    refine ev_iconst dL_law_893 (by decide) ?_
    refine ev_iadd dL_law_894 ?_
    refine ev_scld dL_law_895 rfl h (fun h => ?_)
    refine ev_aloadS dL_law_896 rfl ?_
    refine ev_iload_n dL_law_897 rfl ?_
    refine ev_iconst dL_law_898 (by decide) ?_
    refine ev_iadd dL_law_899 ?_
    refine ev_scld dL_law_900 rfl h (fun h => ?_)
    show Ev _ _ _ _ 901 _ _ _ _ _
    obtain ⟨v79, hc80, h⟩ := bind_of h
    refine ev_invV_v (k := (181 : Int)) (av := [(0, ((xs ((jadd x3 (1 : Int))).toNat).toInt)), (0, ((xs ((jadd x3 (2 : Int))).toNat).toInt))]) (st := [(0, v77.1)]) (v := (0, v79.1)) (τ := v79.2) dL_law_901 ml_L_101 mv_X11_paperOf (T := TX11) (ci := 10) rfl sp181 (by decide) (by decide) rfl ⟨Nat.le_of_ble_eq_true rfl, Nat.le_of_ble_eq_true rfl⟩ (Nat.le_of_ble_eq_true rfl) (c_X11_paperOf hc80) ?_
    refine ev_icmp_eq (tgt := 1774) dL_law_904 rfl h (fun cb h => ?_) (fun cb h => ?_)
    · exact ev_sub (L2 := [(3, (200000 : Int)), (2, (0 : Int)), (2, (181 : Int)), (0, x3)]) (e_L_law_1774 N xs hN v79.2 x3 h K) ⟨.inr rfl, .inr rfl, .inr rfl, .inr rfl, trivial⟩
    obtain rfl := Option.some.inj h
    exact ev_sub (L2 := [(9, 0), (9, 0), (9, 0), (9, 0)]) K ⟨.inl rfl, .inl rfl, .inl rfl, .inl rfl, trivial⟩
  refine ev_by h (fun cs h => ?_) (fun cs20 h => ?_)
  · refine ev_tswIn (off := 876) (tgt := 909) dL_law_33 (by rw [cs]; decide) (by rw [cs]; decide) (by rw [cs]; rfl) rfl ?_
    refine ev_aload_n dL_law_909 rfl (by decide) ?_
    refine ev_aloadS dL_law_910 rfl ?_
    refine ev_iload_n dL_law_911 rfl ?_
    refine ev_iconst dL_law_912 (by decide) ?_
    refine ev_iadd dL_law_913 ?_
    refine ev_scld dL_law_914 rfl h (fun h => ?_)
    refine ev_aloadS dL_law_915 rfl ?_
    refine ev_iload_n dL_law_916 rfl ?_
    refine ev_iconst dL_law_917 (by decide) ?_
    refine ev_iadd dL_law_918 ?_
    refine ev_scld dL_law_919 rfl h (fun h => ?_)
    show Ev _ _ _ _ 920 _ _ _ _ _
    obtain ⟨v81, hc82, h⟩ := bind_of h
    refine ev_invV_v (k := (0 : Int)) (av := [(0, ((xs ((jadd x3 (1 : Int))).toNat).toInt)), (0, ((xs ((jadd x3 (2 : Int))).toNat).toInt))]) (st := []) (v := (0, v81.1)) (τ := v81.2) dL_law_920 ml_L_102 mv_X10_time (T := TX10) (ci := 9) rfl sp0 (by decide) (by decide) rfl ⟨Nat.le_of_ble_eq_true rfl, Nat.le_of_ble_eq_true rfl⟩ (Nat.le_of_ble_eq_true rfl) (c_X10_time hc82) ?_
    refine ev_aload_n dL_law_923 rfl (by decide) ?_
    refine ev_aloadS dL_law_924 rfl ?_
    refine ev_iload_n dL_law_925 rfl ?_
    refine ev_iconst dL_law_926 (by decide) ?_
    refine ev_iadd dL_law_927 ?_
    refine ev_scld dL_law_928 rfl h (fun h => ?_)
    refine ev_aloadS dL_law_929 rfl ?_
    refine ev_iload_n dL_law_930 rfl ?_
    refine ev_iconst dL_law_931 (by decide) ?_
    refine ev_iadd dL_law_932 ?_
    refine ev_scld dL_law_933 rfl h (fun h => ?_)
    show Ev _ _ _ _ 934 _ _ _ _ _
    obtain ⟨v83, hc84, h⟩ := bind_of h
    refine ev_invV_v (k := (181 : Int)) (av := [(0, ((xs ((jadd x3 (1 : Int))).toNat).toInt)), (0, ((xs ((jadd x3 (2 : Int))).toNat).toInt))]) (st := [(0, v81.1)]) (v := (0, v83.1)) (τ := v83.2) dL_law_934 ml_L_105 mv_X11_time (T := TX11) (ci := 10) rfl sp181 (by decide) (by decide) rfl ⟨Nat.le_of_ble_eq_true rfl, Nat.le_of_ble_eq_true rfl⟩ (Nat.le_of_ble_eq_true rfl) (c_X11_time hc84) ?_
    refine ev_icmp_eq (tgt := 1774) dL_law_937 rfl h (fun cb h => ?_) (fun cb h => ?_)
    · exact ev_sub (L2 := [(3, (200000 : Int)), (2, (0 : Int)), (2, (181 : Int)), (0, x3)]) (e_L_law_1774 N xs hN v83.2 x3 h K) ⟨.inr rfl, .inr rfl, .inr rfl, .inr rfl, trivial⟩
    obtain rfl := Option.some.inj h
    exact ev_sub (L2 := [(9, 0), (9, 0), (9, 0), (9, 0)]) K ⟨.inl rfl, .inl rfl, .inl rfl, .inl rfl, trivial⟩
  refine ev_by h (fun cs h => ?_) (fun cs21 h => ?_)
  · refine ev_tswIn (off := 909) (tgt := 942) dL_law_33 (by rw [cs]; decide) (by rw [cs]; decide) (by rw [cs]; rfl) rfl ?_
    refine ev_aload_n dL_law_942 rfl (by decide) ?_
    refine ev_aloadS dL_law_943 rfl ?_
    refine ev_iload_n dL_law_944 rfl ?_
    refine ev_iconst dL_law_945 (by decide) ?_
    refine ev_iadd dL_law_946 ?_
    refine ev_scld dL_law_947 rfl h (fun h => ?_)
    refine ev_aloadS dL_law_948 rfl ?_
    refine ev_iload_n dL_law_949 rfl ?_
    refine ev_iconst dL_law_950 (by decide) ?_
    refine ev_iadd dL_law_951 ?_
    refine ev_scld dL_law_952 rfl h (fun h => ?_)
    show Ev _ _ _ _ 953 _ _ _ _ _
    refine ev_aloadS dL_law_953 rfl ?_
    refine ev_iload_n dL_law_954 rfl ?_
    refine ev_iconst dL_law_955 (by decide) ?_
    refine ev_iadd dL_law_956 ?_
    refine ev_scld dL_law_957 rfl h (fun h => ?_)
    obtain ⟨v85, hc86, h⟩ := bind_of h
    refine ev_invV_v (k := (0 : Int)) (av := [(0, ((xs ((jadd x3 (1 : Int))).toNat).toInt)), (0, ((xs ((jadd x3 (2 : Int))).toNat).toInt)), (0, ((xs ((jadd x3 (3 : Int))).toNat).toInt))]) (st := []) (v := (0, v85.1)) (τ := v85.2) dL_law_958 ml_L_106 mv_X10_plan (T := TX10) (ci := 9) rfl sp0 (by decide) (by decide) rfl ⟨Nat.le_of_ble_eq_true rfl, Nat.le_of_ble_eq_true rfl⟩ (Nat.le_of_ble_eq_true rfl) (c_X10_plan hc86) ?_
    refine ev_aload_n dL_law_961 rfl (by decide) ?_
    refine ev_aloadS dL_law_962 rfl ?_
    refine ev_iload_n dL_law_963 rfl ?_
    refine ev_iconst dL_law_964 (by decide) ?_
    refine ev_iadd dL_law_965 ?_
    refine ev_scld dL_law_966 rfl h (fun h => ?_)
    show Ev _ _ _ _ 967 _ _ _ _ _
    refine ev_aloadS dL_law_967 rfl ?_
    refine ev_iload_n dL_law_968 rfl ?_
    refine ev_iconst dL_law_969 (by decide) ?_
    refine ev_iadd dL_law_970 ?_
    refine ev_scld dL_law_971 rfl h (fun h => ?_)
    refine ev_aloadS dL_law_972 rfl ?_
    refine ev_iload_n dL_law_973 rfl ?_
    refine ev_iconst dL_law_974 (by decide) ?_
    refine ev_iadd dL_law_975 ?_
    refine ev_scld dL_law_976 rfl h (fun h => ?_)
    obtain ⟨v87, hc88, h⟩ := bind_of h
    refine ev_invV_v (k := (181 : Int)) (av := [(0, ((xs ((jadd x3 (1 : Int))).toNat).toInt)), (0, ((xs ((jadd x3 (2 : Int))).toNat).toInt)), (0, ((xs ((jadd x3 (3 : Int))).toNat).toInt))]) (st := [(0, v85.1)]) (v := (0, v87.1)) (τ := v87.2) dL_law_977 ml_L_109 mv_X11_plan (T := TX11) (ci := 10) rfl sp181 (by decide) (by decide) rfl ⟨Nat.le_of_ble_eq_true rfl, Nat.le_of_ble_eq_true rfl⟩ (Nat.le_of_ble_eq_true rfl) (c_X11_plan hc88) ?_
    refine ev_icmp_eq (tgt := 1774) dL_law_980 rfl h (fun cb h => ?_) (fun cb h => ?_)
    · exact ev_sub (L2 := [(3, (200000 : Int)), (2, (0 : Int)), (2, (181 : Int)), (0, x3)]) (e_L_law_1774 N xs hN v87.2 x3 h K) ⟨.inr rfl, .inr rfl, .inr rfl, .inr rfl, trivial⟩
    obtain rfl := Option.some.inj h
    exact ev_sub (L2 := [(9, 0), (9, 0), (9, 0), (9, 0)]) K ⟨.inl rfl, .inl rfl, .inl rfl, .inl rfl, trivial⟩
  refine ev_by h (fun cs h => ?_) (fun cs22 h => ?_)
  · refine ev_tswIn (off := 952) (tgt := 985) dL_law_33 (by rw [cs]; decide) (by rw [cs]; decide) (by rw [cs]; rfl) rfl ?_
    refine ev_aload_n dL_law_985 rfl (by decide) ?_
    refine ev_aloadS dL_law_986 rfl ?_
    refine ev_iload_n dL_law_987 rfl ?_
    refine ev_iconst dL_law_988 (by decide) ?_
    refine ev_iadd dL_law_989 ?_
    refine ev_scld dL_law_990 rfl h (fun h => ?_)
    refine ev_aloadS dL_law_991 rfl ?_
    refine ev_iload_n dL_law_992 rfl ?_
    refine ev_iconst dL_law_993 (by decide) ?_
    refine ev_iadd dL_law_994 ?_
    refine ev_scld dL_law_995 rfl h (fun h => ?_)
    show Ev _ _ _ _ 996 _ _ _ _ _
    refine ev_aloadS dL_law_996 rfl ?_
    refine ev_iload_n dL_law_997 rfl ?_
    refine ev_iconst dL_law_998 (by decide) ?_
    refine ev_iadd dL_law_999 ?_
    refine ev_scld dL_law_1000 rfl h (fun h => ?_)
    refine ev_aloadS dL_law_1001 rfl ?_
    refine ev_iload_n dL_law_1002 rfl ?_
    refine ev_iconst dL_law_1003 (by decide) ?_
    refine ev_iadd dL_law_1004 ?_
    refine ev_scld dL_law_1005 rfl h (fun h => ?_)
    obtain ⟨v89, hc90, h⟩ := bind_of h
    refine ev_invV_v (k := (0 : Int)) (av := [(0, ((xs ((jadd x3 (1 : Int))).toNat).toInt)), (0, ((xs ((jadd x3 (2 : Int))).toNat).toInt)), (0, ((xs ((jadd x3 (3 : Int))).toNat).toInt)), (0, ((xs ((jadd x3 (4 : Int))).toNat).toInt))]) (st := []) (v := (0, v89.1)) (τ := v89.2) dL_law_1006 ml_L_110 mv_X10_sits (T := TX10) (ci := 9) rfl sp0 (by decide) (by decide) rfl ⟨Nat.le_of_ble_eq_true rfl, Nat.le_of_ble_eq_true rfl⟩ (Nat.le_of_ble_eq_true rfl) (c_X10_sits hc90) ?_
    refine ev_aload_n dL_law_1009 rfl (by decide) ?_
    show Ev _ _ _ _ 1010 _ _ _ _ _
    refine ev_aloadS dL_law_1010 rfl ?_
    refine ev_iload_n dL_law_1011 rfl ?_
    refine ev_iconst dL_law_1012 (by decide) ?_
    refine ev_iadd dL_law_1013 ?_
    refine ev_scld dL_law_1014 rfl h (fun h => ?_)
    refine ev_aloadS dL_law_1015 rfl ?_
    refine ev_iload_n dL_law_1016 rfl ?_
    refine ev_iconst dL_law_1017 (by decide) ?_
    refine ev_iadd dL_law_1018 ?_
    refine ev_scld dL_law_1019 rfl h (fun h => ?_)
    refine ev_aloadS dL_law_1020 rfl ?_
    refine ev_iload_n dL_law_1021 rfl ?_
    show Ev _ _ _ _ 1022 _ _ _ _ _
    refine ev_iconst dL_law_1022 (by decide) ?_
    refine ev_iadd dL_law_1023 ?_
    refine ev_scld dL_law_1024 rfl h (fun h => ?_)
    refine ev_aloadS dL_law_1025 rfl ?_
    refine ev_iload_n dL_law_1026 rfl ?_
    refine ev_iconst dL_law_1027 (by decide) ?_
    refine ev_iadd dL_law_1028 ?_
    refine ev_scld dL_law_1029 rfl h (fun h => ?_)
    obtain ⟨v91, hc92, h⟩ := bind_of h
    refine ev_invV_v (k := (181 : Int)) (av := [(0, ((xs ((jadd x3 (1 : Int))).toNat).toInt)), (0, ((xs ((jadd x3 (2 : Int))).toNat).toInt)), (0, ((xs ((jadd x3 (3 : Int))).toNat).toInt)), (0, ((xs ((jadd x3 (4 : Int))).toNat).toInt))]) (st := [(0, v89.1)]) (v := (0, v91.1)) (τ := v91.2) dL_law_1030 ml_L_114 mv_X11_sits (T := TX11) (ci := 10) rfl sp181 (by decide) (by decide) rfl ⟨Nat.le_of_ble_eq_true rfl, Nat.le_of_ble_eq_true rfl⟩ (Nat.le_of_ble_eq_true rfl) (c_X11_sits hc92) ?_
    refine ev_icmp_eq (tgt := 1774) dL_law_1033 rfl h (fun cb h => ?_) (fun cb h => ?_)
    · exact ev_sub (L2 := [(3, (200000 : Int)), (2, (0 : Int)), (2, (181 : Int)), (0, x3)]) (e_L_law_1774 N xs hN v91.2 x3 h K) ⟨.inr rfl, .inr rfl, .inr rfl, .inr rfl, trivial⟩
    obtain rfl := Option.some.inj h
    exact ev_sub (L2 := [(9, 0), (9, 0), (9, 0), (9, 0)]) K ⟨.inl rfl, .inl rfl, .inl rfl, .inl rfl, trivial⟩
  refine ev_by h (fun cs h => ?_) (fun cs23 h => ?_)
  · refine ev_tswIn (off := 1005) (tgt := 1038) dL_law_33 (by rw [cs]; decide) (by rw [cs]; decide) (by rw [cs]; rfl) rfl ?_
    refine ev_aload_n dL_law_1038 rfl (by decide) ?_
    refine ev_aloadS dL_law_1039 rfl ?_
    refine ev_iload_n dL_law_1040 rfl ?_
    refine ev_iconst dL_law_1041 (by decide) ?_
    refine ev_iadd dL_law_1042 ?_
    refine ev_scld dL_law_1043 rfl h (fun h => ?_)
    refine ev_aloadS dL_law_1044 rfl ?_
    refine ev_iload_n dL_law_1045 rfl ?_
    refine ev_iconst dL_law_1046 (by decide) ?_
    refine ev_iadd dL_law_1047 ?_
    refine ev_scld dL_law_1048 rfl h (fun h => ?_)
    show Ev _ _ _ _ 1049 _ _ _ _ _
    refine ev_aloadS dL_law_1049 rfl ?_
    refine ev_iload_n dL_law_1050 rfl ?_
    refine ev_iconst dL_law_1051 (by decide) ?_
    refine ev_iadd dL_law_1052 ?_
    refine ev_scld dL_law_1053 rfl h (fun h => ?_)
    obtain ⟨v93, hc94, h⟩ := bind_of h
    refine ev_invV_v (k := (0 : Int)) (av := [(0, ((xs ((jadd x3 (1 : Int))).toNat).toInt)), (0, ((xs ((jadd x3 (2 : Int))).toNat).toInt)), (0, ((xs ((jadd x3 (3 : Int))).toNat).toInt))]) (st := []) (v := (0, v93.1)) (τ := v93.2) dL_law_1054 ml_L_115 mv_X10_does (T := TX10) (ci := 9) rfl sp0 (by decide) (by decide) rfl ⟨Nat.le_of_ble_eq_true rfl, Nat.le_of_ble_eq_true rfl⟩ (Nat.le_of_ble_eq_true rfl) (c_X10_does hc94) ?_
    refine ev_aload_n dL_law_1057 rfl (by decide) ?_
    refine ev_aloadS dL_law_1058 rfl ?_
    refine ev_iload_n dL_law_1059 rfl ?_
    refine ev_iconst dL_law_1060 (by decide) ?_
    refine ev_iadd dL_law_1061 ?_
    refine ev_scld dL_law_1062 rfl h (fun h => ?_)
    show Ev _ _ _ _ 1063 _ _ _ _ _
    refine ev_aloadS dL_law_1063 rfl ?_
    refine ev_iload_n dL_law_1064 rfl ?_
    refine ev_iconst dL_law_1065 (by decide) ?_
    refine ev_iadd dL_law_1066 ?_
    refine ev_scld dL_law_1067 rfl h (fun h => ?_)
    refine ev_aloadS dL_law_1068 rfl ?_
    refine ev_iload_n dL_law_1069 rfl ?_
    refine ev_iconst dL_law_1070 (by decide) ?_
    refine ev_iadd dL_law_1071 ?_
    refine ev_scld dL_law_1072 rfl h (fun h => ?_)
    obtain ⟨v95, hc96, h⟩ := bind_of h
    refine ev_invV_v (k := (181 : Int)) (av := [(0, ((xs ((jadd x3 (1 : Int))).toNat).toInt)), (0, ((xs ((jadd x3 (2 : Int))).toNat).toInt)), (0, ((xs ((jadd x3 (3 : Int))).toNat).toInt))]) (st := [(0, v93.1)]) (v := (0, v95.1)) (τ := v95.2) dL_law_1073 ml_L_118 mv_X11_does (T := TX11) (ci := 10) rfl sp181 (by decide) (by decide) rfl ⟨Nat.le_of_ble_eq_true rfl, Nat.le_of_ble_eq_true rfl⟩ (Nat.le_of_ble_eq_true rfl) (c_X11_does hc96) ?_
    refine ev_icmp_eq (tgt := 1774) dL_law_1076 rfl h (fun cb h => ?_) (fun cb h => ?_)
    · exact ev_sub (L2 := [(3, (200000 : Int)), (2, (0 : Int)), (2, (181 : Int)), (0, x3)]) (e_L_law_1774 N xs hN v95.2 x3 h K) ⟨.inr rfl, .inr rfl, .inr rfl, .inr rfl, trivial⟩
    obtain rfl := Option.some.inj h
    exact ev_sub (L2 := [(9, 0), (9, 0), (9, 0), (9, 0)]) K ⟨.inl rfl, .inl rfl, .inl rfl, .inl rfl, trivial⟩
  refine ev_by h (fun cs h => ?_) (fun cs24 h => ?_)
  · refine ev_tswIn (off := 1048) (tgt := 1081) dL_law_33 (by rw [cs]; decide) (by rw [cs]; decide) (by rw [cs]; rfl) rfl ?_
    refine ev_aload_n dL_law_1081 rfl (by decide) ?_
    refine ev_aloadS dL_law_1082 rfl ?_
    refine ev_iload_n dL_law_1083 rfl ?_
    refine ev_iconst dL_law_1084 (by decide) ?_
    refine ev_iadd dL_law_1085 ?_
    refine ev_scld dL_law_1086 rfl h (fun h => ?_)
    refine ev_aloadS dL_law_1087 rfl ?_
    refine ev_iload_n dL_law_1088 rfl ?_
    refine ev_iconst dL_law_1089 (by decide) ?_
    refine ev_iadd dL_law_1090 ?_
    refine ev_scld dL_law_1091 rfl h (fun h => ?_)
    show Ev _ _ _ _ 1092 _ _ _ _ _
    refine ev_aloadS dL_law_1092 rfl ?_
    refine ev_iload_n dL_law_1093 rfl ?_
    refine ev_iconst dL_law_1094 (by decide) ?_
    refine ev_iadd dL_law_1095 ?_
    refine ev_scld dL_law_1096 rfl h (fun h => ?_)
    obtain ⟨v97, hc98, h⟩ := bind_of h
    refine ev_invV_v (k := (0 : Int)) (av := [(0, ((xs ((jadd x3 (1 : Int))).toNat).toInt)), (0, ((xs ((jadd x3 (2 : Int))).toNat).toInt)), (0, ((xs ((jadd x3 (3 : Int))).toNat).toInt))]) (st := []) (v := (0, v97.1)) (τ := v97.2) dL_law_1097 ml_L_119 mv_X10_measure (T := TX10) (ci := 9) rfl sp0 (by decide) (by decide) rfl ⟨Nat.le_of_ble_eq_true rfl, Nat.le_of_ble_eq_true rfl⟩ (Nat.le_of_ble_eq_true rfl) (c_X10_measure hc98) ?_
    refine ev_aload_n dL_law_1100 rfl (by decide) ?_
    refine ev_aloadS dL_law_1101 rfl ?_
    refine ev_iload_n dL_law_1102 rfl ?_
    refine ev_iconst dL_law_1103 (by decide) ?_
    refine ev_iadd dL_law_1104 ?_
    refine ev_scld dL_law_1105 rfl h (fun h => ?_)
    show Ev _ _ _ _ 1106 _ _ _ _ _
    refine ev_aloadS dL_law_1106 rfl ?_
    refine ev_iload_n dL_law_1107 rfl ?_
    refine ev_iconst dL_law_1108 (by decide) ?_
    refine ev_iadd dL_law_1109 ?_
    refine ev_scld dL_law_1110 rfl h (fun h => ?_)
    refine ev_aloadS dL_law_1111 rfl ?_
    refine ev_iload_n dL_law_1112 rfl ?_
    refine ev_iconst dL_law_1113 (by decide) ?_
    refine ev_iadd dL_law_1114 ?_
    refine ev_scld dL_law_1115 rfl h (fun h => ?_)
    obtain ⟨v99, hc100, h⟩ := bind_of h
    refine ev_invV_v (k := (181 : Int)) (av := [(0, ((xs ((jadd x3 (1 : Int))).toNat).toInt)), (0, ((xs ((jadd x3 (2 : Int))).toNat).toInt)), (0, ((xs ((jadd x3 (3 : Int))).toNat).toInt))]) (st := [(0, v97.1)]) (v := (0, v99.1)) (τ := v99.2) dL_law_1116 ml_L_122 mv_X11_measure (T := TX11) (ci := 10) rfl sp181 (by decide) (by decide) rfl ⟨Nat.le_of_ble_eq_true rfl, Nat.le_of_ble_eq_true rfl⟩ (Nat.le_of_ble_eq_true rfl) (c_X11_measure hc100) ?_
    refine ev_icmp_eq (tgt := 1774) dL_law_1119 rfl h (fun cb h => ?_) (fun cb h => ?_)
    · exact ev_sub (L2 := [(3, (200000 : Int)), (2, (0 : Int)), (2, (181 : Int)), (0, x3)]) (e_L_law_1774 N xs hN v99.2 x3 h K) ⟨.inr rfl, .inr rfl, .inr rfl, .inr rfl, trivial⟩
    obtain rfl := Option.some.inj h
    exact ev_sub (L2 := [(9, 0), (9, 0), (9, 0), (9, 0)]) K ⟨.inl rfl, .inl rfl, .inl rfl, .inl rfl, trivial⟩
  refine ev_by h (fun cs h => ?_) (fun cs25 h => ?_)
  · refine ev_tswIn (off := 1091) (tgt := 1124) dL_law_33 (by rw [cs]; decide) (by rw [cs]; decide) (by rw [cs]; rfl) rfl ?_
    refine ev_aload_n dL_law_1124 rfl (by decide) ?_
    refine ev_aloadS dL_law_1125 rfl ?_
    refine ev_iload_n dL_law_1126 rfl ?_
    refine ev_iconst dL_law_1127 (by decide) ?_
    refine ev_iadd dL_law_1128 ?_
    refine ev_scld dL_law_1129 rfl h (fun h => ?_)
    refine ev_aloadS dL_law_1130 rfl ?_
    refine ev_iload_n dL_law_1131 rfl ?_
    refine ev_iconst dL_law_1132 (by decide) ?_
    refine ev_iadd dL_law_1133 ?_
    refine ev_scld dL_law_1134 rfl h (fun h => ?_)
    show Ev _ _ _ _ 1135 _ _ _ _ _
    refine ev_aloadS dL_law_1135 rfl ?_
    refine ev_iload_n dL_law_1136 rfl ?_
    refine ev_iconst dL_law_1137 (by decide) ?_
    refine ev_iadd dL_law_1138 ?_
    refine ev_scld dL_law_1139 rfl h (fun h => ?_)
    refine ev_aloadS dL_law_1140 rfl ?_
    refine ev_iload_n dL_law_1141 rfl ?_
    refine ev_iconst dL_law_1142 (by decide) ?_
    refine ev_iadd dL_law_1143 ?_
    refine ev_scld dL_law_1144 rfl h (fun h => ?_)
    obtain ⟨v101, hc102, h⟩ := bind_of h
    refine ev_invV_v (k := (0 : Int)) (av := [(0, ((xs ((jadd x3 (1 : Int))).toNat).toInt)), (0, ((xs ((jadd x3 (2 : Int))).toNat).toInt)), (0, ((xs ((jadd x3 (3 : Int))).toNat).toInt)), (0, ((xs ((jadd x3 (4 : Int))).toNat).toInt))]) (st := []) (v := (0, v101.1)) (τ := v101.2) dL_law_1145 ml_L_123 mv_X10_best (T := TX10) (ci := 9) rfl sp0 (by decide) (by decide) rfl ⟨Nat.le_of_ble_eq_true rfl, Nat.le_of_ble_eq_true rfl⟩ (Nat.le_of_ble_eq_true rfl) (c_X10_best hc102) ?_
    refine ev_aload_n dL_law_1148 rfl (by decide) ?_
    show Ev _ _ _ _ 1149 _ _ _ _ _
    refine ev_aloadS dL_law_1149 rfl ?_
    refine ev_iload_n dL_law_1150 rfl ?_
    refine ev_iconst dL_law_1151 (by decide) ?_
    refine ev_iadd dL_law_1152 ?_
    refine ev_scld dL_law_1153 rfl h (fun h => ?_)
    refine ev_aloadS dL_law_1154 rfl ?_
    refine ev_iload_n dL_law_1155 rfl ?_
    refine ev_iconst dL_law_1156 (by decide) ?_
    refine ev_iadd dL_law_1157 ?_
    refine ev_scld dL_law_1158 rfl h (fun h => ?_)
    refine ev_aloadS dL_law_1159 rfl ?_
    refine ev_iload_n dL_law_1160 rfl ?_
    show Ev _ _ _ _ 1161 _ _ _ _ _
    refine ev_iconst dL_law_1161 (by decide) ?_
    refine ev_iadd dL_law_1162 ?_
    refine ev_scld dL_law_1163 rfl h (fun h => ?_)
    refine ev_aloadS dL_law_1164 rfl ?_
    refine ev_iload_n dL_law_1165 rfl ?_
    refine ev_iconst dL_law_1166 (by decide) ?_
    refine ev_iadd dL_law_1167 ?_
    refine ev_scld dL_law_1168 rfl h (fun h => ?_)
    obtain ⟨v103, hc104, h⟩ := bind_of h
    refine ev_invV_v (k := (181 : Int)) (av := [(0, ((xs ((jadd x3 (1 : Int))).toNat).toInt)), (0, ((xs ((jadd x3 (2 : Int))).toNat).toInt)), (0, ((xs ((jadd x3 (3 : Int))).toNat).toInt)), (0, ((xs ((jadd x3 (4 : Int))).toNat).toInt))]) (st := [(0, v101.1)]) (v := (0, v103.1)) (τ := v103.2) dL_law_1169 ml_L_126 mv_X11_best (T := TX11) (ci := 10) rfl sp181 (by decide) (by decide) rfl ⟨Nat.le_of_ble_eq_true rfl, Nat.le_of_ble_eq_true rfl⟩ (Nat.le_of_ble_eq_true rfl) (c_X11_best hc104) ?_
    refine ev_icmp_eq (tgt := 1774) dL_law_1172 rfl h (fun cb h => ?_) (fun cb h => ?_)
    · exact ev_sub (L2 := [(3, (200000 : Int)), (2, (0 : Int)), (2, (181 : Int)), (0, x3)]) (e_L_law_1774 N xs hN v103.2 x3 h K) ⟨.inr rfl, .inr rfl, .inr rfl, .inr rfl, trivial⟩
    obtain rfl := Option.some.inj h
    exact ev_sub (L2 := [(9, 0), (9, 0), (9, 0), (9, 0)]) K ⟨.inl rfl, .inl rfl, .inl rfl, .inl rfl, trivial⟩
  refine ev_by h (fun cs h => ?_) (fun cs26 h => ?_)
  · refine ev_tswIn (off := 1144) (tgt := 1177) dL_law_33 (by rw [cs]; decide) (by rw [cs]; decide) (by rw [cs]; rfl) rfl ?_
    refine ev_aload_n dL_law_1177 rfl (by decide) ?_
    refine ev_aloadS dL_law_1178 rfl ?_
    refine ev_iload_n dL_law_1179 rfl ?_
    refine ev_iconst dL_law_1180 (by decide) ?_
    refine ev_iadd dL_law_1181 ?_
    refine ev_scld dL_law_1182 rfl h (fun h => ?_)
    refine ev_aloadS dL_law_1183 rfl ?_
    refine ev_iload_n dL_law_1184 rfl ?_
    refine ev_iconst dL_law_1185 (by decide) ?_
    refine ev_iadd dL_law_1186 ?_
    refine ev_scld dL_law_1187 rfl h (fun h => ?_)
    show Ev _ _ _ _ 1188 _ _ _ _ _
    obtain ⟨v105, hc106, h⟩ := bind_of h
    refine ev_invV_v (k := (0 : Int)) (av := [(0, ((xs ((jadd x3 (1 : Int))).toNat).toInt)), (0, ((xs ((jadd x3 (2 : Int))).toNat).toInt))]) (st := []) (v := (0, v105.1)) (τ := v105.2) dL_law_1188 ml_L_127 mv_X10_lawful (T := TX10) (ci := 9) rfl sp0 (by decide) (by decide) rfl ⟨Nat.le_of_ble_eq_true rfl, Nat.le_of_ble_eq_true rfl⟩ (Nat.le_of_ble_eq_true rfl) (c_X10_lawful hc106) ?_
    refine ev_aload_n dL_law_1191 rfl (by decide) ?_
    refine ev_aloadS dL_law_1192 rfl ?_
    refine ev_iload_n dL_law_1193 rfl ?_
    refine ev_iconst dL_law_1194 (by decide) ?_
    refine ev_iadd dL_law_1195 ?_
    refine ev_scld dL_law_1196 rfl h (fun h => ?_)
    refine ev_aloadS dL_law_1197 rfl ?_
    refine ev_iload_n dL_law_1198 rfl ?_
    refine ev_iconst dL_law_1199 (by decide) ?_
    refine ev_iadd dL_law_1200 ?_
    refine ev_scld dL_law_1201 rfl h (fun h => ?_)
    show Ev _ _ _ _ 1202 _ _ _ _ _
    obtain ⟨v107, hc108, h⟩ := bind_of h
    refine ev_invV_v (k := (181 : Int)) (av := [(0, ((xs ((jadd x3 (1 : Int))).toNat).toInt)), (0, ((xs ((jadd x3 (2 : Int))).toNat).toInt))]) (st := [(0, v105.1)]) (v := (0, v107.1)) (τ := v107.2) dL_law_1202 ml_L_130 mv_X11_lawful (T := TX11) (ci := 10) rfl sp181 (by decide) (by decide) rfl ⟨Nat.le_of_ble_eq_true rfl, Nat.le_of_ble_eq_true rfl⟩ (Nat.le_of_ble_eq_true rfl) (c_X11_lawful hc108) ?_
    refine ev_icmp_eq (tgt := 1774) dL_law_1205 rfl h (fun cb h => ?_) (fun cb h => ?_)
    · exact ev_sub (L2 := [(3, (200000 : Int)), (2, (0 : Int)), (2, (181 : Int)), (0, x3)]) (e_L_law_1774 N xs hN v107.2 x3 h K) ⟨.inr rfl, .inr rfl, .inr rfl, .inr rfl, trivial⟩
    obtain rfl := Option.some.inj h
    exact ev_sub (L2 := [(9, 0), (9, 0), (9, 0), (9, 0)]) K ⟨.inl rfl, .inl rfl, .inl rfl, .inl rfl, trivial⟩
  refine ev_by h (fun cs h => ?_) (fun cs27 h => ?_)
  · refine ev_tswIn (off := 1177) (tgt := 1210) dL_law_33 (by rw [cs]; decide) (by rw [cs]; decide) (by rw [cs]; rfl) rfl ?_
    refine ev_aload_n dL_law_1210 rfl (by decide) ?_
    refine ev_aloadS dL_law_1211 rfl ?_
    refine ev_iload_n dL_law_1212 rfl ?_
    refine ev_iconst dL_law_1213 (by decide) ?_
    refine ev_iadd dL_law_1214 ?_
    refine ev_scld dL_law_1215 rfl h (fun h => ?_)
    obtain ⟨v109, hc110, h⟩ := bind_of h
    refine ev_invV_v (k := (0 : Int)) (av := [(0, ((xs ((jadd x3 (1 : Int))).toNat).toInt))]) (st := []) (v := (0, v109.1)) (τ := v109.2) dL_law_1216 ml_L_131 mv_X10_watch (T := TX10) (ci := 9) rfl sp0 (by decide) (by decide) rfl ⟨Nat.le_of_ble_eq_true rfl, Nat.le_of_ble_eq_true rfl⟩ (Nat.le_of_ble_eq_true rfl) (c_X10_watch hc110) ?_
    refine ev_aload_n dL_law_1219 rfl (by decide) ?_
    refine ev_aloadS dL_law_1220 rfl ?_
    refine ev_iload_n dL_law_1221 rfl ?_
    refine ev_iconst dL_law_1222 (by decide) ?_
    show Ev _ _ _ _ 1223 _ _ _ _ _
    refine ev_iadd dL_law_1223 ?_
    refine ev_scld dL_law_1224 rfl h (fun h => ?_)
    obtain ⟨v111, hc112, h⟩ := bind_of h
    refine ev_invV_v (k := (181 : Int)) (av := [(0, ((xs ((jadd x3 (1 : Int))).toNat).toInt))]) (st := [(0, v109.1)]) (v := (0, v111.1)) (τ := v111.2) dL_law_1225 ml_L_134 mv_X11_watch (T := TX11) (ci := 10) rfl sp181 (by decide) (by decide) rfl ⟨Nat.le_of_ble_eq_true rfl, Nat.le_of_ble_eq_true rfl⟩ (Nat.le_of_ble_eq_true rfl) (c_X11_watch hc112) ?_
    refine ev_icmp_eq (tgt := 1774) dL_law_1228 rfl h (fun cb h => ?_) (fun cb h => ?_)
    · exact ev_sub (L2 := [(3, (200000 : Int)), (2, (0 : Int)), (2, (181 : Int)), (0, x3)]) (e_L_law_1774 N xs hN v111.2 x3 h K) ⟨.inr rfl, .inr rfl, .inr rfl, .inr rfl, trivial⟩
    obtain rfl := Option.some.inj h
    exact ev_sub (L2 := [(9, 0), (9, 0), (9, 0), (9, 0)]) K ⟨.inl rfl, .inl rfl, .inl rfl, .inl rfl, trivial⟩
  refine ev_by h (fun cs h => ?_) (fun cs28 h => ?_)
  · refine ev_tswIn (off := 1200) (tgt := 1233) dL_law_33 (by rw [cs]; decide) (by rw [cs]; decide) (by rw [cs]; rfl) rfl ?_
    refine ev_aload_n dL_law_1233 rfl (by decide) ?_
    refine ev_aloadS dL_law_1234 rfl ?_
    refine ev_iload_n dL_law_1235 rfl ?_
    refine ev_iconst dL_law_1236 (by decide) ?_
    refine ev_iadd dL_law_1237 ?_
    refine ev_scld dL_law_1238 rfl h (fun h => ?_)
    refine ev_aloadS dL_law_1239 rfl ?_
    refine ev_iload_n dL_law_1240 rfl ?_
    refine ev_iconst dL_law_1241 (by decide) ?_
    refine ev_iadd dL_law_1242 ?_
    refine ev_scld dL_law_1243 rfl h (fun h => ?_)
    show Ev _ _ _ _ 1244 _ _ _ _ _
    obtain ⟨v113, hc114, h⟩ := bind_of h
    refine ev_invV_v (k := (0 : Int)) (av := [(0, ((xs ((jadd x3 (1 : Int))).toNat).toInt)), (0, ((xs ((jadd x3 (2 : Int))).toNat).toInt))]) (st := []) (v := (0, v113.1)) (τ := v113.2) dL_law_1244 ml_L_135 mv_X10_duty (T := TX10) (ci := 9) rfl sp0 (by decide) (by decide) rfl ⟨Nat.le_of_ble_eq_true rfl, Nat.le_of_ble_eq_true rfl⟩ (Nat.le_of_ble_eq_true rfl) (c_X10_duty hc114) ?_
    refine ev_aload_n dL_law_1247 rfl (by decide) ?_
    refine ev_aloadS dL_law_1248 rfl ?_
    refine ev_iload_n dL_law_1249 rfl ?_
    refine ev_iconst dL_law_1250 (by decide) ?_
    refine ev_iadd dL_law_1251 ?_
    refine ev_scld dL_law_1252 rfl h (fun h => ?_)
    refine ev_aloadS dL_law_1253 rfl ?_
    refine ev_iload_n dL_law_1254 rfl ?_
    refine ev_iconst dL_law_1255 (by decide) ?_
    refine ev_iadd dL_law_1256 ?_
    refine ev_scld dL_law_1257 rfl h (fun h => ?_)
    show Ev _ _ _ _ 1258 _ _ _ _ _
    obtain ⟨v115, hc116, h⟩ := bind_of h
    refine ev_invV_v (k := (181 : Int)) (av := [(0, ((xs ((jadd x3 (1 : Int))).toNat).toInt)), (0, ((xs ((jadd x3 (2 : Int))).toNat).toInt))]) (st := [(0, v113.1)]) (v := (0, v115.1)) (τ := v115.2) dL_law_1258 ml_L_138 mv_X11_duty (T := TX11) (ci := 10) rfl sp181 (by decide) (by decide) rfl ⟨Nat.le_of_ble_eq_true rfl, Nat.le_of_ble_eq_true rfl⟩ (Nat.le_of_ble_eq_true rfl) (c_X11_duty hc116) ?_
    refine ev_icmp_eq (tgt := 1774) dL_law_1261 rfl h (fun cb h => ?_) (fun cb h => ?_)
    · exact ev_sub (L2 := [(3, (200000 : Int)), (2, (0 : Int)), (2, (181 : Int)), (0, x3)]) (e_L_law_1774 N xs hN v115.2 x3 h K) ⟨.inr rfl, .inr rfl, .inr rfl, .inr rfl, trivial⟩
    obtain rfl := Option.some.inj h
    exact ev_sub (L2 := [(9, 0), (9, 0), (9, 0), (9, 0)]) K ⟨.inl rfl, .inl rfl, .inl rfl, .inl rfl, trivial⟩
  refine ev_by h (fun cs h => ?_) (fun cs29 h => ?_)
  · refine ev_tswIn (off := 1233) (tgt := 1266) dL_law_33 (by rw [cs]; decide) (by rw [cs]; decide) (by rw [cs]; rfl) rfl ?_
    refine ev_aload_n dL_law_1266 rfl (by decide) ?_
    refine ev_aloadS dL_law_1267 rfl ?_
    refine ev_iload_n dL_law_1268 rfl ?_
    refine ev_iconst dL_law_1269 (by decide) ?_
    refine ev_iadd dL_law_1270 ?_
    refine ev_scld dL_law_1271 rfl h (fun h => ?_)
    refine ev_aloadS dL_law_1272 rfl ?_
    refine ev_iload_n dL_law_1273 rfl ?_
    refine ev_iconst dL_law_1274 (by decide) ?_
    refine ev_iadd dL_law_1275 ?_
    refine ev_scld dL_law_1276 rfl h (fun h => ?_)
    show Ev _ _ _ _ 1277 _ _ _ _ _
    refine ev_aloadS dL_law_1277 rfl ?_
    refine ev_iload_n dL_law_1278 rfl ?_
    refine ev_iconst dL_law_1279 (by decide) ?_
    refine ev_iadd dL_law_1280 ?_
    refine ev_scld dL_law_1281 rfl h (fun h => ?_)
    obtain ⟨v117, hc118, h⟩ := bind_of h
    refine ev_invV_v (k := (0 : Int)) (av := [(0, ((xs ((jadd x3 (1 : Int))).toNat).toInt)), (0, ((xs ((jadd x3 (2 : Int))).toNat).toInt)), (0, ((xs ((jadd x3 (3 : Int))).toNat).toInt))]) (st := []) (v := (0, v117.1)) (τ := v117.2) dL_law_1282 ml_L_139 mv_X10_pieces (T := TX10) (ci := 9) rfl sp0 (by decide) (by decide) rfl ⟨Nat.le_of_ble_eq_true rfl, Nat.le_of_ble_eq_true rfl⟩ (Nat.le_of_ble_eq_true rfl) (c_X10_pieces hc118) ?_
    refine ev_aload_n dL_law_1285 rfl (by decide) ?_
    refine ev_aloadS dL_law_1286 rfl ?_
    refine ev_iload_n dL_law_1287 rfl ?_
    refine ev_iconst dL_law_1288 (by decide) ?_
    refine ev_iadd dL_law_1289 ?_
    refine ev_scld dL_law_1290 rfl h (fun h => ?_)
    show Ev _ _ _ _ 1291 _ _ _ _ _
    refine ev_aloadS dL_law_1291 rfl ?_
    refine ev_iload_n dL_law_1292 rfl ?_
    refine ev_iconst dL_law_1293 (by decide) ?_
    refine ev_iadd dL_law_1294 ?_
    refine ev_scld dL_law_1295 rfl h (fun h => ?_)
    refine ev_aloadS dL_law_1296 rfl ?_
    refine ev_iload_n dL_law_1297 rfl ?_
    refine ev_iconst dL_law_1298 (by decide) ?_
    refine ev_iadd dL_law_1299 ?_
    refine ev_scld dL_law_1300 rfl h (fun h => ?_)
    obtain ⟨v119, hc120, h⟩ := bind_of h
    refine ev_invV_v (k := (181 : Int)) (av := [(0, ((xs ((jadd x3 (1 : Int))).toNat).toInt)), (0, ((xs ((jadd x3 (2 : Int))).toNat).toInt)), (0, ((xs ((jadd x3 (3 : Int))).toNat).toInt))]) (st := [(0, v117.1)]) (v := (0, v119.1)) (τ := v119.2) dL_law_1301 ml_L_142 mv_X11_pieces (T := TX11) (ci := 10) rfl sp181 (by decide) (by decide) rfl ⟨Nat.le_of_ble_eq_true rfl, Nat.le_of_ble_eq_true rfl⟩ (Nat.le_of_ble_eq_true rfl) (c_X11_pieces hc120) ?_
    refine ev_icmp_eq (tgt := 1774) dL_law_1304 rfl h (fun cb h => ?_) (fun cb h => ?_)
    · exact ev_sub (L2 := [(3, (200000 : Int)), (2, (0 : Int)), (2, (181 : Int)), (0, x3)]) (e_L_law_1774 N xs hN v119.2 x3 h K) ⟨.inr rfl, .inr rfl, .inr rfl, .inr rfl, trivial⟩
    obtain rfl := Option.some.inj h
    exact ev_sub (L2 := [(9, 0), (9, 0), (9, 0), (9, 0)]) K ⟨.inl rfl, .inl rfl, .inl rfl, .inl rfl, trivial⟩
  refine ev_by h (fun cs h => ?_) (fun cs30 h => ?_)
  · refine ev_tswIn (off := 1276) (tgt := 1309) dL_law_33 (by rw [cs]; decide) (by rw [cs]; decide) (by rw [cs]; rfl) rfl ?_
    refine ev_aload_n dL_law_1309 rfl (by decide) ?_
    refine ev_aloadS dL_law_1310 rfl ?_
    refine ev_iload_n dL_law_1311 rfl ?_
    refine ev_iconst dL_law_1312 (by decide) ?_
    refine ev_iadd dL_law_1313 ?_
    refine ev_scld dL_law_1314 rfl h (fun h => ?_)
    refine ev_aloadS dL_law_1315 rfl ?_
    refine ev_iload_n dL_law_1316 rfl ?_
    refine ev_iconst dL_law_1317 (by decide) ?_
    refine ev_iadd dL_law_1318 ?_
    refine ev_scld dL_law_1319 rfl h (fun h => ?_)
    show Ev _ _ _ _ 1320 _ _ _ _ _
    refine ev_aloadS dL_law_1320 rfl ?_
    refine ev_iload_n dL_law_1321 rfl ?_
    refine ev_iconst dL_law_1322 (by decide) ?_
    refine ev_iadd dL_law_1323 ?_
    refine ev_scld dL_law_1324 rfl h (fun h => ?_)
    obtain ⟨v121, hc122, h⟩ := bind_of h
    refine ev_invV_v (k := (0 : Int)) (av := [(0, ((xs ((jadd x3 (1 : Int))).toNat).toInt)), (0, ((xs ((jadd x3 (2 : Int))).toNat).toInt)), (0, ((xs ((jadd x3 (3 : Int))).toNat).toInt))]) (st := []) (v := (0, v121.1)) (τ := v121.2) dL_law_1325 ml_L_143 mv_X10_roomOf (T := TX10) (ci := 9) rfl sp0 (by decide) (by decide) rfl ⟨Nat.le_of_ble_eq_true rfl, Nat.le_of_ble_eq_true rfl⟩ (Nat.le_of_ble_eq_true rfl) (c_X10_roomOf hc122) ?_
    refine ev_aload_n dL_law_1328 rfl (by decide) ?_
    refine ev_aloadS dL_law_1329 rfl ?_
    refine ev_iload_n dL_law_1330 rfl ?_
    refine ev_iconst dL_law_1331 (by decide) ?_
    refine ev_iadd dL_law_1332 ?_
    refine ev_scld dL_law_1333 rfl h (fun h => ?_)
    show Ev _ _ _ _ 1334 _ _ _ _ _
    refine ev_aloadS dL_law_1334 rfl ?_
    refine ev_iload_n dL_law_1335 rfl ?_
    refine ev_iconst dL_law_1336 (by decide) ?_
    refine ev_iadd dL_law_1337 ?_
    refine ev_scld dL_law_1338 rfl h (fun h => ?_)
    refine ev_aloadS dL_law_1339 rfl ?_
    refine ev_iload_n dL_law_1340 rfl ?_
    refine ev_iconst dL_law_1341 (by decide) ?_
    refine ev_iadd dL_law_1342 ?_
    refine ev_scld dL_law_1343 rfl h (fun h => ?_)
    obtain ⟨v123, hc124, h⟩ := bind_of h
    refine ev_invV_v (k := (181 : Int)) (av := [(0, ((xs ((jadd x3 (1 : Int))).toNat).toInt)), (0, ((xs ((jadd x3 (2 : Int))).toNat).toInt)), (0, ((xs ((jadd x3 (3 : Int))).toNat).toInt))]) (st := [(0, v121.1)]) (v := (0, v123.1)) (τ := v123.2) dL_law_1344 ml_L_146 mv_X11_roomOf (T := TX11) (ci := 10) rfl sp181 (by decide) (by decide) rfl ⟨Nat.le_of_ble_eq_true rfl, Nat.le_of_ble_eq_true rfl⟩ (Nat.le_of_ble_eq_true rfl) (c_X11_roomOf hc124) ?_
    refine ev_icmp_eq (tgt := 1774) dL_law_1347 rfl h (fun cb h => ?_) (fun cb h => ?_)
    · exact ev_sub (L2 := [(3, (200000 : Int)), (2, (0 : Int)), (2, (181 : Int)), (0, x3)]) (e_L_law_1774 N xs hN v123.2 x3 h K) ⟨.inr rfl, .inr rfl, .inr rfl, .inr rfl, trivial⟩
    obtain rfl := Option.some.inj h
    exact ev_sub (L2 := [(9, 0), (9, 0), (9, 0), (9, 0)]) K ⟨.inl rfl, .inl rfl, .inl rfl, .inl rfl, trivial⟩
  refine ev_by h (fun cs h => ?_) (fun cs31 h => ?_)
  · refine ev_tswIn (off := 1319) (tgt := 1352) dL_law_33 (by rw [cs]; decide) (by rw [cs]; decide) (by rw [cs]; rfl) rfl ?_
    refine ev_aload_n dL_law_1352 rfl (by decide) ?_
    refine ev_aloadS dL_law_1353 rfl ?_
    refine ev_iload_n dL_law_1354 rfl ?_
    refine ev_iconst dL_law_1355 (by decide) ?_
    refine ev_iadd dL_law_1356 ?_
    refine ev_scld dL_law_1357 rfl h (fun h => ?_)
    refine ev_aloadS dL_law_1358 rfl ?_
    refine ev_iload_n dL_law_1359 rfl ?_
    refine ev_iconst dL_law_1360 (by decide) ?_
    refine ev_iadd dL_law_1361 ?_
    refine ev_scld dL_law_1362 rfl h (fun h => ?_)
    show Ev _ _ _ _ 1363 _ _ _ _ _
    refine ev_aloadS dL_law_1363 rfl ?_
    refine ev_iload_n dL_law_1364 rfl ?_
    refine ev_iconst dL_law_1365 (by decide) ?_
    refine ev_iadd dL_law_1366 ?_
    refine ev_scld dL_law_1367 rfl h (fun h => ?_)
    obtain ⟨v125, hc126, h⟩ := bind_of h
    refine ev_invV_v (k := (0 : Int)) (av := [(0, ((xs ((jadd x3 (1 : Int))).toNat).toInt)), (0, ((xs ((jadd x3 (2 : Int))).toNat).toInt)), (0, ((xs ((jadd x3 (3 : Int))).toNat).toInt))]) (st := []) (v := (0, v125.1)) (τ := v125.2) dL_law_1368 ml_L_147 mv_X10_left (T := TX10) (ci := 9) rfl sp0 (by decide) (by decide) rfl ⟨Nat.le_of_ble_eq_true rfl, Nat.le_of_ble_eq_true rfl⟩ (Nat.le_of_ble_eq_true rfl) (c_X10_left hc126) ?_
    refine ev_aload_n dL_law_1371 rfl (by decide) ?_
    refine ev_aloadS dL_law_1372 rfl ?_
    refine ev_iload_n dL_law_1373 rfl ?_
    refine ev_iconst dL_law_1374 (by decide) ?_
    refine ev_iadd dL_law_1375 ?_
    refine ev_scld dL_law_1376 rfl h (fun h => ?_)
    show Ev _ _ _ _ 1377 _ _ _ _ _
    refine ev_aloadS dL_law_1377 rfl ?_
    refine ev_iload_n dL_law_1378 rfl ?_
    refine ev_iconst dL_law_1379 (by decide) ?_
    refine ev_iadd dL_law_1380 ?_
    refine ev_scld dL_law_1381 rfl h (fun h => ?_)
    refine ev_aloadS dL_law_1382 rfl ?_
    refine ev_iload_n dL_law_1383 rfl ?_
    refine ev_iconst dL_law_1384 (by decide) ?_
    refine ev_iadd dL_law_1385 ?_
    refine ev_scld dL_law_1386 rfl h (fun h => ?_)
    obtain ⟨v127, hc128, h⟩ := bind_of h
    refine ev_invV_v (k := (181 : Int)) (av := [(0, ((xs ((jadd x3 (1 : Int))).toNat).toInt)), (0, ((xs ((jadd x3 (2 : Int))).toNat).toInt)), (0, ((xs ((jadd x3 (3 : Int))).toNat).toInt))]) (st := [(0, v125.1)]) (v := (0, v127.1)) (τ := v127.2) dL_law_1387 ml_L_150 mv_X11_left (T := TX11) (ci := 10) rfl sp181 (by decide) (by decide) rfl ⟨Nat.le_of_ble_eq_true rfl, Nat.le_of_ble_eq_true rfl⟩ (Nat.le_of_ble_eq_true rfl) (c_X11_left hc128) ?_
    refine ev_icmp_eq (tgt := 1774) dL_law_1390 rfl h (fun cb h => ?_) (fun cb h => ?_)
    · exact ev_sub (L2 := [(3, (200000 : Int)), (2, (0 : Int)), (2, (181 : Int)), (0, x3)]) (e_L_law_1774 N xs hN v127.2 x3 h K) ⟨.inr rfl, .inr rfl, .inr rfl, .inr rfl, trivial⟩
    obtain rfl := Option.some.inj h
    exact ev_sub (L2 := [(9, 0), (9, 0), (9, 0), (9, 0)]) K ⟨.inl rfl, .inl rfl, .inl rfl, .inl rfl, trivial⟩
  refine ev_by h (fun cs h => ?_) (fun cs32 h => ?_)
  · refine ev_tswIn (off := 1362) (tgt := 1395) dL_law_33 (by rw [cs]; decide) (by rw [cs]; decide) (by rw [cs]; rfl) rfl ?_
    refine ev_aload_n dL_law_1395 rfl (by decide) ?_
    refine ev_aloadS dL_law_1396 rfl ?_
    refine ev_iload_n dL_law_1397 rfl ?_
    refine ev_iconst dL_law_1398 (by decide) ?_
    refine ev_iadd dL_law_1399 ?_
    refine ev_scld dL_law_1400 rfl h (fun h => ?_)
    refine ev_aloadS dL_law_1401 rfl ?_
    refine ev_iload_n dL_law_1402 rfl ?_
    refine ev_iconst dL_law_1403 (by decide) ?_
    refine ev_iadd dL_law_1404 ?_
    refine ev_scld dL_law_1405 rfl h (fun h => ?_)
    show Ev _ _ _ _ 1406 _ _ _ _ _
    obtain ⟨v129, hc130, h⟩ := bind_of h
    refine ev_invV_v (k := (0 : Int)) (av := [(0, ((xs ((jadd x3 (1 : Int))).toNat).toInt)), (0, ((xs ((jadd x3 (2 : Int))).toNat).toInt))]) (st := []) (v := (0, v129.1)) (τ := v129.2) dL_law_1406 ml_L_151 mv_X10_whatIf (T := TX10) (ci := 9) rfl sp0 (by decide) (by decide) rfl ⟨Nat.le_of_ble_eq_true rfl, Nat.le_of_ble_eq_true rfl⟩ (Nat.le_of_ble_eq_true rfl) (c_X10_whatIf hc130) ?_
    refine ev_aload_n dL_law_1409 rfl (by decide) ?_
    refine ev_aloadS dL_law_1410 rfl ?_
    refine ev_iload_n dL_law_1411 rfl ?_
    refine ev_iconst dL_law_1412 (by decide) ?_
    refine ev_iadd dL_law_1413 ?_
    refine ev_scld dL_law_1414 rfl h (fun h => ?_)
    refine ev_aloadS dL_law_1415 rfl ?_
    refine ev_iload_n dL_law_1416 rfl ?_
    refine ev_iconst dL_law_1417 (by decide) ?_
    refine ev_iadd dL_law_1418 ?_
    refine ev_scld dL_law_1419 rfl h (fun h => ?_)
    show Ev _ _ _ _ 1420 _ _ _ _ _
    obtain ⟨v131, hc132, h⟩ := bind_of h
    refine ev_invV_v (k := (181 : Int)) (av := [(0, ((xs ((jadd x3 (1 : Int))).toNat).toInt)), (0, ((xs ((jadd x3 (2 : Int))).toNat).toInt))]) (st := [(0, v129.1)]) (v := (0, v131.1)) (τ := v131.2) dL_law_1420 ml_L_154 mv_X11_whatIf (T := TX11) (ci := 10) rfl sp181 (by decide) (by decide) rfl ⟨Nat.le_of_ble_eq_true rfl, Nat.le_of_ble_eq_true rfl⟩ (Nat.le_of_ble_eq_true rfl) (c_X11_whatIf hc132) ?_
    refine ev_icmp_eq (tgt := 1774) dL_law_1423 rfl h (fun cb h => ?_) (fun cb h => ?_)
    · exact ev_sub (L2 := [(3, (200000 : Int)), (2, (0 : Int)), (2, (181 : Int)), (0, x3)]) (e_L_law_1774 N xs hN v131.2 x3 h K) ⟨.inr rfl, .inr rfl, .inr rfl, .inr rfl, trivial⟩
    obtain rfl := Option.some.inj h
    exact ev_sub (L2 := [(9, 0), (9, 0), (9, 0), (9, 0)]) K ⟨.inl rfl, .inl rfl, .inl rfl, .inl rfl, trivial⟩
  refine ev_by h (fun cs h => ?_) (fun cs33 h => ?_)
  · refine ev_tswIn (off := 1395) (tgt := 1428) dL_law_33 (by rw [cs]; decide) (by rw [cs]; decide) (by rw [cs]; rfl) rfl ?_
    refine ev_aload_n dL_law_1428 rfl (by decide) ?_
    refine ev_aloadS dL_law_1429 rfl ?_
    refine ev_iload_n dL_law_1430 rfl ?_
    refine ev_iconst dL_law_1431 (by decide) ?_
    refine ev_iadd dL_law_1432 ?_
    refine ev_scld dL_law_1433 rfl h (fun h => ?_)
    refine ev_aloadS dL_law_1434 rfl ?_
    refine ev_iload_n dL_law_1435 rfl ?_
    refine ev_iconst dL_law_1436 (by decide) ?_
    refine ev_iadd dL_law_1437 ?_
    refine ev_scld dL_law_1438 rfl h (fun h => ?_)
    show Ev _ _ _ _ 1439 _ _ _ _ _
    refine ev_aloadS dL_law_1439 rfl ?_
    refine ev_iload_n dL_law_1440 rfl ?_
    refine ev_iconst dL_law_1441 (by decide) ?_
    refine ev_iadd dL_law_1442 ?_
    refine ev_scld dL_law_1443 rfl h (fun h => ?_)
    obtain ⟨v133, hc134, h⟩ := bind_of h
    refine ev_invV_v (k := (0 : Int)) (av := [(0, ((xs ((jadd x3 (1 : Int))).toNat).toInt)), (0, ((xs ((jadd x3 (2 : Int))).toNat).toInt)), (0, ((xs ((jadd x3 (3 : Int))).toNat).toInt))]) (st := []) (v := (0, v133.1)) (τ := v133.2) dL_law_1444 ml_L_155 mv_X10_both (T := TX10) (ci := 9) rfl sp0 (by decide) (by decide) rfl ⟨Nat.le_of_ble_eq_true rfl, Nat.le_of_ble_eq_true rfl⟩ (Nat.le_of_ble_eq_true rfl) (c_X10_both hc134) ?_
    refine ev_aload_n dL_law_1447 rfl (by decide) ?_
    refine ev_aloadS dL_law_1448 rfl ?_
    refine ev_iload_n dL_law_1449 rfl ?_
    refine ev_iconst dL_law_1450 (by decide) ?_
    refine ev_iadd dL_law_1451 ?_
    refine ev_scld dL_law_1452 rfl h (fun h => ?_)
    show Ev _ _ _ _ 1453 _ _ _ _ _
    refine ev_aloadS dL_law_1453 rfl ?_
    refine ev_iload_n dL_law_1454 rfl ?_
    refine ev_iconst dL_law_1455 (by decide) ?_
    refine ev_iadd dL_law_1456 ?_
    refine ev_scld dL_law_1457 rfl h (fun h => ?_)
    refine ev_aloadS dL_law_1458 rfl ?_
    refine ev_iload_n dL_law_1459 rfl ?_
    refine ev_iconst dL_law_1460 (by decide) ?_
    refine ev_iadd dL_law_1461 ?_
    refine ev_scld dL_law_1462 rfl h (fun h => ?_)
    obtain ⟨v135, hc136, h⟩ := bind_of h
    refine ev_invV_v (k := (181 : Int)) (av := [(0, ((xs ((jadd x3 (1 : Int))).toNat).toInt)), (0, ((xs ((jadd x3 (2 : Int))).toNat).toInt)), (0, ((xs ((jadd x3 (3 : Int))).toNat).toInt))]) (st := [(0, v133.1)]) (v := (0, v135.1)) (τ := v135.2) dL_law_1463 ml_L_158 mv_X11_both (T := TX11) (ci := 10) rfl sp181 (by decide) (by decide) rfl ⟨Nat.le_of_ble_eq_true rfl, Nat.le_of_ble_eq_true rfl⟩ (Nat.le_of_ble_eq_true rfl) (c_X11_both hc136) ?_
    refine ev_icmp_eq (tgt := 1774) dL_law_1466 rfl h (fun cb h => ?_) (fun cb h => ?_)
    · exact ev_sub (L2 := [(3, (200000 : Int)), (2, (0 : Int)), (2, (181 : Int)), (0, x3)]) (e_L_law_1774 N xs hN v135.2 x3 h K) ⟨.inr rfl, .inr rfl, .inr rfl, .inr rfl, trivial⟩
    obtain rfl := Option.some.inj h
    exact ev_sub (L2 := [(9, 0), (9, 0), (9, 0), (9, 0)]) K ⟨.inl rfl, .inl rfl, .inl rfl, .inl rfl, trivial⟩
  refine ev_by h (fun cs h => ?_) (fun cs34 h => ?_)
  · refine ev_tswIn (off := 1438) (tgt := 1471) dL_law_33 (by rw [cs]; decide) (by rw [cs]; decide) (by rw [cs]; rfl) rfl ?_
    refine ev_aload_n dL_law_1471 rfl (by decide) ?_
    refine ev_aloadS dL_law_1472 rfl ?_
    refine ev_iload_n dL_law_1473 rfl ?_
    refine ev_iconst dL_law_1474 (by decide) ?_
    refine ev_iadd dL_law_1475 ?_
    refine ev_scld dL_law_1476 rfl h (fun h => ?_)
    obtain ⟨v137, hc138, h⟩ := bind_of h
    refine ev_invV_v (k := (0 : Int)) (av := [(0, ((xs ((jadd x3 (1 : Int))).toNat).toInt))]) (st := []) (v := (0, v137.1)) (τ := v137.2) dL_law_1477 ml_L_159 mv_X10_relief (T := TX10) (ci := 9) rfl sp0 (by decide) (by decide) rfl ⟨Nat.le_of_ble_eq_true rfl, Nat.le_of_ble_eq_true rfl⟩ (Nat.le_of_ble_eq_true rfl) (c_X10_relief hc138) ?_
    refine ev_aload_n dL_law_1480 rfl (by decide) ?_
    refine ev_aloadS dL_law_1481 rfl ?_
    refine ev_iload_n dL_law_1482 rfl ?_
    refine ev_iconst dL_law_1483 (by decide) ?_
    show Ev _ _ _ _ 1484 _ _ _ _ _
    refine ev_iadd dL_law_1484 ?_
    refine ev_scld dL_law_1485 rfl h (fun h => ?_)
    obtain ⟨v139, hc140, h⟩ := bind_of h
    refine ev_invV_v (k := (181 : Int)) (av := [(0, ((xs ((jadd x3 (1 : Int))).toNat).toInt))]) (st := [(0, v137.1)]) (v := (0, v139.1)) (τ := v139.2) dL_law_1486 ml_L_162 mv_X11_relief (T := TX11) (ci := 10) rfl sp181 (by decide) (by decide) rfl ⟨Nat.le_of_ble_eq_true rfl, Nat.le_of_ble_eq_true rfl⟩ (Nat.le_of_ble_eq_true rfl) (c_X11_relief hc140) ?_
    refine ev_icmp_eq (tgt := 1774) dL_law_1489 rfl h (fun cb h => ?_) (fun cb h => ?_)
    · exact ev_sub (L2 := [(3, (200000 : Int)), (2, (0 : Int)), (2, (181 : Int)), (0, x3)]) (e_L_law_1774 N xs hN v139.2 x3 h K) ⟨.inr rfl, .inr rfl, .inr rfl, .inr rfl, trivial⟩
    obtain rfl := Option.some.inj h
    exact ev_sub (L2 := [(9, 0), (9, 0), (9, 0), (9, 0)]) K ⟨.inl rfl, .inl rfl, .inl rfl, .inl rfl, trivial⟩
  refine ev_by h (fun cs h => ?_) (fun cs35 h => ?_)
  · refine ev_tswIn (off := 1461) (tgt := 1494) dL_law_33 (by rw [cs]; decide) (by rw [cs]; decide) (by rw [cs]; rfl) rfl ?_
    refine ev_aload_n dL_law_1494 rfl (by decide) ?_
    refine ev_aloadS dL_law_1495 rfl ?_
    refine ev_iload_n dL_law_1496 rfl ?_
    refine ev_iconst dL_law_1497 (by decide) ?_
    refine ev_iadd dL_law_1498 ?_
    refine ev_scld dL_law_1499 rfl h (fun h => ?_)
    obtain ⟨v141, hc142, h⟩ := bind_of h
    refine ev_invV_v (k := (0 : Int)) (av := [(0, ((xs ((jadd x3 (1 : Int))).toNat).toInt))]) (st := []) (v := (0, v141.1)) (τ := v141.2) dL_law_1500 ml_L_163 mv_X10_retime (T := TX10) (ci := 9) rfl sp0 (by decide) (by decide) rfl ⟨Nat.le_of_ble_eq_true rfl, Nat.le_of_ble_eq_true rfl⟩ (Nat.le_of_ble_eq_true rfl) (c_X10_retime hc142) ?_
    refine ev_aload_n dL_law_1503 rfl (by decide) ?_
    refine ev_aloadS dL_law_1504 rfl ?_
    refine ev_iload_n dL_law_1505 rfl ?_
    refine ev_iconst dL_law_1506 (by decide) ?_
    show Ev _ _ _ _ 1507 _ _ _ _ _
    refine ev_iadd dL_law_1507 ?_
    refine ev_scld dL_law_1508 rfl h (fun h => ?_)
    obtain ⟨v143, hc144, h⟩ := bind_of h
    refine ev_invV_v (k := (181 : Int)) (av := [(0, ((xs ((jadd x3 (1 : Int))).toNat).toInt))]) (st := [(0, v141.1)]) (v := (0, v143.1)) (τ := v143.2) dL_law_1509 ml_L_166 mv_X11_retime (T := TX11) (ci := 10) rfl sp181 (by decide) (by decide) rfl ⟨Nat.le_of_ble_eq_true rfl, Nat.le_of_ble_eq_true rfl⟩ (Nat.le_of_ble_eq_true rfl) (c_X11_retime hc144) ?_
    refine ev_icmp_eq (tgt := 1774) dL_law_1512 rfl h (fun cb h => ?_) (fun cb h => ?_)
    · exact ev_sub (L2 := [(3, (200000 : Int)), (2, (0 : Int)), (2, (181 : Int)), (0, x3)]) (e_L_law_1774 N xs hN v143.2 x3 h K) ⟨.inr rfl, .inr rfl, .inr rfl, .inr rfl, trivial⟩
    obtain rfl := Option.some.inj h
    exact ev_sub (L2 := [(9, 0), (9, 0), (9, 0), (9, 0)]) K ⟨.inl rfl, .inl rfl, .inl rfl, .inl rfl, trivial⟩
  refine ev_by h (fun cs h => ?_) (fun cs36 h => ?_)
  · refine ev_tswIn (off := 1484) (tgt := 1517) dL_law_33 (by rw [cs]; decide) (by rw [cs]; decide) (by rw [cs]; rfl) rfl ?_
    refine ev_aload_n dL_law_1517 rfl (by decide) ?_
    refine ev_aloadS dL_law_1518 rfl ?_
    refine ev_iload_n dL_law_1519 rfl ?_
    refine ev_iconst dL_law_1520 (by decide) ?_
    refine ev_iadd dL_law_1521 ?_
    refine ev_scld dL_law_1522 rfl h (fun h => ?_)
    obtain ⟨v145, hc146, h⟩ := bind_of h
    refine ev_invV_v (k := (0 : Int)) (av := [(0, ((xs ((jadd x3 (1 : Int))).toNat).toInt))]) (st := []) (v := (0, v145.1)) (τ := v145.2) dL_law_1523 ml_L_167 mv_X10_hoursFor (T := TX10) (ci := 9) rfl sp0 (by decide) (by decide) rfl ⟨Nat.le_of_ble_eq_true rfl, Nat.le_of_ble_eq_true rfl⟩ (Nat.le_of_ble_eq_true rfl) (c_X10_hoursFor hc146) ?_
    refine ev_aload_n dL_law_1526 rfl (by decide) ?_
    refine ev_aloadS dL_law_1527 rfl ?_
    refine ev_iload_n dL_law_1528 rfl ?_
    refine ev_iconst dL_law_1529 (by decide) ?_
    show Ev _ _ _ _ 1530 _ _ _ _ _
    refine ev_iadd dL_law_1530 ?_
    refine ev_scld dL_law_1531 rfl h (fun h => ?_)
    obtain ⟨v147, hc148, h⟩ := bind_of h
    refine ev_invV_v (k := (181 : Int)) (av := [(0, ((xs ((jadd x3 (1 : Int))).toNat).toInt))]) (st := [(0, v145.1)]) (v := (0, v147.1)) (τ := v147.2) dL_law_1532 ml_L_170 mv_X11_hoursFor (T := TX11) (ci := 10) rfl sp181 (by decide) (by decide) rfl ⟨Nat.le_of_ble_eq_true rfl, Nat.le_of_ble_eq_true rfl⟩ (Nat.le_of_ble_eq_true rfl) (c_X11_hoursFor hc148) ?_
    refine ev_icmp_eq (tgt := 1774) dL_law_1535 rfl h (fun cb h => ?_) (fun cb h => ?_)
    · exact ev_sub (L2 := [(3, (200000 : Int)), (2, (0 : Int)), (2, (181 : Int)), (0, x3)]) (e_L_law_1774 N xs hN v147.2 x3 h K) ⟨.inr rfl, .inr rfl, .inr rfl, .inr rfl, trivial⟩
    obtain rfl := Option.some.inj h
    exact ev_sub (L2 := [(9, 0), (9, 0), (9, 0), (9, 0)]) K ⟨.inl rfl, .inl rfl, .inl rfl, .inl rfl, trivial⟩
  refine ev_by h (fun cs h => ?_) (fun cs37 h => ?_)
  · refine ev_tswIn (off := 1507) (tgt := 1540) dL_law_33 (by rw [cs]; decide) (by rw [cs]; decide) (by rw [cs]; rfl) rfl ?_
    refine ev_aload_n dL_law_1540 rfl (by decide) ?_
    refine ev_aloadS dL_law_1541 rfl ?_
    refine ev_iload_n dL_law_1542 rfl ?_
    refine ev_iconst dL_law_1543 (by decide) ?_
    refine ev_iadd dL_law_1544 ?_
    refine ev_scld dL_law_1545 rfl h (fun h => ?_)
    refine ev_aloadS dL_law_1546 rfl ?_
    refine ev_iload_n dL_law_1547 rfl ?_
    refine ev_iconst dL_law_1548 (by decide) ?_
    refine ev_iadd dL_law_1549 ?_
    refine ev_scld dL_law_1550 rfl h (fun h => ?_)
    show Ev _ _ _ _ 1551 _ _ _ _ _
    refine ev_aloadS dL_law_1551 rfl ?_
    refine ev_iload_n dL_law_1552 rfl ?_
    refine ev_iconst dL_law_1553 (by decide) ?_
    refine ev_iadd dL_law_1554 ?_
    refine ev_scld dL_law_1555 rfl h (fun h => ?_)
    obtain ⟨v149, hc150, h⟩ := bind_of h
    refine ev_invV_v (k := (0 : Int)) (av := [(0, ((xs ((jadd x3 (1 : Int))).toNat).toInt)), (0, ((xs ((jadd x3 (2 : Int))).toNat).toInt)), (0, ((xs ((jadd x3 (3 : Int))).toNat).toInt))]) (st := []) (v := (0, v149.1)) (τ := v149.2) dL_law_1556 ml_L_171 mv_X10_kinds (T := TX10) (ci := 9) rfl sp0 (by decide) (by decide) rfl ⟨Nat.le_of_ble_eq_true rfl, Nat.le_of_ble_eq_true rfl⟩ (Nat.le_of_ble_eq_true rfl) (c_X10_kinds hc150) ?_
    refine ev_aload_n dL_law_1559 rfl (by decide) ?_
    refine ev_aloadS dL_law_1560 rfl ?_
    refine ev_iload_n dL_law_1561 rfl ?_
    refine ev_iconst dL_law_1562 (by decide) ?_
    refine ev_iadd dL_law_1563 ?_
    refine ev_scld dL_law_1564 rfl h (fun h => ?_)
    show Ev _ _ _ _ 1565 _ _ _ _ _
    refine ev_aloadS dL_law_1565 rfl ?_
    refine ev_iload_n dL_law_1566 rfl ?_
    refine ev_iconst dL_law_1567 (by decide) ?_
    refine ev_iadd dL_law_1568 ?_
    refine ev_scld dL_law_1569 rfl h (fun h => ?_)
    refine ev_aloadS dL_law_1570 rfl ?_
    refine ev_iload_n dL_law_1571 rfl ?_
    refine ev_iconst dL_law_1572 (by decide) ?_
    refine ev_iadd dL_law_1573 ?_
    refine ev_scld dL_law_1574 rfl h (fun h => ?_)
    obtain ⟨v151, hc152, h⟩ := bind_of h
    refine ev_invV_v (k := (181 : Int)) (av := [(0, ((xs ((jadd x3 (1 : Int))).toNat).toInt)), (0, ((xs ((jadd x3 (2 : Int))).toNat).toInt)), (0, ((xs ((jadd x3 (3 : Int))).toNat).toInt))]) (st := [(0, v149.1)]) (v := (0, v151.1)) (τ := v151.2) dL_law_1575 ml_L_174 mv_X11_kinds (T := TX11) (ci := 10) rfl sp181 (by decide) (by decide) rfl ⟨Nat.le_of_ble_eq_true rfl, Nat.le_of_ble_eq_true rfl⟩ (Nat.le_of_ble_eq_true rfl) (c_X11_kinds hc152) ?_
    refine ev_icmp_eq (tgt := 1774) dL_law_1578 rfl h (fun cb h => ?_) (fun cb h => ?_)
    · exact ev_sub (L2 := [(3, (200000 : Int)), (2, (0 : Int)), (2, (181 : Int)), (0, x3)]) (e_L_law_1774 N xs hN v151.2 x3 h K) ⟨.inr rfl, .inr rfl, .inr rfl, .inr rfl, trivial⟩
    obtain rfl := Option.some.inj h
    exact ev_sub (L2 := [(9, 0), (9, 0), (9, 0), (9, 0)]) K ⟨.inl rfl, .inl rfl, .inl rfl, .inl rfl, trivial⟩
  refine ev_by h (fun cs h => ?_) (fun cs38 h => ?_)
  · refine ev_tswIn (off := 1550) (tgt := 1583) dL_law_33 (by rw [cs]; decide) (by rw [cs]; decide) (by rw [cs]; rfl) rfl ?_
    refine ev_aload_n dL_law_1583 rfl (by decide) ?_
    refine ev_aloadS dL_law_1584 rfl ?_
    refine ev_iload_n dL_law_1585 rfl ?_
    refine ev_iconst dL_law_1586 (by decide) ?_
    refine ev_iadd dL_law_1587 ?_
    refine ev_scld dL_law_1588 rfl h (fun h => ?_)
    refine ev_aloadS dL_law_1589 rfl ?_
    refine ev_iload_n dL_law_1590 rfl ?_
    refine ev_iconst dL_law_1591 (by decide) ?_
    refine ev_iadd dL_law_1592 ?_
    refine ev_scld dL_law_1593 rfl h (fun h => ?_)
    show Ev _ _ _ _ 1594 _ _ _ _ _
    refine ev_aloadS dL_law_1594 rfl ?_
    refine ev_iload_n dL_law_1595 rfl ?_
    refine ev_iconst dL_law_1596 (by decide) ?_
    refine ev_iadd dL_law_1597 ?_
    refine ev_scld dL_law_1598 rfl h (fun h => ?_)
    refine ev_aloadS dL_law_1599 rfl ?_
    refine ev_iload_n dL_law_1600 rfl ?_
    refine ev_iconst dL_law_1601 (by decide) ?_
    refine ev_iadd dL_law_1602 ?_
    refine ev_scld dL_law_1603 rfl h (fun h => ?_)
    obtain ⟨v153, hc154, h⟩ := bind_of h
    refine ev_invV_v (k := (0 : Int)) (av := [(0, ((xs ((jadd x3 (1 : Int))).toNat).toInt)), (0, ((xs ((jadd x3 (2 : Int))).toNat).toInt)), (0, ((xs ((jadd x3 (3 : Int))).toNat).toInt)), (0, ((xs ((jadd x3 (4 : Int))).toNat).toInt))]) (st := []) (v := (0, v153.1)) (τ := v153.2) dL_law_1604 ml_L_175 mv_X10_judge (T := TX10) (ci := 9) rfl sp0 (by decide) (by decide) rfl ⟨Nat.le_of_ble_eq_true rfl, Nat.le_of_ble_eq_true rfl⟩ (Nat.le_of_ble_eq_true rfl) (c_X10_judge hc154) ?_
    refine ev_aload_n dL_law_1607 rfl (by decide) ?_
    show Ev _ _ _ _ 1608 _ _ _ _ _
    refine ev_aloadS dL_law_1608 rfl ?_
    refine ev_iload_n dL_law_1609 rfl ?_
    refine ev_iconst dL_law_1610 (by decide) ?_
    refine ev_iadd dL_law_1611 ?_
    refine ev_scld dL_law_1612 rfl h (fun h => ?_)
    refine ev_aloadS dL_law_1613 rfl ?_
    refine ev_iload_n dL_law_1614 rfl ?_
    refine ev_iconst dL_law_1615 (by decide) ?_
    refine ev_iadd dL_law_1616 ?_
    refine ev_scld dL_law_1617 rfl h (fun h => ?_)
    refine ev_aloadS dL_law_1618 rfl ?_
    refine ev_iload_n dL_law_1619 rfl ?_
    show Ev _ _ _ _ 1620 _ _ _ _ _
    refine ev_iconst dL_law_1620 (by decide) ?_
    refine ev_iadd dL_law_1621 ?_
    refine ev_scld dL_law_1622 rfl h (fun h => ?_)
    refine ev_aloadS dL_law_1623 rfl ?_
    refine ev_iload_n dL_law_1624 rfl ?_
    refine ev_iconst dL_law_1625 (by decide) ?_
    refine ev_iadd dL_law_1626 ?_
    refine ev_scld dL_law_1627 rfl h (fun h => ?_)
    obtain ⟨v155, hc156, h⟩ := bind_of h
    refine ev_invV_v (k := (181 : Int)) (av := [(0, ((xs ((jadd x3 (1 : Int))).toNat).toInt)), (0, ((xs ((jadd x3 (2 : Int))).toNat).toInt)), (0, ((xs ((jadd x3 (3 : Int))).toNat).toInt)), (0, ((xs ((jadd x3 (4 : Int))).toNat).toInt))]) (st := [(0, v153.1)]) (v := (0, v155.1)) (τ := v155.2) dL_law_1628 ml_L_178 mv_X11_judge (T := TX11) (ci := 10) rfl sp181 (by decide) (by decide) rfl ⟨Nat.le_of_ble_eq_true rfl, Nat.le_of_ble_eq_true rfl⟩ (Nat.le_of_ble_eq_true rfl) (c_X11_judge hc156) ?_
    refine ev_icmp_eq (tgt := 1774) dL_law_1631 rfl h (fun cb h => ?_) (fun cb h => ?_)
    · exact ev_sub (L2 := [(3, (200000 : Int)), (2, (0 : Int)), (2, (181 : Int)), (0, x3)]) (e_L_law_1774 N xs hN v155.2 x3 h K) ⟨.inr rfl, .inr rfl, .inr rfl, .inr rfl, trivial⟩
    obtain rfl := Option.some.inj h
    exact ev_sub (L2 := [(9, 0), (9, 0), (9, 0), (9, 0)]) K ⟨.inl rfl, .inl rfl, .inl rfl, .inl rfl, trivial⟩
  refine ev_by h (fun cs h => ?_) (fun cs39 h => ?_)
  · refine ev_tswIn (off := 1603) (tgt := 1636) dL_law_33 (by rw [cs]; decide) (by rw [cs]; decide) (by rw [cs]; rfl) rfl ?_
    refine ev_aload_n dL_law_1636 rfl (by decide) ?_
    refine ev_aloadS dL_law_1637 rfl ?_
    refine ev_iload_n dL_law_1638 rfl ?_
    refine ev_iconst dL_law_1639 (by decide) ?_
    refine ev_iadd dL_law_1640 ?_
    refine ev_scld dL_law_1641 rfl h (fun h => ?_)
    refine ev_aloadS dL_law_1642 rfl ?_
    refine ev_iload_n dL_law_1643 rfl ?_
    refine ev_iconst dL_law_1644 (by decide) ?_
    refine ev_iadd dL_law_1645 ?_
    refine ev_scld dL_law_1646 rfl h (fun h => ?_)
    show Ev _ _ _ _ 1647 _ _ _ _ _
    refine ev_aloadS dL_law_1647 rfl ?_
    refine ev_iload_n dL_law_1648 rfl ?_
    refine ev_iconst dL_law_1649 (by decide) ?_
    refine ev_iadd dL_law_1650 ?_
    refine ev_scld dL_law_1651 rfl h (fun h => ?_)
    obtain ⟨v157, hc158, h⟩ := bind_of h
    refine ev_invV_v (k := (0 : Int)) (av := [(0, ((xs ((jadd x3 (1 : Int))).toNat).toInt)), (0, ((xs ((jadd x3 (2 : Int))).toNat).toInt)), (0, ((xs ((jadd x3 (3 : Int))).toNat).toInt))]) (st := []) (v := (0, v157.1)) (τ := v157.2) dL_law_1652 ml_L_179 mv_X10_together (T := TX10) (ci := 9) rfl sp0 (by decide) (by decide) rfl ⟨Nat.le_of_ble_eq_true rfl, Nat.le_of_ble_eq_true rfl⟩ (Nat.le_of_ble_eq_true rfl) (c_X10_together hc158) ?_
    refine ev_aload_n dL_law_1655 rfl (by decide) ?_
    refine ev_aloadS dL_law_1656 rfl ?_
    refine ev_iload_n dL_law_1657 rfl ?_
    refine ev_iconst dL_law_1658 (by decide) ?_
    refine ev_iadd dL_law_1659 ?_
    refine ev_scld dL_law_1660 rfl h (fun h => ?_)
    show Ev _ _ _ _ 1661 _ _ _ _ _
    refine ev_aloadS dL_law_1661 rfl ?_
    refine ev_iload_n dL_law_1662 rfl ?_
    refine ev_iconst dL_law_1663 (by decide) ?_
    refine ev_iadd dL_law_1664 ?_
    refine ev_scld dL_law_1665 rfl h (fun h => ?_)
    refine ev_aloadS dL_law_1666 rfl ?_
    refine ev_iload_n dL_law_1667 rfl ?_
    refine ev_iconst dL_law_1668 (by decide) ?_
    refine ev_iadd dL_law_1669 ?_
    refine ev_scld dL_law_1670 rfl h (fun h => ?_)
    obtain ⟨v159, hc160, h⟩ := bind_of h
    refine ev_invV_v (k := (181 : Int)) (av := [(0, ((xs ((jadd x3 (1 : Int))).toNat).toInt)), (0, ((xs ((jadd x3 (2 : Int))).toNat).toInt)), (0, ((xs ((jadd x3 (3 : Int))).toNat).toInt))]) (st := [(0, v157.1)]) (v := (0, v159.1)) (τ := v159.2) dL_law_1671 ml_L_182 mv_X11_together (T := TX11) (ci := 10) rfl sp181 (by decide) (by decide) rfl ⟨Nat.le_of_ble_eq_true rfl, Nat.le_of_ble_eq_true rfl⟩ (Nat.le_of_ble_eq_true rfl) (c_X11_together hc160) ?_
    refine ev_icmp_eq (tgt := 1774) dL_law_1674 rfl h (fun cb h => ?_) (fun cb h => ?_)
    · exact ev_sub (L2 := [(3, (200000 : Int)), (2, (0 : Int)), (2, (181 : Int)), (0, x3)]) (e_L_law_1774 N xs hN v159.2 x3 h K) ⟨.inr rfl, .inr rfl, .inr rfl, .inr rfl, trivial⟩
    obtain rfl := Option.some.inj h
    exact ev_sub (L2 := [(9, 0), (9, 0), (9, 0), (9, 0)]) K ⟨.inl rfl, .inl rfl, .inl rfl, .inl rfl, trivial⟩
  refine ev_by h (fun cs h => ?_) (fun cs40 h => ?_)
  · refine ev_tswIn (off := 1646) (tgt := 1679) dL_law_33 (by rw [cs]; decide) (by rw [cs]; decide) (by rw [cs]; rfl) rfl ?_
    refine ev_aload_n dL_law_1679 rfl (by decide) ?_
    refine ev_aloadS dL_law_1680 rfl ?_
    refine ev_iload_n dL_law_1681 rfl ?_
    refine ev_iconst dL_law_1682 (by decide) ?_
    refine ev_iadd dL_law_1683 ?_
    refine ev_scld dL_law_1684 rfl h (fun h => ?_)
    obtain ⟨v161, hc162, h⟩ := bind_of h
    refine ev_invV_v (k := (0 : Int)) (av := [(0, ((xs ((jadd x3 (1 : Int))).toNat).toInt))]) (st := []) (v := (0, v161.1)) (τ := v161.2) dL_law_1685 ml_L_183 mv_X10_changes (T := TX10) (ci := 9) rfl sp0 (by decide) (by decide) rfl ⟨Nat.le_of_ble_eq_true rfl, Nat.le_of_ble_eq_true rfl⟩ (Nat.le_of_ble_eq_true rfl) (c_X10_changes hc162) ?_
    refine ev_aload_n dL_law_1688 rfl (by decide) ?_
    refine ev_aloadS dL_law_1689 rfl ?_
    refine ev_iload_n dL_law_1690 rfl ?_
    refine ev_iconst dL_law_1691 (by decide) ?_
    show Ev _ _ _ _ 1692 _ _ _ _ _
    refine ev_iadd dL_law_1692 ?_
    refine ev_scld dL_law_1693 rfl h (fun h => ?_)
    obtain ⟨v163, hc164, h⟩ := bind_of h
    refine ev_invV_v (k := (181 : Int)) (av := [(0, ((xs ((jadd x3 (1 : Int))).toNat).toInt))]) (st := [(0, v161.1)]) (v := (0, v163.1)) (τ := v163.2) dL_law_1694 ml_L_186 mv_X11_changes (T := TX11) (ci := 10) rfl sp181 (by decide) (by decide) rfl ⟨Nat.le_of_ble_eq_true rfl, Nat.le_of_ble_eq_true rfl⟩ (Nat.le_of_ble_eq_true rfl) (c_X11_changes hc164) ?_
    refine ev_icmp_eq (tgt := 1774) dL_law_1697 rfl h (fun cb h => ?_) (fun cb h => ?_)
    · exact ev_sub (L2 := [(3, (200000 : Int)), (2, (0 : Int)), (2, (181 : Int)), (0, x3)]) (e_L_law_1774 N xs hN v163.2 x3 h K) ⟨.inr rfl, .inr rfl, .inr rfl, .inr rfl, trivial⟩
    obtain rfl := Option.some.inj h
    exact ev_sub (L2 := [(9, 0), (9, 0), (9, 0), (9, 0)]) K ⟨.inl rfl, .inl rfl, .inl rfl, .inl rfl, trivial⟩
  refine ev_by h (fun cs h => ?_) (fun cs41 h => ?_)
  · refine ev_tswIn (off := 1669) (tgt := 1702) dL_law_33 (by rw [cs]; decide) (by rw [cs]; decide) (by rw [cs]; rfl) rfl ?_
    refine ev_aload_n dL_law_1702 rfl (by decide) ?_
    refine ev_aloadS dL_law_1703 rfl ?_
    refine ev_iload_n dL_law_1704 rfl ?_
    refine ev_iconst dL_law_1705 (by decide) ?_
    refine ev_iadd dL_law_1706 ?_
    refine ev_scld dL_law_1707 rfl h (fun h => ?_)
    obtain ⟨v165, hc166, h⟩ := bind_of h
    refine ev_invV_v (k := (0 : Int)) (av := [(0, ((xs ((jadd x3 (1 : Int))).toNat).toInt))]) (st := []) (v := (0, v165.1)) (τ := v165.2) dL_law_1708 ml_L_187 mv_X10_seed (T := TX10) (ci := 9) rfl sp0 (by decide) (by decide) rfl ⟨Nat.le_of_ble_eq_true rfl, Nat.le_of_ble_eq_true rfl⟩ (Nat.le_of_ble_eq_true rfl) (c_X10_seed hc166) ?_
    refine ev_aload_n dL_law_1711 rfl (by decide) ?_
    refine ev_aloadS dL_law_1712 rfl ?_
    refine ev_iload_n dL_law_1713 rfl ?_
    refine ev_iconst dL_law_1714 (by decide) ?_
    show Ev _ _ _ _ 1715 _ _ _ _ _
    refine ev_iadd dL_law_1715 ?_
    refine ev_scld dL_law_1716 rfl h (fun h => ?_)
    obtain ⟨v167, hc168, h⟩ := bind_of h
    refine ev_invV_v (k := (181 : Int)) (av := [(0, ((xs ((jadd x3 (1 : Int))).toNat).toInt))]) (st := [(0, v165.1)]) (v := (0, v167.1)) (τ := v167.2) dL_law_1717 ml_L_190 mv_X11_seed (T := TX11) (ci := 10) rfl sp181 (by decide) (by decide) rfl ⟨Nat.le_of_ble_eq_true rfl, Nat.le_of_ble_eq_true rfl⟩ (Nat.le_of_ble_eq_true rfl) (c_X11_seed hc168) ?_
    refine ev_icmp_eq (tgt := 1774) dL_law_1720 rfl h (fun cb h => ?_) (fun cb h => ?_)
    · exact ev_sub (L2 := [(3, (200000 : Int)), (2, (0 : Int)), (2, (181 : Int)), (0, x3)]) (e_L_law_1774 N xs hN v167.2 x3 h K) ⟨.inr rfl, .inr rfl, .inr rfl, .inr rfl, trivial⟩
    obtain rfl := Option.some.inj h
    exact ev_sub (L2 := [(9, 0), (9, 0), (9, 0), (9, 0)]) K ⟨.inl rfl, .inl rfl, .inl rfl, .inl rfl, trivial⟩
  refine ev_by h (fun cs h => ?_) (fun cs42 h => ?_)
  · refine ev_tswIn (off := 1692) (tgt := 1725) dL_law_33 (by rw [cs]; decide) (by rw [cs]; decide) (by rw [cs]; rfl) rfl ?_
    refine ev_aload_n dL_law_1725 rfl (by decide) ?_
    obtain ⟨v169, hc170, h⟩ := bind_of h
    refine ev_invV_v (k := (0 : Int)) (av := []) (st := []) (v := (0, v169.1)) (τ := v169.2) dL_law_1726 ml_L_191 mv_X10_image (T := TX10) (ci := 9) rfl sp0 (by decide) (by decide) rfl ⟨Nat.le_of_ble_eq_true rfl, Nat.le_of_ble_eq_true rfl⟩ (Nat.le_of_ble_eq_true rfl) (c_X10_image hc170) ?_
    refine ev_aload_n dL_law_1729 rfl (by decide) ?_
    obtain ⟨v171, hc172, h⟩ := bind_of h
    refine ev_invV_v (k := (181 : Int)) (av := []) (st := [(0, v169.1)]) (v := (0, v171.1)) (τ := v171.2) dL_law_1730 ml_L_194 mv_X11_image (T := TX11) (ci := 10) rfl sp181 (by decide) (by decide) rfl ⟨Nat.le_of_ble_eq_true rfl, Nat.le_of_ble_eq_true rfl⟩ (Nat.le_of_ble_eq_true rfl) (c_X11_image hc172) ?_
    refine ev_icmp_eq (tgt := 1774) dL_law_1733 rfl h (fun cb h => ?_) (fun cb h => ?_)
    · exact ev_sub (L2 := [(3, (200000 : Int)), (2, (0 : Int)), (2, (181 : Int)), (0, x3)]) (e_L_law_1774 N xs hN v171.2 x3 h K) ⟨.inr rfl, .inr rfl, .inr rfl, .inr rfl, trivial⟩
    obtain rfl := Option.some.inj h
    exact ev_sub (L2 := [(9, 0), (9, 0), (9, 0), (9, 0)]) K ⟨.inl rfl, .inl rfl, .inl rfl, .inl rfl, trivial⟩
  refine ev_by h (fun cs h => ?_) (fun cs43 h => ?_)
  · refine ev_tswIn (off := 1705) (tgt := 1738) dL_law_33 (by rw [cs]; decide) (by rw [cs]; decide) (by rw [cs]; rfl) rfl ?_
    refine ev_aload_n dL_law_1738 rfl (by decide) ?_
    obtain ⟨v173, hc174, h⟩ := bind_of h
    refine ev_invV_v (k := (0 : Int)) (av := []) (st := []) (v := (0, v173.1)) (τ := v173.2) dL_law_1739 ml_L_195 mv_X10_back (T := TX10) (ci := 9) rfl sp0 (by decide) (by decide) rfl ⟨Nat.le_of_ble_eq_true rfl, Nat.le_of_ble_eq_true rfl⟩ (Nat.le_of_ble_eq_true rfl) (c_X10_back hc174) ?_
    refine ev_aload_n dL_law_1742 rfl (by decide) ?_
    obtain ⟨v175, hc176, h⟩ := bind_of h
    refine ev_invV_v (k := (181 : Int)) (av := []) (st := [(0, v173.1)]) (v := (0, v175.1)) (τ := v175.2) dL_law_1743 ml_L_198 mv_X11_back (T := TX11) (ci := 10) rfl sp181 (by decide) (by decide) rfl ⟨Nat.le_of_ble_eq_true rfl, Nat.le_of_ble_eq_true rfl⟩ (Nat.le_of_ble_eq_true rfl) (c_X11_back hc176) ?_
    refine ev_icmp_eq (tgt := 1774) dL_law_1746 rfl h (fun cb h => ?_) (fun cb h => ?_)
    · exact ev_sub (L2 := [(3, (200000 : Int)), (2, (0 : Int)), (2, (181 : Int)), (0, x3)]) (e_L_law_1774 N xs hN v175.2 x3 h K) ⟨.inr rfl, .inr rfl, .inr rfl, .inr rfl, trivial⟩
    obtain rfl := Option.some.inj h
    exact ev_sub (L2 := [(9, 0), (9, 0), (9, 0), (9, 0)]) K ⟨.inl rfl, .inl rfl, .inl rfl, .inl rfl, trivial⟩
  refine ev_by h (fun cs h => ?_) (fun cs44 h => ?_)
  · refine ev_tswIn (off := 1718) (tgt := 1751) dL_law_33 (by rw [cs]; decide) (by rw [cs]; decide) (by rw [cs]; rfl) rfl ?_
    refine ev_aload_n dL_law_1751 rfl (by decide) ?_
    refine ev_aloadS dL_law_1752 rfl ?_
    refine ev_iload_n dL_law_1753 rfl ?_
    refine ev_iconst dL_law_1754 (by decide) ?_
    refine ev_iadd dL_law_1755 ?_
    refine ev_scld dL_law_1756 rfl h (fun h => ?_)
    obtain ⟨v177, hc178, h⟩ := bind_of h
    refine ev_invV_v (k := (0 : Int)) (av := [(0, ((xs ((jadd x3 (1 : Int))).toNat).toInt))]) (st := []) (v := (0, v177.1)) (τ := v177.2) dL_law_1757 ml_L_199 mv_X10_status (T := TX10) (ci := 9) rfl sp0 (by decide) (by decide) rfl ⟨Nat.le_of_ble_eq_true rfl, Nat.le_of_ble_eq_true rfl⟩ (Nat.le_of_ble_eq_true rfl) (c_X10_status hc178) ?_
    refine ev_aload_n dL_law_1760 rfl (by decide) ?_
    refine ev_aloadS dL_law_1761 rfl ?_
    refine ev_iload_n dL_law_1762 rfl ?_
    refine ev_iconst dL_law_1763 (by decide) ?_
    show Ev _ _ _ _ 1764 _ _ _ _ _
    refine ev_iadd dL_law_1764 ?_
    refine ev_scld dL_law_1765 rfl h (fun h => ?_)
    obtain ⟨v179, hc180, h⟩ := bind_of h
    refine ev_invV_v (k := (181 : Int)) (av := [(0, ((xs ((jadd x3 (1 : Int))).toNat).toInt))]) (st := [(0, v177.1)]) (v := (0, v179.1)) (τ := v179.2) dL_law_1766 ml_L_202 mv_X11_status (T := TX11) (ci := 10) rfl sp181 (by decide) (by decide) rfl ⟨Nat.le_of_ble_eq_true rfl, Nat.le_of_ble_eq_true rfl⟩ (Nat.le_of_ble_eq_true rfl) (c_X11_status hc180) ?_
    refine ev_icmp_eq (tgt := 1774) dL_law_1769 rfl h (fun cb h => ?_) (fun cb h => ?_)
    · exact ev_sub (L2 := [(3, (200000 : Int)), (2, (0 : Int)), (2, (181 : Int)), (0, x3)]) (e_L_law_1774 N xs hN v179.2 x3 h K) ⟨.inr rfl, .inr rfl, .inr rfl, .inr rfl, trivial⟩
    obtain rfl := Option.some.inj h
    exact ev_sub (L2 := [(9, 0), (9, 0), (9, 0), (9, 0)]) K ⟨.inl rfl, .inl rfl, .inl rfl, .inl rfl, trivial⟩
  refine ev_tswOut (tgt := 1774) dL_law_33 (by omega) rfl ?_
  exact ev_sub (L2 := [(3, (200000 : Int)), (2, (0 : Int)), (2, (181 : Int)), (0, x3)]) (e_L_law_1774 N xs hN σ x3 h K) ⟨.inr rfl, .inr rfl, .inr rfl, .inr rfl, trivial⟩
set_option maxHeartbeats 4000000 in
set_option maxRecDepth 20000 in
theorem e_L_law_18 (N : Nat) (xs : Nat → Int32) (hN : (N : Int) ≤ 2147483647) (σ : Mem) (x3 : Int)  {q : (Int × Mem)} (h : f_L_law_18 N xs σ x3 = some q) : Ev (M_L_law N xs) 0 218 (some (0, q.1), rho, q.2) 18 218 rho σ [(3, (200000 : Int)), (2, (0 : Int)), (2, (181 : Int)), (0, x3)] [] := by
  unfold f_L_law_18 at h
  obtain ⟨e, hl, h⟩ := bind_of h
  refine loop_ev (K := K_L_law_18 N xs  (some (0, q.1), rho, q.2)) (b_L_law_18 N xs hN ) FU (x3, σ) e hl ?_
  rcases e with e | e
  · show Ev (M_L_law N xs) 0 218 _ 269 218 rho e [(9, 0), (9, 0), (9, 0), (9, 0)] []
    replace h : some ((0 : Int), e) = some q := h
    refine ev_iconst dL_law_269 (by decide) ?_
    obtain rfl := Option.some.inj h
    exact ev_zret dL_law_270 rfl (chk_pos (.inl rfl))
  rcases e with e | e
  · show Ev (M_L_law N xs) 0 218 _ 342 218 rho e [(9, 0), (9, 0), (9, 0), (9, 0)] []
    replace h : some ((0 : Int), e) = some q := h
    refine ev_iconst dL_law_342 (by decide) ?_
    obtain rfl := Option.some.inj h
    exact ev_zret dL_law_343 rfl (chk_pos (.inl rfl))
  rcases e with e | e
  · show Ev (M_L_law N xs) 0 218 _ 405 218 rho e [(9, 0), (9, 0), (9, 0), (9, 0)] []
    replace h : some ((0 : Int), e) = some q := h
    refine ev_iconst dL_law_405 (by decide) ?_
    obtain rfl := Option.some.inj h
    exact ev_zret dL_law_406 rfl (chk_pos (.inl rfl))
  rcases e with e | e
  · show Ev (M_L_law N xs) 0 218 _ 439 218 rho e [(9, 0), (9, 0), (9, 0), (9, 0)] []
    replace h : some ((0 : Int), e) = some q := h
    refine ev_iconst dL_law_439 (by decide) ?_
    obtain rfl := Option.some.inj h
    exact ev_zret dL_law_440 rfl (chk_pos (.inl rfl))
  rcases e with e | e
  · show Ev (M_L_law N xs) 0 218 _ 462 218 rho e [(9, 0), (9, 0), (9, 0), (9, 0)] []
    replace h : some ((0 : Int), e) = some q := h
    refine ev_iconst dL_law_462 (by decide) ?_
    obtain rfl := Option.some.inj h
    exact ev_zret dL_law_463 rfl (chk_pos (.inl rfl))
  rcases e with e | e
  · show Ev (M_L_law N xs) 0 218 _ 495 218 rho e [(9, 0), (9, 0), (9, 0), (9, 0)] []
    replace h : some ((0 : Int), e) = some q := h
    refine ev_iconst dL_law_495 (by decide) ?_
    obtain rfl := Option.some.inj h
    exact ev_zret dL_law_496 rfl (chk_pos (.inl rfl))
  rcases e with e | e
  · show Ev (M_L_law N xs) 0 218 _ 538 218 rho e [(9, 0), (9, 0), (9, 0), (9, 0)] []
    replace h : some ((0 : Int), e) = some q := h
    refine ev_iconst dL_law_538 (by decide) ?_
    obtain rfl := Option.some.inj h
    exact ev_zret dL_law_539 rfl (chk_pos (.inl rfl))
  rcases e with e | e
  · show Ev (M_L_law N xs) 0 218 _ 581 218 rho e [(9, 0), (9, 0), (9, 0), (9, 0)] []
    replace h : some ((0 : Int), e) = some q := h
    refine ev_iconst dL_law_581 (by decide) ?_
    obtain rfl := Option.some.inj h
    exact ev_zret dL_law_582 rfl (chk_pos (.inl rfl))
  rcases e with e | e
  · show Ev (M_L_law N xs) 0 218 _ 614 218 rho e [(9, 0), (9, 0), (9, 0), (9, 0)] []
    replace h : some ((0 : Int), e) = some q := h
    refine ev_iconst dL_law_614 (by decide) ?_
    obtain rfl := Option.some.inj h
    exact ev_zret dL_law_615 rfl (chk_pos (.inl rfl))
  rcases e with e | e
  · show Ev (M_L_law N xs) 0 218 _ 647 218 rho e [(9, 0), (9, 0), (9, 0), (9, 0)] []
    replace h : some ((0 : Int), e) = some q := h
    refine ev_iconst dL_law_647 (by decide) ?_
    obtain rfl := Option.some.inj h
    exact ev_zret dL_law_648 rfl (chk_pos (.inl rfl))
  rcases e with e | e
  · show Ev (M_L_law N xs) 0 218 _ 690 218 rho e [(9, 0), (9, 0), (9, 0), (9, 0)] []
    replace h : some ((0 : Int), e) = some q := h
    refine ev_iconst dL_law_690 (by decide) ?_
    obtain rfl := Option.some.inj h
    exact ev_zret dL_law_691 rfl (chk_pos (.inl rfl))
  rcases e with e | e
  · show Ev (M_L_law N xs) 0 218 _ 723 218 rho e [(9, 0), (9, 0), (9, 0), (9, 0)] []
    replace h : some ((0 : Int), e) = some q := h
    refine ev_iconst dL_law_723 (by decide) ?_
    obtain rfl := Option.some.inj h
    exact ev_zret dL_law_724 rfl (chk_pos (.inl rfl))
  rcases e with e | e
  · show Ev (M_L_law N xs) 0 218 _ 746 218 rho e [(9, 0), (9, 0), (9, 0), (9, 0)] []
    replace h : some ((0 : Int), e) = some q := h
    refine ev_iconst dL_law_746 (by decide) ?_
    obtain rfl := Option.some.inj h
    exact ev_zret dL_law_747 rfl (chk_pos (.inl rfl))
  rcases e with e | e
  · show Ev (M_L_law N xs) 0 218 _ 769 218 rho e [(9, 0), (9, 0), (9, 0), (9, 0)] []
    replace h : some ((0 : Int), e) = some q := h
    refine ev_iconst dL_law_769 (by decide) ?_
    obtain rfl := Option.some.inj h
    exact ev_zret dL_law_770 rfl (chk_pos (.inl rfl))
  rcases e with e | e
  · show Ev (M_L_law N xs) 0 218 _ 792 218 rho e [(9, 0), (9, 0), (9, 0), (9, 0)] []
    replace h : some ((0 : Int), e) = some q := h
    refine ev_iconst dL_law_792 (by decide) ?_
    obtain rfl := Option.some.inj h
    exact ev_zret dL_law_793 rfl (chk_pos (.inl rfl))
  rcases e with e | e
  · show Ev (M_L_law N xs) 0 218 _ 815 218 rho e [(9, 0), (9, 0), (9, 0), (9, 0)] []
    replace h : some ((0 : Int), e) = some q := h
    refine ev_iconst dL_law_815 (by decide) ?_
    obtain rfl := Option.some.inj h
    exact ev_zret dL_law_816 rfl (chk_pos (.inl rfl))
  rcases e with e | e
  · show Ev (M_L_law N xs) 0 218 _ 828 218 rho e [(9, 0), (9, 0), (9, 0), (9, 0)] []
    replace h : some ((0 : Int), e) = some q := h
    refine ev_iconst dL_law_828 (by decide) ?_
    obtain rfl := Option.some.inj h
    exact ev_zret dL_law_829 rfl (chk_pos (.inl rfl))
  rcases e with e | e
  · show Ev (M_L_law N xs) 0 218 _ 841 218 rho e [(9, 0), (9, 0), (9, 0), (9, 0)] []
    replace h : some ((0 : Int), e) = some q := h
    refine ev_iconst dL_law_841 (by decide) ?_
    obtain rfl := Option.some.inj h
    exact ev_zret dL_law_842 rfl (chk_pos (.inl rfl))
  rcases e with e | e
  · show Ev (M_L_law N xs) 0 218 _ 874 218 rho e [(9, 0), (9, 0), (9, 0), (9, 0)] []
    replace h : some ((0 : Int), e) = some q := h
    refine ev_iconst dL_law_874 (by decide) ?_
    obtain rfl := Option.some.inj h
    exact ev_zret dL_law_875 rfl (chk_pos (.inl rfl))
  rcases e with e | e
  · show Ev (M_L_law N xs) 0 218 _ 907 218 rho e [(9, 0), (9, 0), (9, 0), (9, 0)] []
    replace h : some ((0 : Int), e) = some q := h
    refine ev_iconst dL_law_907 (by decide) ?_
    obtain rfl := Option.some.inj h
    exact ev_zret dL_law_908 rfl (chk_pos (.inl rfl))
  rcases e with e | e
  · show Ev (M_L_law N xs) 0 218 _ 940 218 rho e [(9, 0), (9, 0), (9, 0), (9, 0)] []
    replace h : some ((0 : Int), e) = some q := h
    refine ev_iconst dL_law_940 (by decide) ?_
    obtain rfl := Option.some.inj h
    exact ev_zret dL_law_941 rfl (chk_pos (.inl rfl))
  rcases e with e | e
  · show Ev (M_L_law N xs) 0 218 _ 983 218 rho e [(9, 0), (9, 0), (9, 0), (9, 0)] []
    replace h : some ((0 : Int), e) = some q := h
    refine ev_iconst dL_law_983 (by decide) ?_
    obtain rfl := Option.some.inj h
    exact ev_zret dL_law_984 rfl (chk_pos (.inl rfl))
  rcases e with e | e
  · show Ev (M_L_law N xs) 0 218 _ 1036 218 rho e [(9, 0), (9, 0), (9, 0), (9, 0)] []
    replace h : some ((0 : Int), e) = some q := h
    refine ev_iconst dL_law_1036 (by decide) ?_
    obtain rfl := Option.some.inj h
    exact ev_zret dL_law_1037 rfl (chk_pos (.inl rfl))
  rcases e with e | e
  · show Ev (M_L_law N xs) 0 218 _ 1079 218 rho e [(9, 0), (9, 0), (9, 0), (9, 0)] []
    replace h : some ((0 : Int), e) = some q := h
    refine ev_iconst dL_law_1079 (by decide) ?_
    obtain rfl := Option.some.inj h
    exact ev_zret dL_law_1080 rfl (chk_pos (.inl rfl))
  rcases e with e | e
  · show Ev (M_L_law N xs) 0 218 _ 1122 218 rho e [(9, 0), (9, 0), (9, 0), (9, 0)] []
    replace h : some ((0 : Int), e) = some q := h
    refine ev_iconst dL_law_1122 (by decide) ?_
    obtain rfl := Option.some.inj h
    exact ev_zret dL_law_1123 rfl (chk_pos (.inl rfl))
  rcases e with e | e
  · show Ev (M_L_law N xs) 0 218 _ 1175 218 rho e [(9, 0), (9, 0), (9, 0), (9, 0)] []
    replace h : some ((0 : Int), e) = some q := h
    refine ev_iconst dL_law_1175 (by decide) ?_
    obtain rfl := Option.some.inj h
    exact ev_zret dL_law_1176 rfl (chk_pos (.inl rfl))
  rcases e with e | e
  · show Ev (M_L_law N xs) 0 218 _ 1208 218 rho e [(9, 0), (9, 0), (9, 0), (9, 0)] []
    replace h : some ((0 : Int), e) = some q := h
    refine ev_iconst dL_law_1208 (by decide) ?_
    obtain rfl := Option.some.inj h
    exact ev_zret dL_law_1209 rfl (chk_pos (.inl rfl))
  rcases e with e | e
  · show Ev (M_L_law N xs) 0 218 _ 1231 218 rho e [(9, 0), (9, 0), (9, 0), (9, 0)] []
    replace h : some ((0 : Int), e) = some q := h
    refine ev_iconst dL_law_1231 (by decide) ?_
    obtain rfl := Option.some.inj h
    exact ev_zret dL_law_1232 rfl (chk_pos (.inl rfl))
  rcases e with e | e
  · show Ev (M_L_law N xs) 0 218 _ 1264 218 rho e [(9, 0), (9, 0), (9, 0), (9, 0)] []
    replace h : some ((0 : Int), e) = some q := h
    refine ev_iconst dL_law_1264 (by decide) ?_
    obtain rfl := Option.some.inj h
    exact ev_zret dL_law_1265 rfl (chk_pos (.inl rfl))
  rcases e with e | e
  · show Ev (M_L_law N xs) 0 218 _ 1307 218 rho e [(9, 0), (9, 0), (9, 0), (9, 0)] []
    replace h : some ((0 : Int), e) = some q := h
    refine ev_iconst dL_law_1307 (by decide) ?_
    obtain rfl := Option.some.inj h
    exact ev_zret dL_law_1308 rfl (chk_pos (.inl rfl))
  rcases e with e | e
  · show Ev (M_L_law N xs) 0 218 _ 1350 218 rho e [(9, 0), (9, 0), (9, 0), (9, 0)] []
    replace h : some ((0 : Int), e) = some q := h
    refine ev_iconst dL_law_1350 (by decide) ?_
    obtain rfl := Option.some.inj h
    exact ev_zret dL_law_1351 rfl (chk_pos (.inl rfl))
  rcases e with e | e
  · show Ev (M_L_law N xs) 0 218 _ 1393 218 rho e [(9, 0), (9, 0), (9, 0), (9, 0)] []
    replace h : some ((0 : Int), e) = some q := h
    refine ev_iconst dL_law_1393 (by decide) ?_
    obtain rfl := Option.some.inj h
    exact ev_zret dL_law_1394 rfl (chk_pos (.inl rfl))
  rcases e with e | e
  · show Ev (M_L_law N xs) 0 218 _ 1426 218 rho e [(9, 0), (9, 0), (9, 0), (9, 0)] []
    replace h : some ((0 : Int), e) = some q := h
    refine ev_iconst dL_law_1426 (by decide) ?_
    obtain rfl := Option.some.inj h
    exact ev_zret dL_law_1427 rfl (chk_pos (.inl rfl))
  rcases e with e | e
  · show Ev (M_L_law N xs) 0 218 _ 1469 218 rho e [(9, 0), (9, 0), (9, 0), (9, 0)] []
    replace h : some ((0 : Int), e) = some q := h
    refine ev_iconst dL_law_1469 (by decide) ?_
    obtain rfl := Option.some.inj h
    exact ev_zret dL_law_1470 rfl (chk_pos (.inl rfl))
  rcases e with e | e
  · show Ev (M_L_law N xs) 0 218 _ 1492 218 rho e [(9, 0), (9, 0), (9, 0), (9, 0)] []
    replace h : some ((0 : Int), e) = some q := h
    refine ev_iconst dL_law_1492 (by decide) ?_
    obtain rfl := Option.some.inj h
    exact ev_zret dL_law_1493 rfl (chk_pos (.inl rfl))
  rcases e with e | e
  · show Ev (M_L_law N xs) 0 218 _ 1515 218 rho e [(9, 0), (9, 0), (9, 0), (9, 0)] []
    replace h : some ((0 : Int), e) = some q := h
    refine ev_iconst dL_law_1515 (by decide) ?_
    obtain rfl := Option.some.inj h
    exact ev_zret dL_law_1516 rfl (chk_pos (.inl rfl))
  rcases e with e | e
  · show Ev (M_L_law N xs) 0 218 _ 1538 218 rho e [(9, 0), (9, 0), (9, 0), (9, 0)] []
    replace h : some ((0 : Int), e) = some q := h
    refine ev_iconst dL_law_1538 (by decide) ?_
    obtain rfl := Option.some.inj h
    exact ev_zret dL_law_1539 rfl (chk_pos (.inl rfl))
  rcases e with e | e
  · show Ev (M_L_law N xs) 0 218 _ 1581 218 rho e [(9, 0), (9, 0), (9, 0), (9, 0)] []
    replace h : some ((0 : Int), e) = some q := h
    refine ev_iconst dL_law_1581 (by decide) ?_
    obtain rfl := Option.some.inj h
    exact ev_zret dL_law_1582 rfl (chk_pos (.inl rfl))
  rcases e with e | e
  · show Ev (M_L_law N xs) 0 218 _ 1634 218 rho e [(9, 0), (9, 0), (9, 0), (9, 0)] []
    replace h : some ((0 : Int), e) = some q := h
    refine ev_iconst dL_law_1634 (by decide) ?_
    obtain rfl := Option.some.inj h
    exact ev_zret dL_law_1635 rfl (chk_pos (.inl rfl))
  rcases e with e | e
  · show Ev (M_L_law N xs) 0 218 _ 1677 218 rho e [(9, 0), (9, 0), (9, 0), (9, 0)] []
    replace h : some ((0 : Int), e) = some q := h
    refine ev_iconst dL_law_1677 (by decide) ?_
    obtain rfl := Option.some.inj h
    exact ev_zret dL_law_1678 rfl (chk_pos (.inl rfl))
  rcases e with e | e
  · show Ev (M_L_law N xs) 0 218 _ 1700 218 rho e [(9, 0), (9, 0), (9, 0), (9, 0)] []
    replace h : some ((0 : Int), e) = some q := h
    refine ev_iconst dL_law_1700 (by decide) ?_
    obtain rfl := Option.some.inj h
    exact ev_zret dL_law_1701 rfl (chk_pos (.inl rfl))
  rcases e with e | e
  · show Ev (M_L_law N xs) 0 218 _ 1723 218 rho e [(9, 0), (9, 0), (9, 0), (9, 0)] []
    replace h : some ((0 : Int), e) = some q := h
    refine ev_iconst dL_law_1723 (by decide) ?_
    obtain rfl := Option.some.inj h
    exact ev_zret dL_law_1724 rfl (chk_pos (.inl rfl))
  rcases e with e | e
  · show Ev (M_L_law N xs) 0 218 _ 1736 218 rho e [(9, 0), (9, 0), (9, 0), (9, 0)] []
    replace h : some ((0 : Int), e) = some q := h
    refine ev_iconst dL_law_1736 (by decide) ?_
    obtain rfl := Option.some.inj h
    exact ev_zret dL_law_1737 rfl (chk_pos (.inl rfl))
  rcases e with e | e
  · show Ev (M_L_law N xs) 0 218 _ 1749 218 rho e [(9, 0), (9, 0), (9, 0), (9, 0)] []
    replace h : some ((0 : Int), e) = some q := h
    refine ev_iconst dL_law_1749 (by decide) ?_
    obtain rfl := Option.some.inj h
    exact ev_zret dL_law_1750 rfl (chk_pos (.inl rfl))
  rcases e with e | e
  · show Ev (M_L_law N xs) 0 218 _ 1772 218 rho e [(9, 0), (9, 0), (9, 0), (9, 0)] []
    replace h : some ((0 : Int), e) = some q := h
    refine ev_iconst dL_law_1772 (by decide) ?_
    obtain rfl := Option.some.inj h
    exact ev_zret dL_law_1773 rfl (chk_pos (.inl rfl))
  · show Ev (M_L_law N xs) 0 218 _ 1780 218 rho e [(9, 0), (9, 0), (9, 0), (9, 0)] []
    replace h : some ((1 : Int), e) = some q := h
    refine ev_iconst dL_law_1780 (by decide) ?_
    obtain rfl := Option.some.inj h
    exact ev_zret dL_law_1781 rfl (chk_pos (.inr rfl))
set_option maxHeartbeats 4000000 in
set_option maxRecDepth 20000 in
theorem e_L_law (N : Nat) (xs : Nat → Int32) (hN : (N : Int) ≤ 2147483647) (σ : Mem) {q : Int × Mem} (h : f_L_law N xs σ = some q) : Ev (M_L_law N xs) 0 218 (some (0, q.1), rho, q.2) 16 218 rho σ [(3, (200000 : Int)), (2, (0 : Int)), (2, (181 : Int)), (9, 0)] [] := by
  unfold f_L_law at h
  refine ev_iconst dL_law_16 (by decide) ?_
  refine ev_istore_n dL_law_17 rfl (Nat.le_of_ble_eq_true rfl) ?_
  show Ev _ _ _ _ 18 _ _ _ [(3, (200000 : Int)), (2, (0 : Int)), (2, (181 : Int)), (0, (0 : Int))] _
  exact ev_sub (L2 := [(3, (200000 : Int)), (2, (0 : Int)), (2, (181 : Int)), (0, (0 : Int))]) (e_L_law_18 N xs hN σ (0 : Int) h) ⟨.inr rfl, .inr rfl, .inr rfl, .inr rfl, trivial⟩
