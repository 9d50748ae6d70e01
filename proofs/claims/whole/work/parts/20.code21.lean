/-! code, 21 -/
theorem c_307_1575 : Snd 307 1575 (i_aload 0 1576) := s_aload_n (by decide +kernel : decode code 1575 = .ok (.aload_n 0, 1)) rfl rfl
theorem c_307_1576 : Snd 307 1576 (i_iload 5 1578) := s_iload (by decide +kernel : decode code 1576 = .ok (.iload 5, 2)) rfl
theorem c_307_1578 : Snd 307 1578 (i_push (aI 1) 1579) := s_iconst (by decide +kernel : decode code 1578 = .ok (.iconst 1, 1)) (by decide) rfl
theorem c_307_1579 : Snd 307 1579 (i_bin (fun a b => a + b) 1580) := s_iadd (by decide +kernel : decode code 1579 = .ok (.iadd, 1)) rfl
theorem c_307_1580 : Snd 307 1580 (i_iald 1581) := s_iald (by decide +kernel : decode code 1580 = .ok (.iaload, 1)) rfl
theorem c_307_1581 : Snd 307 1581 (i_aload 0 1582) := s_aload_n (by decide +kernel : decode code 1581 = .ok (.aload_n 0, 1)) rfl rfl
theorem c_307_1582 : Snd 307 1582 (i_iload 5 1584) := s_iload (by decide +kernel : decode code 1582 = .ok (.iload 5, 2)) rfl
theorem c_307_1584 : Snd 307 1584 (i_push (aI 2) 1585) := s_iconst (by decide +kernel : decode code 1584 = .ok (.iconst 2, 1)) (by decide) rfl
theorem c_307_1585 : Snd 307 1585 (i_bin (fun a b => a + b) 1586) := s_iadd (by decide +kernel : decode code 1585 = .ok (.iadd, 1)) rfl
theorem c_307_1586 : Snd 307 1586 (i_iald 1587) := s_iald (by decide +kernel : decode code 1586 = .ok (.iaload, 1)) rfl
theorem c_307_1587 : Snd 307 1587 (i_aload 0 1588) := s_aload_n (by decide +kernel : decode code 1587 = .ok (.aload_n 0, 1)) rfl rfl
theorem c_307_1588 : Snd 307 1588 (i_iload 5 1590) := s_iload (by decide +kernel : decode code 1588 = .ok (.iload 5, 2)) rfl
theorem c_307_1590 : Snd 307 1590 (i_push (aI 3) 1591) := s_iconst (by decide +kernel : decode code 1590 = .ok (.iconst 3, 1)) (by decide) rfl
theorem c_307_1591 : Snd 307 1591 (i_bin (fun a b => a + b) 1592) := s_iadd (by decide +kernel : decode code 1591 = .ok (.iadd, 1)) rfl
theorem c_307_1592 : Snd 307 1592 (i_iald 1593) := s_iald (by decide +kernel : decode code 1592 = .ok (.iaload, 1)) rfl
theorem c_307_1593 : Snd 307 1593 (i_call 257 3 9) := s_call (c := 9) (nm := "SmokeRelayModel") (by decide +kernel : decode code 1593 = .ok (.invokevirtual 256, 3)) ok_257 rfl (Or.inl rfl) rfl w_1566 w_1567 w_1568
theorem c_307_1596 : Snd 307 1596 (i_store 7 1598) := s_istore (by decide +kernel : decode code 1596 = .ok (.istore 7, 2)) ⟨Or.inr (by decide +kernel), by decide +kernel⟩ rfl
theorem c_307_1598 : Snd 307 1598 (i_aload 2 1599) := s_aload_n (by decide +kernel : decode code 1598 = .ok (.aload_n 2, 1)) rfl rfl
theorem c_307_1599 : Snd 307 1599 (i_call 209 0 9) := s_call (c := 9) (nm := "SmokeRelayModel") (by decide +kernel : decode code 1599 = .ok (.invokevirtual 179, 3)) ok_209 rfl (Or.inl rfl) rfl w_1369 w_1370 w_1371
theorem c_307_1602 : Snd 307 1602 (i_iload 6 1604) := s_iload (by decide +kernel : decode code 1602 = .ok (.iload 6, 2)) rfl
theorem c_307_1604 : Snd 307 1604 (i_icmp (fun a b => a = b) (fun _ _ => inferInstance) 1609 1607) := s_icmpeq (by decide +kernel : decode code 1604 = .ok (.if_icmp .eq 5, 3)) (by decide +kernel) rfl
theorem c_307_1607 : Snd 307 1607 (i_push (aI 0) 1608) := s_iconst (by decide +kernel : decode code 1607 = .ok (.iconst 0, 1)) (by decide) rfl
theorem c_307_1608 : Snd 307 1608 (i_iret am_okZ) := s_iret (ty := .boolean) (by decide +kernel : decode code 1608 = .ok (.ireturn, 1)) rfl am_okZ_n
theorem c_307_1609 : Snd 307 1609 (i_iload 6 1611) := s_iload (by decide +kernel : decode code 1609 = .ok (.iload 6, 2)) rfl
theorem c_307_1611 : Snd 307 1611 (i_if (fun a => a ≠ 0) (fun _ => inferInstance) 1626 1614) := s_ifne (by decide +kernel : decode code 1611 = .ok (.ifCond .ne 15, 3)) (by decide +kernel) rfl
theorem c_307_1614 : Snd 307 1614 (i_aload 3 1615) := s_aload_n (by decide +kernel : decode code 1614 = .ok (.aload_n 3, 1)) rfl rfl
theorem c_307_1615 : Snd 307 1615 (i_push (aI 0) 1616) := s_iconst (by decide +kernel : decode code 1615 = .ok (.iconst 0, 1)) (by decide) rfl
theorem c_307_1616 : Snd 307 1616 (i_lald 1617) := s_lald (by decide +kernel : decode code 1616 = .ok (.laload, 1)) rfl
theorem c_307_1617 : Snd 307 1617 (i_iload 7 1619) := s_iload (by decide +kernel : decode code 1617 = .ok (.iload 7, 2)) rfl
theorem c_307_1619 : Snd 307 1619 (i_i2l 1620) := s_i2l (by decide +kernel : decode code 1619 = .ok (.i2l, 1)) rfl
theorem c_307_1620 : Snd 307 1620 (i_lcmp 1621) := s_lcmp (by decide +kernel : decode code 1620 = .ok (.lcmp, 1)) rfl
theorem c_307_1621 : Snd 307 1621 (i_if (fun a => a = 0) (fun _ => inferInstance) 1626 1624) := s_ifeq (by decide +kernel : decode code 1621 = .ok (.ifCond .eq 5, 3)) (by decide +kernel) rfl
theorem c_307_1624 : Snd 307 1624 (i_push (aI 0) 1625) := s_iconst (by decide +kernel : decode code 1624 = .ok (.iconst 0, 1)) (by decide) rfl
theorem c_307_1625 : Snd 307 1625 (i_iret am_okZ) := s_iret (ty := .boolean) (by decide +kernel : decode code 1625 = .ok (.ireturn, 1)) rfl am_okZ_n
theorem c_307_1626 : Snd 307 1626 (i_goto 3145) := s_goto (by decide +kernel : decode code 1626 = .ok (.goto 1519, 3)) (by decide +kernel)
theorem c_307_1629 : Snd 307 1629 (i_aload 1 1630) := s_aload_n (by decide +kernel : decode code 1629 = .ok (.aload_n 1, 1)) rfl rfl
theorem c_307_1630 : Snd 307 1630 (i_call 25 0 0) := s_call (c := 0) (nm := "SmokeRelay") (by decide +kernel : decode code 1630 = .ok (.invokevirtual 257, 3)) ok_25 rfl (Or.inl rfl) rfl w_364 w_365 w_366
theorem c_307_1633 : Snd 307 1633 (i_aload 2 1634) := s_aload_n (by decide +kernel : decode code 1633 = .ok (.aload_n 2, 1)) rfl rfl
theorem c_307_1634 : Snd 307 1634 (i_call 259 0 9) := s_call (c := 9) (nm := "SmokeRelayModel") (by decide +kernel : decode code 1634 = .ok (.invokevirtual 260, 3)) ok_259 rfl (Or.inl rfl) rfl w_1574 w_1575 w_1576
theorem c_307_1637 : Snd 307 1637 (i_icmp (fun a b => a = b) (fun _ _ => inferInstance) 3145 1640) := s_icmpeq (by decide +kernel : decode code 1637 = .ok (.if_icmp .eq 1508, 3)) (by decide +kernel) rfl
theorem c_307_1640 : Snd 307 1640 (i_push (aI 0) 1641) := s_iconst (by decide +kernel : decode code 1640 = .ok (.iconst 0, 1)) (by decide) rfl
theorem c_307_1641 : Snd 307 1641 (i_iret am_okZ) := s_iret (ty := .boolean) (by decide +kernel : decode code 1641 = .ok (.ireturn, 1)) rfl am_okZ_n
theorem c_307_1642 : Snd 307 1642 (i_aload 1 1643) := s_aload_n (by decide +kernel : decode code 1642 = .ok (.aload_n 1, 1)) rfl rfl
theorem c_307_1643 : Snd 307 1643 (i_aload 0 1644) := s_aload_n (by decide +kernel : decode code 1643 = .ok (.aload_n 0, 1)) rfl rfl
theorem c_307_1644 : Snd 307 1644 (i_iload 5 1646) := s_iload (by decide +kernel : decode code 1644 = .ok (.iload 5, 2)) rfl
theorem c_307_1646 : Snd 307 1646 (i_push (aI 1) 1647) := s_iconst (by decide +kernel : decode code 1646 = .ok (.iconst 1, 1)) (by decide) rfl
theorem c_307_1647 : Snd 307 1647 (i_bin (fun a b => a + b) 1648) := s_iadd (by decide +kernel : decode code 1647 = .ok (.iadd, 1)) rfl
theorem c_307_1648 : Snd 307 1648 (i_iald 1649) := s_iald (by decide +kernel : decode code 1648 = .ok (.iaload, 1)) rfl
theorem c_307_1649 : Snd 307 1649 (i_un (fun a => (a.toUInt32 % 65536).toInt32) 1650) := s_i2c (by decide +kernel : decode code 1649 = .ok (.i2c, 1)) rfl
theorem c_307_1650 : Snd 307 1650 (i_aload 3 1651) := s_aload_n (by decide +kernel : decode code 1650 = .ok (.aload_n 3, 1)) rfl rfl
theorem c_307_1651 : Snd 307 1651 (i_calls 114 3) := s_callsX (by decide +kernel : decode code 1651 = .ok (.invokestatic 261, 3)) ok_114 rfl w_865 w_866
theorem c_307_1654 : Snd 307 1654 (i_store 6 1656) := s_istore (by decide +kernel : decode code 1654 = .ok (.istore 6, 2)) ⟨Or.inr (by decide +kernel), by decide +kernel⟩ rfl
theorem c_307_1656 : Snd 307 1656 (i_aload 2 1657) := s_aload_n (by decide +kernel : decode code 1656 = .ok (.aload_n 2, 1)) rfl rfl
theorem c_307_1657 : Snd 307 1657 (i_aload 0 1658) := s_aload_n (by decide +kernel : decode code 1657 = .ok (.aload_n 0, 1)) rfl rfl
theorem c_307_1658 : Snd 307 1658 (i_iload 5 1660) := s_iload (by decide +kernel : decode code 1658 = .ok (.iload 5, 2)) rfl
theorem c_307_1660 : Snd 307 1660 (i_push (aI 1) 1661) := s_iconst (by decide +kernel : decode code 1660 = .ok (.iconst 1, 1)) (by decide) rfl
theorem c_307_1661 : Snd 307 1661 (i_bin (fun a b => a + b) 1662) := s_iadd (by decide +kernel : decode code 1661 = .ok (.iadd, 1)) rfl
theorem c_307_1662 : Snd 307 1662 (i_iald 1663) := s_iald (by decide +kernel : decode code 1662 = .ok (.iaload, 1)) rfl
theorem c_307_1663 : Snd 307 1663 (i_un (fun a => (a.toUInt32 % 65536).toInt32) 1664) := s_i2c (by decide +kernel : decode code 1663 = .ok (.i2c, 1)) rfl
theorem c_307_1664 : Snd 307 1664 (i_call 260 1 9) := s_call (c := 9) (nm := "SmokeRelayModel") (by decide +kernel : decode code 1664 = .ok (.invokevirtual 264, 3)) ok_260 rfl (Or.inl rfl) rfl w_1578 w_1579 w_1580
theorem c_307_1667 : Snd 307 1667 (i_store 7 1669) := s_istore (by decide +kernel : decode code 1667 = .ok (.istore 7, 2)) ⟨Or.inr (by decide +kernel), by decide +kernel⟩ rfl
theorem c_307_1669 : Snd 307 1669 (i_aload 2 1670) := s_aload_n (by decide +kernel : decode code 1669 = .ok (.aload_n 2, 1)) rfl rfl
theorem c_307_1670 : Snd 307 1670 (i_call 209 0 9) := s_call (c := 9) (nm := "SmokeRelayModel") (by decide +kernel : decode code 1670 = .ok (.invokevirtual 179, 3)) ok_209 rfl (Or.inl rfl) rfl w_1369 w_1370 w_1371
theorem c_307_1673 : Snd 307 1673 (i_iload 6 1675) := s_iload (by decide +kernel : decode code 1673 = .ok (.iload 6, 2)) rfl
theorem c_307_1675 : Snd 307 1675 (i_icmp (fun a b => a = b) (fun _ _ => inferInstance) 1680 1678) := s_icmpeq (by decide +kernel : decode code 1675 = .ok (.if_icmp .eq 5, 3)) (by decide +kernel) rfl
theorem c_307_1678 : Snd 307 1678 (i_push (aI 0) 1679) := s_iconst (by decide +kernel : decode code 1678 = .ok (.iconst 0, 1)) (by decide) rfl
theorem c_307_1679 : Snd 307 1679 (i_iret am_okZ) := s_iret (ty := .boolean) (by decide +kernel : decode code 1679 = .ok (.ireturn, 1)) rfl am_okZ_n
theorem c_307_1680 : Snd 307 1680 (i_iload 6 1682) := s_iload (by decide +kernel : decode code 1680 = .ok (.iload 6, 2)) rfl
theorem c_307_1682 : Snd 307 1682 (i_if (fun a => a ≠ 0) (fun _ => inferInstance) 1697 1685) := s_ifne (by decide +kernel : decode code 1682 = .ok (.ifCond .ne 15, 3)) (by decide +kernel) rfl
theorem c_307_1685 : Snd 307 1685 (i_aload 3 1686) := s_aload_n (by decide +kernel : decode code 1685 = .ok (.aload_n 3, 1)) rfl rfl
theorem c_307_1686 : Snd 307 1686 (i_push (aI 0) 1687) := s_iconst (by decide +kernel : decode code 1686 = .ok (.iconst 0, 1)) (by decide) rfl
theorem c_307_1687 : Snd 307 1687 (i_lald 1688) := s_lald (by decide +kernel : decode code 1687 = .ok (.laload, 1)) rfl
theorem c_307_1688 : Snd 307 1688 (i_iload 7 1690) := s_iload (by decide +kernel : decode code 1688 = .ok (.iload 7, 2)) rfl
theorem c_307_1690 : Snd 307 1690 (i_i2l 1691) := s_i2l (by decide +kernel : decode code 1690 = .ok (.i2l, 1)) rfl
theorem c_307_1691 : Snd 307 1691 (i_lcmp 1692) := s_lcmp (by decide +kernel : decode code 1691 = .ok (.lcmp, 1)) rfl
theorem c_307_1692 : Snd 307 1692 (i_if (fun a => a = 0) (fun _ => inferInstance) 1697 1695) := s_ifeq (by decide +kernel : decode code 1692 = .ok (.ifCond .eq 5, 3)) (by decide +kernel) rfl
theorem c_307_1695 : Snd 307 1695 (i_push (aI 0) 1696) := s_iconst (by decide +kernel : decode code 1695 = .ok (.iconst 0, 1)) (by decide) rfl
theorem c_307_1696 : Snd 307 1696 (i_iret am_okZ) := s_iret (ty := .boolean) (by decide +kernel : decode code 1696 = .ok (.ireturn, 1)) rfl am_okZ_n
theorem c_307_1697 : Snd 307 1697 (i_goto 3145) := s_goto (by decide +kernel : decode code 1697 = .ok (.goto 1448, 3)) (by decide +kernel)
theorem c_307_1700 : Snd 307 1700 (i_aload 1 1701) := s_aload_n (by decide +kernel : decode code 1700 = .ok (.aload_n 1, 1)) rfl rfl
theorem c_307_1701 : Snd 307 1701 (i_aload 0 1702) := s_aload_n (by decide +kernel : decode code 1701 = .ok (.aload_n 0, 1)) rfl rfl
theorem c_307_1702 : Snd 307 1702 (i_iload 5 1704) := s_iload (by decide +kernel : decode code 1702 = .ok (.iload 5, 2)) rfl
theorem c_307_1704 : Snd 307 1704 (i_push (aI 1) 1705) := s_iconst (by decide +kernel : decode code 1704 = .ok (.iconst 1, 1)) (by decide) rfl
theorem c_307_1705 : Snd 307 1705 (i_bin (fun a b => a + b) 1706) := s_iadd (by decide +kernel : decode code 1705 = .ok (.iadd, 1)) rfl
theorem c_307_1706 : Snd 307 1706 (i_iald 1707) := s_iald (by decide +kernel : decode code 1706 = .ok (.iaload, 1)) rfl
theorem c_307_1707 : Snd 307 1707 (i_aload 3 1708) := s_aload_n (by decide +kernel : decode code 1707 = .ok (.aload_n 3, 1)) rfl rfl
theorem c_307_1708 : Snd 307 1708 (i_calls 118 3) := s_callsX (by decide +kernel : decode code 1708 = .ok (.invokestatic 265, 3)) ok_118 rfl w_880 w_881
theorem c_307_1711 : Snd 307 1711 (i_store 6 1713) := s_istore (by decide +kernel : decode code 1711 = .ok (.istore 6, 2)) ⟨Or.inr (by decide +kernel), by decide +kernel⟩ rfl
theorem c_307_1713 : Snd 307 1713 (i_aload 2 1714) := s_aload_n (by decide +kernel : decode code 1713 = .ok (.aload_n 2, 1)) rfl rfl
theorem c_307_1714 : Snd 307 1714 (i_aload 0 1715) := s_aload_n (by decide +kernel : decode code 1714 = .ok (.aload_n 0, 1)) rfl rfl
theorem c_307_1715 : Snd 307 1715 (i_iload 5 1717) := s_iload (by decide +kernel : decode code 1715 = .ok (.iload 5, 2)) rfl
theorem c_307_1717 : Snd 307 1717 (i_push (aI 1) 1718) := s_iconst (by decide +kernel : decode code 1717 = .ok (.iconst 1, 1)) (by decide) rfl
theorem c_307_1718 : Snd 307 1718 (i_bin (fun a b => a + b) 1719) := s_iadd (by decide +kernel : decode code 1718 = .ok (.iadd, 1)) rfl
theorem c_307_1719 : Snd 307 1719 (i_iald 1720) := s_iald (by decide +kernel : decode code 1719 = .ok (.iaload, 1)) rfl
theorem c_307_1720 : Snd 307 1720 (i_call 263 1 9) := s_call (c := 9) (nm := "SmokeRelayModel") (by decide +kernel : decode code 1720 = .ok (.invokevirtual 267, 3)) ok_263 rfl (Or.inl rfl) rfl w_1588 w_1589 w_1590
theorem c_307_1723 : Snd 307 1723 (i_store 7 1725) := s_istore (by decide +kernel : decode code 1723 = .ok (.istore 7, 2)) ⟨Or.inr (by decide +kernel), by decide +kernel⟩ rfl
theorem c_307_1725 : Snd 307 1725 (i_aload 2 1726) := s_aload_n (by decide +kernel : decode code 1725 = .ok (.aload_n 2, 1)) rfl rfl
theorem c_307_1726 : Snd 307 1726 (i_call 209 0 9) := s_call (c := 9) (nm := "SmokeRelayModel") (by decide +kernel : decode code 1726 = .ok (.invokevirtual 179, 3)) ok_209 rfl (Or.inl rfl) rfl w_1369 w_1370 w_1371
theorem c_307_1729 : Snd 307 1729 (i_iload 6 1731) := s_iload (by decide +kernel : decode code 1729 = .ok (.iload 6, 2)) rfl
theorem c_307_1731 : Snd 307 1731 (i_icmp (fun a b => a = b) (fun _ _ => inferInstance) 1736 1734) := s_icmpeq (by decide +kernel : decode code 1731 = .ok (.if_icmp .eq 5, 3)) (by decide +kernel) rfl
theorem c_307_1734 : Snd 307 1734 (i_push (aI 0) 1735) := s_iconst (by decide +kernel : decode code 1734 = .ok (.iconst 0, 1)) (by decide) rfl
theorem c_307_1735 : Snd 307 1735 (i_iret am_okZ) := s_iret (ty := .boolean) (by decide +kernel : decode code 1735 = .ok (.ireturn, 1)) rfl am_okZ_n
theorem c_307_1736 : Snd 307 1736 (i_iload 6 1738) := s_iload (by decide +kernel : decode code 1736 = .ok (.iload 6, 2)) rfl
theorem c_307_1738 : Snd 307 1738 (i_if (fun a => a ≠ 0) (fun _ => inferInstance) 1753 1741) := s_ifne (by decide +kernel : decode code 1738 = .ok (.ifCond .ne 15, 3)) (by decide +kernel) rfl
theorem c_307_1741 : Snd 307 1741 (i_aload 3 1742) := s_aload_n (by decide +kernel : decode code 1741 = .ok (.aload_n 3, 1)) rfl rfl
theorem c_307_1742 : Snd 307 1742 (i_push (aI 0) 1743) := s_iconst (by decide +kernel : decode code 1742 = .ok (.iconst 0, 1)) (by decide) rfl
theorem c_307_1743 : Snd 307 1743 (i_lald 1744) := s_lald (by decide +kernel : decode code 1743 = .ok (.laload, 1)) rfl
theorem c_307_1744 : Snd 307 1744 (i_iload 7 1746) := s_iload (by decide +kernel : decode code 1744 = .ok (.iload 7, 2)) rfl
theorem c_307_1746 : Snd 307 1746 (i_i2l 1747) := s_i2l (by decide +kernel : decode code 1746 = .ok (.i2l, 1)) rfl
theorem c_307_1747 : Snd 307 1747 (i_lcmp 1748) := s_lcmp (by decide +kernel : decode code 1747 = .ok (.lcmp, 1)) rfl
theorem c_307_1748 : Snd 307 1748 (i_if (fun a => a = 0) (fun _ => inferInstance) 1753 1751) := s_ifeq (by decide +kernel : decode code 1748 = .ok (.ifCond .eq 5, 3)) (by decide +kernel) rfl
theorem c_307_1751 : Snd 307 1751 (i_push (aI 0) 1752) := s_iconst (by decide +kernel : decode code 1751 = .ok (.iconst 0, 1)) (by decide) rfl
theorem c_307_1752 : Snd 307 1752 (i_iret am_okZ) := s_iret (ty := .boolean) (by decide +kernel : decode code 1752 = .ok (.ireturn, 1)) rfl am_okZ_n
theorem c_307_1753 : Snd 307 1753 (i_goto 3145) := s_goto (by decide +kernel : decode code 1753 = .ok (.goto 1392, 3)) (by decide +kernel)
theorem c_307_1756 : Snd 307 1756 (i_aload 1 1757) := s_aload_n (by decide +kernel : decode code 1756 = .ok (.aload_n 1, 1)) rfl rfl
theorem c_307_1757 : Snd 307 1757 (i_aload 0 1758) := s_aload_n (by decide +kernel : decode code 1757 = .ok (.aload_n 0, 1)) rfl rfl
theorem c_307_1758 : Snd 307 1758 (i_iload 5 1760) := s_iload (by decide +kernel : decode code 1758 = .ok (.iload 5, 2)) rfl
theorem c_307_1760 : Snd 307 1760 (i_push (aI 1) 1761) := s_iconst (by decide +kernel : decode code 1760 = .ok (.iconst 1, 1)) (by decide) rfl
theorem c_307_1761 : Snd 307 1761 (i_bin (fun a b => a + b) 1762) := s_iadd (by decide +kernel : decode code 1761 = .ok (.iadd, 1)) rfl
theorem c_307_1762 : Snd 307 1762 (i_iald 1763) := s_iald (by decide +kernel : decode code 1762 = .ok (.iaload, 1)) rfl
theorem c_307_1763 : Snd 307 1763 (i_aload 3 1764) := s_aload_n (by decide +kernel : decode code 1763 = .ok (.aload_n 3, 1)) rfl rfl
theorem c_307_1764 : Snd 307 1764 (i_calls 121 3) := s_callsX (by decide +kernel : decode code 1764 = .ok (.invokestatic 268, 3)) ok_121 rfl w_893 w_894
theorem c_307_1767 : Snd 307 1767 (i_store 6 1769) := s_istore (by decide +kernel : decode code 1767 = .ok (.istore 6, 2)) ⟨Or.inr (by decide +kernel), by decide +kernel⟩ rfl
theorem c_307_1769 : Snd 307 1769 (i_aload 2 1770) := s_aload_n (by decide +kernel : decode code 1769 = .ok (.aload_n 2, 1)) rfl rfl
theorem c_307_1770 : Snd 307 1770 (i_aload 0 1771) := s_aload_n (by decide +kernel : decode code 1770 = .ok (.aload_n 0, 1)) rfl rfl
theorem c_307_1771 : Snd 307 1771 (i_iload 5 1773) := s_iload (by decide +kernel : decode code 1771 = .ok (.iload 5, 2)) rfl
theorem c_307_1773 : Snd 307 1773 (i_push (aI 1) 1774) := s_iconst (by decide +kernel : decode code 1773 = .ok (.iconst 1, 1)) (by decide) rfl
theorem c_307_1774 : Snd 307 1774 (i_bin (fun a b => a + b) 1775) := s_iadd (by decide +kernel : decode code 1774 = .ok (.iadd, 1)) rfl
theorem c_307_1775 : Snd 307 1775 (i_iald 1776) := s_iald (by decide +kernel : decode code 1775 = .ok (.iaload, 1)) rfl
theorem c_307_1776 : Snd 307 1776 (i_call 266 1 9) := s_call (c := 9) (nm := "SmokeRelayModel") (by decide +kernel : decode code 1776 = .ok (.invokevirtual 270, 3)) ok_266 rfl (Or.inl rfl) rfl w_1598 w_1599 w_1600
theorem c_307_1779 : Snd 307 1779 (i_store 7 1781) := s_istore (by decide +kernel : decode code 1779 = .ok (.istore 7, 2)) ⟨Or.inr (by decide +kernel), by decide +kernel⟩ rfl
theorem c_307_1781 : Snd 307 1781 (i_aload 2 1782) := s_aload_n (by decide +kernel : decode code 1781 = .ok (.aload_n 2, 1)) rfl rfl
theorem c_307_1782 : Snd 307 1782 (i_call 209 0 9) := s_call (c := 9) (nm := "SmokeRelayModel") (by decide +kernel : decode code 1782 = .ok (.invokevirtual 179, 3)) ok_209 rfl (Or.inl rfl) rfl w_1369 w_1370 w_1371
theorem c_307_1785 : Snd 307 1785 (i_iload 6 1787) := s_iload (by decide +kernel : decode code 1785 = .ok (.iload 6, 2)) rfl
theorem c_307_1787 : Snd 307 1787 (i_icmp (fun a b => a = b) (fun _ _ => inferInstance) 1792 1790) := s_icmpeq (by decide +kernel : decode code 1787 = .ok (.if_icmp .eq 5, 3)) (by decide +kernel) rfl
theorem c_307_1790 : Snd 307 1790 (i_push (aI 0) 1791) := s_iconst (by decide +kernel : decode code 1790 = .ok (.iconst 0, 1)) (by decide) rfl
theorem c_307_1791 : Snd 307 1791 (i_iret am_okZ) := s_iret (ty := .boolean) (by decide +kernel : decode code 1791 = .ok (.ireturn, 1)) rfl am_okZ_n
theorem c_307_1792 : Snd 307 1792 (i_iload 6 1794) := s_iload (by decide +kernel : decode code 1792 = .ok (.iload 6, 2)) rfl
theorem c_307_1794 : Snd 307 1794 (i_if (fun a => a ≠ 0) (fun _ => inferInstance) 1809 1797) := s_ifne (by decide +kernel : decode code 1794 = .ok (.ifCond .ne 15, 3)) (by decide +kernel) rfl
theorem c_307_1797 : Snd 307 1797 (i_aload 3 1798) := s_aload_n (by decide +kernel : decode code 1797 = .ok (.aload_n 3, 1)) rfl rfl
theorem c_307_1798 : Snd 307 1798 (i_push (aI 0) 1799) := s_iconst (by decide +kernel : decode code 1798 = .ok (.iconst 0, 1)) (by decide) rfl
theorem c_307_1799 : Snd 307 1799 (i_lald 1800) := s_lald (by decide +kernel : decode code 1799 = .ok (.laload, 1)) rfl
theorem c_307_1800 : Snd 307 1800 (i_iload 7 1802) := s_iload (by decide +kernel : decode code 1800 = .ok (.iload 7, 2)) rfl
theorem c_307_1802 : Snd 307 1802 (i_i2l 1803) := s_i2l (by decide +kernel : decode code 1802 = .ok (.i2l, 1)) rfl
theorem c_307_1803 : Snd 307 1803 (i_lcmp 1804) := s_lcmp (by decide +kernel : decode code 1803 = .ok (.lcmp, 1)) rfl
theorem c_307_1804 : Snd 307 1804 (i_if (fun a => a = 0) (fun _ => inferInstance) 1809 1807) := s_ifeq (by decide +kernel : decode code 1804 = .ok (.ifCond .eq 5, 3)) (by decide +kernel) rfl
theorem c_307_1807 : Snd 307 1807 (i_push (aI 0) 1808) := s_iconst (by decide +kernel : decode code 1807 = .ok (.iconst 0, 1)) (by decide) rfl
theorem c_307_1808 : Snd 307 1808 (i_iret am_okZ) := s_iret (ty := .boolean) (by decide +kernel : decode code 1808 = .ok (.ireturn, 1)) rfl am_okZ_n
theorem c_307_1809 : Snd 307 1809 (i_goto 3145) := s_goto (by decide +kernel : decode code 1809 = .ok (.goto 1336, 3)) (by decide +kernel)
theorem c_307_1812 : Snd 307 1812 (i_aload 1 1813) := s_aload_n (by decide +kernel : decode code 1812 = .ok (.aload_n 1, 1)) rfl rfl
theorem c_307_1813 : Snd 307 1813 (i_aload 0 1814) := s_aload_n (by decide +kernel : decode code 1813 = .ok (.aload_n 0, 1)) rfl rfl
theorem c_307_1814 : Snd 307 1814 (i_iload 5 1816) := s_iload (by decide +kernel : decode code 1814 = .ok (.iload 5, 2)) rfl
theorem c_307_1816 : Snd 307 1816 (i_push (aI 1) 1817) := s_iconst (by decide +kernel : decode code 1816 = .ok (.iconst 1, 1)) (by decide) rfl
theorem c_307_1817 : Snd 307 1817 (i_bin (fun a b => a + b) 1818) := s_iadd (by decide +kernel : decode code 1817 = .ok (.iadd, 1)) rfl
theorem c_307_1818 : Snd 307 1818 (i_iald 1819) := s_iald (by decide +kernel : decode code 1818 = .ok (.iaload, 1)) rfl
theorem c_307_1819 : Snd 307 1819 (i_aload 3 1820) := s_aload_n (by decide +kernel : decode code 1819 = .ok (.aload_n 3, 1)) rfl rfl
theorem c_307_1820 : Snd 307 1820 (i_calls 123 3) := s_callsX (by decide +kernel : decode code 1820 = .ok (.invokestatic 271, 3)) ok_123 rfl w_901 w_902
theorem c_307_1823 : Snd 307 1823 (i_store 6 1825) := s_istore (by decide +kernel : decode code 1823 = .ok (.istore 6, 2)) ⟨Or.inr (by decide +kernel), by decide +kernel⟩ rfl
theorem c_307_1825 : Snd 307 1825 (i_aload 2 1826) := s_aload_n (by decide +kernel : decode code 1825 = .ok (.aload_n 2, 1)) rfl rfl
theorem c_307_1826 : Snd 307 1826 (i_aload 0 1827) := s_aload_n (by decide +kernel : decode code 1826 = .ok (.aload_n 0, 1)) rfl rfl
theorem c_307_1827 : Snd 307 1827 (i_iload 5 1829) := s_iload (by decide +kernel : decode code 1827 = .ok (.iload 5, 2)) rfl
theorem c_307_1829 : Snd 307 1829 (i_push (aI 1) 1830) := s_iconst (by decide +kernel : decode code 1829 = .ok (.iconst 1, 1)) (by decide) rfl
theorem c_307_1830 : Snd 307 1830 (i_bin (fun a b => a + b) 1831) := s_iadd (by decide +kernel : decode code 1830 = .ok (.iadd, 1)) rfl
theorem c_307_1831 : Snd 307 1831 (i_iald 1832) := s_iald (by decide +kernel : decode code 1831 = .ok (.iaload, 1)) rfl
theorem c_307_1832 : Snd 307 1832 (i_call 267 1 9) := s_call (c := 9) (nm := "SmokeRelayModel") (by decide +kernel : decode code 1832 = .ok (.invokevirtual 273, 3)) ok_267 rfl (Or.inl rfl) rfl w_1603 w_1604 w_1605
theorem c_307_1835 : Snd 307 1835 (i_store 7 1837) := s_istore (by decide +kernel : decode code 1835 = .ok (.istore 7, 2)) ⟨Or.inr (by decide +kernel), by decide +kernel⟩ rfl
theorem c_307_1837 : Snd 307 1837 (i_aload 2 1838) := s_aload_n (by decide +kernel : decode code 1837 = .ok (.aload_n 2, 1)) rfl rfl
theorem c_307_1838 : Snd 307 1838 (i_call 209 0 9) := s_call (c := 9) (nm := "SmokeRelayModel") (by decide +kernel : decode code 1838 = .ok (.invokevirtual 179, 3)) ok_209 rfl (Or.inl rfl) rfl w_1369 w_1370 w_1371
theorem c_307_1841 : Snd 307 1841 (i_iload 6 1843) := s_iload (by decide +kernel : decode code 1841 = .ok (.iload 6, 2)) rfl
theorem c_307_1843 : Snd 307 1843 (i_icmp (fun a b => a = b) (fun _ _ => inferInstance) 1848 1846) := s_icmpeq (by decide +kernel : decode code 1843 = .ok (.if_icmp .eq 5, 3)) (by decide +kernel) rfl
theorem c_307_1846 : Snd 307 1846 (i_push (aI 0) 1847) := s_iconst (by decide +kernel : decode code 1846 = .ok (.iconst 0, 1)) (by decide) rfl
theorem c_307_1847 : Snd 307 1847 (i_iret am_okZ) := s_iret (ty := .boolean) (by decide +kernel : decode code 1847 = .ok (.ireturn, 1)) rfl am_okZ_n
theorem c_307_1848 : Snd 307 1848 (i_iload 6 1850) := s_iload (by decide +kernel : decode code 1848 = .ok (.iload 6, 2)) rfl
theorem c_307_1850 : Snd 307 1850 (i_if (fun a => a ≠ 0) (fun _ => inferInstance) 1865 1853) := s_ifne (by decide +kernel : decode code 1850 = .ok (.ifCond .ne 15, 3)) (by decide +kernel) rfl
theorem c_307_1853 : Snd 307 1853 (i_aload 3 1854) := s_aload_n (by decide +kernel : decode code 1853 = .ok (.aload_n 3, 1)) rfl rfl
theorem c_307_1854 : Snd 307 1854 (i_push (aI 0) 1855) := s_iconst (by decide +kernel : decode code 1854 = .ok (.iconst 0, 1)) (by decide) rfl
theorem c_307_1855 : Snd 307 1855 (i_lald 1856) := s_lald (by decide +kernel : decode code 1855 = .ok (.laload, 1)) rfl
theorem c_307_1856 : Snd 307 1856 (i_iload 7 1858) := s_iload (by decide +kernel : decode code 1856 = .ok (.iload 7, 2)) rfl
theorem c_307_1858 : Snd 307 1858 (i_i2l 1859) := s_i2l (by decide +kernel : decode code 1858 = .ok (.i2l, 1)) rfl
theorem c_307_1859 : Snd 307 1859 (i_lcmp 1860) := s_lcmp (by decide +kernel : decode code 1859 = .ok (.lcmp, 1)) rfl
theorem c_307_1860 : Snd 307 1860 (i_if (fun a => a = 0) (fun _ => inferInstance) 1865 1863) := s_ifeq (by decide +kernel : decode code 1860 = .ok (.ifCond .eq 5, 3)) (by decide +kernel) rfl
theorem c_307_1863 : Snd 307 1863 (i_push (aI 0) 1864) := s_iconst (by decide +kernel : decode code 1863 = .ok (.iconst 0, 1)) (by decide) rfl
theorem c_307_1864 : Snd 307 1864 (i_iret am_okZ) := s_iret (ty := .boolean) (by decide +kernel : decode code 1864 = .ok (.ireturn, 1)) rfl am_okZ_n
theorem c_307_1865 : Snd 307 1865 (i_goto 3145) := s_goto (by decide +kernel : decode code 1865 = .ok (.goto 1280, 3)) (by decide +kernel)
theorem c_307_1868 : Snd 307 1868 (i_aload 1 1869) := s_aload_n (by decide +kernel : decode code 1868 = .ok (.aload_n 1, 1)) rfl rfl
theorem c_307_1869 : Snd 307 1869 (i_aload 0 1870) := s_aload_n (by decide +kernel : decode code 1869 = .ok (.aload_n 0, 1)) rfl rfl
theorem c_307_1870 : Snd 307 1870 (i_iload 5 1872) := s_iload (by decide +kernel : decode code 1870 = .ok (.iload 5, 2)) rfl
theorem c_307_1872 : Snd 307 1872 (i_push (aI 1) 1873) := s_iconst (by decide +kernel : decode code 1872 = .ok (.iconst 1, 1)) (by decide) rfl
theorem c_307_1873 : Snd 307 1873 (i_bin (fun a b => a + b) 1874) := s_iadd (by decide +kernel : decode code 1873 = .ok (.iadd, 1)) rfl
theorem c_307_1874 : Snd 307 1874 (i_iald 1875) := s_iald (by decide +kernel : decode code 1874 = .ok (.iaload, 1)) rfl
theorem c_307_1875 : Snd 307 1875 (i_aload 0 1876) := s_aload_n (by decide +kernel : decode code 1875 = .ok (.aload_n 0, 1)) rfl rfl
theorem c_307_1876 : Snd 307 1876 (i_iload 5 1878) := s_iload (by decide +kernel : decode code 1876 = .ok (.iload 5, 2)) rfl
theorem c_307_1878 : Snd 307 1878 (i_push (aI 2) 1879) := s_iconst (by decide +kernel : decode code 1878 = .ok (.iconst 2, 1)) (by decide) rfl
theorem c_307_1879 : Snd 307 1879 (i_bin (fun a b => a + b) 1880) := s_iadd (by decide +kernel : decode code 1879 = .ok (.iadd, 1)) rfl
theorem c_307_1880 : Snd 307 1880 (i_iald 1881) := s_iald (by decide +kernel : decode code 1880 = .ok (.iaload, 1)) rfl
theorem c_307_1881 : Snd 307 1881 (i_un (fun a => (a.toUInt32 % 65536).toInt32) 1882) := s_i2c (by decide +kernel : decode code 1881 = .ok (.i2c, 1)) rfl
theorem c_307_1882 : Snd 307 1882 (i_aload 3 1883) := s_aload_n (by decide +kernel : decode code 1882 = .ok (.aload_n 3, 1)) rfl rfl
theorem c_307_1883 : Snd 307 1883 (i_calls 126 4) := s_callsX (by decide +kernel : decode code 1883 = .ok (.invokestatic 274, 3)) ok_126 rfl w_913 w_914
theorem c_307_1886 : Snd 307 1886 (i_store 6 1888) := s_istore (by decide +kernel : decode code 1886 = .ok (.istore 6, 2)) ⟨Or.inr (by decide +kernel), by decide +kernel⟩ rfl
theorem c_307_1888 : Snd 307 1888 (i_aload 2 1889) := s_aload_n (by decide +kernel : decode code 1888 = .ok (.aload_n 2, 1)) rfl rfl
theorem c_307_1889 : Snd 307 1889 (i_aload 0 1890) := s_aload_n (by decide +kernel : decode code 1889 = .ok (.aload_n 0, 1)) rfl rfl
theorem c_307_1890 : Snd 307 1890 (i_iload 5 1892) := s_iload (by decide +kernel : decode code 1890 = .ok (.iload 5, 2)) rfl
theorem c_307_1892 : Snd 307 1892 (i_push (aI 1) 1893) := s_iconst (by decide +kernel : decode code 1892 = .ok (.iconst 1, 1)) (by decide) rfl
theorem c_307_1893 : Snd 307 1893 (i_bin (fun a b => a + b) 1894) := s_iadd (by decide +kernel : decode code 1893 = .ok (.iadd, 1)) rfl
theorem c_307_1894 : Snd 307 1894 (i_iald 1895) := s_iald (by decide +kernel : decode code 1894 = .ok (.iaload, 1)) rfl
theorem c_307_1895 : Snd 307 1895 (i_aload 0 1896) := s_aload_n (by decide +kernel : decode code 1895 = .ok (.aload_n 0, 1)) rfl rfl
theorem c_307_1896 : Snd 307 1896 (i_iload 5 1898) := s_iload (by decide +kernel : decode code 1896 = .ok (.iload 5, 2)) rfl
theorem c_307_1898 : Snd 307 1898 (i_push (aI 2) 1899) := s_iconst (by decide +kernel : decode code 1898 = .ok (.iconst 2, 1)) (by decide) rfl
theorem c_307_1899 : Snd 307 1899 (i_bin (fun a b => a + b) 1900) := s_iadd (by decide +kernel : decode code 1899 = .ok (.iadd, 1)) rfl
theorem c_307_1900 : Snd 307 1900 (i_iald 1901) := s_iald (by decide +kernel : decode code 1900 = .ok (.iaload, 1)) rfl
theorem c_307_1901 : Snd 307 1901 (i_un (fun a => (a.toUInt32 % 65536).toInt32) 1902) := s_i2c (by decide +kernel : decode code 1901 = .ok (.i2c, 1)) rfl
theorem c_307_1902 : Snd 307 1902 (i_call 268 2 9) := s_call (c := 9) (nm := "SmokeRelayModel") (by decide +kernel : decode code 1902 = .ok (.invokevirtual 277, 3)) ok_268 rfl (Or.inl rfl) rfl w_1607 w_1608 w_1609
theorem c_307_1905 : Snd 307 1905 (i_store 7 1907) := s_istore (by decide +kernel : decode code 1905 = .ok (.istore 7, 2)) ⟨Or.inr (by decide +kernel), by decide +kernel⟩ rfl
theorem c_307_1907 : Snd 307 1907 (i_aload 2 1908) := s_aload_n (by decide +kernel : decode code 1907 = .ok (.aload_n 2, 1)) rfl rfl
theorem c_307_1908 : Snd 307 1908 (i_call 209 0 9) := s_call (c := 9) (nm := "SmokeRelayModel") (by decide +kernel : decode code 1908 = .ok (.invokevirtual 179, 3)) ok_209 rfl (Or.inl rfl) rfl w_1369 w_1370 w_1371
theorem c_307_1911 : Snd 307 1911 (i_iload 6 1913) := s_iload (by decide +kernel : decode code 1911 = .ok (.iload 6, 2)) rfl
theorem c_307_1913 : Snd 307 1913 (i_icmp (fun a b => a = b) (fun _ _ => inferInstance) 1918 1916) := s_icmpeq (by decide +kernel : decode code 1913 = .ok (.if_icmp .eq 5, 3)) (by decide +kernel) rfl
theorem c_307_1916 : Snd 307 1916 (i_push (aI 0) 1917) := s_iconst (by decide +kernel : decode code 1916 = .ok (.iconst 0, 1)) (by decide) rfl
theorem c_307_1917 : Snd 307 1917 (i_iret am_okZ) := s_iret (ty := .boolean) (by decide +kernel : decode code 1917 = .ok (.ireturn, 1)) rfl am_okZ_n
theorem c_307_1918 : Snd 307 1918 (i_iload 6 1920) := s_iload (by decide +kernel : decode code 1918 = .ok (.iload 6, 2)) rfl
theorem c_307_1920 : Snd 307 1920 (i_if (fun a => a ≠ 0) (fun _ => inferInstance) 1935 1923) := s_ifne (by decide +kernel : decode code 1920 = .ok (.ifCond .ne 15, 3)) (by decide +kernel) rfl
theorem c_307_1923 : Snd 307 1923 (i_aload 3 1924) := s_aload_n (by decide +kernel : decode code 1923 = .ok (.aload_n 3, 1)) rfl rfl
theorem c_307_1924 : Snd 307 1924 (i_push (aI 0) 1925) := s_iconst (by decide +kernel : decode code 1924 = .ok (.iconst 0, 1)) (by decide) rfl
theorem c_307_1925 : Snd 307 1925 (i_lald 1926) := s_lald (by decide +kernel : decode code 1925 = .ok (.laload, 1)) rfl
theorem c_307_1926 : Snd 307 1926 (i_iload 7 1928) := s_iload (by decide +kernel : decode code 1926 = .ok (.iload 7, 2)) rfl
theorem c_307_1928 : Snd 307 1928 (i_i2l 1929) := s_i2l (by decide +kernel : decode code 1928 = .ok (.i2l, 1)) rfl
theorem c_307_1929 : Snd 307 1929 (i_lcmp 1930) := s_lcmp (by decide +kernel : decode code 1929 = .ok (.lcmp, 1)) rfl
theorem c_307_1930 : Snd 307 1930 (i_if (fun a => a = 0) (fun _ => inferInstance) 1935 1933) := s_ifeq (by decide +kernel : decode code 1930 = .ok (.ifCond .eq 5, 3)) (by decide +kernel) rfl
theorem c_307_1933 : Snd 307 1933 (i_push (aI 0) 1934) := s_iconst (by decide +kernel : decode code 1933 = .ok (.iconst 0, 1)) (by decide) rfl
theorem c_307_1934 : Snd 307 1934 (i_iret am_okZ) := s_iret (ty := .boolean) (by decide +kernel : decode code 1934 = .ok (.ireturn, 1)) rfl am_okZ_n
theorem c_307_1935 : Snd 307 1935 (i_goto 3145) := s_goto (by decide +kernel : decode code 1935 = .ok (.goto 1210, 3)) (by decide +kernel)
theorem c_307_1938 : Snd 307 1938 (i_aload 1 1939) := s_aload_n (by decide +kernel : decode code 1938 = .ok (.aload_n 1, 1)) rfl rfl
theorem c_307_1939 : Snd 307 1939 (i_aload 0 1940) := s_aload_n (by decide +kernel : decode code 1939 = .ok (.aload_n 0, 1)) rfl rfl
theorem c_307_1940 : Snd 307 1940 (i_iload 5 1942) := s_iload (by decide +kernel : decode code 1940 = .ok (.iload 5, 2)) rfl
theorem c_307_1942 : Snd 307 1942 (i_push (aI 1) 1943) := s_iconst (by decide +kernel : decode code 1942 = .ok (.iconst 1, 1)) (by decide) rfl
theorem c_307_1943 : Snd 307 1943 (i_bin (fun a b => a + b) 1944) := s_iadd (by decide +kernel : decode code 1943 = .ok (.iadd, 1)) rfl
theorem c_307_1944 : Snd 307 1944 (i_iald 1945) := s_iald (by decide +kernel : decode code 1944 = .ok (.iaload, 1)) rfl
theorem c_307_1945 : Snd 307 1945 (i_aload 0 1946) := s_aload_n (by decide +kernel : decode code 1945 = .ok (.aload_n 0, 1)) rfl rfl
theorem c_307_1946 : Snd 307 1946 (i_iload 5 1948) := s_iload (by decide +kernel : decode code 1946 = .ok (.iload 5, 2)) rfl
theorem c_307_1948 : Snd 307 1948 (i_push (aI 2) 1949) := s_iconst (by decide +kernel : decode code 1948 = .ok (.iconst 2, 1)) (by decide) rfl
theorem c_307_1949 : Snd 307 1949 (i_bin (fun a b => a + b) 1950) := s_iadd (by decide +kernel : decode code 1949 = .ok (.iadd, 1)) rfl
theorem c_307_1950 : Snd 307 1950 (i_iald 1951) := s_iald (by decide +kernel : decode code 1950 = .ok (.iaload, 1)) rfl
theorem c_307_1951 : Snd 307 1951 (i_aload 0 1952) := s_aload_n (by decide +kernel : decode code 1951 = .ok (.aload_n 0, 1)) rfl rfl
theorem c_307_1952 : Snd 307 1952 (i_iload 5 1954) := s_iload (by decide +kernel : decode code 1952 = .ok (.iload 5, 2)) rfl
theorem c_307_1954 : Snd 307 1954 (i_push (aI 3) 1955) := s_iconst (by decide +kernel : decode code 1954 = .ok (.iconst 3, 1)) (by decide) rfl
theorem c_307_1955 : Snd 307 1955 (i_bin (fun a b => a + b) 1956) := s_iadd (by decide +kernel : decode code 1955 = .ok (.iadd, 1)) rfl
theorem c_307_1956 : Snd 307 1956 (i_iald 1957) := s_iald (by decide +kernel : decode code 1956 = .ok (.iaload, 1)) rfl
theorem c_307_1957 : Snd 307 1957 (i_un (fun a => (a.toUInt32 % 65536).toInt32) 1958) := s_i2c (by decide +kernel : decode code 1957 = .ok (.i2c, 1)) rfl
theorem c_307_1958 : Snd 307 1958 (i_aload 3 1959) := s_aload_n (by decide +kernel : decode code 1958 = .ok (.aload_n 3, 1)) rfl rfl
theorem c_307_1959 : Snd 307 1959 (i_calls 130 5) := s_callsX (by decide +kernel : decode code 1959 = .ok (.invokestatic 278, 3)) ok_130 rfl w_927 w_928
theorem c_307_1962 : Snd 307 1962 (i_store 6 1964) := s_istore (by decide +kernel : decode code 1962 = .ok (.istore 6, 2)) ⟨Or.inr (by decide +kernel), by decide +kernel⟩ rfl
theorem c_307_1964 : Snd 307 1964 (i_aload 2 1965) := s_aload_n (by decide +kernel : decode code 1964 = .ok (.aload_n 2, 1)) rfl rfl
theorem c_307_1965 : Snd 307 1965 (i_aload 0 1966) := s_aload_n (by decide +kernel : decode code 1965 = .ok (.aload_n 0, 1)) rfl rfl
theorem c_307_1966 : Snd 307 1966 (i_iload 5 1968) := s_iload (by decide +kernel : decode code 1966 = .ok (.iload 5, 2)) rfl
theorem c_307_1968 : Snd 307 1968 (i_push (aI 1) 1969) := s_iconst (by decide +kernel : decode code 1968 = .ok (.iconst 1, 1)) (by decide) rfl
theorem c_307_1969 : Snd 307 1969 (i_bin (fun a b => a + b) 1970) := s_iadd (by decide +kernel : decode code 1969 = .ok (.iadd, 1)) rfl
theorem c_307_1970 : Snd 307 1970 (i_iald 1971) := s_iald (by decide +kernel : decode code 1970 = .ok (.iaload, 1)) rfl
theorem c_307_1971 : Snd 307 1971 (i_aload 0 1972) := s_aload_n (by decide +kernel : decode code 1971 = .ok (.aload_n 0, 1)) rfl rfl
theorem c_307_1972 : Snd 307 1972 (i_iload 5 1974) := s_iload (by decide +kernel : decode code 1972 = .ok (.iload 5, 2)) rfl
theorem c_307_1974 : Snd 307 1974 (i_push (aI 2) 1975) := s_iconst (by decide +kernel : decode code 1974 = .ok (.iconst 2, 1)) (by decide) rfl
theorem c_307_1975 : Snd 307 1975 (i_bin (fun a b => a + b) 1976) := s_iadd (by decide +kernel : decode code 1975 = .ok (.iadd, 1)) rfl
theorem c_307_1976 : Snd 307 1976 (i_iald 1977) := s_iald (by decide +kernel : decode code 1976 = .ok (.iaload, 1)) rfl
theorem c_307_1977 : Snd 307 1977 (i_aload 0 1978) := s_aload_n (by decide +kernel : decode code 1977 = .ok (.aload_n 0, 1)) rfl rfl
theorem c_307_1978 : Snd 307 1978 (i_iload 5 1980) := s_iload (by decide +kernel : decode code 1978 = .ok (.iload 5, 2)) rfl
theorem c_307_1980 : Snd 307 1980 (i_push (aI 3) 1981) := s_iconst (by decide +kernel : decode code 1980 = .ok (.iconst 3, 1)) (by decide) rfl
theorem c_307_1981 : Snd 307 1981 (i_bin (fun a b => a + b) 1982) := s_iadd (by decide +kernel : decode code 1981 = .ok (.iadd, 1)) rfl
theorem c_307_1982 : Snd 307 1982 (i_iald 1983) := s_iald (by decide +kernel : decode code 1982 = .ok (.iaload, 1)) rfl
theorem c_307_1983 : Snd 307 1983 (i_un (fun a => (a.toUInt32 % 65536).toInt32) 1984) := s_i2c (by decide +kernel : decode code 1983 = .ok (.i2c, 1)) rfl
theorem c_307_1984 : Snd 307 1984 (i_call 270 3 9) := s_call (c := 9) (nm := "SmokeRelayModel") (by decide +kernel : decode code 1984 = .ok (.invokevirtual 281, 3)) ok_270 rfl (Or.inl rfl) rfl w_1615 w_1616 w_1617
theorem c_307_1987 : Snd 307 1987 (i_store 7 1989) := s_istore (by decide +kernel : decode code 1987 = .ok (.istore 7, 2)) ⟨Or.inr (by decide +kernel), by decide +kernel⟩ rfl
theorem c_307_1989 : Snd 307 1989 (i_aload 2 1990) := s_aload_n (by decide +kernel : decode code 1989 = .ok (.aload_n 2, 1)) rfl rfl
theorem c_307_1990 : Snd 307 1990 (i_call 209 0 9) := s_call (c := 9) (nm := "SmokeRelayModel") (by decide +kernel : decode code 1990 = .ok (.invokevirtual 179, 3)) ok_209 rfl (Or.inl rfl) rfl w_1369 w_1370 w_1371
theorem c_307_1993 : Snd 307 1993 (i_iload 6 1995) := s_iload (by decide +kernel : decode code 1993 = .ok (.iload 6, 2)) rfl
theorem c_307_1995 : Snd 307 1995 (i_icmp (fun a b => a = b) (fun _ _ => inferInstance) 2000 1998) := s_icmpeq (by decide +kernel : decode code 1995 = .ok (.if_icmp .eq 5, 3)) (by decide +kernel) rfl
theorem c_307_1998 : Snd 307 1998 (i_push (aI 0) 1999) := s_iconst (by decide +kernel : decode code 1998 = .ok (.iconst 0, 1)) (by decide) rfl
theorem c_307_1999 : Snd 307 1999 (i_iret am_okZ) := s_iret (ty := .boolean) (by decide +kernel : decode code 1999 = .ok (.ireturn, 1)) rfl am_okZ_n
theorem c_307_2000 : Snd 307 2000 (i_iload 6 2002) := s_iload (by decide +kernel : decode code 2000 = .ok (.iload 6, 2)) rfl
theorem c_307_2002 : Snd 307 2002 (i_if (fun a => a ≠ 0) (fun _ => inferInstance) 2017 2005) := s_ifne (by decide +kernel : decode code 2002 = .ok (.ifCond .ne 15, 3)) (by decide +kernel) rfl
theorem c_307_2005 : Snd 307 2005 (i_aload 3 2006) := s_aload_n (by decide +kernel : decode code 2005 = .ok (.aload_n 3, 1)) rfl rfl
theorem c_307_2006 : Snd 307 2006 (i_push (aI 0) 2007) := s_iconst (by decide +kernel : decode code 2006 = .ok (.iconst 0, 1)) (by decide) rfl
theorem c_307_2007 : Snd 307 2007 (i_lald 2008) := s_lald (by decide +kernel : decode code 2007 = .ok (.laload, 1)) rfl
theorem c_307_2008 : Snd 307 2008 (i_iload 7 2010) := s_iload (by decide +kernel : decode code 2008 = .ok (.iload 7, 2)) rfl
theorem c_307_2010 : Snd 307 2010 (i_i2l 2011) := s_i2l (by decide +kernel : decode code 2010 = .ok (.i2l, 1)) rfl
theorem c_307_2011 : Snd 307 2011 (i_lcmp 2012) := s_lcmp (by decide +kernel : decode code 2011 = .ok (.lcmp, 1)) rfl
theorem c_307_2012 : Snd 307 2012 (i_if (fun a => a = 0) (fun _ => inferInstance) 2017 2015) := s_ifeq (by decide +kernel : decode code 2012 = .ok (.ifCond .eq 5, 3)) (by decide +kernel) rfl
theorem c_307_2015 : Snd 307 2015 (i_push (aI 0) 2016) := s_iconst (by decide +kernel : decode code 2015 = .ok (.iconst 0, 1)) (by decide) rfl
theorem c_307_2016 : Snd 307 2016 (i_iret am_okZ) := s_iret (ty := .boolean) (by decide +kernel : decode code 2016 = .ok (.ireturn, 1)) rfl am_okZ_n
theorem c_307_2017 : Snd 307 2017 (i_goto 3145) := s_goto (by decide +kernel : decode code 2017 = .ok (.goto 1128, 3)) (by decide +kernel)
theorem c_307_2020 : Snd 307 2020 (i_aload 1 2021) := s_aload_n (by decide +kernel : decode code 2020 = .ok (.aload_n 1, 1)) rfl rfl
theorem c_307_2021 : Snd 307 2021 (i_aload 0 2022) := s_aload_n (by decide +kernel : decode code 2021 = .ok (.aload_n 0, 1)) rfl rfl
theorem c_307_2022 : Snd 307 2022 (i_iload 5 2024) := s_iload (by decide +kernel : decode code 2022 = .ok (.iload 5, 2)) rfl
theorem c_307_2024 : Snd 307 2024 (i_push (aI 1) 2025) := s_iconst (by decide +kernel : decode code 2024 = .ok (.iconst 1, 1)) (by decide) rfl
theorem c_307_2025 : Snd 307 2025 (i_bin (fun a b => a + b) 2026) := s_iadd (by decide +kernel : decode code 2025 = .ok (.iadd, 1)) rfl
theorem c_307_2026 : Snd 307 2026 (i_iald 2027) := s_iald (by decide +kernel : decode code 2026 = .ok (.iaload, 1)) rfl
theorem c_307_2027 : Snd 307 2027 (i_aload 0 2028) := s_aload_n (by decide +kernel : decode code 2027 = .ok (.aload_n 0, 1)) rfl rfl
theorem c_307_2028 : Snd 307 2028 (i_iload 5 2030) := s_iload (by decide +kernel : decode code 2028 = .ok (.iload 5, 2)) rfl
theorem c_307_2030 : Snd 307 2030 (i_push (aI 2) 2031) := s_iconst (by decide +kernel : decode code 2030 = .ok (.iconst 2, 1)) (by decide) rfl
theorem c_307_2031 : Snd 307 2031 (i_bin (fun a b => a + b) 2032) := s_iadd (by decide +kernel : decode code 2031 = .ok (.iadd, 1)) rfl
theorem c_307_2032 : Snd 307 2032 (i_iald 2033) := s_iald (by decide +kernel : decode code 2032 = .ok (.iaload, 1)) rfl
theorem c_307_2033 : Snd 307 2033 (i_aload 0 2034) := s_aload_n (by decide +kernel : decode code 2033 = .ok (.aload_n 0, 1)) rfl rfl
theorem c_307_2034 : Snd 307 2034 (i_iload 5 2036) := s_iload (by decide +kernel : decode code 2034 = .ok (.iload 5, 2)) rfl
theorem c_307_2036 : Snd 307 2036 (i_push (aI 3) 2037) := s_iconst (by decide +kernel : decode code 2036 = .ok (.iconst 3, 1)) (by decide) rfl
theorem c_307_2037 : Snd 307 2037 (i_bin (fun a b => a + b) 2038) := s_iadd (by decide +kernel : decode code 2037 = .ok (.iadd, 1)) rfl
theorem c_307_2038 : Snd 307 2038 (i_iald 2039) := s_iald (by decide +kernel : decode code 2038 = .ok (.iaload, 1)) rfl
theorem c_307_2039 : Snd 307 2039 (i_un (fun a => (a.toUInt32 % 65536).toInt32) 2040) := s_i2c (by decide +kernel : decode code 2039 = .ok (.i2c, 1)) rfl
theorem c_307_2040 : Snd 307 2040 (i_aload 3 2041) := s_aload_n (by decide +kernel : decode code 2040 = .ok (.aload_n 3, 1)) rfl rfl
theorem c_307_2041 : Snd 307 2041 (i_calls 137 5) := s_callsX (by decide +kernel : decode code 2041 = .ok (.invokestatic 282, 3)) ok_137 rfl w_971 w_972
theorem c_307_2044 : Snd 307 2044 (i_store 6 2046) := s_istore (by decide +kernel : decode code 2044 = .ok (.istore 6, 2)) ⟨Or.inr (by decide +kernel), by decide +kernel⟩ rfl
theorem c_307_2046 : Snd 307 2046 (i_aload 2 2047) := s_aload_n (by decide +kernel : decode code 2046 = .ok (.aload_n 2, 1)) rfl rfl
theorem c_307_2047 : Snd 307 2047 (i_aload 0 2048) := s_aload_n (by decide +kernel : decode code 2047 = .ok (.aload_n 0, 1)) rfl rfl
theorem c_307_2048 : Snd 307 2048 (i_iload 5 2050) := s_iload (by decide +kernel : decode code 2048 = .ok (.iload 5, 2)) rfl
theorem c_307_2050 : Snd 307 2050 (i_push (aI 1) 2051) := s_iconst (by decide +kernel : decode code 2050 = .ok (.iconst 1, 1)) (by decide) rfl
theorem c_307_2051 : Snd 307 2051 (i_bin (fun a b => a + b) 2052) := s_iadd (by decide +kernel : decode code 2051 = .ok (.iadd, 1)) rfl
theorem c_307_2052 : Snd 307 2052 (i_iald 2053) := s_iald (by decide +kernel : decode code 2052 = .ok (.iaload, 1)) rfl
theorem c_307_2053 : Snd 307 2053 (i_aload 0 2054) := s_aload_n (by decide +kernel : decode code 2053 = .ok (.aload_n 0, 1)) rfl rfl
theorem c_307_2054 : Snd 307 2054 (i_iload 5 2056) := s_iload (by decide +kernel : decode code 2054 = .ok (.iload 5, 2)) rfl
theorem c_307_2056 : Snd 307 2056 (i_push (aI 2) 2057) := s_iconst (by decide +kernel : decode code 2056 = .ok (.iconst 2, 1)) (by decide) rfl
theorem c_307_2057 : Snd 307 2057 (i_bin (fun a b => a + b) 2058) := s_iadd (by decide +kernel : decode code 2057 = .ok (.iadd, 1)) rfl
theorem c_307_2058 : Snd 307 2058 (i_iald 2059) := s_iald (by decide +kernel : decode code 2058 = .ok (.iaload, 1)) rfl
theorem c_307_2059 : Snd 307 2059 (i_aload 0 2060) := s_aload_n (by decide +kernel : decode code 2059 = .ok (.aload_n 0, 1)) rfl rfl
theorem c_307_2060 : Snd 307 2060 (i_iload 5 2062) := s_iload (by decide +kernel : decode code 2060 = .ok (.iload 5, 2)) rfl
theorem c_307_2062 : Snd 307 2062 (i_push (aI 3) 2063) := s_iconst (by decide +kernel : decode code 2062 = .ok (.iconst 3, 1)) (by decide) rfl
theorem c_307_2063 : Snd 307 2063 (i_bin (fun a b => a + b) 2064) := s_iadd (by decide +kernel : decode code 2063 = .ok (.iadd, 1)) rfl
theorem c_307_2064 : Snd 307 2064 (i_iald 2065) := s_iald (by decide +kernel : decode code 2064 = .ok (.iaload, 1)) rfl
theorem c_307_2065 : Snd 307 2065 (i_un (fun a => (a.toUInt32 % 65536).toInt32) 2066) := s_i2c (by decide +kernel : decode code 2065 = .ok (.i2c, 1)) rfl
theorem c_307_2066 : Snd 307 2066 (i_call 273 3 9) := s_call (c := 9) (nm := "SmokeRelayModel") (by decide +kernel : decode code 2066 = .ok (.invokevirtual 284, 3)) ok_273 rfl (Or.inl rfl) rfl w_1627 w_1628 w_1629
theorem c_307_2069 : Snd 307 2069 (i_store 7 2071) := s_istore (by decide +kernel : decode code 2069 = .ok (.istore 7, 2)) ⟨Or.inr (by decide +kernel), by decide +kernel⟩ rfl
theorem c_307_2071 : Snd 307 2071 (i_aload 2 2072) := s_aload_n (by decide +kernel : decode code 2071 = .ok (.aload_n 2, 1)) rfl rfl
theorem c_307_2072 : Snd 307 2072 (i_call 209 0 9) := s_call (c := 9) (nm := "SmokeRelayModel") (by decide +kernel : decode code 2072 = .ok (.invokevirtual 179, 3)) ok_209 rfl (Or.inl rfl) rfl w_1369 w_1370 w_1371
theorem c_307_2075 : Snd 307 2075 (i_iload 6 2077) := s_iload (by decide +kernel : decode code 2075 = .ok (.iload 6, 2)) rfl
theorem c_307_2077 : Snd 307 2077 (i_icmp (fun a b => a = b) (fun _ _ => inferInstance) 2082 2080) := s_icmpeq (by decide +kernel : decode code 2077 = .ok (.if_icmp .eq 5, 3)) (by decide +kernel) rfl
theorem c_307_2080 : Snd 307 2080 (i_push (aI 0) 2081) := s_iconst (by decide +kernel : decode code 2080 = .ok (.iconst 0, 1)) (by decide) rfl
theorem c_307_2081 : Snd 307 2081 (i_iret am_okZ) := s_iret (ty := .boolean) (by decide +kernel : decode code 2081 = .ok (.ireturn, 1)) rfl am_okZ_n
theorem c_307_2082 : Snd 307 2082 (i_iload 6 2084) := s_iload (by decide +kernel : decode code 2082 = .ok (.iload 6, 2)) rfl
theorem c_307_2084 : Snd 307 2084 (i_if (fun a => a ≠ 0) (fun _ => inferInstance) 2106 2087) := s_ifne (by decide +kernel : decode code 2084 = .ok (.ifCond .ne 22, 3)) (by decide +kernel) rfl
theorem c_307_2087 : Snd 307 2087 (i_aload 3 2088) := s_aload_n (by decide +kernel : decode code 2087 = .ok (.aload_n 3, 1)) rfl rfl
theorem c_307_2088 : Snd 307 2088 (i_push (aI 0) 2089) := s_iconst (by decide +kernel : decode code 2088 = .ok (.iconst 0, 1)) (by decide) rfl
theorem c_307_2089 : Snd 307 2089 (i_lald 2090) := s_lald (by decide +kernel : decode code 2089 = .ok (.laload, 1)) rfl
theorem c_307_2090 : Snd 307 2090 (i_iload 7 2092) := s_iload (by decide +kernel : decode code 2090 = .ok (.iload 7, 2)) rfl
theorem c_307_2092 : Snd 307 2092 (i_if (fun a => a = 0) (fun _ => inferInstance) 2099 2095) := s_ifeq (by decide +kernel : decode code 2092 = .ok (.ifCond .eq 7, 3)) (by decide +kernel) rfl
theorem c_307_2095 : Snd 307 2095 (i_push (aL 1) 2096) := s_lconst (by decide +kernel : decode code 2095 = .ok (.lconst 1, 1)) (by decide +kernel) rfl
theorem c_307_2096 : Snd 307 2096 (i_goto 2100) := s_goto (by decide +kernel : decode code 2096 = .ok (.goto 4, 3)) (by decide +kernel)
theorem c_307_2099 : Snd 307 2099 (i_push (aL 0) 2100) := s_lconst (by decide +kernel : decode code 2099 = .ok (.lconst 0, 1)) (by decide +kernel) rfl
theorem c_307_2100 : Snd 307 2100 (i_lcmp 2101) := s_lcmp (by decide +kernel : decode code 2100 = .ok (.lcmp, 1)) rfl
theorem c_307_2101 : Snd 307 2101 (i_if (fun a => a = 0) (fun _ => inferInstance) 2106 2104) := s_ifeq (by decide +kernel : decode code 2101 = .ok (.ifCond .eq 5, 3)) (by decide +kernel) rfl
theorem c_307_2104 : Snd 307 2104 (i_push (aI 0) 2105) := s_iconst (by decide +kernel : decode code 2104 = .ok (.iconst 0, 1)) (by decide) rfl
theorem c_307_2105 : Snd 307 2105 (i_iret am_okZ) := s_iret (ty := .boolean) (by decide +kernel : decode code 2105 = .ok (.ireturn, 1)) rfl am_okZ_n
theorem c_307_2106 : Snd 307 2106 (i_goto 3145) := s_goto (by decide +kernel : decode code 2106 = .ok (.goto 1039, 3)) (by decide +kernel)
theorem c_307_2109 : Snd 307 2109 (i_aload 1 2110) := s_aload_n (by decide +kernel : decode code 2109 = .ok (.aload_n 1, 1)) rfl rfl
theorem c_307_2110 : Snd 307 2110 (i_aload 0 2111) := s_aload_n (by decide +kernel : decode code 2110 = .ok (.aload_n 0, 1)) rfl rfl
theorem c_307_2111 : Snd 307 2111 (i_iload 5 2113) := s_iload (by decide +kernel : decode code 2111 = .ok (.iload 5, 2)) rfl
theorem c_307_2113 : Snd 307 2113 (i_push (aI 1) 2114) := s_iconst (by decide +kernel : decode code 2113 = .ok (.iconst 1, 1)) (by decide) rfl
theorem c_307_2114 : Snd 307 2114 (i_bin (fun a b => a + b) 2115) := s_iadd (by decide +kernel : decode code 2114 = .ok (.iadd, 1)) rfl
theorem c_307_2115 : Snd 307 2115 (i_iald 2116) := s_iald (by decide +kernel : decode code 2115 = .ok (.iaload, 1)) rfl
theorem c_307_2116 : Snd 307 2116 (i_aload 3 2117) := s_aload_n (by decide +kernel : decode code 2116 = .ok (.aload_n 3, 1)) rfl rfl
theorem c_307_2117 : Snd 307 2117 (i_calls 139 3) := s_callsX (by decide +kernel : decode code 2117 = .ok (.invokestatic 285, 3)) ok_139 rfl w_978 w_979
theorem c_307_2120 : Snd 307 2120 (i_store 6 2122) := s_istore (by decide +kernel : decode code 2120 = .ok (.istore 6, 2)) ⟨Or.inr (by decide +kernel), by decide +kernel⟩ rfl
theorem c_307_2122 : Snd 307 2122 (i_aload 2 2123) := s_aload_n (by decide +kernel : decode code 2122 = .ok (.aload_n 2, 1)) rfl rfl
theorem c_307_2123 : Snd 307 2123 (i_aload 0 2124) := s_aload_n (by decide +kernel : decode code 2123 = .ok (.aload_n 0, 1)) rfl rfl
theorem c_307_2124 : Snd 307 2124 (i_iload 5 2126) := s_iload (by decide +kernel : decode code 2124 = .ok (.iload 5, 2)) rfl
theorem c_307_2126 : Snd 307 2126 (i_push (aI 1) 2127) := s_iconst (by decide +kernel : decode code 2126 = .ok (.iconst 1, 1)) (by decide) rfl
theorem c_307_2127 : Snd 307 2127 (i_bin (fun a b => a + b) 2128) := s_iadd (by decide +kernel : decode code 2127 = .ok (.iadd, 1)) rfl
theorem c_307_2128 : Snd 307 2128 (i_iald 2129) := s_iald (by decide +kernel : decode code 2128 = .ok (.iaload, 1)) rfl
theorem c_307_2129 : Snd 307 2129 (i_call 274 1 9) := s_call (c := 9) (nm := "SmokeRelayModel") (by decide +kernel : decode code 2129 = .ok (.invokevirtual 287, 3)) ok_274 rfl (Or.inl rfl) rfl w_1631 w_1632 w_1633
theorem c_307_2132 : Snd 307 2132 (i_store 7 2134) := s_istore (by decide +kernel : decode code 2132 = .ok (.istore 7, 2)) ⟨Or.inr (by decide +kernel), by decide +kernel⟩ rfl
theorem c_307_2134 : Snd 307 2134 (i_aload 2 2135) := s_aload_n (by decide +kernel : decode code 2134 = .ok (.aload_n 2, 1)) rfl rfl
theorem c_307_2135 : Snd 307 2135 (i_call 209 0 9) := s_call (c := 9) (nm := "SmokeRelayModel") (by decide +kernel : decode code 2135 = .ok (.invokevirtual 179, 3)) ok_209 rfl (Or.inl rfl) rfl w_1369 w_1370 w_1371
theorem c_307_2138 : Snd 307 2138 (i_iload 6 2140) := s_iload (by decide +kernel : decode code 2138 = .ok (.iload 6, 2)) rfl
theorem c_307_2140 : Snd 307 2140 (i_icmp (fun a b => a = b) (fun _ _ => inferInstance) 2145 2143) := s_icmpeq (by decide +kernel : decode code 2140 = .ok (.if_icmp .eq 5, 3)) (by decide +kernel) rfl
theorem c_307_2143 : Snd 307 2143 (i_push (aI 0) 2144) := s_iconst (by decide +kernel : decode code 2143 = .ok (.iconst 0, 1)) (by decide) rfl
theorem c_307_2144 : Snd 307 2144 (i_iret am_okZ) := s_iret (ty := .boolean) (by decide +kernel : decode code 2144 = .ok (.ireturn, 1)) rfl am_okZ_n
theorem c_307_2145 : Snd 307 2145 (i_iload 6 2147) := s_iload (by decide +kernel : decode code 2145 = .ok (.iload 6, 2)) rfl
theorem c_307_2147 : Snd 307 2147 (i_if (fun a => a ≠ 0) (fun _ => inferInstance) 2162 2150) := s_ifne (by decide +kernel : decode code 2147 = .ok (.ifCond .ne 15, 3)) (by decide +kernel) rfl
theorem c_307_2150 : Snd 307 2150 (i_aload 3 2151) := s_aload_n (by decide +kernel : decode code 2150 = .ok (.aload_n 3, 1)) rfl rfl
theorem c_307_2151 : Snd 307 2151 (i_push (aI 0) 2152) := s_iconst (by decide +kernel : decode code 2151 = .ok (.iconst 0, 1)) (by decide) rfl
theorem c_307_2152 : Snd 307 2152 (i_lald 2153) := s_lald (by decide +kernel : decode code 2152 = .ok (.laload, 1)) rfl
theorem c_307_2153 : Snd 307 2153 (i_iload 7 2155) := s_iload (by decide +kernel : decode code 2153 = .ok (.iload 7, 2)) rfl
theorem c_307_2155 : Snd 307 2155 (i_i2l 2156) := s_i2l (by decide +kernel : decode code 2155 = .ok (.i2l, 1)) rfl
theorem c_307_2156 : Snd 307 2156 (i_lcmp 2157) := s_lcmp (by decide +kernel : decode code 2156 = .ok (.lcmp, 1)) rfl
theorem c_307_2157 : Snd 307 2157 (i_if (fun a => a = 0) (fun _ => inferInstance) 2162 2160) := s_ifeq (by decide +kernel : decode code 2157 = .ok (.ifCond .eq 5, 3)) (by decide +kernel) rfl
theorem c_307_2160 : Snd 307 2160 (i_push (aI 0) 2161) := s_iconst (by decide +kernel : decode code 2160 = .ok (.iconst 0, 1)) (by decide) rfl
theorem c_307_2161 : Snd 307 2161 (i_iret am_okZ) := s_iret (ty := .boolean) (by decide +kernel : decode code 2161 = .ok (.ireturn, 1)) rfl am_okZ_n
theorem c_307_2162 : Snd 307 2162 (i_goto 3145) := s_goto (by decide +kernel : decode code 2162 = .ok (.goto 983, 3)) (by decide +kernel)
theorem c_307_2165 : Snd 307 2165 (i_aload 1 2166) := s_aload_n (by decide +kernel : decode code 2165 = .ok (.aload_n 1, 1)) rfl rfl
theorem c_307_2166 : Snd 307 2166 (i_aload 0 2167) := s_aload_n (by decide +kernel : decode code 2166 = .ok (.aload_n 0, 1)) rfl rfl
theorem c_307_2167 : Snd 307 2167 (i_iload 5 2169) := s_iload (by decide +kernel : decode code 2167 = .ok (.iload 5, 2)) rfl
theorem c_307_2169 : Snd 307 2169 (i_push (aI 1) 2170) := s_iconst (by decide +kernel : decode code 2169 = .ok (.iconst 1, 1)) (by decide) rfl
theorem c_307_2170 : Snd 307 2170 (i_bin (fun a b => a + b) 2171) := s_iadd (by decide +kernel : decode code 2170 = .ok (.iadd, 1)) rfl
theorem c_307_2171 : Snd 307 2171 (i_iald 2172) := s_iald (by decide +kernel : decode code 2171 = .ok (.iaload, 1)) rfl
theorem c_307_2172 : Snd 307 2172 (i_aload 3 2173) := s_aload_n (by decide +kernel : decode code 2172 = .ok (.aload_n 3, 1)) rfl rfl
theorem c_307_2173 : Snd 307 2173 (i_calls 141 3) := s_callsX (by decide +kernel : decode code 2173 = .ok (.invokestatic 288, 3)) ok_141 rfl w_985 w_986
theorem c_307_2176 : Snd 307 2176 (i_store 6 2178) := s_istore (by decide +kernel : decode code 2176 = .ok (.istore 6, 2)) ⟨Or.inr (by decide +kernel), by decide +kernel⟩ rfl
theorem c_307_2178 : Snd 307 2178 (i_aload 2 2179) := s_aload_n (by decide +kernel : decode code 2178 = .ok (.aload_n 2, 1)) rfl rfl
theorem c_307_2179 : Snd 307 2179 (i_aload 0 2180) := s_aload_n (by decide +kernel : decode code 2179 = .ok (.aload_n 0, 1)) rfl rfl
theorem c_307_2180 : Snd 307 2180 (i_iload 5 2182) := s_iload (by decide +kernel : decode code 2180 = .ok (.iload 5, 2)) rfl
theorem c_307_2182 : Snd 307 2182 (i_push (aI 1) 2183) := s_iconst (by decide +kernel : decode code 2182 = .ok (.iconst 1, 1)) (by decide) rfl
theorem c_307_2183 : Snd 307 2183 (i_bin (fun a b => a + b) 2184) := s_iadd (by decide +kernel : decode code 2183 = .ok (.iadd, 1)) rfl
theorem c_307_2184 : Snd 307 2184 (i_iald 2185) := s_iald (by decide +kernel : decode code 2184 = .ok (.iaload, 1)) rfl
theorem c_307_2185 : Snd 307 2185 (i_call 275 1 9) := s_call (c := 9) (nm := "SmokeRelayModel") (by decide +kernel : decode code 2185 = .ok (.invokevirtual 290, 3)) ok_275 rfl (Or.inl rfl) rfl w_1635 w_1636 w_1637
theorem c_307_2188 : Snd 307 2188 (i_store 7 2190) := s_istore (by decide +kernel : decode code 2188 = .ok (.istore 7, 2)) ⟨Or.inr (by decide +kernel), by decide +kernel⟩ rfl
