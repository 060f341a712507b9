/-! the turns of the law -/
theorem n_1068 : Cond.methodLink RL 99 yL_count ∈ TB := TB_5 14 (by decide +kernel) rfl
theorem n_1069 : Cond.static yL_count ∈ TB := TB_5 15 (by decide +kernel) rfl
theorem n_1096 : Cond.methodLink RL 102 yL_amount ∈ TB := TB_5 42 (by decide +kernel) rfl
theorem n_1097 : Cond.static yL_amount ∈ TB := TB_5 43 (by decide +kernel) rfl
theorem n_1108 : Cond.methodLink RL 106 yL_colour ∈ TB := TB_5 54 (by decide +kernel) rfl
theorem n_1109 : Cond.static yL_colour ∈ TB := TB_5 55 (by decide +kernel) rfl
theorem n_1119 : Cond.methodLink RL 109 yL_set ∈ TB := TB_5 65 (by decide +kernel) rfl
theorem n_1120 : Cond.static yL_set ∈ TB := TB_5 66 (by decide +kernel) rfl
theorem n_1130 : Cond.methodLink RL 113 yL_fill ∈ TB := TB_5 76 (by decide +kernel) rfl
theorem n_1131 : Cond.static yL_fill ∈ TB := TB_5 77 (by decide +kernel) rfl
theorem n_1137 : Cond.methodLink RL 121 yL_jam ∈ TB := TB_5 83 (by decide +kernel) rfl
theorem n_1138 : Cond.static yL_jam ∈ TB := TB_5 84 (by decide +kernel) rfl
theorem n_1144 : Cond.methodLink RL 125 yL_press ∈ TB := TB_5 90 (by decide +kernel) rfl
theorem n_1145 : Cond.static yL_press ∈ TB := TB_5 91 (by decide +kernel) rfl
theorem n_1151 : Cond.methodLink RL 136 yL_bound ∈ TB := TB_5 97 (by decide +kernel) rfl
theorem n_1152 : Cond.static yL_bound ∈ TB := TB_5 98 (by decide +kernel) rfl
theorem n_1162 : Cond.methodLink RL 139 yL_quiet ∈ TB := TB_5 108 (by decide +kernel) rfl
theorem n_1163 : Cond.static yL_quiet ∈ TB := TB_5 109 (by decide +kernel) rfl
theorem n_1169 : Cond.methodLink RL 142 yL_sum ∈ TB := TB_5 115 (by decide +kernel) rfl
theorem n_1170 : Cond.static yL_sum ∈ TB := TB_5 116 (by decide +kernel) rfl
theorem n_1176 : Cond.methodLink RL 149 yL_solve ∈ TB := TB_5 122 (by decide +kernel) rfl
theorem n_1177 : Cond.static yL_solve ∈ TB := TB_5 123 (by decide +kernel) rfl
theorem n_1193 : Cond.methodLink RL 152 yL_times ∈ TB := TB_5 139 (by decide +kernel) rfl
theorem n_1194 : Cond.static yL_times ∈ TB := TB_5 140 (by decide +kernel) rfl
theorem n_1201 : Cond.methodLink RL 159 yL_needed ∈ TB := TB_5 147 (by decide +kernel) rfl
theorem n_1202 : Cond.static yL_needed ∈ TB := TB_5 148 (by decide +kernel) rfl
theorem n_1212 : Cond.methodLink RL 170 yL_near ∈ TB := TB_5 158 (by decide +kernel) rfl
theorem n_1213 : Cond.static yL_near ∈ TB := TB_5 159 (by decide +kernel) rfl
theorem n_1220 : Cond.methodLink RL 181 yL_lit ∈ TB := TB_5 166 (by decide +kernel) rfl
theorem n_1221 : Cond.static yL_lit ∈ TB := TB_5 167 (by decide +kernel) rfl
theorem n_1238 : Cond.methodLink RL 192 yL_round ∈ TB := TB_5 184 (by decide +kernel) rfl
theorem n_1239 : Cond.static yL_round ∈ TB := TB_5 185 (by decide +kernel) rfl
theorem n_1260 : Cond.methodLink RL 195 yL_twin ∈ TB := TB_5 206 (by decide +kernel) rfl
theorem n_1261 : Cond.static yL_twin ∈ TB := TB_5 207 (by decide +kernel) rfl
theorem n_1271 : Cond.methodLink RL 202 yL_take ∈ TB := TB_5 217 (by decide +kernel) rfl
theorem n_1272 : Cond.static yL_take ∈ TB := TB_5 218 (by decide +kernel) rfl
theorem n_1504 : Cond.methodLink RL 91 yX9_thrown ∈ TB := TB_6 210 (by decide +kernel) rfl
theorem n_1505 : Cond.instanceMethod yX9_thrown ∈ TB := TB_6 211 (by decide +kernel) rfl
theorem n_1506 : Cond.selects RX9 yX9_thrown yX9_thrown ∈ TB := TB_6 212 (by decide +kernel) rfl
theorem n_1507 : Cond.code yX9_thrown cX9_thrown 1 (some .int) ∈ TB := TB_6 213 (by decide +kernel) rfl
theorem n_1508 : Cond.methodLink RL 84 yX9_feed ∈ TB := TB_6 214 (by decide +kernel) rfl
theorem n_1509 : Cond.instanceMethod yX9_feed ∈ TB := TB_6 215 (by decide +kernel) rfl
theorem n_1510 : Cond.selects RX9 yX9_feed yX9_feed ∈ TB := TB_6 216 (by decide +kernel) rfl
theorem n_1511 : Cond.code yX9_feed cX9_feed 6 (some .int) ∈ TB := TB_6 217 (by decide +kernel) rfl
theorem n_1516 : Cond.methodLink RL 90 yX9_hall ∈ TB := TB_6 222 (by decide +kernel) rfl
theorem n_1517 : Cond.instanceMethod yX9_hall ∈ TB := TB_6 223 (by decide +kernel) rfl
theorem n_1518 : Cond.selects RX9 yX9_hall yX9_hall ∈ TB := TB_6 224 (by decide +kernel) rfl
theorem n_1519 : Cond.code yX9_hall cX9_hall 4 (some .int) ∈ TB := TB_6 225 (by decide +kernel) rfl
theorem n_1604 : Cond.methodLink RL 98 yX9_fault ∈ TB := TB_7 70 (by decide +kernel) rfl
theorem n_1605 : Cond.instanceMethod yX9_fault ∈ TB := TB_7 71 (by decide +kernel) rfl
theorem n_1606 : Cond.selects RX9 yX9_fault yX9_fault ∈ TB := TB_7 72 (by decide +kernel) rfl
theorem n_1607 : Cond.code yX9_fault cX9_fault 1 (some .int) ∈ TB := TB_7 73 (by decide +kernel) rfl
theorem n_1608 : Cond.methodLink RL 101 yX9_count ∈ TB := TB_7 74 (by decide +kernel) rfl
theorem n_1609 : Cond.instanceMethod yX9_count ∈ TB := TB_7 75 (by decide +kernel) rfl
theorem n_1610 : Cond.selects RX9 yX9_count yX9_count ∈ TB := TB_7 76 (by decide +kernel) rfl
theorem n_1611 : Cond.code yX9_count cX9_count 4 (some .int) ∈ TB := TB_7 77 (by decide +kernel) rfl
theorem n_1612 : Cond.methodLink RL 105 yX9_amount ∈ TB := TB_7 78 (by decide +kernel) rfl
theorem n_1613 : Cond.instanceMethod yX9_amount ∈ TB := TB_7 79 (by decide +kernel) rfl
theorem n_1614 : Cond.selects RX9 yX9_amount yX9_amount ∈ TB := TB_7 80 (by decide +kernel) rfl
theorem n_1615 : Cond.code yX9_amount cX9_amount 3 (some .int) ∈ TB := TB_7 81 (by decide +kernel) rfl
theorem n_1620 : Cond.methodLink RL 108 yX9_colour ∈ TB := TB_7 86 (by decide +kernel) rfl
theorem n_1621 : Cond.instanceMethod yX9_colour ∈ TB := TB_7 87 (by decide +kernel) rfl
theorem n_1622 : Cond.selects RX9 yX9_colour yX9_colour ∈ TB := TB_7 88 (by decide +kernel) rfl
theorem n_1623 : Cond.code yX9_colour cX9_colour 3 (some .int) ∈ TB := TB_7 89 (by decide +kernel) rfl
theorem n_1624 : Cond.methodLink RL 112 yX9_set ∈ TB := TB_7 90 (by decide +kernel) rfl
theorem n_1625 : Cond.instanceMethod yX9_set ∈ TB := TB_7 91 (by decide +kernel) rfl
theorem n_1626 : Cond.selects RX9 yX9_set yX9_set ∈ TB := TB_7 92 (by decide +kernel) rfl
theorem n_1627 : Cond.code yX9_set cX9_set 4 (some .boolean) ∈ TB := TB_7 93 (by decide +kernel) rfl
theorem n_1631 : Cond.methodLink RL 115 yX9_fill ∈ TB := TB_7 97 (by decide +kernel) rfl
theorem n_1632 : Cond.instanceMethod yX9_fill ∈ TB := TB_7 98 (by decide +kernel) rfl
theorem n_1633 : Cond.selects RX9 yX9_fill yX9_fill ∈ TB := TB_7 99 (by decide +kernel) rfl
theorem n_1634 : Cond.code yX9_fill cX9_fill 4 (some .boolean) ∈ TB := TB_7 100 (by decide +kernel) rfl
theorem n_1635 : Cond.methodLink RL 120 yX9_draw ∈ TB := TB_7 101 (by decide +kernel) rfl
theorem n_1636 : Cond.instanceMethod yX9_draw ∈ TB := TB_7 102 (by decide +kernel) rfl
theorem n_1637 : Cond.selects RX9 yX9_draw yX9_draw ∈ TB := TB_7 103 (by decide +kernel) rfl
theorem n_1638 : Cond.code yX9_draw cX9_draw 4 none ∈ TB := TB_7 104 (by decide +kernel) rfl
theorem n_1640 : Cond.methodLink RL 124 yX9_jam ∈ TB := TB_7 106 (by decide +kernel) rfl
theorem n_1641 : Cond.instanceMethod yX9_jam ∈ TB := TB_7 107 (by decide +kernel) rfl
theorem n_1642 : Cond.selects RX9 yX9_jam yX9_jam ∈ TB := TB_7 108 (by decide +kernel) rfl
theorem n_1643 : Cond.code yX9_jam cX9_jam 4 (some .boolean) ∈ TB := TB_7 109 (by decide +kernel) rfl
theorem n_1644 : Cond.methodLink RL 127 yX9_press ∈ TB := TB_7 110 (by decide +kernel) rfl
theorem n_1645 : Cond.instanceMethod yX9_press ∈ TB := TB_7 111 (by decide +kernel) rfl
theorem n_1646 : Cond.selects RX9 yX9_press yX9_press ∈ TB := TB_7 112 (by decide +kernel) rfl
theorem n_1647 : Cond.code yX9_press cX9_press 2 (some .boolean) ∈ TB := TB_7 113 (by decide +kernel) rfl
theorem n_1652 : Cond.methodLink RL 131 yX9_back ∈ TB := TB_7 118 (by decide +kernel) rfl
theorem n_1653 : Cond.instanceMethod yX9_back ∈ TB := TB_7 119 (by decide +kernel) rfl
theorem n_1654 : Cond.selects RX9 yX9_back yX9_back ∈ TB := TB_7 120 (by decide +kernel) rfl
theorem n_1655 : Cond.code yX9_back cX9_back 3 (some .int) ∈ TB := TB_7 121 (by decide +kernel) rfl
theorem n_1656 : Cond.methodLink RL 197 yX9_twin ∈ TB := TB_7 122 (by decide +kernel) rfl
theorem n_1657 : Cond.instanceMethod yX9_twin ∈ TB := TB_7 123 (by decide +kernel) rfl
theorem n_1658 : Cond.selects RX9 yX9_twin yX9_twin ∈ TB := TB_7 124 (by decide +kernel) rfl
theorem n_1659 : Cond.code yX9_twin cX9_twin 5 (some .int) ∈ TB := TB_7 125 (by decide +kernel) rfl
theorem n_1660 : Cond.methodLink RL 135 yX9_rank ∈ TB := TB_7 126 (by decide +kernel) rfl
theorem n_1661 : Cond.instanceMethod yX9_rank ∈ TB := TB_7 127 (by decide +kernel) rfl
theorem n_1662 : Cond.selects RX9 yX9_rank yX9_rank ∈ TB := TB_7 128 (by decide +kernel) rfl
theorem n_1663 : Cond.code yX9_rank cX9_rank 1 (some .int) ∈ TB := TB_7 129 (by decide +kernel) rfl
theorem n_1680 : Cond.methodLink RL 138 yX9_bound ∈ TB := TB_7 146 (by decide +kernel) rfl
theorem n_1681 : Cond.instanceMethod yX9_bound ∈ TB := TB_7 147 (by decide +kernel) rfl
theorem n_1682 : Cond.selects RX9 yX9_bound yX9_bound ∈ TB := TB_7 148 (by decide +kernel) rfl
theorem n_1683 : Cond.code yX9_bound cX9_bound 4 (some .int) ∈ TB := TB_7 149 (by decide +kernel) rfl
theorem n_1684 : Cond.methodLink RL 141 yX9_quiet ∈ TB := TB_7 150 (by decide +kernel) rfl
theorem n_1685 : Cond.instanceMethod yX9_quiet ∈ TB := TB_7 151 (by decide +kernel) rfl
theorem n_1686 : Cond.selects RX9 yX9_quiet yX9_quiet ∈ TB := TB_7 152 (by decide +kernel) rfl
theorem n_1687 : Cond.code yX9_quiet cX9_quiet 3 (some .int) ∈ TB := TB_7 153 (by decide +kernel) rfl
theorem n_1688 : Cond.methodLink RL 144 yX9_sum ∈ TB := TB_7 154 (by decide +kernel) rfl
theorem n_1689 : Cond.instanceMethod yX9_sum ∈ TB := TB_7 155 (by decide +kernel) rfl
theorem n_1690 : Cond.selects RX9 yX9_sum yX9_sum ∈ TB := TB_7 156 (by decide +kernel) rfl
theorem n_1691 : Cond.code yX9_sum cX9_sum 3 (some .int) ∈ TB := TB_7 157 (by decide +kernel) rfl
theorem n_1692 : Cond.methodLink RL 148 yX9_why ∈ TB := TB_7 158 (by decide +kernel) rfl
theorem n_1693 : Cond.instanceMethod yX9_why ∈ TB := TB_7 159 (by decide +kernel) rfl
theorem n_1694 : Cond.selects RX9 yX9_why yX9_why ∈ TB := TB_7 160 (by decide +kernel) rfl
theorem n_1695 : Cond.code yX9_why cX9_why 4 (some .int) ∈ TB := TB_7 161 (by decide +kernel) rfl
theorem n_1696 : Cond.methodLink RL 151 yX9_solve ∈ TB := TB_7 162 (by decide +kernel) rfl
theorem n_1697 : Cond.instanceMethod yX9_solve ∈ TB := TB_7 163 (by decide +kernel) rfl
theorem n_1698 : Cond.selects RX9 yX9_solve yX9_solve ∈ TB := TB_7 164 (by decide +kernel) rfl
theorem n_1699 : Cond.code yX9_solve cX9_solve 6 (some .int) ∈ TB := TB_7 165 (by decide +kernel) rfl
theorem n_1720 : Cond.methodLink RL 154 yX9_times ∈ TB := TB_7 186 (by decide +kernel) rfl
theorem n_1721 : Cond.instanceMethod yX9_times ∈ TB := TB_7 187 (by decide +kernel) rfl
theorem n_1722 : Cond.selects RX9 yX9_times yX9_times ∈ TB := TB_7 188 (by decide +kernel) rfl
theorem n_1723 : Cond.code yX9_times cX9_times 2 (some .int) ∈ TB := TB_7 189 (by decide +kernel) rfl
theorem n_1724 : Cond.methodLink RL 158 yX9_apply ∈ TB := TB_7 190 (by decide +kernel) rfl
theorem n_1725 : Cond.instanceMethod yX9_apply ∈ TB := TB_7 191 (by decide +kernel) rfl
theorem n_1726 : Cond.selects RX9 yX9_apply yX9_apply ∈ TB := TB_7 192 (by decide +kernel) rfl
theorem n_1727 : Cond.code yX9_apply cX9_apply 4 (some .int) ∈ TB := TB_7 193 (by decide +kernel) rfl
theorem n_1728 : Cond.methodLink RL 161 yX9_needed ∈ TB := TB_7 194 (by decide +kernel) rfl
theorem n_1729 : Cond.instanceMethod yX9_needed ∈ TB := TB_7 195 (by decide +kernel) rfl
theorem n_1730 : Cond.selects RX9 yX9_needed yX9_needed ∈ TB := TB_7 196 (by decide +kernel) rfl
theorem n_1731 : Cond.code yX9_needed cX9_needed 7 (some .int) ∈ TB := TB_7 197 (by decide +kernel) rfl
theorem n_1732 : Cond.methodLink RL 165 yX9_hard ∈ TB := TB_7 198 (by decide +kernel) rfl
theorem n_1733 : Cond.instanceMethod yX9_hard ∈ TB := TB_7 199 (by decide +kernel) rfl
theorem n_1734 : Cond.selects RX9 yX9_hard yX9_hard ∈ TB := TB_7 200 (by decide +kernel) rfl
theorem n_1735 : Cond.code yX9_hard cX9_hard 2 (some .int) ∈ TB := TB_7 201 (by decide +kernel) rfl
theorem n_1744 : Cond.methodLink RL 169 yX9_nearest ∈ TB := TB_7 210 (by decide +kernel) rfl
theorem n_1745 : Cond.instanceMethod yX9_nearest ∈ TB := TB_7 211 (by decide +kernel) rfl
theorem n_1746 : Cond.selects RX9 yX9_nearest yX9_nearest ∈ TB := TB_7 212 (by decide +kernel) rfl
theorem n_1747 : Cond.code yX9_nearest cX9_nearest 5 (some .int) ∈ TB := TB_7 213 (by decide +kernel) rfl
theorem n_1756 : Cond.methodLink RL 172 yX9_near ∈ TB := TB_7 222 (by decide +kernel) rfl
theorem n_1757 : Cond.instanceMethod yX9_near ∈ TB := TB_7 223 (by decide +kernel) rfl
theorem n_1758 : Cond.selects RX9 yX9_near yX9_near ∈ TB := TB_7 224 (by decide +kernel) rfl
theorem n_1759 : Cond.code yX9_near cX9_near 2 (some .int) ∈ TB := TB_7 225 (by decide +kernel) rfl
theorem n_1760 : Cond.methodLink RL 176 yX9_chase ∈ TB := TB_7 226 (by decide +kernel) rfl
theorem n_1761 : Cond.instanceMethod yX9_chase ∈ TB := TB_7 227 (by decide +kernel) rfl
theorem n_1762 : Cond.selects RX9 yX9_chase yX9_chase ∈ TB := TB_7 228 (by decide +kernel) rfl
theorem n_1763 : Cond.code yX9_chase cX9_chase 5 (some .int) ∈ TB := TB_7 229 (by decide +kernel) rfl
theorem n_1768 : Cond.methodLink RL 180 yX9_top ∈ TB := TB_7 234 (by decide +kernel) rfl
theorem n_1769 : Cond.instanceMethod yX9_top ∈ TB := TB_7 235 (by decide +kernel) rfl
theorem n_1770 : Cond.selects RX9 yX9_top yX9_top ∈ TB := TB_7 236 (by decide +kernel) rfl
theorem n_1771 : Cond.code yX9_top cX9_top 7 (some .int) ∈ TB := TB_7 237 (by decide +kernel) rfl
theorem n_1780 : Cond.methodLink RL 183 yX9_lit ∈ TB := TB_8 6 (by decide +kernel) rfl
theorem n_1781 : Cond.instanceMethod yX9_lit ∈ TB := TB_8 7 (by decide +kernel) rfl
theorem n_1782 : Cond.selects RX9 yX9_lit yX9_lit ∈ TB := TB_8 8 (by decide +kernel) rfl
theorem n_1783 : Cond.code yX9_lit cX9_lit 7 (some .int) ∈ TB := TB_8 9 (by decide +kernel) rfl
theorem n_1800 : Cond.methodLink RL 187 yX9_game ∈ TB := TB_8 26 (by decide +kernel) rfl
theorem n_1801 : Cond.instanceMethod yX9_game ∈ TB := TB_8 27 (by decide +kernel) rfl
theorem n_1802 : Cond.selects RX9 yX9_game yX9_game ∈ TB := TB_8 28 (by decide +kernel) rfl
theorem n_1803 : Cond.code yX9_game cX9_game 3 (some .int) ∈ TB := TB_8 29 (by decide +kernel) rfl
theorem n_1808 : Cond.methodLink RL 191 yX9_pulse ∈ TB := TB_8 34 (by decide +kernel) rfl
theorem n_1809 : Cond.instanceMethod yX9_pulse ∈ TB := TB_8 35 (by decide +kernel) rfl
theorem n_1810 : Cond.selects RX9 yX9_pulse yX9_pulse ∈ TB := TB_8 36 (by decide +kernel) rfl
theorem n_1811 : Cond.code yX9_pulse cX9_pulse 3 (some .boolean) ∈ TB := TB_8 37 (by decide +kernel) rfl
theorem n_1816 : Cond.methodLink RL 194 yX9_round ∈ TB := TB_8 42 (by decide +kernel) rfl
theorem n_1817 : Cond.instanceMethod yX9_round ∈ TB := TB_8 43 (by decide +kernel) rfl
theorem n_1818 : Cond.selects RX9 yX9_round yX9_round ∈ TB := TB_8 44 (by decide +kernel) rfl
theorem n_1819 : Cond.code yX9_round cX9_round 6 (some .int) ∈ TB := TB_8 45 (by decide +kernel) rfl
theorem n_1820 : Cond.methodLink RL 201 yX9_keep ∈ TB := TB_8 46 (by decide +kernel) rfl
theorem n_1821 : Cond.instanceMethod yX9_keep ∈ TB := TB_8 47 (by decide +kernel) rfl
theorem n_1822 : Cond.selects RX9 yX9_keep yX9_keep ∈ TB := TB_8 48 (by decide +kernel) rfl
theorem n_1823 : Cond.code yX9_keep cX9_keep 3 (some .boolean) ∈ TB := TB_8 49 (by decide +kernel) rfl
theorem n_1824 : Cond.methodLink RL 204 yX9_take ∈ TB := TB_8 50 (by decide +kernel) rfl
theorem n_1825 : Cond.instanceMethod yX9_take ∈ TB := TB_8 51 (by decide +kernel) rfl
theorem n_1826 : Cond.selects RX9 yX9_take yX9_take ∈ TB := TB_8 52 (by decide +kernel) rfl
theorem n_1827 : Cond.code yX9_take cX9_take 4 (some .boolean) ∈ TB := TB_8 53 (by decide +kernel) rfl
theorem n_509 : Cond.methodLink RL 80 yX8_feed ∈ TB := TB_2 175 (by decide +kernel) rfl
theorem n_510 : Cond.instanceMethod yX8_feed ∈ TB := TB_2 176 (by decide +kernel) rfl
theorem n_511 : Cond.selects RX8 yX8_feed yX8_feed ∈ TB := TB_2 177 (by decide +kernel) rfl
theorem n_512 : Cond.code yX8_feed cX8_feed 6 (some .int) ∈ TB := TB_2 178 (by decide +kernel) rfl
theorem n_522 : Cond.methodLink RL 95 yX8_fault ∈ TB := TB_2 188 (by decide +kernel) rfl
theorem n_523 : Cond.instanceMethod yX8_fault ∈ TB := TB_2 189 (by decide +kernel) rfl
theorem n_524 : Cond.selects RX8 yX8_fault yX8_fault ∈ TB := TB_2 190 (by decide +kernel) rfl
theorem n_525 : Cond.code yX8_fault cX8_fault 1 (some .int) ∈ TB := TB_2 191 (by decide +kernel) rfl
theorem n_526 : Cond.methodLink RL 116 yX8_draw ∈ TB := TB_2 192 (by decide +kernel) rfl
theorem n_527 : Cond.instanceMethod yX8_draw ∈ TB := TB_2 193 (by decide +kernel) rfl
theorem n_528 : Cond.selects RX8 yX8_draw yX8_draw ∈ TB := TB_2 194 (by decide +kernel) rfl
theorem n_529 : Cond.code yX8_draw cX8_draw 4 none ∈ TB := TB_2 195 (by decide +kernel) rfl
theorem n_549 : Cond.methodLink RL 128 yX8_back ∈ TB := TB_2 215 (by decide +kernel) rfl
theorem n_550 : Cond.instanceMethod yX8_back ∈ TB := TB_2 216 (by decide +kernel) rfl
theorem n_551 : Cond.selects RX8 yX8_back yX8_back ∈ TB := TB_2 217 (by decide +kernel) rfl
theorem n_552 : Cond.code yX8_back cX8_back 2 (some .int) ∈ TB := TB_2 218 (by decide +kernel) rfl
theorem n_564 : Cond.methodLink RL 132 yX8_rank ∈ TB := TB_2 230 (by decide +kernel) rfl
theorem n_599 : Cond.methodLink RL 145 yX8_why ∈ TB := TB_3 25 (by decide +kernel) rfl
theorem n_600 : Cond.instanceMethod yX8_why ∈ TB := TB_3 26 (by decide +kernel) rfl
theorem n_601 : Cond.selects RX8 yX8_why yX8_why ∈ TB := TB_3 27 (by decide +kernel) rfl
theorem n_602 : Cond.code yX8_why cX8_why 3 (some .int) ∈ TB := TB_3 28 (by decide +kernel) rfl
theorem n_621 : Cond.methodLink RL 155 yX8_apply ∈ TB := TB_3 47 (by decide +kernel) rfl
theorem n_622 : Cond.instanceMethod yX8_apply ∈ TB := TB_3 48 (by decide +kernel) rfl
theorem n_623 : Cond.selects RX8 yX8_apply yX8_apply ∈ TB := TB_3 49 (by decide +kernel) rfl
theorem n_624 : Cond.code yX8_apply cX8_apply 3 (some .int) ∈ TB := TB_3 50 (by decide +kernel) rfl
theorem n_633 : Cond.methodLink RL 162 yX8_hard ∈ TB := TB_3 59 (by decide +kernel) rfl
theorem n_634 : Cond.instanceMethod yX8_hard ∈ TB := TB_3 60 (by decide +kernel) rfl
theorem n_635 : Cond.selects RX8 yX8_hard yX8_hard ∈ TB := TB_3 61 (by decide +kernel) rfl
theorem n_636 : Cond.code yX8_hard cX8_hard 2 (some .int) ∈ TB := TB_3 62 (by decide +kernel) rfl
theorem n_681 : Cond.methodLink RL 166 yX8_nearest ∈ TB := TB_3 107 (by decide +kernel) rfl
theorem n_682 : Cond.instanceMethod yX8_nearest ∈ TB := TB_3 108 (by decide +kernel) rfl
theorem n_683 : Cond.selects RX8 yX8_nearest yX8_nearest ∈ TB := TB_3 109 (by decide +kernel) rfl
theorem n_684 : Cond.code yX8_nearest cX8_nearest 3 (some .int) ∈ TB := TB_3 110 (by decide +kernel) rfl
theorem n_722 : Cond.methodLink RL 173 yX8_chase ∈ TB := TB_3 148 (by decide +kernel) rfl
theorem n_723 : Cond.instanceMethod yX8_chase ∈ TB := TB_3 149 (by decide +kernel) rfl
theorem n_724 : Cond.selects RX8 yX8_chase yX8_chase ∈ TB := TB_3 150 (by decide +kernel) rfl
theorem n_725 : Cond.code yX8_chase cX8_chase 4 (some .int) ∈ TB := TB_3 151 (by decide +kernel) rfl
theorem n_735 : Cond.methodLink RL 177 yX8_top ∈ TB := TB_3 161 (by decide +kernel) rfl
theorem n_736 : Cond.instanceMethod yX8_top ∈ TB := TB_3 162 (by decide +kernel) rfl
theorem n_737 : Cond.selects RX8 yX8_top yX8_top ∈ TB := TB_3 163 (by decide +kernel) rfl
theorem n_738 : Cond.code yX8_top cX8_top 3 (some .int) ∈ TB := TB_3 164 (by decide +kernel) rfl
theorem n_753 : Cond.methodLink RL 184 yX8_game ∈ TB := TB_3 179 (by decide +kernel) rfl
theorem n_754 : Cond.instanceMethod yX8_game ∈ TB := TB_3 180 (by decide +kernel) rfl
theorem n_755 : Cond.selects RX8 yX8_game yX8_game ∈ TB := TB_3 181 (by decide +kernel) rfl
theorem n_756 : Cond.code yX8_game cX8_game 6 (some .int) ∈ TB := TB_3 182 (by decide +kernel) rfl
theorem n_765 : Cond.methodLink RL 188 yX8_pulse ∈ TB := TB_3 191 (by decide +kernel) rfl
theorem n_766 : Cond.instanceMethod yX8_pulse ∈ TB := TB_3 192 (by decide +kernel) rfl
theorem n_767 : Cond.selects RX8 yX8_pulse yX8_pulse ∈ TB := TB_3 193 (by decide +kernel) rfl
theorem n_768 : Cond.code yX8_pulse cX8_pulse 3 (some .boolean) ∈ TB := TB_3 194 (by decide +kernel) rfl
theorem n_775 : Cond.methodLink RL 198 yX8_keep ∈ TB := TB_3 201 (by decide +kernel) rfl
theorem n_776 : Cond.instanceMethod yX8_keep ∈ TB := TB_3 202 (by decide +kernel) rfl
theorem n_777 : Cond.selects RX8 yX8_keep yX8_keep ∈ TB := TB_3 203 (by decide +kernel) rfl
theorem n_778 : Cond.code yX8_keep cX8_keep 2 (some .boolean) ∈ TB := TB_3 204 (by decide +kernel) rfl
theorem n_779 : Cond.methodLink RL 85 yL_hall ∈ TB := TB_3 205 (by decide +kernel) rfl
theorem n_780 : Cond.static yL_hall ∈ TB := TB_3 206 (by decide +kernel) rfl
theorem n_94 : Cond.initialized RL ∈ TB := TB_1 0 (by decide +kernel) rfl
theorem g_RL_80 : GoodIn TB (wsV RL 80 RX8 yX8_feed (wsY yX8_feed cX8_feed 6 (some .int))) := gV n_509 n_510 n_511 m_95 n_512
theorem g_RL_84 : GoodIn TB (wsV RL 84 RX9 yX9_feed (wsY yX9_feed cX9_feed 6 (some .int))) := gV n_1508 n_1509 n_1510 m_104 n_1511
theorem g_RL_85 : GoodIn TB (va_wsS RL 85 yL_hall (wsW yL_hall cL_hall 4 (some .int) [(0, 9, 12, 13)])) := gSW n_779 n_780 n_94 n_781
theorem g_RL_90 : GoodIn TB (wsV RL 90 RX9 yX9_hall (wsY yX9_hall cX9_hall 4 (some .int))) := gV n_1516 n_1517 n_1518 m_104 n_1519
theorem g_RL_91 : GoodIn TB (wsV RL 91 RX9 yX9_thrown (wsY yX9_thrown cX9_thrown 1 (some .int))) := gV n_1504 n_1505 n_1506 m_104 n_1507
theorem g_RL_95 : GoodIn TB (wsV RL 95 RX8 yX8_fault (wsY yX8_fault cX8_fault 1 (some .int))) := gV n_522 n_523 n_524 m_95 n_525
theorem g_RL_98 : GoodIn TB (wsV RL 98 RX9 yX9_fault (wsY yX9_fault cX9_fault 1 (some .int))) := gV n_1604 n_1605 n_1606 m_104 n_1607
theorem g_RL_99 : GoodIn TB (va_wsS RL 99 yL_count (wsW yL_count cL_count 4 (some .int) [(0, 9, 12, 18)])) := gSW n_1068 n_1069 n_94 n_1070
theorem g_RL_101 : GoodIn TB (wsV RL 101 RX9 yX9_count (wsY yX9_count cX9_count 4 (some .int))) := gV n_1608 n_1609 n_1610 m_104 n_1611
theorem g_RL_102 : GoodIn TB (va_wsS RL 102 yL_amount (wsW yL_amount cL_amount 5 (some .int) [(0, 10, 13, 18)])) := gSW n_1096 n_1097 n_94 n_1098
theorem g_RL_105 : GoodIn TB (wsV RL 105 RX9 yX9_amount (wsY yX9_amount cX9_amount 3 (some .int))) := gV n_1612 n_1613 n_1614 m_104 n_1615
theorem g_RL_106 : GoodIn TB (va_wsS RL 106 yL_colour (wsW yL_colour cL_colour 5 (some .int) [(0, 10, 13, 18)])) := gSW n_1108 n_1109 n_94 n_1110
theorem g_RL_108 : GoodIn TB (wsV RL 108 RX9 yX9_colour (wsY yX9_colour cX9_colour 3 (some .int))) := gV n_1620 n_1621 n_1622 m_104 n_1623
theorem g_RL_109 : GoodIn TB (va_wsS RL 109 yL_set (wsW yL_set cL_set 6 (some .int) [(0, 19, 22, 18)])) := gSW n_1119 n_1120 n_94 n_1121
theorem g_RL_112 : GoodIn TB (wsV RL 112 RX9 yX9_set (wsY yX9_set cX9_set 4 (some .boolean))) := gV n_1624 n_1625 n_1626 m_104 n_1627
theorem g_RL_113 : GoodIn TB (va_wsS RL 113 yL_fill (wsW yL_fill cL_fill 5 (some .int) [(0, 17, 20, 18)])) := gSW n_1130 n_1131 n_94 n_1132
theorem g_RL_115 : GoodIn TB (wsV RL 115 RX9 yX9_fill (wsY yX9_fill cX9_fill 4 (some .boolean))) := gV n_1631 n_1632 n_1633 m_104 n_1634
theorem g_RL_116 : GoodIn TB (wsV RL 116 RX8 yX8_draw (wsY yX8_draw cX8_draw 4 none)) := gV n_526 n_527 n_528 m_95 n_529
theorem g_RL_120 : GoodIn TB (wsV RL 120 RX9 yX9_draw (wsY yX9_draw cX9_draw 4 none)) := gV n_1635 n_1636 n_1637 m_104 n_1638
theorem g_RL_121 : GoodIn TB (va_wsS RL 121 yL_jam (wsW yL_jam cL_jam 5 (some .int) [(0, 17, 20, 18)])) := gSW n_1137 n_1138 n_94 n_1139
theorem g_RL_124 : GoodIn TB (wsV RL 124 RX9 yX9_jam (wsY yX9_jam cX9_jam 4 (some .boolean))) := gV n_1640 n_1641 n_1642 m_104 n_1643
theorem g_RL_125 : GoodIn TB (va_wsS RL 125 yL_press (wsW yL_press cL_press 4 (some .int) [(0, 16, 19, 18)])) := gSW n_1144 n_1145 n_94 n_1146
theorem g_RL_127 : GoodIn TB (wsV RL 127 RX9 yX9_press (wsY yX9_press cX9_press 2 (some .boolean))) := gV n_1644 n_1645 n_1646 m_104 n_1647
theorem g_RL_128 : GoodIn TB (wsV RL 128 RX8 yX8_back (wsY yX8_back cX8_back 2 (some .int))) := gV n_549 n_550 n_551 m_95 n_552
theorem g_RL_131 : GoodIn TB (wsV RL 131 RX9 yX9_back (wsY yX9_back cX9_back 3 (some .int))) := gV n_1652 n_1653 n_1654 m_104 n_1655
theorem g_RL_132 : GoodIn TB (wsV RL 132 RX8 yX8_rank (wsY yX8_rank cX8_rank 1 (some .int))) := gV n_564 m_565 m_566 m_95 m_567
theorem g_RL_135 : GoodIn TB (wsV RL 135 RX9 yX9_rank (wsY yX9_rank cX9_rank 1 (some .int))) := gV n_1660 n_1661 n_1662 m_104 n_1663
theorem g_RL_136 : GoodIn TB (va_wsS RL 136 yL_bound (wsW yL_bound cL_bound 5 (some .int) [(0, 10, 13, 18)])) := gSW n_1151 n_1152 n_94 n_1153
theorem g_RL_138 : GoodIn TB (wsV RL 138 RX9 yX9_bound (wsY yX9_bound cX9_bound 4 (some .int))) := gV n_1680 n_1681 n_1682 m_104 n_1683
theorem g_RL_139 : GoodIn TB (va_wsS RL 139 yL_quiet (wsW yL_quiet cL_quiet 5 (some .int) [(0, 10, 13, 18)])) := gSW n_1162 n_1163 n_94 n_1164
theorem g_RL_141 : GoodIn TB (wsV RL 141 RX9 yX9_quiet (wsY yX9_quiet cX9_quiet 3 (some .int))) := gV n_1684 n_1685 n_1686 m_104 n_1687
theorem g_RL_142 : GoodIn TB (va_wsS RL 142 yL_sum (wsW yL_sum cL_sum 5 (some .int) [(0, 10, 13, 18)])) := gSW n_1169 n_1170 n_94 n_1171
theorem g_RL_144 : GoodIn TB (wsV RL 144 RX9 yX9_sum (wsY yX9_sum cX9_sum 3 (some .int))) := gV n_1688 n_1689 n_1690 m_104 n_1691
theorem g_RL_145 : GoodIn TB (wsV RL 145 RX8 yX8_why (wsY yX8_why cX8_why 3 (some .int))) := gV n_599 n_600 n_601 m_95 n_602
theorem g_RL_148 : GoodIn TB (wsV RL 148 RX9 yX9_why (wsY yX9_why cX9_why 4 (some .int))) := gV n_1692 n_1693 n_1694 m_104 n_1695
theorem g_RL_149 : GoodIn TB (va_wsS RL 149 yL_solve (wsW yL_solve cL_solve 4 (some .int) [(0, 9, 12, 18)])) := gSW n_1176 n_1177 n_94 n_1178
theorem g_RL_151 : GoodIn TB (wsV RL 151 RX9 yX9_solve (wsY yX9_solve cX9_solve 6 (some .int))) := gV n_1696 n_1697 n_1698 m_104 n_1699
theorem g_RL_152 : GoodIn TB (va_wsS RL 152 yL_times (wsW yL_times cL_times 4 (some .int) [(0, 9, 12, 18)])) := gSW n_1193 n_1194 n_94 n_1195
theorem g_RL_154 : GoodIn TB (wsV RL 154 RX9 yX9_times (wsY yX9_times cX9_times 2 (some .int))) := gV n_1720 n_1721 n_1722 m_104 n_1723
theorem g_RL_155 : GoodIn TB (wsV RL 155 RX8 yX8_apply (wsY yX8_apply cX8_apply 3 (some .int))) := gV n_621 n_622 n_623 m_95 n_624
theorem g_RL_158 : GoodIn TB (wsV RL 158 RX9 yX9_apply (wsY yX9_apply cX9_apply 4 (some .int))) := gV n_1724 n_1725 n_1726 m_104 n_1727
theorem g_RL_159 : GoodIn TB (va_wsS RL 159 yL_needed (wsW yL_needed cL_needed 4 (some .int) [(0, 9, 12, 18)])) := gSW n_1201 n_1202 n_94 n_1203
theorem g_RL_161 : GoodIn TB (wsV RL 161 RX9 yX9_needed (wsY yX9_needed cX9_needed 7 (some .int))) := gV n_1728 n_1729 n_1730 m_104 n_1731
theorem g_RL_162 : GoodIn TB (wsV RL 162 RX8 yX8_hard (wsY yX8_hard cX8_hard 2 (some .int))) := gV n_633 n_634 n_635 m_95 n_636
theorem g_RL_165 : GoodIn TB (wsV RL 165 RX9 yX9_hard (wsY yX9_hard cX9_hard 2 (some .int))) := gV n_1732 n_1733 n_1734 m_104 n_1735
theorem g_RL_166 : GoodIn TB (wsV RL 166 RX8 yX8_nearest (wsY yX8_nearest cX8_nearest 3 (some .int))) := gV n_681 n_682 n_683 m_95 n_684
theorem g_RL_169 : GoodIn TB (wsV RL 169 RX9 yX9_nearest (wsY yX9_nearest cX9_nearest 5 (some .int))) := gV n_1744 n_1745 n_1746 m_104 n_1747
theorem g_RL_170 : GoodIn TB (va_wsS RL 170 yL_near (wsW yL_near cL_near 4 (some .int) [(0, 9, 12, 18)])) := gSW n_1212 n_1213 n_94 n_1214
theorem g_RL_172 : GoodIn TB (wsV RL 172 RX9 yX9_near (wsY yX9_near cX9_near 2 (some .int))) := gV n_1756 n_1757 n_1758 m_104 n_1759
theorem g_RL_173 : GoodIn TB (wsV RL 173 RX8 yX8_chase (wsY yX8_chase cX8_chase 4 (some .int))) := gV n_722 n_723 n_724 m_95 n_725
theorem g_RL_176 : GoodIn TB (wsV RL 176 RX9 yX9_chase (wsY yX9_chase cX9_chase 5 (some .int))) := gV n_1760 n_1761 n_1762 m_104 n_1763
theorem g_RL_177 : GoodIn TB (wsV RL 177 RX8 yX8_top (wsY yX8_top cX8_top 3 (some .int))) := gV n_735 n_736 n_737 m_95 n_738
theorem g_RL_180 : GoodIn TB (wsV RL 180 RX9 yX9_top (wsY yX9_top cX9_top 7 (some .int))) := gV n_1768 n_1769 n_1770 m_104 n_1771
theorem g_RL_181 : GoodIn TB (va_wsS RL 181 yL_lit (wsW yL_lit cL_lit 4 (some .int) [(0, 9, 12, 18)])) := gSW n_1220 n_1221 n_94 n_1222
theorem g_RL_183 : GoodIn TB (wsV RL 183 RX9 yX9_lit (wsY yX9_lit cX9_lit 7 (some .int))) := gV n_1780 n_1781 n_1782 m_104 n_1783
theorem g_RL_184 : GoodIn TB (wsV RL 184 RX8 yX8_game (wsY yX8_game cX8_game 6 (some .int))) := gV n_753 n_754 n_755 m_95 n_756
theorem g_RL_187 : GoodIn TB (wsV RL 187 RX9 yX9_game (wsY yX9_game cX9_game 3 (some .int))) := gV n_1800 n_1801 n_1802 m_104 n_1803
theorem g_RL_188 : GoodIn TB (wsV RL 188 RX8 yX8_pulse (wsY yX8_pulse cX8_pulse 3 (some .boolean))) := gV n_765 n_766 n_767 m_95 n_768
theorem g_RL_191 : GoodIn TB (wsV RL 191 RX9 yX9_pulse (wsY yX9_pulse cX9_pulse 3 (some .boolean))) := gV n_1808 n_1809 n_1810 m_104 n_1811
theorem g_RL_192 : GoodIn TB (va_wsS RL 192 yL_round (wsW yL_round cL_round 4 (some .int) [(0, 9, 12, 18)])) := gSW n_1238 n_1239 n_94 n_1240
theorem g_RL_194 : GoodIn TB (wsV RL 194 RX9 yX9_round (wsY yX9_round cX9_round 6 (some .int))) := gV n_1816 n_1817 n_1818 m_104 n_1819
theorem g_RL_195 : GoodIn TB (va_wsS RL 195 yL_twin (wsW yL_twin cL_twin 4 (some .int) [(0, 9, 12, 18)])) := gSW n_1260 n_1261 n_94 n_1262
theorem g_RL_197 : GoodIn TB (wsV RL 197 RX9 yX9_twin (wsY yX9_twin cX9_twin 5 (some .int))) := gV n_1656 n_1657 n_1658 m_104 n_1659
theorem g_RL_198 : GoodIn TB (wsV RL 198 RX8 yX8_keep (wsY yX8_keep cX8_keep 2 (some .boolean))) := gV n_775 n_776 n_777 m_95 n_778
theorem g_RL_201 : GoodIn TB (wsV RL 201 RX9 yX9_keep (wsY yX9_keep cX9_keep 3 (some .boolean))) := gV n_1820 n_1821 n_1822 m_104 n_1823
theorem g_RL_202 : GoodIn TB (va_wsS RL 202 yL_take (wsW yL_take cL_take 5 (some .int) [(0, 17, 20, 18)])) := gSW n_1271 n_1272 n_94 n_1273
theorem g_RL_204 : GoodIn TB (wsV RL 204 RX9 yX9_take (wsY yX9_take cX9_take 4 (some .boolean))) := gV n_1824 n_1825 n_1826 m_104 n_1827
section Cases
variable {X : Mx} {G : Gx} {Q : State → Prop} {k kk L : Nat} {xs : Nat → Int32} {i : Int} {γ μ σ : Mu}
set_option maxRecDepth 100000 in
set_option maxHeartbeats 2000000 in
theorem case_0 (hC : Cx X G cL_law 7 RL (some .boolean) 1000 kk) (hl : X.l.stackTraces = false) (hX : Scr X G L xs) (hkk : k + 2 ≤ kk) (hi : 0 ≤ i ∧ i + 6 ≤ L) (hL : Lq G γ μ σ) (K : ∀ γ' μ' σ', Lq G γ' μ' σ' → V X G Q (k + 2) 1711 [aS 52, aR 0, aR 518, aR 558, aI i, aD, aD] [] γ' μ') : V X G Q k 188 [aS 52, aR 0, aR 518, aR 558, aI i, aD, aD] [] γ μ := by
  obtain ⟨⟨w, p, hH, hR⟩, hS, hG, hRR, hW, ho⟩ := hL
  refine V_aload_n hC dL_law_188 rfl rfl ?_
  refine V_arg hC hX 1 (by decide) hi rfl rfl dL_law_189 dL_law_190 dL_law_192 dL_law_193 dL_law_194 ?_
  refine V_arg hC hX 2 (by decide) hi rfl rfl dL_law_195 dL_law_196 dL_law_198 dL_law_199 dL_law_200 ?_
  refine V_arg hC hX 3 (by decide) hi rfl rfl dL_law_201 dL_law_202 dL_law_204 dL_law_205 dL_law_206 ?_
  refine V_arg hC hX 4 (by decide) hi rfl rfl dL_law_207 dL_law_208 dL_law_210 dL_law_211 dL_law_212 ?_
  refine V_arg hC hX 5 (by decide) hi rfl rfl dL_law_213 dL_law_214 dL_law_216 dL_law_217 dL_law_218 ?_
  refine V_callV hC (n := 5) (ci := 8) (N := 20) rfl g_RL_80 ⟨rfl, by decide⟩ dL_law_219 (by decide) (by decide) hH.o rfl (Nat.le_of_ble_eq_true rfl) rfl (show 40 < 1000 by decide) (by omega) (c_feed hl 40 (by decide) hH hR hW (scI_b xs _) (scI_b xs _) (scI_b xs _) (scI_b xs _) (scI_b xs _)) (fun r γ1 m1 hp => ?_)
  obtain ⟨rfl, rfl, hR1, f1⟩ := hp
  have hM := keyA hH hG hRR hW hR1 f1
  refine V_aload_n hC dL_law_222 rfl rfl ?_
  refine V_arg hC hX 1 (by decide) hi rfl rfl dL_law_223 dL_law_224 dL_law_226 dL_law_227 dL_law_228 ?_
  refine V_arg hC hX 2 (by decide) hi rfl rfl dL_law_229 dL_law_230 dL_law_232 dL_law_233 dL_law_234 ?_
  refine V_arg hC hX 3 (by decide) hi rfl rfl dL_law_235 dL_law_236 dL_law_238 dL_law_239 dL_law_240 ?_
  refine V_arg hC hX 4 (by decide) hi rfl rfl dL_law_241 dL_law_242 dL_law_244 dL_law_245 dL_law_246 ?_
  refine V_arg hC hX 5 (by decide) hi rfl rfl dL_law_247 dL_law_248 dL_law_250 dL_law_251 dL_law_252 ?_
  refine V_callV hC (n := 5) (ci := 9) (N := 73) rfl g_RL_84 ⟨rfl, by decide⟩ dL_law_253 (by decide) (by decide) hS.o rfl (Nat.le_of_ble_eq_true rfl) rfl (show 40 < 1000 by decide) (by omega) (m_feed hl 40 (by decide) hS hG hM.2.2 hW) (fun r γ2 m2 hp2 => ?_)
  obtain ⟨rfl, t2, e2, hL2⟩ := keyM hM hS hW.feed ho hp2
  exact V_icmp_eq (tgt := 1711) hC dL_law_256 (by decide) (fun _ => V_widen (by omega) (K _ _ _ hL2)) (fun h => absurd rfl h)
set_option maxRecDepth 100000 in
set_option maxHeartbeats 2000000 in
theorem case_1 (hC : Cx X G cL_law 7 RL (some .boolean) 1000 kk) (hl : X.l.stackTraces = false) (hX : Scr X G L xs) (hkk : k + 2 ≤ kk) (hi : 0 ≤ i ∧ i + 6 ≤ L) (hL : Lq G γ μ σ) (K : ∀ γ' μ' σ', Lq G γ' μ' σ' → V X G Q (k + 2) 1711 [aS 52, aR 0, aR 518, aR 558, aI i, aD, aD] [] γ' μ') : V X G Q k 261 [aS 52, aR 0, aR 518, aR 558, aI i, aD, aD] [] γ μ := by
  obtain ⟨⟨w, p, hH, hR⟩, hS, hG, hRR, hW, ho⟩ := hL
  refine V_aload_n hC dL_law_261 rfl rfl ?_
  refine V_arg hC hX 1 (by decide) hi rfl rfl dL_law_262 dL_law_263 dL_law_265 dL_law_266 dL_law_267 ?_
  refine V_aload_n hC dL_law_268 rfl rfl ?_
  refine V_callSW hC (n := 3) g_RL_85 (by decide) dL_law_269 (by decide) rfl (Nat.le_of_ble_eq_true rfl) rfl (show 41 < 1000 by decide) (by omega) (w_hall hl 41 40 _ (by decide) hH.o ho (c_hall hl 40 (by decide) hH hR hW) (fun E γ' μ' h => h.2.1) (fun r γ' μ' h => ⟨_, h.2.1⟩)) (fun r γ1 m1 hp => ?_)
  obtain ⟨rfl, hM, hk⟩ := keyH hH hR hG hRR hW hp
  refine V_istore hC dL_law_272 (Nat.le_of_ble_eq_true rfl) rfl (lv2 := [aS 52, aR 0, aR 518, aR 558, aI i, aI _, aD]) rfl ?_
  refine V_aload_n hC dL_law_274 rfl rfl ?_
  refine V_arg hC hX 1 (by decide) hi rfl rfl dL_law_275 dL_law_276 dL_law_278 dL_law_279 dL_law_280 ?_
  refine V_callV hC (n := 1) (ci := 9) (N := 73) rfl g_RL_90 ⟨rfl, by decide⟩ dL_law_281 (by decide) (by decide) hS.o rfl (Nat.le_of_ble_eq_true rfl) rfl (show 40 < 1000 by decide) (by omega) (m_hall hl 40 (by decide) hS hM.2.1 hM.2.2 hW) (fun r γ2 m2 hp2 => ?_)
  obtain ⟨rfl, t2, e2, hL2⟩ := keyM hM hS (by split; (rename_i h; exact hW.hall h.1); exact hW) ho hp2
  refine V_istore hC dL_law_284 (Nat.le_of_ble_eq_true rfl) rfl (lv2 := [aS 52, aR 0, aR 518, aR 558, aI i, aI _, aI _]) rfl ?_
  refine V_aload_n hC dL_law_286 rfl rfl ?_
  refine V_callV hC (n := 0) (ci := 9) (N := 73) (as := []) rfl g_RL_91 ⟨rfl, by decide⟩ dL_law_287 (by decide) (by decide) hS.o rfl (Nat.le_of_ble_eq_true rfl) rfl (show 40 < 1000 by decide) (by omega) (m_thrown hl 40 hS) (fun r γ3 m3 hp3 => ?_)
  obtain ⟨rfl, rfl, rfl⟩ := hp3
  refine V_iload hC dL_law_290 rfl ?_
  refine V_icmp_eq (tgt := 297) hC dL_law_292 (by decide) (fun _ => ?_) (fun h => absurd t2 h)
  refine V_iload hC dL_law_297 rfl ?_
  refine V_if_ne (tgt := 314) hC dL_law_299 (by decide) (fun _ => V_goto (tgt := 1711) hC dL_law_314 (by decide) (V_forget (lv2 := [aS 52, aR 0, aR 518, aR 558, aI i, aD, aD]) rfl (forg7 (g := aD) (h := aD)) (V_widen (k2 := k + 2) (by omega) (K _ _ _ hL2)))) (fun h0 => ?_)
  refine V_aload_n hC dL_law_302 rfl rfl (V_iconst hC dL_law_303 (by decide) (V_lald hC dL_law_304 ho (by decide) (V_iload hC dL_law_305 rfl ?_)))
  refine V_i2l hC dL_law_307 ?_
  refine V_lcmp hC dL_law_308 ?_
  exact V_if_eq (tgt := 314) hC dL_law_309 (by decide) (fun _ => V_goto (tgt := 1711) hC dL_law_314 (by decide) (V_forget (lv2 := [aS 52, aR 0, aR 518, aR 558, aI i, aD, aD]) rfl (forg7 (g := aD) (h := aD)) (V_widen (k2 := k + 2) (by omega) (K _ _ _ hL2)))) (fun h => absurd (lcmp_0.mpr (by rw [e2, hk h0])) h)
set_option maxRecDepth 100000 in
set_option maxHeartbeats 2000000 in
theorem case_2 (hC : Cx X G cL_law 7 RL (some .boolean) 1000 kk) (hl : X.l.stackTraces = false) (hX : Scr X G L xs) (hkk : k + 2 ≤ kk) (hi : 0 ≤ i ∧ i + 6 ≤ L) (hL : Lq G γ μ σ) (K : ∀ γ' μ' σ', Lq G γ' μ' σ' → V X G Q (k + 2) 1711 [aS 52, aR 0, aR 518, aR 558, aI i, aD, aD] [] γ' μ') : V X G Q k 317 [aS 52, aR 0, aR 518, aR 558, aI i, aD, aD] [] γ μ := by
  obtain ⟨⟨w, p, hH, hR⟩, hS, hG, hRR, hW, ho⟩ := hL
  refine V_aload_n hC dL_law_317 rfl rfl ?_
  refine V_callV hC (n := 0) (ci := 8) (N := 20) rfl g_RL_95 ⟨rfl, by decide⟩ dL_law_318 (by decide) (by decide) hH.o rfl (Nat.le_of_ble_eq_true rfl) rfl (show 40 < 1000 by decide) (by omega) (c_fault hl 40 hH hR) (fun r γ1 m1 hp => ?_)
  obtain ⟨rfl, rfl, hR1, f1⟩ := hp
  have hM := keyA hH hG hRR hW hR1 f1
  refine V_aload_n hC dL_law_321 rfl rfl ?_
  refine V_callV hC (n := 0) (ci := 9) (N := 73) rfl g_RL_98 ⟨rfl, by decide⟩ dL_law_322 (by decide) (by decide) hS.o rfl (Nat.le_of_ble_eq_true rfl) rfl (show 40 < 1000 by decide) (by omega) (m_fault hl 40 hS hM.2.2 hW) (fun r γ2 m2 hp2 => ?_)
  obtain ⟨rfl, t2, e2, hL2⟩ := keyM hM hS hW ho hp2
  exact V_icmp_eq (tgt := 1711) hC dL_law_325 (by decide) (fun _ => V_widen (by omega) (K _ _ _ hL2)) (fun h => absurd rfl h)
set_option maxRecDepth 100000 in
set_option maxHeartbeats 2000000 in
theorem case_3 (hC : Cx X G cL_law 7 RL (some .boolean) 1000 kk) (hl : X.l.stackTraces = false) (hX : Scr X G L xs) (hkk : k + 2 ≤ kk) (hi : 0 ≤ i ∧ i + 6 ≤ L) (hL : Lq G γ μ σ) (K : ∀ γ' μ' σ', Lq G γ' μ' σ' → V X G Q (k + 2) 1711 [aS 52, aR 0, aR 518, aR 558, aI i, aD, aD] [] γ' μ') : V X G Q k 330 [aS 52, aR 0, aR 518, aR 558, aI i, aD, aD] [] γ μ := by
  obtain ⟨⟨w, p, hH, hR⟩, hS, hG, hRR, hW, ho⟩ := hL
  refine V_aload_n hC dL_law_330 rfl rfl ?_
  refine V_arg hC hX 1 (by decide) hi rfl rfl dL_law_331 dL_law_332 dL_law_334 dL_law_335 dL_law_336 ?_
  refine V_aload_n hC dL_law_337 rfl rfl ?_
  refine V_callSW hC (n := 3) g_RL_99 (by decide) dL_law_338 (by decide) rfl (Nat.le_of_ble_eq_true rfl) rfl (show 41 < 1000 by decide) (by omega) (w_count hl 41 40 _ (by decide) hH.o ho (c_count hl 40 (by decide) hH hR hW) (fun E γ' μ' h => h.1) (fun r γ' μ' h => ⟨_, h.2.1⟩)) (fun r γ1 m1 hp => ?_)
  obtain ⟨rfl, hM, hk⟩ := keyW hH hG hRR hW (by split; exact Or.inl rfl; exact Or.inr rfl) hp
  refine V_istore hC dL_law_341 (Nat.le_of_ble_eq_true rfl) rfl (lv2 := [aS 52, aR 0, aR 518, aR 558, aI i, aI _, aD]) rfl ?_
  refine V_aload_n hC dL_law_343 rfl rfl ?_
  refine V_arg hC hX 1 (by decide) hi rfl rfl dL_law_344 dL_law_345 dL_law_347 dL_law_348 dL_law_349 ?_
  refine V_callV hC (n := 1) (ci := 9) (N := 73) rfl g_RL_101 ⟨rfl, by decide⟩ dL_law_350 (by decide) (by decide) hS.o rfl (Nat.le_of_ble_eq_true rfl) rfl (show 40 < 1000 by decide) (by omega) (m_count hl 40 (by decide) hS hM.2.1 hM.2.2 hW) (fun r γ2 m2 hp2 => ?_)
  obtain ⟨rfl, t2, e2, hL2⟩ := keyM hM hS hW ho hp2
  refine V_istore hC dL_law_353 (Nat.le_of_ble_eq_true rfl) rfl (lv2 := [aS 52, aR 0, aR 518, aR 558, aI i, aI _, aI _]) rfl ?_
  refine V_aload_n hC dL_law_355 rfl rfl ?_
  refine V_callV hC (n := 0) (ci := 9) (N := 73) (as := []) rfl g_RL_91 ⟨rfl, by decide⟩ dL_law_356 (by decide) (by decide) hS.o rfl (Nat.le_of_ble_eq_true rfl) rfl (show 40 < 1000 by decide) (by omega) (m_thrown hl 40 hS) (fun r γ3 m3 hp3 => ?_)
  obtain ⟨rfl, rfl, rfl⟩ := hp3
  refine V_iload hC dL_law_359 rfl ?_
  refine V_icmp_eq (tgt := 366) hC dL_law_361 (by decide) (fun _ => ?_) (fun h => absurd t2 h)
  refine V_iload hC dL_law_366 rfl ?_
  refine V_if_ne (tgt := 383) hC dL_law_368 (by decide) (fun _ => V_goto (tgt := 1711) hC dL_law_383 (by decide) (V_forget (lv2 := [aS 52, aR 0, aR 518, aR 558, aI i, aD, aD]) rfl (forg7 (g := aD) (h := aD)) (V_widen (k2 := k + 2) (by omega) (K _ _ _ hL2)))) (fun h0 => ?_)
  refine V_aload_n hC dL_law_371 rfl rfl (V_iconst hC dL_law_372 (by decide) (V_lald hC dL_law_373 ho (by decide) (V_iload hC dL_law_374 rfl ?_)))
  refine V_i2l hC dL_law_376 ?_
  refine V_lcmp hC dL_law_377 ?_
  exact V_if_eq (tgt := 383) hC dL_law_378 (by decide) (fun _ => V_goto (tgt := 1711) hC dL_law_383 (by decide) (V_forget (lv2 := [aS 52, aR 0, aR 518, aR 558, aI i, aD, aD]) rfl (forg7 (g := aD) (h := aD)) (V_widen (k2 := k + 2) (by omega) (K _ _ _ hL2)))) (fun h => absurd (lcmp_0.mpr (by rw [e2, hk h0])) h)
set_option maxRecDepth 100000 in
set_option maxHeartbeats 2000000 in
theorem case_4 (hC : Cx X G cL_law 7 RL (some .boolean) 1000 kk) (hl : X.l.stackTraces = false) (hX : Scr X G L xs) (hkk : k + 2 ≤ kk) (hi : 0 ≤ i ∧ i + 6 ≤ L) (hL : Lq G γ μ σ) (K : ∀ γ' μ' σ', Lq G γ' μ' σ' → V X G Q (k + 2) 1711 [aS 52, aR 0, aR 518, aR 558, aI i, aD, aD] [] γ' μ') : V X G Q k 386 [aS 52, aR 0, aR 518, aR 558, aI i, aD, aD] [] γ μ := by
  obtain ⟨⟨w, p, hH, hR⟩, hS, hG, hRR, hW, ho⟩ := hL
  refine V_aload_n hC dL_law_386 rfl rfl ?_
  refine V_arg hC hX 1 (by decide) hi rfl rfl dL_law_387 dL_law_388 dL_law_390 dL_law_391 dL_law_392 ?_
  refine V_arg hC hX 2 (by decide) hi rfl rfl dL_law_393 dL_law_394 dL_law_396 dL_law_397 dL_law_398 ?_
  refine V_aload_n hC dL_law_399 rfl rfl ?_
  refine V_callSW hC (n := 4) g_RL_102 (by decide) dL_law_400 (by decide) rfl (Nat.le_of_ble_eq_true rfl) rfl (show 41 < 1000 by decide) (by omega) (w_amount hl 41 40 _ (by decide) hH.o ho (c_amount hl 40 (by decide) hH hR hW) (fun E γ' μ' h => h.1) (fun r γ' μ' h => ⟨_, h.2.1⟩)) (fun r γ1 m1 hp => ?_)
  obtain ⟨rfl, hM, hk⟩ := keyW hH hG hRR hW (by split; exact Or.inl rfl; exact Or.inr rfl) hp
  refine V_istore hC dL_law_403 (Nat.le_of_ble_eq_true rfl) rfl (lv2 := [aS 52, aR 0, aR 518, aR 558, aI i, aI _, aD]) rfl ?_
  refine V_aload_n hC dL_law_405 rfl rfl ?_
  refine V_arg hC hX 1 (by decide) hi rfl rfl dL_law_406 dL_law_407 dL_law_409 dL_law_410 dL_law_411 ?_
  refine V_arg hC hX 2 (by decide) hi rfl rfl dL_law_412 dL_law_413 dL_law_415 dL_law_416 dL_law_417 ?_
  refine V_callV hC (n := 2) (ci := 9) (N := 73) rfl g_RL_105 ⟨rfl, by decide⟩ dL_law_418 (by decide) (by decide) hS.o rfl (Nat.le_of_ble_eq_true rfl) rfl (show 40 < 1000 by decide) (by omega) (m_amount hl 40 (by decide) hS hM.2.1 hM.2.2 hW) (fun r γ2 m2 hp2 => ?_)
  obtain ⟨rfl, t2, e2, hL2⟩ := keyM hM hS hW ho hp2
  refine V_istore hC dL_law_421 (Nat.le_of_ble_eq_true rfl) rfl (lv2 := [aS 52, aR 0, aR 518, aR 558, aI i, aI _, aI _]) rfl ?_
  refine V_aload_n hC dL_law_423 rfl rfl ?_
  refine V_callV hC (n := 0) (ci := 9) (N := 73) (as := []) rfl g_RL_91 ⟨rfl, by decide⟩ dL_law_424 (by decide) (by decide) hS.o rfl (Nat.le_of_ble_eq_true rfl) rfl (show 40 < 1000 by decide) (by omega) (m_thrown hl 40 hS) (fun r γ3 m3 hp3 => ?_)
  obtain ⟨rfl, rfl, rfl⟩ := hp3
  refine V_iload hC dL_law_427 rfl ?_
  refine V_icmp_eq (tgt := 434) hC dL_law_429 (by decide) (fun _ => ?_) (fun h => absurd t2 h)
  refine V_iload hC dL_law_434 rfl ?_
  refine V_if_ne (tgt := 451) hC dL_law_436 (by decide) (fun _ => V_goto (tgt := 1711) hC dL_law_451 (by decide) (V_forget (lv2 := [aS 52, aR 0, aR 518, aR 558, aI i, aD, aD]) rfl (forg7 (g := aD) (h := aD)) (V_widen (k2 := k + 2) (by omega) (K _ _ _ hL2)))) (fun h0 => ?_)
  refine V_aload_n hC dL_law_439 rfl rfl (V_iconst hC dL_law_440 (by decide) (V_lald hC dL_law_441 ho (by decide) (V_iload hC dL_law_442 rfl ?_)))
  refine V_i2l hC dL_law_444 ?_
  refine V_lcmp hC dL_law_445 ?_
  exact V_if_eq (tgt := 451) hC dL_law_446 (by decide) (fun _ => V_goto (tgt := 1711) hC dL_law_451 (by decide) (V_forget (lv2 := [aS 52, aR 0, aR 518, aR 558, aI i, aD, aD]) rfl (forg7 (g := aD) (h := aD)) (V_widen (k2 := k + 2) (by omega) (K _ _ _ hL2)))) (fun h => absurd (lcmp_0.mpr (by rw [e2, hk h0])) h)
set_option maxRecDepth 100000 in
set_option maxHeartbeats 2000000 in
theorem case_5 (hC : Cx X G cL_law 7 RL (some .boolean) 1000 kk) (hl : X.l.stackTraces = false) (hX : Scr X G L xs) (hkk : k + 2 ≤ kk) (hi : 0 ≤ i ∧ i + 6 ≤ L) (hL : Lq G γ μ σ) (K : ∀ γ' μ' σ', Lq G γ' μ' σ' → V X G Q (k + 2) 1711 [aS 52, aR 0, aR 518, aR 558, aI i, aD, aD] [] γ' μ') : V X G Q k 454 [aS 52, aR 0, aR 518, aR 558, aI i, aD, aD] [] γ μ := by
  obtain ⟨⟨w, p, hH, hR⟩, hS, hG, hRR, hW, ho⟩ := hL
  refine V_aload_n hC dL_law_454 rfl rfl ?_
  refine V_arg hC hX 1 (by decide) hi rfl rfl dL_law_455 dL_law_456 dL_law_458 dL_law_459 dL_law_460 ?_
  refine V_arg hC hX 2 (by decide) hi rfl rfl dL_law_461 dL_law_462 dL_law_464 dL_law_465 dL_law_466 ?_
  refine V_aload_n hC dL_law_467 rfl rfl ?_
  refine V_callSW hC (n := 4) g_RL_106 (by decide) dL_law_468 (by decide) rfl (Nat.le_of_ble_eq_true rfl) rfl (show 41 < 1000 by decide) (by omega) (w_colour hl 41 40 _ (by decide) hH.o ho (c_colour hl 40 (by decide) hH hR hW) (fun E γ' μ' h => h.1) (fun r γ' μ' h => ⟨_, h.2.1⟩)) (fun r γ1 m1 hp => ?_)
  obtain ⟨rfl, hM, hk⟩ := keyW hH hG hRR hW (by split; exact Or.inl rfl; exact Or.inr rfl) hp
  refine V_istore hC dL_law_471 (Nat.le_of_ble_eq_true rfl) rfl (lv2 := [aS 52, aR 0, aR 518, aR 558, aI i, aI _, aD]) rfl ?_
  refine V_aload_n hC dL_law_473 rfl rfl ?_
  refine V_arg hC hX 1 (by decide) hi rfl rfl dL_law_474 dL_law_475 dL_law_477 dL_law_478 dL_law_479 ?_
  refine V_arg hC hX 2 (by decide) hi rfl rfl dL_law_480 dL_law_481 dL_law_483 dL_law_484 dL_law_485 ?_
  refine V_callV hC (n := 2) (ci := 9) (N := 73) rfl g_RL_108 ⟨rfl, by decide⟩ dL_law_486 (by decide) (by decide) hS.o rfl (Nat.le_of_ble_eq_true rfl) rfl (show 40 < 1000 by decide) (by omega) (m_colour hl 40 (by decide) hS hM.2.1 hM.2.2 hW) (fun r γ2 m2 hp2 => ?_)
  obtain ⟨rfl, t2, e2, hL2⟩ := keyM hM hS hW ho hp2
  refine V_istore hC dL_law_489 (Nat.le_of_ble_eq_true rfl) rfl (lv2 := [aS 52, aR 0, aR 518, aR 558, aI i, aI _, aI _]) rfl ?_
  refine V_aload_n hC dL_law_491 rfl rfl ?_
  refine V_callV hC (n := 0) (ci := 9) (N := 73) (as := []) rfl g_RL_91 ⟨rfl, by decide⟩ dL_law_492 (by decide) (by decide) hS.o rfl (Nat.le_of_ble_eq_true rfl) rfl (show 40 < 1000 by decide) (by omega) (m_thrown hl 40 hS) (fun r γ3 m3 hp3 => ?_)
  obtain ⟨rfl, rfl, rfl⟩ := hp3
  refine V_iload hC dL_law_495 rfl ?_
  refine V_icmp_eq (tgt := 502) hC dL_law_497 (by decide) (fun _ => ?_) (fun h => absurd t2 h)
  refine V_iload hC dL_law_502 rfl ?_
  refine V_if_ne (tgt := 519) hC dL_law_504 (by decide) (fun _ => V_goto (tgt := 1711) hC dL_law_519 (by decide) (V_forget (lv2 := [aS 52, aR 0, aR 518, aR 558, aI i, aD, aD]) rfl (forg7 (g := aD) (h := aD)) (V_widen (k2 := k + 2) (by omega) (K _ _ _ hL2)))) (fun h0 => ?_)
  refine V_aload_n hC dL_law_507 rfl rfl (V_iconst hC dL_law_508 (by decide) (V_lald hC dL_law_509 ho (by decide) (V_iload hC dL_law_510 rfl ?_)))
  refine V_i2l hC dL_law_512 ?_
  refine V_lcmp hC dL_law_513 ?_
  exact V_if_eq (tgt := 519) hC dL_law_514 (by decide) (fun _ => V_goto (tgt := 1711) hC dL_law_519 (by decide) (V_forget (lv2 := [aS 52, aR 0, aR 518, aR 558, aI i, aD, aD]) rfl (forg7 (g := aD) (h := aD)) (V_widen (k2 := k + 2) (by omega) (K _ _ _ hL2)))) (fun h => absurd (lcmp_0.mpr (by rw [e2, hk h0])) h)
set_option maxRecDepth 100000 in
set_option maxHeartbeats 2000000 in
theorem case_6 (hC : Cx X G cL_law 7 RL (some .boolean) 1000 kk) (hl : X.l.stackTraces = false) (hX : Scr X G L xs) (hkk : k + 2 ≤ kk) (hi : 0 ≤ i ∧ i + 6 ≤ L) (hL : Lq G γ μ σ) (K : ∀ γ' μ' σ', Lq G γ' μ' σ' → V X G Q (k + 2) 1711 [aS 52, aR 0, aR 518, aR 558, aI i, aD, aD] [] γ' μ') : V X G Q k 522 [aS 52, aR 0, aR 518, aR 558, aI i, aD, aD] [] γ μ := by
  obtain ⟨⟨w, p, hH, hR⟩, hS, hG, hRR, hW, ho⟩ := hL
  have hb : (if isL σ (scI xs (i + 1)) ∧ isSW (scI xs (i + 2)) then (if 0 ≤ scI xs (i + 3) ∧ scI xs (i + 3) < σ 0 1 then (1 : Int) else 0) else 0) = 0 ∨ (if isL σ (scI xs (i + 1)) ∧ isSW (scI xs (i + 2)) then (if 0 ≤ scI xs (i + 3) ∧ scI xs (i + 3) < σ 0 1 then (1 : Int) else 0) else 0) = 1 := (by split; (split <;> simp); simp)
  refine V_aload_n hC dL_law_522 rfl rfl ?_
  refine V_arg hC hX 1 (by decide) hi rfl rfl dL_law_523 dL_law_524 dL_law_526 dL_law_527 dL_law_528 ?_
  refine V_arg hC hX 2 (by decide) hi rfl rfl dL_law_529 dL_law_530 dL_law_532 dL_law_533 dL_law_534 ?_
  refine V_arg hC hX 3 (by decide) hi rfl rfl dL_law_535 dL_law_536 dL_law_538 dL_law_539 dL_law_540 ?_
  refine V_aload_n hC dL_law_541 rfl rfl ?_
  refine V_callSW hC (n := 5) g_RL_109 (by decide) dL_law_542 (by decide) rfl (Nat.le_of_ble_eq_true rfl) rfl (show 41 < 1000 by decide) (by omega) (w_set hl 41 40 _ (by decide) hH.o ho (c_set hl 40 (by decide) hH hR hW) (fun E γ' μ' h => h.1) (fun r γ' μ' h => ⟨_, h.2.1, hb⟩)) (fun r γ1 m1 hp => ?_)
  obtain ⟨rfl, hM, hk⟩ := keyW hH hG hRR hW (by split; exact Or.inl rfl; exact Or.inr rfl) hp
  refine V_istore hC dL_law_545 (Nat.le_of_ble_eq_true rfl) rfl (lv2 := [aS 52, aR 0, aR 518, aR 558, aI i, aI _, aD]) rfl ?_
  refine V_aload_n hC dL_law_547 rfl rfl ?_
  refine V_arg hC hX 1 (by decide) hi rfl rfl dL_law_548 dL_law_549 dL_law_551 dL_law_552 dL_law_553 ?_
  refine V_arg hC hX 2 (by decide) hi rfl rfl dL_law_554 dL_law_555 dL_law_557 dL_law_558 dL_law_559 ?_
  refine V_arg hC hX 3 (by decide) hi rfl rfl dL_law_560 dL_law_561 dL_law_563 dL_law_564 dL_law_565 ?_
  refine V_callV hC (n := 3) (ci := 9) (N := 73) rfl g_RL_112 ⟨rfl, by decide⟩ dL_law_566 (by decide) (by decide) hS.o rfl (Nat.le_of_ble_eq_true rfl) rfl (show 40 < 1000 by decide) (by omega) (m_set hl 40 (by decide) hS hM.2.1 hM.2.2 hW) (fun r γ2 m2 hp2 => ?_)
  obtain ⟨rfl, t2, e2, hL2⟩ := keyM hM hS (by split; exact hW.set (by rename_i h; exact h.1); exact hW) ho hp2
  refine V_istore hC dL_law_569 (Nat.le_of_ble_eq_true rfl) rfl (lv2 := [aS 52, aR 0, aR 518, aR 558, aI i, aI _, aI _]) rfl ?_
  refine V_aload_n hC dL_law_571 rfl rfl ?_
  refine V_callV hC (n := 0) (ci := 9) (N := 73) (as := []) rfl g_RL_91 ⟨rfl, by decide⟩ dL_law_572 (by decide) (by decide) hS.o rfl (Nat.le_of_ble_eq_true rfl) rfl (show 40 < 1000 by decide) (by omega) (m_thrown hl 40 hS) (fun r γ3 m3 hp3 => ?_)
  obtain ⟨rfl, rfl, rfl⟩ := hp3
  refine V_iload hC dL_law_575 rfl ?_
  refine V_icmp_eq (tgt := 582) hC dL_law_577 (by decide) (fun _ => ?_) (fun h => absurd t2 h)
  refine V_iload hC dL_law_582 rfl ?_
  refine V_if_ne (tgt := 606) hC dL_law_584 (by decide) (fun _ => V_goto (tgt := 1711) hC dL_law_606 (by decide) (V_forget (lv2 := [aS 52, aR 0, aR 518, aR 558, aI i, aD, aD]) rfl (forg7 (g := aD) (h := aD)) (V_widen (k2 := k + 2) (by omega) (K _ _ _ hL2)))) (fun h0 => ?_)
  refine V_aload_n hC dL_law_587 rfl rfl (V_iconst hC dL_law_588 (by decide) (V_lald hC dL_law_589 ho (by decide) (V_iload hC dL_law_590 rfl ?_)))
  refine V_bl hC 599 600 dL_law_592 (by decide) dL_law_595 dL_law_596 (by decide) dL_law_599 rfl ?_
  refine V_lcmp hC dL_law_600 ?_
  exact V_if_eq (tgt := 606) hC dL_law_601 (by decide) (fun _ => V_goto (tgt := 1711) hC dL_law_606 (by decide) (V_forget (lv2 := [aS 52, aR 0, aR 518, aR 558, aI i, aD, aD]) rfl (forg7 (g := aD) (h := aD)) (V_widen (k2 := k + 2) (by omega) (K _ _ _ hL2)))) (fun h => absurd (lcmp_0.mpr (by rw [e2, hk h0, b01_eq hb])) h)
set_option maxRecDepth 100000 in
set_option maxHeartbeats 2000000 in
theorem case_7 (hC : Cx X G cL_law 7 RL (some .boolean) 1000 kk) (hl : X.l.stackTraces = false) (hX : Scr X G L xs) (hkk : k + 2 ≤ kk) (hi : 0 ≤ i ∧ i + 6 ≤ L) (hL : Lq G γ μ σ) (K : ∀ γ' μ' σ', Lq G γ' μ' σ' → V X G Q (k + 2) 1711 [aS 52, aR 0, aR 518, aR 558, aI i, aD, aD] [] γ' μ') : V X G Q k 609 [aS 52, aR 0, aR 518, aR 558, aI i, aD, aD] [] γ μ := by
  obtain ⟨⟨w, p, hH, hR⟩, hS, hG, hRR, hW, ho⟩ := hL
  have hb : (if isSW (scI xs (i + 1)) then (if 0 ≤ scI xs (i + 2) ∧ scI xs (i + 2) < σ 0 1 then (1 : Int) else 0) else 0) = 0 ∨ (if isSW (scI xs (i + 1)) then (if 0 ≤ scI xs (i + 2) ∧ scI xs (i + 2) < σ 0 1 then (1 : Int) else 0) else 0) = 1 := (by split; (split <;> simp); simp)
  refine V_aload_n hC dL_law_609 rfl rfl ?_
  refine V_arg hC hX 1 (by decide) hi rfl rfl dL_law_610 dL_law_611 dL_law_613 dL_law_614 dL_law_615 ?_
  refine V_arg hC hX 2 (by decide) hi rfl rfl dL_law_616 dL_law_617 dL_law_619 dL_law_620 dL_law_621 ?_
  refine V_aload_n hC dL_law_622 rfl rfl ?_
  refine V_callSW hC (n := 4) g_RL_113 (by decide) dL_law_623 (by decide) rfl (Nat.le_of_ble_eq_true rfl) rfl (show 41 < 1000 by decide) (by omega) (w_fill hl 41 40 _ (by decide) hH.o ho (c_fillC hl 40 (by decide) hH hR hW) (fun E γ' μ' h => h.1) (fun r γ' μ' h => ⟨_, h.2.1, hb⟩)) (fun r γ1 m1 hp => ?_)
  obtain ⟨rfl, hM, hk⟩ := keyW hH hG hRR hW (by split; exact Or.inl rfl; exact Or.inr rfl) hp
  refine V_istore hC dL_law_626 (Nat.le_of_ble_eq_true rfl) rfl (lv2 := [aS 52, aR 0, aR 518, aR 558, aI i, aI _, aD]) rfl ?_
  refine V_aload_n hC dL_law_628 rfl rfl ?_
  refine V_arg hC hX 1 (by decide) hi rfl rfl dL_law_629 dL_law_630 dL_law_632 dL_law_633 dL_law_634 ?_
  refine V_arg hC hX 2 (by decide) hi rfl rfl dL_law_635 dL_law_636 dL_law_638 dL_law_639 dL_law_640 ?_
  refine V_callV hC (n := 2) (ci := 9) (N := 73) rfl g_RL_115 ⟨rfl, by decide⟩ dL_law_641 (by decide) (by decide) hS.o rfl (Nat.le_of_ble_eq_true rfl) rfl (show 40 < 1000 by decide) (by omega) (m_fill hl 40 (by decide) hS hM.2.1 hM.2.2 hW) (fun r γ2 m2 hp2 => ?_)
  obtain ⟨rfl, t2, e2, hL2⟩ := keyM hM hS (by split; exact hW.fill; exact hW) ho hp2
  refine V_istore hC dL_law_644 (Nat.le_of_ble_eq_true rfl) rfl (lv2 := [aS 52, aR 0, aR 518, aR 558, aI i, aI _, aI _]) rfl ?_
  refine V_aload_n hC dL_law_646 rfl rfl ?_
  refine V_callV hC (n := 0) (ci := 9) (N := 73) (as := []) rfl g_RL_91 ⟨rfl, by decide⟩ dL_law_647 (by decide) (by decide) hS.o rfl (Nat.le_of_ble_eq_true rfl) rfl (show 40 < 1000 by decide) (by omega) (m_thrown hl 40 hS) (fun r γ3 m3 hp3 => ?_)
  obtain ⟨rfl, rfl, rfl⟩ := hp3
  refine V_iload hC dL_law_650 rfl ?_
  refine V_icmp_eq (tgt := 657) hC dL_law_652 (by decide) (fun _ => ?_) (fun h => absurd t2 h)
  refine V_iload hC dL_law_657 rfl ?_
  refine V_if_ne (tgt := 681) hC dL_law_659 (by decide) (fun _ => V_goto (tgt := 1711) hC dL_law_681 (by decide) (V_forget (lv2 := [aS 52, aR 0, aR 518, aR 558, aI i, aD, aD]) rfl (forg7 (g := aD) (h := aD)) (V_widen (k2 := k + 2) (by omega) (K _ _ _ hL2)))) (fun h0 => ?_)
  refine V_aload_n hC dL_law_662 rfl rfl (V_iconst hC dL_law_663 (by decide) (V_lald hC dL_law_664 ho (by decide) (V_iload hC dL_law_665 rfl ?_)))
  refine V_bl hC 674 675 dL_law_667 (by decide) dL_law_670 dL_law_671 (by decide) dL_law_674 rfl ?_
  refine V_lcmp hC dL_law_675 ?_
  exact V_if_eq (tgt := 681) hC dL_law_676 (by decide) (fun _ => V_goto (tgt := 1711) hC dL_law_681 (by decide) (V_forget (lv2 := [aS 52, aR 0, aR 518, aR 558, aI i, aD, aD]) rfl (forg7 (g := aD) (h := aD)) (V_widen (k2 := k + 2) (by omega) (K _ _ _ hL2)))) (fun h => absurd (lcmp_0.mpr (by rw [e2, hk h0, b01_eq hb])) h)
set_option maxRecDepth 100000 in
set_option maxHeartbeats 2000000 in
theorem case_8 (hC : Cx X G cL_law 7 RL (some .boolean) 1000 kk) (hl : X.l.stackTraces = false) (hX : Scr X G L xs) (hkk : k + 2 ≤ kk) (hi : 0 ≤ i ∧ i + 6 ≤ L) (hL : Lq G γ μ σ) (K : ∀ γ' μ' σ', Lq G γ' μ' σ' → V X G Q (k + 2) 1711 [aS 52, aR 0, aR 518, aR 558, aI i, aD, aD] [] γ' μ') : V X G Q k 684 [aS 52, aR 0, aR 518, aR 558, aI i, aD, aD] [] γ μ := by
  obtain ⟨⟨w, p, hH, hR⟩, hS, hG, hRR, hW, ho⟩ := hL
  refine V_aload_n hC dL_law_684 rfl rfl ?_
  refine V_arg hC hX 1 (by decide) hi rfl rfl dL_law_685 dL_law_686 dL_law_688 dL_law_689 dL_law_690 ?_
  refine V_callV hC (n := 1) (ci := 8) (N := 20) rfl g_RL_116 ⟨rfl, by decide⟩ dL_law_691 (by decide) (by decide) hH.o rfl (Nat.le_of_ble_eq_true rfl) rfl (show 40 < 1000 by decide) (by omega) (c_draw hl 40 (by decide) hH hR hW (scI_b xs _)) (fun r γ1 m1 hp => ?_)
  obtain ⟨rfl, rfl, hR1, f1⟩ := hp
  have hM := keyA hH hG hRR hW hR1 f1
  refine V_aload_n hC dL_law_694 rfl rfl ?_
  refine V_arg hC hX 1 (by decide) hi rfl rfl dL_law_695 dL_law_696 dL_law_698 dL_law_699 dL_law_700 ?_
  refine V_callV hC (n := 1) (ci := 9) (N := 73) rfl g_RL_120 ⟨rfl, by decide⟩ dL_law_701 (by decide) (by decide) hS.o rfl (Nat.le_of_ble_eq_true rfl) rfl (show 40 < 1000 by decide) (by omega) (m_draw hl 40 hS hG hM.2.2 hW) (fun r γ2 m2 hp2 => ?_)
  obtain ⟨rfl, rfl, t2, hR2, f2⟩ := hp2
  have hL2 : Lq G _ m2 _ := ⟨⟨w, p, hH, hR1.fr hH.wb (fun y j a b => f2 y j (Or.inl (by omega)))⟩, hS, hG, hR2, hW.draw, ho⟩
  exact V_goto (tgt := 1711) hC dL_law_704 (by decide) (V_widen (by omega) (K _ _ _ hL2))
set_option maxRecDepth 100000 in
set_option maxHeartbeats 2000000 in
theorem case_9 (hC : Cx X G cL_law 7 RL (some .boolean) 1000 kk) (hl : X.l.stackTraces = false) (hX : Scr X G L xs) (hkk : k + 2 ≤ kk) (hi : 0 ≤ i ∧ i + 6 ≤ L) (hL : Lq G γ μ σ) (K : ∀ γ' μ' σ', Lq G γ' μ' σ' → V X G Q (k + 2) 1711 [aS 52, aR 0, aR 518, aR 558, aI i, aD, aD] [] γ' μ') : V X G Q k 707 [aS 52, aR 0, aR 518, aR 558, aI i, aD, aD] [] γ μ := by
  obtain ⟨⟨w, p, hH, hR⟩, hS, hG, hRR, hW, ho⟩ := hL
  have hz : (if scI xs (i + 2) = 0 then (0 : Int) else 1) = 0 ∨ (if scI xs (i + 2) = 0 then (0 : Int) else 1) = 1 := by split <;> simp
  have hb : (if isL σ (scI xs (i + 1)) then σ 2 (scI xs (i + 1)) else 0) = 0 ∨ (if isL σ (scI xs (i + 1)) then σ 2 (scI xs (i + 1)) else 0) = 1 := (by split; (rename_i h; exact hW.jm _ h.1 (by have := hW.1; omega)); exact Or.inl rfl)
  refine V_aload_n hC dL_law_707 rfl rfl ?_
  refine V_arg hC hX 1 (by decide) hi rfl rfl dL_law_708 dL_law_709 dL_law_711 dL_law_712 dL_law_713 ?_
  refine V_arg hC hX 2 (by decide) hi rfl rfl dL_law_714 dL_law_715 dL_law_717 dL_law_718 dL_law_719 ?_
  refine V_b01 hC 727 728 dL_law_720 (by decide) dL_law_723 dL_law_724 (by decide) dL_law_727 rfl ?_
  refine V_aload_n hC dL_law_728 rfl rfl ?_
  refine V_callSW hC (n := 4) g_RL_121 (by decide) dL_law_729 (by decide) rfl (Nat.le_of_ble_eq_true rfl) rfl (show 41 < 1000 by decide) (by omega) (w_jam hl 41 40 _ (by decide) hH.o ho (c_jam hl 40 (by decide) hz hH hR hW) (fun E γ' μ' h => h.1) (fun r γ' μ' h => ⟨_, h.2.1, hb⟩)) (fun r γ1 m1 hp => ?_)
  obtain ⟨rfl, hM, hk⟩ := keyW hH hG hRR hW (by split; exact Or.inl rfl; exact Or.inr rfl) hp
  refine V_istore hC dL_law_732 (Nat.le_of_ble_eq_true rfl) rfl (lv2 := [aS 52, aR 0, aR 518, aR 558, aI i, aI _, aD]) rfl ?_
  refine V_aload_n hC dL_law_734 rfl rfl ?_
  refine V_arg hC hX 1 (by decide) hi rfl rfl dL_law_735 dL_law_736 dL_law_738 dL_law_739 dL_law_740 ?_
  refine V_arg hC hX 2 (by decide) hi rfl rfl dL_law_741 dL_law_742 dL_law_744 dL_law_745 dL_law_746 ?_
  refine V_b01 hC 754 755 dL_law_747 (by decide) dL_law_750 dL_law_751 (by decide) dL_law_754 rfl ?_
  refine V_callV hC (n := 2) (ci := 9) (N := 73) rfl g_RL_124 ⟨rfl, by decide⟩ dL_law_755 (by decide) (by decide) hS.o rfl (Nat.le_of_ble_eq_true rfl) rfl (show 40 < 1000 by decide) (by omega) (m_jam hl 40 (by decide) hz hS hM.2.1 hM.2.2 hW) (fun r γ2 m2 hp2 => ?_)
  obtain ⟨rfl, t2, e2, hL2⟩ := keyM hM hS (by split; exact hW.jam hz; exact hW) ho hp2
  refine V_istore hC dL_law_758 (Nat.le_of_ble_eq_true rfl) rfl (lv2 := [aS 52, aR 0, aR 518, aR 558, aI i, aI _, aI _]) rfl ?_
  refine V_aload_n hC dL_law_760 rfl rfl ?_
  refine V_callV hC (n := 0) (ci := 9) (N := 73) (as := []) rfl g_RL_91 ⟨rfl, by decide⟩ dL_law_761 (by decide) (by decide) hS.o rfl (Nat.le_of_ble_eq_true rfl) rfl (show 40 < 1000 by decide) (by omega) (m_thrown hl 40 hS) (fun r γ3 m3 hp3 => ?_)
  obtain ⟨rfl, rfl, rfl⟩ := hp3
  refine V_iload hC dL_law_764 rfl ?_
  refine V_icmp_eq (tgt := 771) hC dL_law_766 (by decide) (fun _ => ?_) (fun h => absurd t2 h)
  refine V_iload hC dL_law_771 rfl ?_
  refine V_if_ne (tgt := 795) hC dL_law_773 (by decide) (fun _ => V_goto (tgt := 1711) hC dL_law_795 (by decide) (V_forget (lv2 := [aS 52, aR 0, aR 518, aR 558, aI i, aD, aD]) rfl (forg7 (g := aD) (h := aD)) (V_widen (k2 := k + 2) (by omega) (K _ _ _ hL2)))) (fun h0 => ?_)
  refine V_aload_n hC dL_law_776 rfl rfl (V_iconst hC dL_law_777 (by decide) (V_lald hC dL_law_778 ho (by decide) (V_iload hC dL_law_779 rfl ?_)))
  refine V_bl hC 788 789 dL_law_781 (by decide) dL_law_784 dL_law_785 (by decide) dL_law_788 rfl ?_
  refine V_lcmp hC dL_law_789 ?_
  exact V_if_eq (tgt := 795) hC dL_law_790 (by decide) (fun _ => V_goto (tgt := 1711) hC dL_law_795 (by decide) (V_forget (lv2 := [aS 52, aR 0, aR 518, aR 558, aI i, aD, aD]) rfl (forg7 (g := aD) (h := aD)) (V_widen (k2 := k + 2) (by omega) (K _ _ _ hL2)))) (fun h => absurd (lcmp_0.mpr (by rw [e2, hk h0, b01_eq hb])) h)
set_option maxRecDepth 100000 in
set_option maxHeartbeats 2000000 in
theorem case_10 (hC : Cx X G cL_law 7 RL (some .boolean) 1000 kk) (hl : X.l.stackTraces = false) (hX : Scr X G L xs) (hkk : k + 2 ≤ kk) (hi : 0 ≤ i ∧ i + 6 ≤ L) (hL : Lq G γ μ σ) (K : ∀ γ' μ' σ', Lq G γ' μ' σ' → V X G Q (k + 2) 1711 [aS 52, aR 0, aR 518, aR 558, aI i, aD, aD] [] γ' μ') : V X G Q k 798 [aS 52, aR 0, aR 518, aR 558, aI i, aD, aD] [] γ μ := by
  obtain ⟨⟨w, p, hH, hR⟩, hS, hG, hRR, hW, ho⟩ := hL
  have hb : (if isL σ (scI xs (i + 1)) ∧ σ 2 (scI xs (i + 1)) = 0 then (1 : Int) else 0) = 0 ∨ (if isL σ (scI xs (i + 1)) ∧ σ 2 (scI xs (i + 1)) = 0 then (1 : Int) else 0) = 1 := (by split <;> simp)
  refine V_aload_n hC dL_law_798 rfl rfl ?_
  refine V_arg hC hX 1 (by decide) hi rfl rfl dL_law_799 dL_law_800 dL_law_802 dL_law_803 dL_law_804 ?_
  refine V_aload_n hC dL_law_805 rfl rfl ?_
  refine V_callSW hC (n := 3) g_RL_125 (by decide) dL_law_806 (by decide) rfl (Nat.le_of_ble_eq_true rfl) rfl (show 41 < 1000 by decide) (by omega) (w_press hl 41 40 _ (by decide) hH.o ho (c_press hl 40 (by decide) hH hR hW) (fun E γ' μ' h => h.1) (fun r γ' μ' h => ⟨_, h.2.1, hb⟩)) (fun r γ1 m1 hp => ?_)
  obtain ⟨rfl, hM, hk⟩ := keyW hH hG hRR hW (by split; exact Or.inl rfl; exact Or.inr rfl) hp
  refine V_istore hC dL_law_809 (Nat.le_of_ble_eq_true rfl) rfl (lv2 := [aS 52, aR 0, aR 518, aR 558, aI i, aI _, aD]) rfl ?_
  refine V_aload_n hC dL_law_811 rfl rfl ?_
  refine V_arg hC hX 1 (by decide) hi rfl rfl dL_law_812 dL_law_813 dL_law_815 dL_law_816 dL_law_817 ?_
  refine V_callV hC (n := 1) (ci := 9) (N := 73) rfl g_RL_127 ⟨rfl, by decide⟩ dL_law_818 (by decide) (by decide) hS.o rfl (Nat.le_of_ble_eq_true rfl) rfl (show 40 < 1000 by decide) (by omega) (m_press hl 40 (by decide) hS hM.2.1 hM.2.2 hW) (fun r γ2 m2 hp2 => ?_)
  obtain ⟨rfl, t2, e2, hL2⟩ := keyM hM hS (by split; exact hW.prs (by rename_i h; exact h.1); exact hW) ho hp2
  refine V_istore hC dL_law_821 (Nat.le_of_ble_eq_true rfl) rfl (lv2 := [aS 52, aR 0, aR 518, aR 558, aI i, aI _, aI _]) rfl ?_
  refine V_aload_n hC dL_law_823 rfl rfl ?_
  refine V_callV hC (n := 0) (ci := 9) (N := 73) (as := []) rfl g_RL_91 ⟨rfl, by decide⟩ dL_law_824 (by decide) (by decide) hS.o rfl (Nat.le_of_ble_eq_true rfl) rfl (show 40 < 1000 by decide) (by omega) (m_thrown hl 40 hS) (fun r γ3 m3 hp3 => ?_)
  obtain ⟨rfl, rfl, rfl⟩ := hp3
  refine V_iload hC dL_law_827 rfl ?_
  refine V_icmp_eq (tgt := 834) hC dL_law_829 (by decide) (fun _ => ?_) (fun h => absurd t2 h)
  refine V_iload hC dL_law_834 rfl ?_
  refine V_if_ne (tgt := 858) hC dL_law_836 (by decide) (fun _ => V_goto (tgt := 1711) hC dL_law_858 (by decide) (V_forget (lv2 := [aS 52, aR 0, aR 518, aR 558, aI i, aD, aD]) rfl (forg7 (g := aD) (h := aD)) (V_widen (k2 := k + 2) (by omega) (K _ _ _ hL2)))) (fun h0 => ?_)
  refine V_aload_n hC dL_law_839 rfl rfl (V_iconst hC dL_law_840 (by decide) (V_lald hC dL_law_841 ho (by decide) (V_iload hC dL_law_842 rfl ?_)))
  refine V_bl hC 851 852 dL_law_844 (by decide) dL_law_847 dL_law_848 (by decide) dL_law_851 rfl ?_
  refine V_lcmp hC dL_law_852 ?_
  exact V_if_eq (tgt := 858) hC dL_law_853 (by decide) (fun _ => V_goto (tgt := 1711) hC dL_law_858 (by decide) (V_forget (lv2 := [aS 52, aR 0, aR 518, aR 558, aI i, aD, aD]) rfl (forg7 (g := aD) (h := aD)) (V_widen (k2 := k + 2) (by omega) (K _ _ _ hL2)))) (fun h => absurd (lcmp_0.mpr (by rw [e2, hk h0, b01_eq hb])) h)
set_option maxRecDepth 100000 in
set_option maxHeartbeats 2000000 in
theorem case_11 (hC : Cx X G cL_law 7 RL (some .boolean) 1000 kk) (hl : X.l.stackTraces = false) (hX : Scr X G L xs) (hkk : k + 2 ≤ kk) (hi : 0 ≤ i ∧ i + 6 ≤ L) (hL : Lq G γ μ σ) (K : ∀ γ' μ' σ', Lq G γ' μ' σ' → V X G Q (k + 2) 1711 [aS 52, aR 0, aR 518, aR 558, aI i, aD, aD] [] γ' μ') : V X G Q k 861 [aS 52, aR 0, aR 518, aR 558, aI i, aD, aD] [] γ μ := by
  obtain ⟨⟨w, p, hH, hR⟩, hS, hG, hRR, hW, ho⟩ := hL
  refine V_aload_n hC dL_law_861 rfl rfl ?_
  refine V_callV hC (n := 0) (ci := 8) (N := 20) rfl g_RL_128 ⟨rfl, by decide⟩ dL_law_862 (by decide) (by decide) hH.o rfl (Nat.le_of_ble_eq_true rfl) rfl (show 40 < 1000 by decide) (by omega) (c_back hl 40 (by decide) hH hR hW) (fun r γ1 m1 hp => ?_)
  obtain ⟨rfl, rfl, hR1, f1⟩ := hp
  have hM := keyA hH hG hRR hW hR1 f1
  refine V_aload_n hC dL_law_865 rfl rfl ?_
  refine V_callV hC (n := 0) (ci := 9) (N := 73) rfl g_RL_131 ⟨rfl, by decide⟩ dL_law_866 (by decide) (by decide) hS.o rfl (Nat.le_of_ble_eq_true rfl) rfl (show 40 < 1000 by decide) (by omega) (m_back hl 40 hS hG hM.2.2 hW) (fun r γ2 m2 hp2 => ?_)
  obtain ⟨rfl, t2, e2, hL2⟩ := keyM hM hS hW.back ho hp2
  exact V_icmp_eq (tgt := 1711) hC dL_law_869 (by decide) (fun _ => V_widen (by omega) (K _ _ _ hL2)) (fun h => absurd rfl h)
set_option maxRecDepth 100000 in
set_option maxHeartbeats 2000000 in
theorem case_12 (hC : Cx X G cL_law 7 RL (some .boolean) 1000 kk) (hl : X.l.stackTraces = false) (hX : Scr X G L xs) (hkk : k + 2 ≤ kk) (hi : 0 ≤ i ∧ i + 6 ≤ L) (hL : Lq G γ μ σ) (K : ∀ γ' μ' σ', Lq G γ' μ' σ' → V X G Q (k + 2) 1711 [aS 52, aR 0, aR 518, aR 558, aI i, aD, aD] [] γ' μ') : V X G Q k 874 [aS 52, aR 0, aR 518, aR 558, aI i, aD, aD] [] γ μ := by
  obtain ⟨⟨w, p, hH, hR⟩, hS, hG, hRR, hW, ho⟩ := hL
  refine V_aload_n hC dL_law_874 rfl rfl ?_
  refine V_callV hC (n := 0) (ci := 8) (N := 20) rfl g_RL_132 ⟨rfl, by decide⟩ dL_law_875 (by decide) (by decide) hH.o rfl (Nat.le_of_ble_eq_true rfl) rfl (show 40 < 1000 by decide) (by omega) (c_rank hl 40 (by decide) hH hR hW) (fun r γ1 m1 hp => ?_)
  obtain ⟨rfl, rfl, hR1, f1⟩ := hp
  have hM := keyA hH hG hRR hW hR1 (fun y j h => f1 y j (by omega))
  refine V_aload_n hC dL_law_878 rfl rfl ?_
  refine V_callV hC (n := 0) (ci := 9) (N := 73) rfl g_RL_135 ⟨rfl, by decide⟩ dL_law_879 (by decide) (by decide) hS.o rfl (Nat.le_of_ble_eq_true rfl) rfl (show 40 < 1000 by decide) (by omega) (m_rank hl 40 (by decide) hS hG hM.2.2 hW) (fun r γ2 m2 hp2 => ?_)
  obtain ⟨rfl, t2, e2, hL2⟩ := keyM hM hS hW ho hp2
  exact V_icmp_eq (tgt := 1711) hC dL_law_882 (by decide) (fun _ => V_widen (by omega) (K _ _ _ hL2)) (fun h => absurd rfl h)
set_option maxRecDepth 100000 in
set_option maxHeartbeats 2000000 in
theorem case_13 (hC : Cx X G cL_law 7 RL (some .boolean) 1000 kk) (hl : X.l.stackTraces = false) (hX : Scr X G L xs) (hkk : k + 2 ≤ kk) (hi : 0 ≤ i ∧ i + 6 ≤ L) (hL : Lq G γ μ σ) (K : ∀ γ' μ' σ', Lq G γ' μ' σ' → V X G Q (k + 2) 1711 [aS 52, aR 0, aR 518, aR 558, aI i, aD, aD] [] γ' μ') : V X G Q k 887 [aS 52, aR 0, aR 518, aR 558, aI i, aD, aD] [] γ μ := by
  obtain ⟨⟨w, p, hH, hR⟩, hS, hG, hRR, hW, ho⟩ := hL
  refine V_aload_n hC dL_law_887 rfl rfl ?_
  refine V_arg hC hX 1 (by decide) hi rfl rfl dL_law_888 dL_law_889 dL_law_891 dL_law_892 dL_law_893 ?_
  refine V_arg hC hX 2 (by decide) hi rfl rfl dL_law_894 dL_law_895 dL_law_897 dL_law_898 dL_law_899 ?_
  refine V_aload_n hC dL_law_900 rfl rfl ?_
  refine V_callSW hC (n := 4) g_RL_136 (by decide) dL_law_901 (by decide) rfl (Nat.le_of_ble_eq_true rfl) rfl (show 41 < 1000 by decide) (by omega) (w_bound hl 41 40 _ (by decide) hH.o ho (c_bound hl 40 (by decide) hH hR hW) (fun E γ' μ' h => h.1) (fun r γ' μ' h => ⟨_, h.2.1⟩)) (fun r γ1 m1 hp => ?_)
  obtain ⟨rfl, hM, hk⟩ := keyW hH hG hRR hW (by split; exact Or.inl rfl; exact Or.inr rfl) hp
  refine V_istore hC dL_law_904 (Nat.le_of_ble_eq_true rfl) rfl (lv2 := [aS 52, aR 0, aR 518, aR 558, aI i, aI _, aD]) rfl ?_
  refine V_aload_n hC dL_law_906 rfl rfl ?_
  refine V_arg hC hX 1 (by decide) hi rfl rfl dL_law_907 dL_law_908 dL_law_910 dL_law_911 dL_law_912 ?_
  refine V_arg hC hX 2 (by decide) hi rfl rfl dL_law_913 dL_law_914 dL_law_916 dL_law_917 dL_law_918 ?_
  refine V_callV hC (n := 2) (ci := 9) (N := 73) rfl g_RL_138 ⟨rfl, by decide⟩ dL_law_919 (by decide) (by decide) hS.o rfl (Nat.le_of_ble_eq_true rfl) rfl (show 40 < 1000 by decide) (by omega) (m_bound hl 40 (by decide) hS hM.2.1 hM.2.2 hW) (fun r γ2 m2 hp2 => ?_)
  obtain ⟨rfl, t2, e2, hL2⟩ := keyM hM hS hW ho hp2
  refine V_istore hC dL_law_922 (Nat.le_of_ble_eq_true rfl) rfl (lv2 := [aS 52, aR 0, aR 518, aR 558, aI i, aI _, aI _]) rfl ?_
  refine V_aload_n hC dL_law_924 rfl rfl ?_
  refine V_callV hC (n := 0) (ci := 9) (N := 73) (as := []) rfl g_RL_91 ⟨rfl, by decide⟩ dL_law_925 (by decide) (by decide) hS.o rfl (Nat.le_of_ble_eq_true rfl) rfl (show 40 < 1000 by decide) (by omega) (m_thrown hl 40 hS) (fun r γ3 m3 hp3 => ?_)
  obtain ⟨rfl, rfl, rfl⟩ := hp3
  refine V_iload hC dL_law_928 rfl ?_
  refine V_icmp_eq (tgt := 935) hC dL_law_930 (by decide) (fun _ => ?_) (fun h => absurd t2 h)
  refine V_iload hC dL_law_935 rfl ?_
  refine V_if_ne (tgt := 952) hC dL_law_937 (by decide) (fun _ => V_goto (tgt := 1711) hC dL_law_952 (by decide) (V_forget (lv2 := [aS 52, aR 0, aR 518, aR 558, aI i, aD, aD]) rfl (forg7 (g := aD) (h := aD)) (V_widen (k2 := k + 2) (by omega) (K _ _ _ hL2)))) (fun h0 => ?_)
  refine V_aload_n hC dL_law_940 rfl rfl (V_iconst hC dL_law_941 (by decide) (V_lald hC dL_law_942 ho (by decide) (V_iload hC dL_law_943 rfl ?_)))
  refine V_i2l hC dL_law_945 ?_
  refine V_lcmp hC dL_law_946 ?_
  exact V_if_eq (tgt := 952) hC dL_law_947 (by decide) (fun _ => V_goto (tgt := 1711) hC dL_law_952 (by decide) (V_forget (lv2 := [aS 52, aR 0, aR 518, aR 558, aI i, aD, aD]) rfl (forg7 (g := aD) (h := aD)) (V_widen (k2 := k + 2) (by omega) (K _ _ _ hL2)))) (fun h => absurd (lcmp_0.mpr (by rw [e2, hk h0])) h)
set_option maxRecDepth 100000 in
set_option maxHeartbeats 2000000 in
theorem case_14 (hC : Cx X G cL_law 7 RL (some .boolean) 1000 kk) (hl : X.l.stackTraces = false) (hX : Scr X G L xs) (hkk : k + 2 ≤ kk) (hi : 0 ≤ i ∧ i + 6 ≤ L) (hL : Lq G γ μ σ) (K : ∀ γ' μ' σ', Lq G γ' μ' σ' → V X G Q (k + 2) 1711 [aS 52, aR 0, aR 518, aR 558, aI i, aD, aD] [] γ' μ') : V X G Q k 955 [aS 52, aR 0, aR 518, aR 558, aI i, aD, aD] [] γ μ := by
  obtain ⟨⟨w, p, hH, hR⟩, hS, hG, hRR, hW, ho⟩ := hL
  refine V_aload_n hC dL_law_955 rfl rfl ?_
  refine V_arg hC hX 1 (by decide) hi rfl rfl dL_law_956 dL_law_957 dL_law_959 dL_law_960 dL_law_961 ?_
  refine V_arg hC hX 2 (by decide) hi rfl rfl dL_law_962 dL_law_963 dL_law_965 dL_law_966 dL_law_967 ?_
  refine V_aload_n hC dL_law_968 rfl rfl ?_
  refine V_callSW hC (n := 4) g_RL_139 (by decide) dL_law_969 (by decide) rfl (Nat.le_of_ble_eq_true rfl) rfl (show 41 < 1000 by decide) (by omega) (w_quiet hl 41 40 _ (by decide) hH.o ho (c_quiet hl 40 (by decide) hH hR hW) (fun E γ' μ' h => h.1) (fun r γ' μ' h => ⟨_, h.2.1⟩)) (fun r γ1 m1 hp => ?_)
  obtain ⟨rfl, hM, hk⟩ := keyW hH hG hRR hW (by split; exact Or.inl rfl; exact Or.inr rfl) hp
  refine V_istore hC dL_law_972 (Nat.le_of_ble_eq_true rfl) rfl (lv2 := [aS 52, aR 0, aR 518, aR 558, aI i, aI _, aD]) rfl ?_
  refine V_aload_n hC dL_law_974 rfl rfl ?_
  refine V_arg hC hX 1 (by decide) hi rfl rfl dL_law_975 dL_law_976 dL_law_978 dL_law_979 dL_law_980 ?_
  refine V_arg hC hX 2 (by decide) hi rfl rfl dL_law_981 dL_law_982 dL_law_984 dL_law_985 dL_law_986 ?_
  refine V_callV hC (n := 2) (ci := 9) (N := 73) rfl g_RL_141 ⟨rfl, by decide⟩ dL_law_987 (by decide) (by decide) hS.o rfl (Nat.le_of_ble_eq_true rfl) rfl (show 40 < 1000 by decide) (by omega) (m_quiet hl 40 (by decide) hS hM.2.1 hM.2.2 hW) (fun r γ2 m2 hp2 => ?_)
  obtain ⟨rfl, t2, e2, hL2⟩ := keyM hM hS hW ho hp2
  refine V_istore hC dL_law_990 (Nat.le_of_ble_eq_true rfl) rfl (lv2 := [aS 52, aR 0, aR 518, aR 558, aI i, aI _, aI _]) rfl ?_
  refine V_aload_n hC dL_law_992 rfl rfl ?_
  refine V_callV hC (n := 0) (ci := 9) (N := 73) (as := []) rfl g_RL_91 ⟨rfl, by decide⟩ dL_law_993 (by decide) (by decide) hS.o rfl (Nat.le_of_ble_eq_true rfl) rfl (show 40 < 1000 by decide) (by omega) (m_thrown hl 40 hS) (fun r γ3 m3 hp3 => ?_)
  obtain ⟨rfl, rfl, rfl⟩ := hp3
  refine V_iload hC dL_law_996 rfl ?_
  refine V_icmp_eq (tgt := 1003) hC dL_law_998 (by decide) (fun _ => ?_) (fun h => absurd t2 h)
  refine V_iload hC dL_law_1003 rfl ?_
  refine V_if_ne (tgt := 1020) hC dL_law_1005 (by decide) (fun _ => V_goto (tgt := 1711) hC dL_law_1020 (by decide) (V_forget (lv2 := [aS 52, aR 0, aR 518, aR 558, aI i, aD, aD]) rfl (forg7 (g := aD) (h := aD)) (V_widen (k2 := k + 2) (by omega) (K _ _ _ hL2)))) (fun h0 => ?_)
  refine V_aload_n hC dL_law_1008 rfl rfl (V_iconst hC dL_law_1009 (by decide) (V_lald hC dL_law_1010 ho (by decide) (V_iload hC dL_law_1011 rfl ?_)))
  refine V_i2l hC dL_law_1013 ?_
  refine V_lcmp hC dL_law_1014 ?_
  exact V_if_eq (tgt := 1020) hC dL_law_1015 (by decide) (fun _ => V_goto (tgt := 1711) hC dL_law_1020 (by decide) (V_forget (lv2 := [aS 52, aR 0, aR 518, aR 558, aI i, aD, aD]) rfl (forg7 (g := aD) (h := aD)) (V_widen (k2 := k + 2) (by omega) (K _ _ _ hL2)))) (fun h => absurd (lcmp_0.mpr (by rw [e2, hk h0])) h)
set_option maxRecDepth 100000 in
set_option maxHeartbeats 2000000 in
theorem case_15 (hC : Cx X G cL_law 7 RL (some .boolean) 1000 kk) (hl : X.l.stackTraces = false) (hX : Scr X G L xs) (hkk : k + 2 ≤ kk) (hi : 0 ≤ i ∧ i + 6 ≤ L) (hL : Lq G γ μ σ) (K : ∀ γ' μ' σ', Lq G γ' μ' σ' → V X G Q (k + 2) 1711 [aS 52, aR 0, aR 518, aR 558, aI i, aD, aD] [] γ' μ') : V X G Q k 1023 [aS 52, aR 0, aR 518, aR 558, aI i, aD, aD] [] γ μ := by
  obtain ⟨⟨w, p, hH, hR⟩, hS, hG, hRR, hW, ho⟩ := hL
  refine V_aload_n hC dL_law_1023 rfl rfl ?_
  refine V_arg hC hX 1 (by decide) hi rfl rfl dL_law_1024 dL_law_1025 dL_law_1027 dL_law_1028 dL_law_1029 ?_
  refine V_arg hC hX 2 (by decide) hi rfl rfl dL_law_1030 dL_law_1031 dL_law_1033 dL_law_1034 dL_law_1035 ?_
  refine V_aload_n hC dL_law_1036 rfl rfl ?_
  refine V_callSW hC (n := 4) g_RL_142 (by decide) dL_law_1037 (by decide) rfl (Nat.le_of_ble_eq_true rfl) rfl (show 41 < 1000 by decide) (by omega) (w_sum hl 41 40 _ (by decide) hH.o ho (c_sum hl 40 (by decide) hH hR hW) (fun E γ' μ' h => h.1) (fun r γ' μ' h => ⟨_, h.2.1⟩)) (fun r γ1 m1 hp => ?_)
  obtain ⟨rfl, hM, hk⟩ := keyW hH hG hRR hW (by split; exact Or.inl rfl; exact Or.inr rfl) hp
  refine V_istore hC dL_law_1040 (Nat.le_of_ble_eq_true rfl) rfl (lv2 := [aS 52, aR 0, aR 518, aR 558, aI i, aI _, aD]) rfl ?_
  refine V_aload_n hC dL_law_1042 rfl rfl ?_
  refine V_arg hC hX 1 (by decide) hi rfl rfl dL_law_1043 dL_law_1044 dL_law_1046 dL_law_1047 dL_law_1048 ?_
  refine V_arg hC hX 2 (by decide) hi rfl rfl dL_law_1049 dL_law_1050 dL_law_1052 dL_law_1053 dL_law_1054 ?_
  refine V_callV hC (n := 2) (ci := 9) (N := 73) rfl g_RL_144 ⟨rfl, by decide⟩ dL_law_1055 (by decide) (by decide) hS.o rfl (Nat.le_of_ble_eq_true rfl) rfl (show 40 < 1000 by decide) (by omega) (m_sum hl 40 (by decide) hS hM.2.1 hM.2.2 hW) (fun r γ2 m2 hp2 => ?_)
  obtain ⟨rfl, t2, e2, hL2⟩ := keyM hM hS hW ho hp2
  refine V_istore hC dL_law_1058 (Nat.le_of_ble_eq_true rfl) rfl (lv2 := [aS 52, aR 0, aR 518, aR 558, aI i, aI _, aI _]) rfl ?_
  refine V_aload_n hC dL_law_1060 rfl rfl ?_
  refine V_callV hC (n := 0) (ci := 9) (N := 73) (as := []) rfl g_RL_91 ⟨rfl, by decide⟩ dL_law_1061 (by decide) (by decide) hS.o rfl (Nat.le_of_ble_eq_true rfl) rfl (show 40 < 1000 by decide) (by omega) (m_thrown hl 40 hS) (fun r γ3 m3 hp3 => ?_)
  obtain ⟨rfl, rfl, rfl⟩ := hp3
  refine V_iload hC dL_law_1064 rfl ?_
  refine V_icmp_eq (tgt := 1071) hC dL_law_1066 (by decide) (fun _ => ?_) (fun h => absurd t2 h)
  refine V_iload hC dL_law_1071 rfl ?_
  refine V_if_ne (tgt := 1088) hC dL_law_1073 (by decide) (fun _ => V_goto (tgt := 1711) hC dL_law_1088 (by decide) (V_forget (lv2 := [aS 52, aR 0, aR 518, aR 558, aI i, aD, aD]) rfl (forg7 (g := aD) (h := aD)) (V_widen (k2 := k + 2) (by omega) (K _ _ _ hL2)))) (fun h0 => ?_)
  refine V_aload_n hC dL_law_1076 rfl rfl (V_iconst hC dL_law_1077 (by decide) (V_lald hC dL_law_1078 ho (by decide) (V_iload hC dL_law_1079 rfl ?_)))
  refine V_i2l hC dL_law_1081 ?_
  refine V_lcmp hC dL_law_1082 ?_
  exact V_if_eq (tgt := 1088) hC dL_law_1083 (by decide) (fun _ => V_goto (tgt := 1711) hC dL_law_1088 (by decide) (V_forget (lv2 := [aS 52, aR 0, aR 518, aR 558, aI i, aD, aD]) rfl (forg7 (g := aD) (h := aD)) (V_widen (k2 := k + 2) (by omega) (K _ _ _ hL2)))) (fun h => absurd (lcmp_0.mpr (by rw [e2, hk h0])) h)
set_option maxRecDepth 100000 in
set_option maxHeartbeats 2000000 in
theorem case_16 (hC : Cx X G cL_law 7 RL (some .boolean) 1000 kk) (hl : X.l.stackTraces = false) (hX : Scr X G L xs) (hkk : k + 2 ≤ kk) (hi : 0 ≤ i ∧ i + 6 ≤ L) (hL : Lq G γ μ σ) (K : ∀ γ' μ' σ', Lq G γ' μ' σ' → V X G Q (k + 2) 1711 [aS 52, aR 0, aR 518, aR 558, aI i, aD, aD] [] γ' μ') : V X G Q k 1091 [aS 52, aR 0, aR 518, aR 558, aI i, aD, aD] [] γ μ := by
  obtain ⟨⟨w, p, hH, hR⟩, hS, hG, hRR, hW, ho⟩ := hL
  refine V_aload_n hC dL_law_1091 rfl rfl ?_
  refine V_callV hC (n := 0) (ci := 8) (N := 20) rfl g_RL_145 ⟨rfl, by decide⟩ dL_law_1092 (by decide) (by decide) hH.o rfl (Nat.le_of_ble_eq_true rfl) rfl (show 40 < 1000 by decide) (by omega) (c_why hl 40 (by decide) hH hR hW) (fun r γ1 m1 hp => ?_)
  obtain ⟨rfl, rfl, hR1, f1⟩ := hp
  have hM := keyA hH hG hRR hW hR1 f1
  refine V_aload_n hC dL_law_1095 rfl rfl ?_
  refine V_callV hC (n := 0) (ci := 9) (N := 73) rfl g_RL_148 ⟨rfl, by decide⟩ dL_law_1096 (by decide) (by decide) hS.o rfl (Nat.le_of_ble_eq_true rfl) rfl (show 40 < 1000 by decide) (by omega) (m_why hl 40 (by decide) hS hG hM.2.2 hW) (fun r γ2 m2 hp2 => ?_)
  obtain ⟨rfl, t2, e2, hL2⟩ := keyM hM hS hW ho hp2
  exact V_icmp_eq (tgt := 1711) hC dL_law_1099 (by decide) (fun _ => V_widen (by omega) (K _ _ _ hL2)) (fun h => absurd rfl h)
set_option maxRecDepth 100000 in
set_option maxHeartbeats 2000000 in
theorem case_17 (hC : Cx X G cL_law 7 RL (some .boolean) 1000 kk) (hl : X.l.stackTraces = false) (hX : Scr X G L xs) (hkk : k + 2 ≤ kk) (hi : 0 ≤ i ∧ i + 6 ≤ L) (hL : Lq G γ μ σ) (K : ∀ γ' μ' σ', Lq G γ' μ' σ' → V X G Q (k + 2) 1711 [aS 52, aR 0, aR 518, aR 558, aI i, aD, aD] [] γ' μ') : V X G Q k 1104 [aS 52, aR 0, aR 518, aR 558, aI i, aD, aD] [] γ μ := by
  obtain ⟨⟨w, p, hH, hR⟩, hS, hG, hRR, hW, ho⟩ := hL
  refine V_aload_n hC dL_law_1104 rfl rfl ?_
  refine V_arg hC hX 1 (by decide) hi rfl rfl dL_law_1105 dL_law_1106 dL_law_1108 dL_law_1109 dL_law_1110 ?_
  refine V_aload_n hC dL_law_1111 rfl rfl ?_
  refine V_callSW hC (n := 3) g_RL_149 (by decide) dL_law_1112 (by decide) rfl (Nat.le_of_ble_eq_true rfl) rfl (show 41 < 1000 by decide) (by omega) (w_solve hl 41 40 _ (by decide) hH.o ho (c_solve hl 40 (by decide) hH hR hW) (fun E γ' μ' h => h.2.1) (fun r γ' μ' h => by obtain ⟨-, z, σ1, -, h, -⟩ := h; exact ⟨z, h⟩)) (fun r γ1 m1 hp => ?_)
  obtain ⟨rfl, σ1, hM, s1, s2⟩ := keyS hH hG hRR hW hp
  refine V_istore hC dL_law_1115 (Nat.le_of_ble_eq_true rfl) rfl (lv2 := [aS 52, aR 0, aR 518, aR 558, aI i, aI _, aD]) rfl ?_
  refine V_aload_n hC dL_law_1117 rfl rfl ?_
  refine V_arg hC hX 1 (by decide) hi rfl rfl dL_law_1118 dL_law_1119 dL_law_1121 dL_law_1122 dL_law_1123 ?_
  refine V_callV hC (n := 1) (ci := 9) (N := 73) rfl g_RL_151 ⟨rfl, by decide⟩ dL_law_1124 (by decide) (by decide) hS.o rfl (Nat.le_of_ble_eq_true rfl) rfl (show 40 < 1000 by decide) (by omega) (m_solve hl 40 (by decide) hS hM.2.1 hM.2.2 hW) (fun r γ2 m2 hp2 => ?_)
  obtain ⟨z2, σ2, rfl, t2, e2, hL2, hk⟩ := keyMS hM hW s1 s2 hS ho hp2
  refine V_istore hC dL_law_1127 (Nat.le_of_ble_eq_true rfl) rfl (lv2 := [aS 52, aR 0, aR 518, aR 558, aI i, aI _, aI _]) rfl ?_
  refine V_aload_n hC dL_law_1129 rfl rfl ?_
  refine V_callV hC (n := 0) (ci := 9) (N := 73) (as := []) rfl g_RL_91 ⟨rfl, by decide⟩ dL_law_1130 (by decide) (by decide) hS.o rfl (Nat.le_of_ble_eq_true rfl) rfl (show 40 < 1000 by decide) (by omega) (m_thrown hl 40 hS) (fun r γ3 m3 hp3 => ?_)
  obtain ⟨rfl, rfl, rfl⟩ := hp3
  refine V_iload hC dL_law_1133 rfl ?_
  refine V_icmp_eq (tgt := 1140) hC dL_law_1135 (by decide) (fun _ => ?_) (fun h => absurd t2 h)
  refine V_iload hC dL_law_1140 rfl ?_
  refine V_if_ne (tgt := 1157) hC dL_law_1142 (by decide) (fun _ => V_goto (tgt := 1711) hC dL_law_1157 (by decide) (V_forget (lv2 := [aS 52, aR 0, aR 518, aR 558, aI i, aD, aD]) rfl (forg7 (g := aD) (h := aD)) (V_widen (k2 := k + 2) (by omega) (K _ _ _ hL2)))) (fun h0 => ?_)
  refine V_aload_n hC dL_law_1145 rfl rfl (V_iconst hC dL_law_1146 (by decide) (V_lald hC dL_law_1147 ho (by decide) (V_iload hC dL_law_1148 rfl ?_)))
  refine V_i2l hC dL_law_1150 ?_
  refine V_lcmp hC dL_law_1151 ?_
  exact V_if_eq (tgt := 1157) hC dL_law_1152 (by decide) (fun _ => V_goto (tgt := 1711) hC dL_law_1157 (by decide) (V_forget (lv2 := [aS 52, aR 0, aR 518, aR 558, aI i, aD, aD]) rfl (forg7 (g := aD) (h := aD)) (V_widen (k2 := k + 2) (by omega) (K _ _ _ hL2)))) (fun h => absurd (lcmp_0.mpr (by rw [e2, hk h0])) h)
set_option maxRecDepth 100000 in
set_option maxHeartbeats 2000000 in
theorem case_18 (hC : Cx X G cL_law 7 RL (some .boolean) 1000 kk) (hl : X.l.stackTraces = false) (hX : Scr X G L xs) (hkk : k + 2 ≤ kk) (hi : 0 ≤ i ∧ i + 6 ≤ L) (hL : Lq G γ μ σ) (K : ∀ γ' μ' σ', Lq G γ' μ' σ' → V X G Q (k + 2) 1711 [aS 52, aR 0, aR 518, aR 558, aI i, aD, aD] [] γ' μ') : V X G Q k 1160 [aS 52, aR 0, aR 518, aR 558, aI i, aD, aD] [] γ μ := by
  obtain ⟨⟨w, p, hH, hR⟩, hS, hG, hRR, hW, ho⟩ := hL
  refine V_aload_n hC dL_law_1160 rfl rfl ?_
  refine V_arg hC hX 1 (by decide) hi rfl rfl dL_law_1161 dL_law_1162 dL_law_1164 dL_law_1165 dL_law_1166 ?_
  refine V_aload_n hC dL_law_1167 rfl rfl ?_
  refine V_callSW hC (n := 3) g_RL_152 (by decide) dL_law_1168 (by decide) rfl (Nat.le_of_ble_eq_true rfl) rfl (show 41 < 1000 by decide) (by omega) (w_times hl 41 40 _ (by decide) hH.o ho (c_times hl 40 (by decide) hH hR hW) (fun E γ' μ' h => h.1) (fun r γ' μ' h => ⟨_, h.2.1⟩)) (fun r γ1 m1 hp => ?_)
  obtain ⟨rfl, hM, hk⟩ := keyW hH hG hRR hW (by split; exact Or.inl rfl; exact Or.inr rfl) hp
  refine V_istore hC dL_law_1171 (Nat.le_of_ble_eq_true rfl) rfl (lv2 := [aS 52, aR 0, aR 518, aR 558, aI i, aI _, aD]) rfl ?_
  refine V_aload_n hC dL_law_1173 rfl rfl ?_
  refine V_arg hC hX 1 (by decide) hi rfl rfl dL_law_1174 dL_law_1175 dL_law_1177 dL_law_1178 dL_law_1179 ?_
  refine V_callV hC (n := 1) (ci := 9) (N := 73) rfl g_RL_154 ⟨rfl, by decide⟩ dL_law_1180 (by decide) (by decide) hS.o rfl (Nat.le_of_ble_eq_true rfl) rfl (show 40 < 1000 by decide) (by omega) (m_times hl 40 (by decide) hS hM.2.1 hM.2.2 hW) (fun r γ2 m2 hp2 => ?_)
  obtain ⟨rfl, t2, e2, hL2⟩ := keyM hM hS hW ho hp2
  refine V_istore hC dL_law_1183 (Nat.le_of_ble_eq_true rfl) rfl (lv2 := [aS 52, aR 0, aR 518, aR 558, aI i, aI _, aI _]) rfl ?_
  refine V_aload_n hC dL_law_1185 rfl rfl ?_
  refine V_callV hC (n := 0) (ci := 9) (N := 73) (as := []) rfl g_RL_91 ⟨rfl, by decide⟩ dL_law_1186 (by decide) (by decide) hS.o rfl (Nat.le_of_ble_eq_true rfl) rfl (show 40 < 1000 by decide) (by omega) (m_thrown hl 40 hS) (fun r γ3 m3 hp3 => ?_)
  obtain ⟨rfl, rfl, rfl⟩ := hp3
  refine V_iload hC dL_law_1189 rfl ?_
  refine V_icmp_eq (tgt := 1196) hC dL_law_1191 (by decide) (fun _ => ?_) (fun h => absurd t2 h)
  refine V_iload hC dL_law_1196 rfl ?_
  refine V_if_ne (tgt := 1213) hC dL_law_1198 (by decide) (fun _ => V_goto (tgt := 1711) hC dL_law_1213 (by decide) (V_forget (lv2 := [aS 52, aR 0, aR 518, aR 558, aI i, aD, aD]) rfl (forg7 (g := aD) (h := aD)) (V_widen (k2 := k + 2) (by omega) (K _ _ _ hL2)))) (fun h0 => ?_)
  refine V_aload_n hC dL_law_1201 rfl rfl (V_iconst hC dL_law_1202 (by decide) (V_lald hC dL_law_1203 ho (by decide) (V_iload hC dL_law_1204 rfl ?_)))
  refine V_i2l hC dL_law_1206 ?_
  refine V_lcmp hC dL_law_1207 ?_
  exact V_if_eq (tgt := 1213) hC dL_law_1208 (by decide) (fun _ => V_goto (tgt := 1711) hC dL_law_1213 (by decide) (V_forget (lv2 := [aS 52, aR 0, aR 518, aR 558, aI i, aD, aD]) rfl (forg7 (g := aD) (h := aD)) (V_widen (k2 := k + 2) (by omega) (K _ _ _ hL2)))) (fun h => absurd (lcmp_0.mpr (by rw [e2, hk h0])) h)
set_option maxRecDepth 100000 in
set_option maxHeartbeats 2000000 in
theorem case_19 (hC : Cx X G cL_law 7 RL (some .boolean) 1000 kk) (hl : X.l.stackTraces = false) (hX : Scr X G L xs) (hkk : k + 2 ≤ kk) (hi : 0 ≤ i ∧ i + 6 ≤ L) (hL : Lq G γ μ σ) (K : ∀ γ' μ' σ', Lq G γ' μ' σ' → V X G Q (k + 2) 1711 [aS 52, aR 0, aR 518, aR 558, aI i, aD, aD] [] γ' μ') : V X G Q k 1216 [aS 52, aR 0, aR 518, aR 558, aI i, aD, aD] [] γ μ := by
  obtain ⟨⟨w, p, hH, hR⟩, hS, hG, hRR, hW, ho⟩ := hL
  refine V_aload_n hC dL_law_1216 rfl rfl ?_
  refine V_callV hC (n := 0) (ci := 8) (N := 20) rfl g_RL_155 ⟨rfl, by decide⟩ dL_law_1217 (by decide) (by decide) hH.o rfl (Nat.le_of_ble_eq_true rfl) rfl (show 40 < 1000 by decide) (by omega) (c_apply hl 40 (by decide) hH hR hW) (fun r γ1 m1 hp => ?_)
  obtain ⟨rfl, rfl, hR1, f1⟩ := hp
  have hM := keyA hH hG hRR hW hR1 f1
  refine V_aload_n hC dL_law_1220 rfl rfl ?_
  refine V_callV hC (n := 0) (ci := 9) (N := 73) rfl g_RL_158 ⟨rfl, by decide⟩ dL_law_1221 (by decide) (by decide) hS.o rfl (Nat.le_of_ble_eq_true rfl) rfl (show 40 < 1000 by decide) (by omega) (m_apply hl 40 (by decide) hS hG hM.2.2 hW) (fun r γ2 m2 hp2 => ?_)
  obtain ⟨rfl, t2, e2, hL2⟩ := keyM hM hS (by split; exact hW; exact (aplF_ok hW _ hW.1.1 (Int.le_refl _)).1) ho hp2
  exact V_icmp_eq (tgt := 1711) hC dL_law_1224 (by decide) (fun _ => V_widen (by omega) (K _ _ _ hL2)) (fun h => absurd rfl h)
set_option maxRecDepth 100000 in
set_option maxHeartbeats 2000000 in
theorem case_20 (hC : Cx X G cL_law 7 RL (some .boolean) 1000 kk) (hl : X.l.stackTraces = false) (hX : Scr X G L xs) (hkk : k + 2 ≤ kk) (hi : 0 ≤ i ∧ i + 6 ≤ L) (hL : Lq G γ μ σ) (K : ∀ γ' μ' σ', Lq G γ' μ' σ' → V X G Q (k + 2) 1711 [aS 52, aR 0, aR 518, aR 558, aI i, aD, aD] [] γ' μ') : V X G Q k 1229 [aS 52, aR 0, aR 518, aR 558, aI i, aD, aD] [] γ μ := by
  obtain ⟨⟨w, p, hH, hR⟩, hS, hG, hRR, hW, ho⟩ := hL
  refine V_aload_n hC dL_law_1229 rfl rfl ?_
  refine V_arg hC hX 1 (by decide) hi rfl rfl dL_law_1230 dL_law_1231 dL_law_1233 dL_law_1234 dL_law_1235 ?_
  refine V_aload_n hC dL_law_1236 rfl rfl ?_
  refine V_callSW hC (n := 3) g_RL_159 (by decide) dL_law_1237 (by decide) rfl (Nat.le_of_ble_eq_true rfl) rfl (show 41 < 1000 by decide) (by omega) (w_needed hl 41 40 _ (by decide) hH.o ho (c_needed hl 40 (by decide) hH hR hW) (fun E γ' μ' h => h.1) (fun r γ' μ' h => ⟨_, h.2.1⟩)) (fun r γ1 m1 hp => ?_)
  obtain ⟨rfl, hM, hk⟩ := keyW hH hG hRR hW (by split; exact Or.inl rfl; exact Or.inr rfl) hp
  refine V_istore hC dL_law_1240 (Nat.le_of_ble_eq_true rfl) rfl (lv2 := [aS 52, aR 0, aR 518, aR 558, aI i, aI _, aD]) rfl ?_
  refine V_aload_n hC dL_law_1242 rfl rfl ?_
  refine V_arg hC hX 1 (by decide) hi rfl rfl dL_law_1243 dL_law_1244 dL_law_1246 dL_law_1247 dL_law_1248 ?_
  refine V_callV hC (n := 1) (ci := 9) (N := 73) rfl g_RL_161 ⟨rfl, by decide⟩ dL_law_1249 (by decide) (by decide) hS.o rfl (Nat.le_of_ble_eq_true rfl) rfl (show 40 < 1000 by decide) (by omega) (m_needed hl 40 (by decide) hS hM.2.1 hM.2.2 hW) (fun r γ2 m2 hp2 => ?_)
  obtain ⟨rfl, t2, e2, hL2⟩ := keyM hM hS hW ho hp2
  refine V_istore hC dL_law_1252 (Nat.le_of_ble_eq_true rfl) rfl (lv2 := [aS 52, aR 0, aR 518, aR 558, aI i, aI _, aI _]) rfl ?_
  refine V_aload_n hC dL_law_1254 rfl rfl ?_
  refine V_callV hC (n := 0) (ci := 9) (N := 73) (as := []) rfl g_RL_91 ⟨rfl, by decide⟩ dL_law_1255 (by decide) (by decide) hS.o rfl (Nat.le_of_ble_eq_true rfl) rfl (show 40 < 1000 by decide) (by omega) (m_thrown hl 40 hS) (fun r γ3 m3 hp3 => ?_)
  obtain ⟨rfl, rfl, rfl⟩ := hp3
  refine V_iload hC dL_law_1258 rfl ?_
  refine V_icmp_eq (tgt := 1265) hC dL_law_1260 (by decide) (fun _ => ?_) (fun h => absurd t2 h)
  refine V_iload hC dL_law_1265 rfl ?_
  refine V_if_ne (tgt := 1282) hC dL_law_1267 (by decide) (fun _ => V_goto (tgt := 1711) hC dL_law_1282 (by decide) (V_forget (lv2 := [aS 52, aR 0, aR 518, aR 558, aI i, aD, aD]) rfl (forg7 (g := aD) (h := aD)) (V_widen (k2 := k + 2) (by omega) (K _ _ _ hL2)))) (fun h0 => ?_)
  refine V_aload_n hC dL_law_1270 rfl rfl (V_iconst hC dL_law_1271 (by decide) (V_lald hC dL_law_1272 ho (by decide) (V_iload hC dL_law_1273 rfl ?_)))
  refine V_i2l hC dL_law_1275 ?_
  refine V_lcmp hC dL_law_1276 ?_
  exact V_if_eq (tgt := 1282) hC dL_law_1277 (by decide) (fun _ => V_goto (tgt := 1711) hC dL_law_1282 (by decide) (V_forget (lv2 := [aS 52, aR 0, aR 518, aR 558, aI i, aD, aD]) rfl (forg7 (g := aD) (h := aD)) (V_widen (k2 := k + 2) (by omega) (K _ _ _ hL2)))) (fun h => absurd (lcmp_0.mpr (by rw [e2, hk h0])) h)
set_option maxRecDepth 100000 in
set_option maxHeartbeats 2000000 in
theorem case_21 (hC : Cx X G cL_law 7 RL (some .boolean) 1000 kk) (hl : X.l.stackTraces = false) (hX : Scr X G L xs) (hkk : k + 2 ≤ kk) (hi : 0 ≤ i ∧ i + 6 ≤ L) (hL : Lq G γ μ σ) (K : ∀ γ' μ' σ', Lq G γ' μ' σ' → V X G Q (k + 2) 1711 [aS 52, aR 0, aR 518, aR 558, aI i, aD, aD] [] γ' μ') : V X G Q k 1285 [aS 52, aR 0, aR 518, aR 558, aI i, aD, aD] [] γ μ := by
  obtain ⟨⟨w, p, hH, hR⟩, hS, hG, hRR, hW, ho⟩ := hL
  refine V_aload_n hC dL_law_1285 rfl rfl ?_
  refine V_arg hC hX 1 (by decide) hi rfl rfl dL_law_1286 dL_law_1287 dL_law_1289 dL_law_1290 dL_law_1291 ?_
  refine V_callV hC (n := 1) (ci := 8) (N := 20) rfl g_RL_162 ⟨rfl, by decide⟩ dL_law_1292 (by decide) (by decide) hH.o rfl (Nat.le_of_ble_eq_true rfl) rfl (show 40 < 1000 by decide) (by omega) (c_hard hl 40 (by decide) hH hR hW) (fun r γ1 m1 hp => ?_)
  obtain ⟨rfl, rfl, hR1, f1⟩ := hp
  have hM := keyA hH hG hRR hW hR1 f1
  refine V_aload_n hC dL_law_1295 rfl rfl ?_
  refine V_arg hC hX 1 (by decide) hi rfl rfl dL_law_1296 dL_law_1297 dL_law_1299 dL_law_1300 dL_law_1301 ?_
  refine V_callV hC (n := 1) (ci := 9) (N := 73) rfl g_RL_165 ⟨rfl, by decide⟩ dL_law_1302 (by decide) (by decide) hS.o rfl (Nat.le_of_ble_eq_true rfl) rfl (show 40 < 1000 by decide) (by omega) (m_hard hl 40 (by decide) hS hG hM.2.2 hW) (fun r γ2 m2 hp2 => ?_)
  obtain ⟨rfl, t2, e2, hL2⟩ := keyM hM hS hW ho hp2
  exact V_icmp_eq (tgt := 1711) hC dL_law_1305 (by decide) (fun _ => V_widen (by omega) (K _ _ _ hL2)) (fun h => absurd rfl h)
set_option maxRecDepth 100000 in
set_option maxHeartbeats 2000000 in
theorem case_22 (hC : Cx X G cL_law 7 RL (some .boolean) 1000 kk) (hl : X.l.stackTraces = false) (hX : Scr X G L xs) (hkk : k + 2 ≤ kk) (hi : 0 ≤ i ∧ i + 6 ≤ L) (hL : Lq G γ μ σ) (K : ∀ γ' μ' σ', Lq G γ' μ' σ' → V X G Q (k + 2) 1711 [aS 52, aR 0, aR 518, aR 558, aI i, aD, aD] [] γ' μ') : V X G Q k 1310 [aS 52, aR 0, aR 518, aR 558, aI i, aD, aD] [] γ μ := by
  obtain ⟨⟨w, p, hH, hR⟩, hS, hG, hRR, hW, ho⟩ := hL
  refine V_aload_n hC dL_law_1310 rfl rfl ?_
  refine V_callV hC (n := 0) (ci := 8) (N := 20) rfl g_RL_166 ⟨rfl, by decide⟩ dL_law_1311 (by decide) (by decide) hH.o rfl (Nat.le_of_ble_eq_true rfl) rfl (show 40 < 1000 by decide) (by omega) (c_nearest hl 40 (by decide) hH hR hW) (fun r γ1 m1 hp => ?_)
  obtain ⟨z, σ1, hN1, rfl, rfl, hR1, f1⟩ := hp
  have hM := keyA hH hG hRR hW hR1 f1
  refine V_aload_n hC dL_law_1314 rfl rfl ?_
  refine V_callV hC (n := 0) (ci := 9) (N := 73) rfl g_RL_169 ⟨rfl, by decide⟩ dL_law_1315 (by decide) (by decide) hS.o rfl (Nat.le_of_ble_eq_true rfl) rfl (show 40 < 1000 by decide) (by omega) (m_nearest hl 40 (by decide) hS hG hM.2.2 hW) (fun r γ2 m2 hp2 => ?_)
  obtain ⟨σ2, rfl, hL2⟩ := keyMN hH hG hM.2.2 hR1 hW hN1 hS ho hp2
  exact V_icmp_eq (tgt := 1711) hC dL_law_1318 (by decide) (fun _ => V_widen (by omega) (K _ _ _ hL2)) (fun h => absurd rfl h)
set_option maxRecDepth 100000 in
set_option maxHeartbeats 2000000 in
theorem case_23 (hC : Cx X G cL_law 7 RL (some .boolean) 1000 kk) (hl : X.l.stackTraces = false) (hX : Scr X G L xs) (hkk : k + 2 ≤ kk) (hi : 0 ≤ i ∧ i + 6 ≤ L) (hL : Lq G γ μ σ) (K : ∀ γ' μ' σ', Lq G γ' μ' σ' → V X G Q (k + 2) 1711 [aS 52, aR 0, aR 518, aR 558, aI i, aD, aD] [] γ' μ') : V X G Q k 1323 [aS 52, aR 0, aR 518, aR 558, aI i, aD, aD] [] γ μ := by
  obtain ⟨⟨w, p, hH, hR⟩, hS, hG, hRR, hW, ho⟩ := hL
  refine V_aload_n hC dL_law_1323 rfl rfl ?_
  refine V_arg hC hX 1 (by decide) hi rfl rfl dL_law_1324 dL_law_1325 dL_law_1327 dL_law_1328 dL_law_1329 ?_
  refine V_aload_n hC dL_law_1330 rfl rfl ?_
  refine V_callSW hC (n := 3) g_RL_170 (by decide) dL_law_1331 (by decide) rfl (Nat.le_of_ble_eq_true rfl) rfl (show 41 < 1000 by decide) (by omega) (w_near hl 41 40 _ (by decide) hH.o ho (c_near hl 40 (by decide) hH hR hW) (fun E γ' μ' h => h.1) (fun r γ' μ' h => ⟨_, h.2.1⟩)) (fun r γ1 m1 hp => ?_)
  obtain ⟨rfl, hM, hk⟩ := keyW hH hG hRR hW (by split; exact Or.inl rfl; exact Or.inr rfl) hp
  refine V_istore hC dL_law_1334 (Nat.le_of_ble_eq_true rfl) rfl (lv2 := [aS 52, aR 0, aR 518, aR 558, aI i, aI _, aD]) rfl ?_
  refine V_aload_n hC dL_law_1336 rfl rfl ?_
  refine V_arg hC hX 1 (by decide) hi rfl rfl dL_law_1337 dL_law_1338 dL_law_1340 dL_law_1341 dL_law_1342 ?_
  refine V_callV hC (n := 1) (ci := 9) (N := 73) rfl g_RL_172 ⟨rfl, by decide⟩ dL_law_1343 (by decide) (by decide) hS.o rfl (Nat.le_of_ble_eq_true rfl) rfl (show 40 < 1000 by decide) (by omega) (m_near hl 40 (by decide) hS hM.2.1 hM.2.2 hW) (fun r γ2 m2 hp2 => ?_)
  obtain ⟨rfl, t2, e2, hL2⟩ := keyM hM hS hW ho hp2
  refine V_istore hC dL_law_1346 (Nat.le_of_ble_eq_true rfl) rfl (lv2 := [aS 52, aR 0, aR 518, aR 558, aI i, aI _, aI _]) rfl ?_
  refine V_aload_n hC dL_law_1348 rfl rfl ?_
  refine V_callV hC (n := 0) (ci := 9) (N := 73) (as := []) rfl g_RL_91 ⟨rfl, by decide⟩ dL_law_1349 (by decide) (by decide) hS.o rfl (Nat.le_of_ble_eq_true rfl) rfl (show 40 < 1000 by decide) (by omega) (m_thrown hl 40 hS) (fun r γ3 m3 hp3 => ?_)
  obtain ⟨rfl, rfl, rfl⟩ := hp3
  refine V_iload hC dL_law_1352 rfl ?_
  refine V_icmp_eq (tgt := 1359) hC dL_law_1354 (by decide) (fun _ => ?_) (fun h => absurd t2 h)
  refine V_iload hC dL_law_1359 rfl ?_
  refine V_if_ne (tgt := 1376) hC dL_law_1361 (by decide) (fun _ => V_goto (tgt := 1711) hC dL_law_1376 (by decide) (V_forget (lv2 := [aS 52, aR 0, aR 518, aR 558, aI i, aD, aD]) rfl (forg7 (g := aD) (h := aD)) (V_widen (k2 := k + 2) (by omega) (K _ _ _ hL2)))) (fun h0 => ?_)
  refine V_aload_n hC dL_law_1364 rfl rfl (V_iconst hC dL_law_1365 (by decide) (V_lald hC dL_law_1366 ho (by decide) (V_iload hC dL_law_1367 rfl ?_)))
  refine V_i2l hC dL_law_1369 ?_
  refine V_lcmp hC dL_law_1370 ?_
  exact V_if_eq (tgt := 1376) hC dL_law_1371 (by decide) (fun _ => V_goto (tgt := 1711) hC dL_law_1376 (by decide) (V_forget (lv2 := [aS 52, aR 0, aR 518, aR 558, aI i, aD, aD]) rfl (forg7 (g := aD) (h := aD)) (V_widen (k2 := k + 2) (by omega) (K _ _ _ hL2)))) (fun h => absurd (lcmp_0.mpr (by rw [e2, hk h0])) h)
set_option maxRecDepth 100000 in
set_option maxHeartbeats 2000000 in
theorem case_24 (hC : Cx X G cL_law 7 RL (some .boolean) 1000 kk) (hl : X.l.stackTraces = false) (hX : Scr X G L xs) (hkk : k + 2 ≤ kk) (hi : 0 ≤ i ∧ i + 6 ≤ L) (hL : Lq G γ μ σ) (K : ∀ γ' μ' σ', Lq G γ' μ' σ' → V X G Q (k + 2) 1711 [aS 52, aR 0, aR 518, aR 558, aI i, aD, aD] [] γ' μ') : V X G Q k 1379 [aS 52, aR 0, aR 518, aR 558, aI i, aD, aD] [] γ μ := by
  obtain ⟨⟨w, p, hH, hR⟩, hS, hG, hRR, hW, ho⟩ := hL
  refine V_aload_n hC dL_law_1379 rfl rfl ?_
  refine V_callV hC (n := 0) (ci := 8) (N := 20) rfl g_RL_173 ⟨rfl, by decide⟩ dL_law_1380 (by decide) (by decide) hH.o rfl (Nat.le_of_ble_eq_true rfl) rfl (show 40 < 1000 by decide) (by omega) (c_chase hl 40 (by decide) hH hR hW) (fun r γ1 m1 hp => ?_)
  obtain ⟨rfl, rfl, hR1, f1⟩ := hp
  have hM := keyA hH hG hRR hW hR1 f1
  refine V_aload_n hC dL_law_1383 rfl rfl ?_
  refine V_callV hC (n := 0) (ci := 9) (N := 73) rfl g_RL_176 ⟨rfl, by decide⟩ dL_law_1384 (by decide) (by decide) hS.o rfl (Nat.le_of_ble_eq_true rfl) rfl (show 40 < 1000 by decide) (by omega) (m_chase hl 40 (by decide) hS hG hM.2.2 hW) (fun r γ2 m2 hp2 => ?_)
  obtain ⟨rfl, t2, e2, hL2⟩ := keyM hM hS (by split; exact hW; (have h2 := hW.w; exact (chaF_ok hW _ (by rcases h2 with h | h <;> omega) (Int.le_refl _)).1)) ho hp2
  exact V_icmp_eq (tgt := 1711) hC dL_law_1387 (by decide) (fun _ => V_widen (by omega) (K _ _ _ hL2)) (fun h => absurd rfl h)
set_option maxRecDepth 100000 in
set_option maxHeartbeats 2000000 in
theorem case_25 (hC : Cx X G cL_law 7 RL (some .boolean) 1000 kk) (hl : X.l.stackTraces = false) (hX : Scr X G L xs) (hkk : k + 2 ≤ kk) (hi : 0 ≤ i ∧ i + 6 ≤ L) (hL : Lq G γ μ σ) (K : ∀ γ' μ' σ', Lq G γ' μ' σ' → V X G Q (k + 2) 1711 [aS 52, aR 0, aR 518, aR 558, aI i, aD, aD] [] γ' μ') : V X G Q k 1392 [aS 52, aR 0, aR 518, aR 558, aI i, aD, aD] [] γ μ := by
  obtain ⟨⟨w, p, hH, hR⟩, hS, hG, hRR, hW, ho⟩ := hL
  refine V_aload_n hC dL_law_1392 rfl rfl ?_
  refine V_callV hC (n := 0) (ci := 8) (N := 20) rfl g_RL_177 ⟨rfl, by decide⟩ dL_law_1393 (by decide) (by decide) hH.o rfl (Nat.le_of_ble_eq_true rfl) rfl (show 40 < 1000 by decide) (by omega) (c_top hl 40 (by decide) hH hR hW) (fun r γ1 m1 hp => ?_)
  obtain ⟨rfl, rfl, hR1, f1⟩ := hp
  have hM := keyA hH hG hRR hW hR1 f1
  refine V_aload_n hC dL_law_1396 rfl rfl ?_
  refine V_callV hC (n := 0) (ci := 9) (N := 73) rfl g_RL_180 ⟨rfl, by decide⟩ dL_law_1397 (by decide) (by decide) hS.o rfl (Nat.le_of_ble_eq_true rfl) rfl (show 40 < 1000 by decide) (by omega) (m_top hl 40 (by decide) hS hG hM.2.2 hW) (fun r γ2 m2 hp2 => ?_)
  obtain ⟨rfl, t2, e2, hL2⟩ := keyM hM hS hW ho hp2
  exact V_icmp_eq (tgt := 1711) hC dL_law_1400 (by decide) (fun _ => V_widen (by omega) (K _ _ _ hL2)) (fun h => absurd rfl h)
set_option maxRecDepth 100000 in
set_option maxHeartbeats 2000000 in
theorem case_26 (hC : Cx X G cL_law 7 RL (some .boolean) 1000 kk) (hl : X.l.stackTraces = false) (hX : Scr X G L xs) (hkk : k + 2 ≤ kk) (hi : 0 ≤ i ∧ i + 6 ≤ L) (hL : Lq G γ μ σ) (K : ∀ γ' μ' σ', Lq G γ' μ' σ' → V X G Q (k + 2) 1711 [aS 52, aR 0, aR 518, aR 558, aI i, aD, aD] [] γ' μ') : V X G Q k 1405 [aS 52, aR 0, aR 518, aR 558, aI i, aD, aD] [] γ μ := by
  obtain ⟨⟨w, p, hH, hR⟩, hS, hG, hRR, hW, ho⟩ := hL
  refine V_aload_n hC dL_law_1405 rfl rfl ?_
  refine V_arg hC hX 1 (by decide) hi rfl rfl dL_law_1406 dL_law_1407 dL_law_1409 dL_law_1410 dL_law_1411 ?_
  refine V_aload_n hC dL_law_1412 rfl rfl ?_
  refine V_callSW hC (n := 3) g_RL_181 (by decide) dL_law_1413 (by decide) rfl (Nat.le_of_ble_eq_true rfl) rfl (show 41 < 1000 by decide) (by omega) (w_lit hl 41 40 _ (by decide) hH.o ho (c_lit hl 40 (by decide) hH hR hW) (fun E γ' μ' h => h.1) (fun r γ' μ' h => ⟨_, h.2.1⟩)) (fun r γ1 m1 hp => ?_)
  obtain ⟨rfl, hM, hk⟩ := keyW hH hG hRR hW (by split; exact Or.inl rfl; exact Or.inr rfl) hp
  refine V_istore hC dL_law_1416 (Nat.le_of_ble_eq_true rfl) rfl (lv2 := [aS 52, aR 0, aR 518, aR 558, aI i, aI _, aD]) rfl ?_
  refine V_aload_n hC dL_law_1418 rfl rfl ?_
  refine V_arg hC hX 1 (by decide) hi rfl rfl dL_law_1419 dL_law_1420 dL_law_1422 dL_law_1423 dL_law_1424 ?_
  refine V_callV hC (n := 1) (ci := 9) (N := 73) rfl g_RL_183 ⟨rfl, by decide⟩ dL_law_1425 (by decide) (by decide) hS.o rfl (Nat.le_of_ble_eq_true rfl) rfl (show 40 < 1000 by decide) (by omega) (m_lit hl 40 (by decide) hS hM.2.1 hM.2.2 hW) (fun r γ2 m2 hp2 => ?_)
  obtain ⟨rfl, t2, e2, hL2⟩ := keyM hM hS hW ho hp2
  refine V_istore hC dL_law_1428 (Nat.le_of_ble_eq_true rfl) rfl (lv2 := [aS 52, aR 0, aR 518, aR 558, aI i, aI _, aI _]) rfl ?_
  refine V_aload_n hC dL_law_1430 rfl rfl ?_
  refine V_callV hC (n := 0) (ci := 9) (N := 73) (as := []) rfl g_RL_91 ⟨rfl, by decide⟩ dL_law_1431 (by decide) (by decide) hS.o rfl (Nat.le_of_ble_eq_true rfl) rfl (show 40 < 1000 by decide) (by omega) (m_thrown hl 40 hS) (fun r γ3 m3 hp3 => ?_)
  obtain ⟨rfl, rfl, rfl⟩ := hp3
  refine V_iload hC dL_law_1434 rfl ?_
  refine V_icmp_eq (tgt := 1441) hC dL_law_1436 (by decide) (fun _ => ?_) (fun h => absurd t2 h)
  refine V_iload hC dL_law_1441 rfl ?_
  refine V_if_ne (tgt := 1458) hC dL_law_1443 (by decide) (fun _ => V_goto (tgt := 1711) hC dL_law_1458 (by decide) (V_forget (lv2 := [aS 52, aR 0, aR 518, aR 558, aI i, aD, aD]) rfl (forg7 (g := aD) (h := aD)) (V_widen (k2 := k + 2) (by omega) (K _ _ _ hL2)))) (fun h0 => ?_)
  refine V_aload_n hC dL_law_1446 rfl rfl (V_iconst hC dL_law_1447 (by decide) (V_lald hC dL_law_1448 ho (by decide) (V_iload hC dL_law_1449 rfl ?_)))
  refine V_i2l hC dL_law_1451 ?_
  refine V_lcmp hC dL_law_1452 ?_
  exact V_if_eq (tgt := 1458) hC dL_law_1453 (by decide) (fun _ => V_goto (tgt := 1711) hC dL_law_1458 (by decide) (V_forget (lv2 := [aS 52, aR 0, aR 518, aR 558, aI i, aD, aD]) rfl (forg7 (g := aD) (h := aD)) (V_widen (k2 := k + 2) (by omega) (K _ _ _ hL2)))) (fun h => absurd (lcmp_0.mpr (by rw [e2, hk h0])) h)
set_option maxRecDepth 100000 in
set_option maxHeartbeats 2000000 in
theorem case_27 (hC : Cx X G cL_law 7 RL (some .boolean) 1000 kk) (hl : X.l.stackTraces = false) (hX : Scr X G L xs) (hkk : k + 2 ≤ kk) (hi : 0 ≤ i ∧ i + 6 ≤ L) (hL : Lq G γ μ σ) (K : ∀ γ' μ' σ', Lq G γ' μ' σ' → V X G Q (k + 2) 1711 [aS 52, aR 0, aR 518, aR 558, aI i, aD, aD] [] γ' μ') : V X G Q k 1461 [aS 52, aR 0, aR 518, aR 558, aI i, aD, aD] [] γ μ := by
  obtain ⟨⟨w, p, hH, hR⟩, hS, hG, hRR, hW, ho⟩ := hL
  refine V_aload_n hC dL_law_1461 rfl rfl ?_
  refine V_callV hC (n := 0) (ci := 8) (N := 20) rfl g_RL_184 ⟨rfl, by decide⟩ dL_law_1462 (by decide) (by decide) hH.o rfl (Nat.le_of_ble_eq_true rfl) rfl (show 40 < 1000 by decide) (by omega) (c_game hl 40 (by decide) hH hR hW) (fun r γ1 m1 hp => ?_)
  obtain ⟨rfl, rfl, hR1, f1⟩ := hp
  have hM := keyA hH hG hRR hW hR1 f1
  refine V_aload_n hC dL_law_1465 rfl rfl ?_
  refine V_callV hC (n := 0) (ci := 9) (N := 73) rfl g_RL_187 ⟨rfl, by decide⟩ dL_law_1466 (by decide) (by decide) hS.o rfl (Nat.le_of_ble_eq_true rfl) rfl (show 40 < 1000 by decide) (by omega) (m_game hl 40 (by decide) hS hG hM.2.2 hW) (fun r γ2 m2 hp2 => ?_)
  obtain ⟨rfl, t2, e2, hL2⟩ := keyM hM hS hW ho hp2
  exact V_icmp_eq (tgt := 1711) hC dL_law_1469 (by decide) (fun _ => V_widen (by omega) (K _ _ _ hL2)) (fun h => absurd rfl h)
set_option maxRecDepth 100000 in
set_option maxHeartbeats 2000000 in
theorem case_28 (hC : Cx X G cL_law 7 RL (some .boolean) 1000 kk) (hl : X.l.stackTraces = false) (hX : Scr X G L xs) (hkk : k + 2 ≤ kk) (hi : 0 ≤ i ∧ i + 6 ≤ L) (hL : Lq G γ μ σ) (K : ∀ γ' μ' σ', Lq G γ' μ' σ' → V X G Q (k + 2) 1711 [aS 52, aR 0, aR 518, aR 558, aI i, aD, aD] [] γ' μ') : V X G Q k 1474 [aS 52, aR 0, aR 518, aR 558, aI i, aD, aD] [] γ μ := by
  obtain ⟨⟨w, p, hH, hR⟩, hS, hG, hRR, hW, ho⟩ := hL
  refine V_aload_n hC dL_law_1474 rfl rfl ?_
  refine V_arg hC hX 1 (by decide) hi rfl rfl dL_law_1475 dL_law_1476 dL_law_1478 dL_law_1479 dL_law_1480 ?_
  refine V_callV hC (n := 1) (ci := 8) (N := 20) rfl g_RL_188 ⟨rfl, by decide⟩ dL_law_1481 (by decide) (by decide) hH.o rfl (Nat.le_of_ble_eq_true rfl) rfl (show 40 < 1000 by decide) (by omega) (c_pulse hl 40 (by decide) hH hR hW) (fun r γ1 m1 hp => ?_)
  obtain ⟨rfl, rfl, hR1, f1⟩ := hp
  have hM := keyA hH hG hRR hW hR1 f1
  refine V_aload_n hC dL_law_1484 rfl rfl ?_
  refine V_arg hC hX 1 (by decide) hi rfl rfl dL_law_1485 dL_law_1486 dL_law_1488 dL_law_1489 dL_law_1490 ?_
  refine V_callV hC (n := 1) (ci := 9) (N := 73) rfl g_RL_191 ⟨rfl, by decide⟩ dL_law_1491 (by decide) (by decide) hS.o rfl (Nat.le_of_ble_eq_true rfl) rfl (show 40 < 1000 by decide) (by omega) (m_pulse hl 40 (by decide) hS hG hM.2.2 hW) (fun r γ2 m2 hp2 => ?_)
  obtain ⟨rfl, t2, e2, hL2⟩ := keyM hM hS (by split; exact hW.pulse; exact hW) ho hp2
  exact V_icmp_eq (tgt := 1711) hC dL_law_1494 (by decide) (fun _ => V_widen (by omega) (K _ _ _ hL2)) (fun h => absurd rfl h)
set_option maxRecDepth 100000 in
set_option maxHeartbeats 2000000 in
theorem case_29 (hC : Cx X G cL_law 7 RL (some .boolean) 1000 kk) (hl : X.l.stackTraces = false) (hX : Scr X G L xs) (hkk : k + 2 ≤ kk) (hi : 0 ≤ i ∧ i + 6 ≤ L) (hL : Lq G γ μ σ) (K : ∀ γ' μ' σ', Lq G γ' μ' σ' → V X G Q (k + 2) 1711 [aS 52, aR 0, aR 518, aR 558, aI i, aD, aD] [] γ' μ') : V X G Q k 1499 [aS 52, aR 0, aR 518, aR 558, aI i, aD, aD] [] γ μ := by
  obtain ⟨⟨w, p, hH, hR⟩, hS, hG, hRR, hW, ho⟩ := hL
  refine V_aload_n hC dL_law_1499 rfl rfl ?_
  refine V_arg hC hX 1 (by decide) hi rfl rfl dL_law_1500 dL_law_1501 dL_law_1503 dL_law_1504 dL_law_1505 ?_
  refine V_aload_n hC dL_law_1506 rfl rfl ?_
  refine V_callSW hC (n := 3) g_RL_192 (by decide) dL_law_1507 (by decide) rfl (Nat.le_of_ble_eq_true rfl) rfl (show 41 < 1000 by decide) (by omega) (w_round hl 41 40 _ (by decide) hH.o ho (c_round hl 40 (by decide) hH hR hW) (fun E γ' μ' h => h.1) (fun r γ' μ' h => ⟨_, h.2.1⟩)) (fun r γ1 m1 hp => ?_)
  obtain ⟨rfl, hM, hk⟩ := keyW hH hG hRR hW (by split; exact Or.inl rfl; exact Or.inr rfl) hp
  refine V_istore hC dL_law_1510 (Nat.le_of_ble_eq_true rfl) rfl (lv2 := [aS 52, aR 0, aR 518, aR 558, aI i, aI _, aD]) rfl ?_
  refine V_aload_n hC dL_law_1512 rfl rfl ?_
  refine V_arg hC hX 1 (by decide) hi rfl rfl dL_law_1513 dL_law_1514 dL_law_1516 dL_law_1517 dL_law_1518 ?_
  refine V_callV hC (n := 1) (ci := 9) (N := 73) rfl g_RL_194 ⟨rfl, by decide⟩ dL_law_1519 (by decide) (by decide) hS.o rfl (Nat.le_of_ble_eq_true rfl) rfl (show 40 < 1000 by decide) (by omega) (m_round hl 40 (by decide) hS hM.2.1 hM.2.2 hW) (fun r γ2 m2 hp2 => ?_)
  obtain ⟨rfl, t2, e2, hL2⟩ := keyM hM hS hW ho hp2
  refine V_istore hC dL_law_1522 (Nat.le_of_ble_eq_true rfl) rfl (lv2 := [aS 52, aR 0, aR 518, aR 558, aI i, aI _, aI _]) rfl ?_
  refine V_aload_n hC dL_law_1524 rfl rfl ?_
  refine V_callV hC (n := 0) (ci := 9) (N := 73) (as := []) rfl g_RL_91 ⟨rfl, by decide⟩ dL_law_1525 (by decide) (by decide) hS.o rfl (Nat.le_of_ble_eq_true rfl) rfl (show 40 < 1000 by decide) (by omega) (m_thrown hl 40 hS) (fun r γ3 m3 hp3 => ?_)
  obtain ⟨rfl, rfl, rfl⟩ := hp3
  refine V_iload hC dL_law_1528 rfl ?_
  refine V_icmp_eq (tgt := 1535) hC dL_law_1530 (by decide) (fun _ => ?_) (fun h => absurd t2 h)
  refine V_iload hC dL_law_1535 rfl ?_
  refine V_if_ne (tgt := 1552) hC dL_law_1537 (by decide) (fun _ => V_goto (tgt := 1711) hC dL_law_1552 (by decide) (V_forget (lv2 := [aS 52, aR 0, aR 518, aR 558, aI i, aD, aD]) rfl (forg7 (g := aD) (h := aD)) (V_widen (k2 := k + 2) (by omega) (K _ _ _ hL2)))) (fun h0 => ?_)
  refine V_aload_n hC dL_law_1540 rfl rfl (V_iconst hC dL_law_1541 (by decide) (V_lald hC dL_law_1542 ho (by decide) (V_iload hC dL_law_1543 rfl ?_)))
  refine V_i2l hC dL_law_1545 ?_
  refine V_lcmp hC dL_law_1546 ?_
  exact V_if_eq (tgt := 1552) hC dL_law_1547 (by decide) (fun _ => V_goto (tgt := 1711) hC dL_law_1552 (by decide) (V_forget (lv2 := [aS 52, aR 0, aR 518, aR 558, aI i, aD, aD]) rfl (forg7 (g := aD) (h := aD)) (V_widen (k2 := k + 2) (by omega) (K _ _ _ hL2)))) (fun h => absurd (lcmp_0.mpr (by rw [e2, hk h0])) h)
set_option maxRecDepth 100000 in
set_option maxHeartbeats 2000000 in
theorem case_30 (hC : Cx X G cL_law 7 RL (some .boolean) 1000 kk) (hl : X.l.stackTraces = false) (hX : Scr X G L xs) (hkk : k + 2 ≤ kk) (hi : 0 ≤ i ∧ i + 6 ≤ L) (hL : Lq G γ μ σ) (K : ∀ γ' μ' σ', Lq G γ' μ' σ' → V X G Q (k + 2) 1711 [aS 52, aR 0, aR 518, aR 558, aI i, aD, aD] [] γ' μ') : V X G Q k 1555 [aS 52, aR 0, aR 518, aR 558, aI i, aD, aD] [] γ μ := by
  obtain ⟨⟨w, p, hH, hR⟩, hS, hG, hRR, hW, ho⟩ := hL
  refine V_aload_n hC dL_law_1555 rfl rfl ?_
  refine V_arg hC hX 1 (by decide) hi rfl rfl dL_law_1556 dL_law_1557 dL_law_1559 dL_law_1560 dL_law_1561 ?_
  refine V_aload_n hC dL_law_1562 rfl rfl ?_
  refine V_callSW hC (n := 3) g_RL_195 (by decide) dL_law_1563 (by decide) rfl (Nat.le_of_ble_eq_true rfl) rfl (show 41 < 1000 by decide) (by omega) (w_twin hl 41 40 _ (by decide) hH.o ho (c_twin hl 40 (by decide) hH hR hW) (fun E γ' μ' h => h.1) (fun r γ' μ' h => ⟨_, h.2.1⟩)) (fun r γ1 m1 hp => ?_)
  obtain ⟨rfl, hM, hk⟩ := keyW hH hG hRR hW (by split; exact Or.inl rfl; exact Or.inr rfl) hp
  refine V_istore hC dL_law_1566 (Nat.le_of_ble_eq_true rfl) rfl (lv2 := [aS 52, aR 0, aR 518, aR 558, aI i, aI _, aD]) rfl ?_
  refine V_aload_n hC dL_law_1568 rfl rfl ?_
  refine V_arg hC hX 1 (by decide) hi rfl rfl dL_law_1569 dL_law_1570 dL_law_1572 dL_law_1573 dL_law_1574 ?_
  refine V_callV hC (n := 1) (ci := 9) (N := 73) rfl g_RL_197 ⟨rfl, by decide⟩ dL_law_1575 (by decide) (by decide) hS.o rfl (Nat.le_of_ble_eq_true rfl) rfl (show 40 < 1000 by decide) (by omega) (m_twin hl 40 (by decide) hS hM.2.1 hM.2.2 hW) (fun r γ2 m2 hp2 => ?_)
  obtain ⟨rfl, t2, e2, hL2⟩ := keyM hM hS hW ho hp2
  refine V_istore hC dL_law_1578 (Nat.le_of_ble_eq_true rfl) rfl (lv2 := [aS 52, aR 0, aR 518, aR 558, aI i, aI _, aI _]) rfl ?_
  refine V_aload_n hC dL_law_1580 rfl rfl ?_
  refine V_callV hC (n := 0) (ci := 9) (N := 73) (as := []) rfl g_RL_91 ⟨rfl, by decide⟩ dL_law_1581 (by decide) (by decide) hS.o rfl (Nat.le_of_ble_eq_true rfl) rfl (show 40 < 1000 by decide) (by omega) (m_thrown hl 40 hS) (fun r γ3 m3 hp3 => ?_)
  obtain ⟨rfl, rfl, rfl⟩ := hp3
  refine V_iload hC dL_law_1584 rfl ?_
  refine V_icmp_eq (tgt := 1591) hC dL_law_1586 (by decide) (fun _ => ?_) (fun h => absurd t2 h)
  refine V_iload hC dL_law_1591 rfl ?_
  refine V_if_ne (tgt := 1608) hC dL_law_1593 (by decide) (fun _ => V_goto (tgt := 1711) hC dL_law_1608 (by decide) (V_forget (lv2 := [aS 52, aR 0, aR 518, aR 558, aI i, aD, aD]) rfl (forg7 (g := aD) (h := aD)) (V_widen (k2 := k + 2) (by omega) (K _ _ _ hL2)))) (fun h0 => ?_)
  refine V_aload_n hC dL_law_1596 rfl rfl (V_iconst hC dL_law_1597 (by decide) (V_lald hC dL_law_1598 ho (by decide) (V_iload hC dL_law_1599 rfl ?_)))
  refine V_i2l hC dL_law_1601 ?_
  refine V_lcmp hC dL_law_1602 ?_
  exact V_if_eq (tgt := 1608) hC dL_law_1603 (by decide) (fun _ => V_goto (tgt := 1711) hC dL_law_1608 (by decide) (V_forget (lv2 := [aS 52, aR 0, aR 518, aR 558, aI i, aD, aD]) rfl (forg7 (g := aD) (h := aD)) (V_widen (k2 := k + 2) (by omega) (K _ _ _ hL2)))) (fun h => absurd (lcmp_0.mpr (by rw [e2, hk h0])) h)
set_option maxRecDepth 100000 in
set_option maxHeartbeats 2000000 in
theorem case_31 (hC : Cx X G cL_law 7 RL (some .boolean) 1000 kk) (hl : X.l.stackTraces = false) (hX : Scr X G L xs) (hkk : k + 2 ≤ kk) (hi : 0 ≤ i ∧ i + 6 ≤ L) (hL : Lq G γ μ σ) (K : ∀ γ' μ' σ', Lq G γ' μ' σ' → V X G Q (k + 2) 1711 [aS 52, aR 0, aR 518, aR 558, aI i, aD, aD] [] γ' μ') : V X G Q k 1611 [aS 52, aR 0, aR 518, aR 558, aI i, aD, aD] [] γ μ := by
  obtain ⟨⟨w, p, hH, hR⟩, hS, hG, hRR, hW, ho⟩ := hL
  refine V_aload_n hC dL_law_1611 rfl rfl ?_
  refine V_arg hC hX 1 (by decide) hi rfl rfl dL_law_1612 dL_law_1613 dL_law_1615 dL_law_1616 dL_law_1617 ?_
  refine V_callV hC (n := 1) (ci := 8) (N := 20) rfl g_RL_198 ⟨rfl, by decide⟩ dL_law_1618 (by decide) (by decide) hH.o rfl (Nat.le_of_ble_eq_true rfl) rfl (show 40 < 1000 by decide) (by omega) (c_keep hl 40 (by decide) hH hR hW) (fun r γ1 m1 hp => ?_)
  obtain ⟨rfl, rfl, hR1, f1⟩ := hp
  have hM := keyA hH hG hRR hW hR1 f1
  refine V_aload_n hC dL_law_1621 rfl rfl ?_
  refine V_arg hC hX 1 (by decide) hi rfl rfl dL_law_1622 dL_law_1623 dL_law_1625 dL_law_1626 dL_law_1627 ?_
  refine V_callV hC (n := 1) (ci := 9) (N := 73) rfl g_RL_201 ⟨rfl, by decide⟩ dL_law_1628 (by decide) (by decide) hS.o rfl (Nat.le_of_ble_eq_true rfl) rfl (show 40 < 1000 by decide) (by omega) (m_keep hl 40 (by decide) hS hG hM.2.2 hW) (fun r γ2 m2 hp2 => ?_)
  obtain ⟨rfl, t2, e2, hL2⟩ := keyM hM hS (by split; (rename_i h; exact hW.keep h); exact hW) ho hp2
  exact V_icmp_eq (tgt := 1711) hC dL_law_1631 (by decide) (fun _ => V_widen (by omega) (K _ _ _ hL2)) (fun h => absurd rfl h)
set_option maxRecDepth 100000 in
set_option maxHeartbeats 2000000 in
theorem case_32 (hC : Cx X G cL_law 7 RL (some .boolean) 1000 kk) (hl : X.l.stackTraces = false) (hX : Scr X G L xs) (hkk : k + 2 ≤ kk) (hi : 0 ≤ i ∧ i + 6 ≤ L) (hL : Lq G γ μ σ) (K : ∀ γ' μ' σ', Lq G γ' μ' σ' → V X G Q (k + 2) 1711 [aS 52, aR 0, aR 518, aR 558, aI i, aD, aD] [] γ' μ') : V X G Q k 1636 [aS 52, aR 0, aR 518, aR 558, aI i, aD, aD] [] γ μ := by
  obtain ⟨⟨w, p, hH, hR⟩, hS, hG, hRR, hW, ho⟩ := hL
  have hb : (if isSW (scI xs (i + 2)) ∧ (0 ≤ scI xs (i + 1) ∧ scI xs (i + 1) ≤ 3) ∧ σ 7 (scI xs (i + 1)) ≠ 0 then (1 : Int) else 0) = 0 ∨ (if isSW (scI xs (i + 2)) ∧ (0 ≤ scI xs (i + 1) ∧ scI xs (i + 1) ≤ 3) ∧ σ 7 (scI xs (i + 1)) ≠ 0 then (1 : Int) else 0) = 1 := (by split <;> simp)
  refine V_aload_n hC dL_law_1636 rfl rfl ?_
  refine V_arg hC hX 1 (by decide) hi rfl rfl dL_law_1637 dL_law_1638 dL_law_1640 dL_law_1641 dL_law_1642 ?_
  refine V_arg hC hX 2 (by decide) hi rfl rfl dL_law_1643 dL_law_1644 dL_law_1646 dL_law_1647 dL_law_1648 ?_
  refine V_aload_n hC dL_law_1649 rfl rfl ?_
  refine V_callSW hC (n := 4) g_RL_202 (by decide) dL_law_1650 (by decide) rfl (Nat.le_of_ble_eq_true rfl) rfl (show 41 < 1000 by decide) (by omega) (w_take hl 41 40 _ (by decide) hH.o ho (c_take hl 40 (by decide) hH hR hW) (fun E γ' μ' h => h.1) (fun r γ' μ' h => ⟨_, h.2.1, hb⟩)) (fun r γ1 m1 hp => ?_)
  obtain ⟨rfl, hM, hk⟩ := keyW hH hG hRR hW (by split; exact Or.inl rfl; exact Or.inr rfl) hp
  refine V_istore hC dL_law_1653 (Nat.le_of_ble_eq_true rfl) rfl (lv2 := [aS 52, aR 0, aR 518, aR 558, aI i, aI _, aD]) rfl ?_
  refine V_aload_n hC dL_law_1655 rfl rfl ?_
  refine V_arg hC hX 1 (by decide) hi rfl rfl dL_law_1656 dL_law_1657 dL_law_1659 dL_law_1660 dL_law_1661 ?_
  refine V_arg hC hX 2 (by decide) hi rfl rfl dL_law_1662 dL_law_1663 dL_law_1665 dL_law_1666 dL_law_1667 ?_
  refine V_callV hC (n := 2) (ci := 9) (N := 73) rfl g_RL_204 ⟨rfl, by decide⟩ dL_law_1668 (by decide) (by decide) hS.o rfl (Nat.le_of_ble_eq_true rfl) rfl (show 40 < 1000 by decide) (by omega) (m_take hl 40 (by decide) hS hM.2.1 hM.2.2 hW) (fun r γ2 m2 hp2 => ?_)
  obtain ⟨rfl, t2, e2, hL2⟩ := keyM hM hS (by split; (rename_i h; exact hW.take h.2.1 h.2.2); exact hW) ho hp2
  refine V_istore hC dL_law_1671 (Nat.le_of_ble_eq_true rfl) rfl (lv2 := [aS 52, aR 0, aR 518, aR 558, aI i, aI _, aI _]) rfl ?_
  refine V_aload_n hC dL_law_1673 rfl rfl ?_
  refine V_callV hC (n := 0) (ci := 9) (N := 73) (as := []) rfl g_RL_91 ⟨rfl, by decide⟩ dL_law_1674 (by decide) (by decide) hS.o rfl (Nat.le_of_ble_eq_true rfl) rfl (show 40 < 1000 by decide) (by omega) (m_thrown hl 40 hS) (fun r γ3 m3 hp3 => ?_)
  obtain ⟨rfl, rfl, rfl⟩ := hp3
  refine V_iload hC dL_law_1677 rfl ?_
  refine V_icmp_eq (tgt := 1684) hC dL_law_1679 (by decide) (fun _ => ?_) (fun h => absurd t2 h)
  refine V_iload hC dL_law_1684 rfl ?_
  refine V_if_ne (tgt := 1708) hC dL_law_1686 (by decide) (fun _ => V_goto (tgt := 1711) hC dL_law_1708 (by decide) (V_forget (lv2 := [aS 52, aR 0, aR 518, aR 558, aI i, aD, aD]) rfl (forg7 (g := aD) (h := aD)) (V_widen (k2 := k + 2) (by omega) (K _ _ _ hL2)))) (fun h0 => ?_)
  refine V_aload_n hC dL_law_1689 rfl rfl (V_iconst hC dL_law_1690 (by decide) (V_lald hC dL_law_1691 ho (by decide) (V_iload hC dL_law_1692 rfl ?_)))
  refine V_bl hC 1701 1702 dL_law_1694 (by decide) dL_law_1697 dL_law_1698 (by decide) dL_law_1701 rfl ?_
  refine V_lcmp hC dL_law_1702 ?_
  exact V_if_eq (tgt := 1708) hC dL_law_1703 (by decide) (fun _ => V_goto (tgt := 1711) hC dL_law_1708 (by decide) (V_forget (lv2 := [aS 52, aR 0, aR 518, aR 558, aI i, aD, aD]) rfl (forg7 (g := aD) (h := aD)) (V_widen (k2 := k + 2) (by omega) (K _ _ _ hL2)))) (fun h => absurd (lcmp_0.mpr (by rw [e2, hk h0, b01_eq hb])) h)
end Cases
