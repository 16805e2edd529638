/-! ===== the law: a case an operation (own work, printed by wip/whole/gen/law.py) ===== -/
theorem mm_L_19 : bMV RL 19 yX11_feed cX11_feed 7 (some .int) 5 := ⟨(bTB_in (List.mem_append_right _ (List.mem_of_getElem? (i := 513) (by decide +kernel))) rfl), (bTB_in (List.mem_append_right _ (List.mem_of_getElem? (i := 514) (by decide +kernel))) rfl), (bTB_in (List.mem_append_right _ (List.mem_of_getElem? (i := 515) (by decide +kernel))) rfl), (bTB_in (List.mem_append_right _ (List.mem_of_getElem? (i := 1) (by decide +kernel))) rfl), (bTB_in (List.mem_append_right _ (List.mem_of_getElem? (i := 516) (by decide +kernel))) rfl), by decide, by decide +kernel, by decide +kernel, by decide +kernel⟩
theorem mm_L_23 : bMV RL 23 yX12_feed cX12_feed 8 (some .int) 5 := ⟨(bTB_in (List.mem_append_right _ (List.mem_of_getElem? (i := 1446) (by decide +kernel))) rfl), (bTB_in (List.mem_append_right _ (List.mem_of_getElem? (i := 1447) (by decide +kernel))) rfl), (bTB_in (List.mem_append_right _ (List.mem_of_getElem? (i := 1448) (by decide +kernel))) rfl), (bTB_in (List.mem_append_right _ (List.mem_of_getElem? (i := 17) (by decide +kernel))) rfl), (bTB_in (List.mem_append_right _ (List.mem_of_getElem? (i := 1449) (by decide +kernel))) rfl), by decide, by decide +kernel, by decide +kernel, by decide +kernel⟩
theorem mm_L_24 : bMV RL 24 yX11_room cX11_room 4 (some .int) 1 := ⟨(bTB_in (List.mem_append_right _ (List.mem_of_getElem? (i := 521) (by decide +kernel))) rfl), (bTB_in (List.mem_append_right _ (List.mem_of_getElem? (i := 522) (by decide +kernel))) rfl), (bTB_in (List.mem_append_right _ (List.mem_of_getElem? (i := 523) (by decide +kernel))) rfl), (bTB_in (List.mem_append_right _ (List.mem_of_getElem? (i := 1) (by decide +kernel))) rfl), (bTB_in (List.mem_append_right _ (List.mem_of_getElem? (i := 524) (by decide +kernel))) rfl), by decide, by decide +kernel, by decide +kernel, by decide +kernel⟩
theorem mm_L_27 : bMV RL 27 yX12_room cX12_room 3 (some .int) 1 := ⟨(bTB_in (List.mem_append_right _ (List.mem_of_getElem? (i := 1450) (by decide +kernel))) rfl), (bTB_in (List.mem_append_right _ (List.mem_of_getElem? (i := 1451) (by decide +kernel))) rfl), (bTB_in (List.mem_append_right _ (List.mem_of_getElem? (i := 1452) (by decide +kernel))) rfl), (bTB_in (List.mem_append_right _ (List.mem_of_getElem? (i := 17) (by decide +kernel))) rfl), (bTB_in (List.mem_append_right _ (List.mem_of_getElem? (i := 1453) (by decide +kernel))) rfl), by decide, by decide +kernel, by decide +kernel, by decide +kernel⟩
theorem mm_L_28 : bMV RL 28 yX11_fault cX11_fault 1 (some .int) 0 := ⟨(bTB_in (List.mem_append_right _ (List.mem_of_getElem? (i := 769) (by decide +kernel))) rfl), (bTB_in (List.mem_append_right _ (List.mem_of_getElem? (i := 770) (by decide +kernel))) rfl), (bTB_in (List.mem_append_right _ (List.mem_of_getElem? (i := 771) (by decide +kernel))) rfl), (bTB_in (List.mem_append_right _ (List.mem_of_getElem? (i := 1) (by decide +kernel))) rfl), (bTB_in (List.mem_append_right _ (List.mem_of_getElem? (i := 772) (by decide +kernel))) rfl), by decide, by decide +kernel, by decide +kernel, by decide +kernel⟩
theorem mm_L_32 : bMV RL 32 yX12_fault cX12_fault 1 (some .int) 0 := ⟨(bTB_in (List.mem_append_right _ (List.mem_of_getElem? (i := 1611) (by decide +kernel))) rfl), (bTB_in (List.mem_append_right _ (List.mem_of_getElem? (i := 1612) (by decide +kernel))) rfl), (bTB_in (List.mem_append_right _ (List.mem_of_getElem? (i := 1613) (by decide +kernel))) rfl), (bTB_in (List.mem_append_right _ (List.mem_of_getElem? (i := 17) (by decide +kernel))) rfl), (bTB_in (List.mem_append_right _ (List.mem_of_getElem? (i := 1614) (by decide +kernel))) rfl), by decide, by decide +kernel, by decide +kernel, by decide +kernel⟩
theorem mm_L_33 : bMV RL 33 yX11_where cX11_where 1 (some .int) 0 := ⟨(bTB_in (List.mem_append_right _ (List.mem_of_getElem? (i := 773) (by decide +kernel))) rfl), (bTB_in (List.mem_append_right _ (List.mem_of_getElem? (i := 774) (by decide +kernel))) rfl), (bTB_in (List.mem_append_right _ (List.mem_of_getElem? (i := 775) (by decide +kernel))) rfl), (bTB_in (List.mem_append_right _ (List.mem_of_getElem? (i := 1) (by decide +kernel))) rfl), (bTB_in (List.mem_append_right _ (List.mem_of_getElem? (i := 776) (by decide +kernel))) rfl), by decide, by decide +kernel, by decide +kernel, by decide +kernel⟩
theorem mm_L_36 : bMV RL 36 yX12_where cX12_where 1 (some .int) 0 := ⟨(bTB_in (List.mem_append_right _ (List.mem_of_getElem? (i := 1615) (by decide +kernel))) rfl), (bTB_in (List.mem_append_right _ (List.mem_of_getElem? (i := 1616) (by decide +kernel))) rfl), (bTB_in (List.mem_append_right _ (List.mem_of_getElem? (i := 1617) (by decide +kernel))) rfl), (bTB_in (List.mem_append_right _ (List.mem_of_getElem? (i := 17) (by decide +kernel))) rfl), (bTB_in (List.mem_append_right _ (List.mem_of_getElem? (i := 1618) (by decide +kernel))) rfl), by decide, by decide +kernel, by decide +kernel, by decide +kernel⟩
theorem mm_L_37 : bMV RL 37 yX11_bench cX11_bench 4 (some .int) 2 := ⟨(bTB_in (List.mem_append_right _ (List.mem_of_getElem? (i := 777) (by decide +kernel))) rfl), (bTB_in (List.mem_append_right _ (List.mem_of_getElem? (i := 778) (by decide +kernel))) rfl), (bTB_in (List.mem_append_right _ (List.mem_of_getElem? (i := 779) (by decide +kernel))) rfl), (bTB_in (List.mem_append_right _ (List.mem_of_getElem? (i := 1) (by decide +kernel))) rfl), (bTB_in (List.mem_append_right _ (List.mem_of_getElem? (i := 780) (by decide +kernel))) rfl), by decide, by decide +kernel, by decide +kernel, by decide +kernel⟩
theorem mm_L_41 : bMV RL 41 yX12_bench cX12_bench 3 (some .int) 2 := ⟨(bTB_in (List.mem_append_right _ (List.mem_of_getElem? (i := 1619) (by decide +kernel))) rfl), (bTB_in (List.mem_append_right _ (List.mem_of_getElem? (i := 1620) (by decide +kernel))) rfl), (bTB_in (List.mem_append_right _ (List.mem_of_getElem? (i := 1621) (by decide +kernel))) rfl), (bTB_in (List.mem_append_right _ (List.mem_of_getElem? (i := 17) (by decide +kernel))) rfl), (bTB_in (List.mem_append_right _ (List.mem_of_getElem? (i := 1622) (by decide +kernel))) rfl), by decide, by decide +kernel, by decide +kernel, by decide +kernel⟩
theorem mm_L_42 : bMV RL 42 yX11_person cX11_person 4 (some .int) 2 := ⟨(bTB_in (List.mem_append_right _ (List.mem_of_getElem? (i := 799) (by decide +kernel))) rfl), (bTB_in (List.mem_append_right _ (List.mem_of_getElem? (i := 800) (by decide +kernel))) rfl), (bTB_in (List.mem_append_right _ (List.mem_of_getElem? (i := 801) (by decide +kernel))) rfl), (bTB_in (List.mem_append_right _ (List.mem_of_getElem? (i := 1) (by decide +kernel))) rfl), (bTB_in (List.mem_append_right _ (List.mem_of_getElem? (i := 802) (by decide +kernel))) rfl), by decide, by decide +kernel, by decide +kernel, by decide +kernel⟩
theorem mm_L_45 : bMV RL 45 yX12_person cX12_person 5 (some .int) 2 := ⟨(bTB_in (List.mem_append_right _ (List.mem_of_getElem? (i := 1649) (by decide +kernel))) rfl), (bTB_in (List.mem_append_right _ (List.mem_of_getElem? (i := 1650) (by decide +kernel))) rfl), (bTB_in (List.mem_append_right _ (List.mem_of_getElem? (i := 1651) (by decide +kernel))) rfl), (bTB_in (List.mem_append_right _ (List.mem_of_getElem? (i := 17) (by decide +kernel))) rfl), (bTB_in (List.mem_append_right _ (List.mem_of_getElem? (i := 1652) (by decide +kernel))) rfl), by decide, by decide +kernel, by decide +kernel, by decide +kernel⟩
theorem mm_L_46 : bMV RL 46 yX11_may cX11_may 3 (some .int) 2 := ⟨(bTB_in (List.mem_append_right _ (List.mem_of_getElem? (i := 824) (by decide +kernel))) rfl), (bTB_in (List.mem_append_right _ (List.mem_of_getElem? (i := 825) (by decide +kernel))) rfl), (bTB_in (List.mem_append_right _ (List.mem_of_getElem? (i := 826) (by decide +kernel))) rfl), (bTB_in (List.mem_append_right _ (List.mem_of_getElem? (i := 1) (by decide +kernel))) rfl), (bTB_in (List.mem_append_right _ (List.mem_of_getElem? (i := 827) (by decide +kernel))) rfl), by decide, by decide +kernel, by decide +kernel, by decide +kernel⟩
theorem mm_L_49 : bMV RL 49 yX12_may cX12_may 3 (some .int) 2 := ⟨(bTB_in (List.mem_append_right _ (List.mem_of_getElem? (i := 1677) (by decide +kernel))) rfl), (bTB_in (List.mem_append_right _ (List.mem_of_getElem? (i := 1678) (by decide +kernel))) rfl), (bTB_in (List.mem_append_right _ (List.mem_of_getElem? (i := 1679) (by decide +kernel))) rfl), (bTB_in (List.mem_append_right _ (List.mem_of_getElem? (i := 17) (by decide +kernel))) rfl), (bTB_in (List.mem_append_right _ (List.mem_of_getElem? (i := 1680) (by decide +kernel))) rfl), by decide, by decide +kernel, by decide +kernel, by decide +kernel⟩
theorem mm_L_50 : bMV RL 50 yX11_content cX11_content 1 (some .int) 0 := ⟨(bTB_in (List.mem_append_right _ (List.mem_of_getElem? (i := 829) (by decide +kernel))) rfl), (bTB_in (List.mem_append_right _ (List.mem_of_getElem? (i := 830) (by decide +kernel))) rfl), (bTB_in (List.mem_append_right _ (List.mem_of_getElem? (i := 831) (by decide +kernel))) rfl), (bTB_in (List.mem_append_right _ (List.mem_of_getElem? (i := 1) (by decide +kernel))) rfl), (bTB_in (List.mem_append_right _ (List.mem_of_getElem? (i := 832) (by decide +kernel))) rfl), by decide, by decide +kernel, by decide +kernel, by decide +kernel⟩
theorem mm_L_53 : bMV RL 53 yX12_content cX12_content 1 (some .int) 0 := ⟨(bTB_in (List.mem_append_right _ (List.mem_of_getElem? (i := 1685) (by decide +kernel))) rfl), (bTB_in (List.mem_append_right _ (List.mem_of_getElem? (i := 1686) (by decide +kernel))) rfl), (bTB_in (List.mem_append_right _ (List.mem_of_getElem? (i := 1687) (by decide +kernel))) rfl), (bTB_in (List.mem_append_right _ (List.mem_of_getElem? (i := 17) (by decide +kernel))) rfl), (bTB_in (List.mem_append_right _ (List.mem_of_getElem? (i := 1688) (by decide +kernel))) rfl), by decide, by decide +kernel, by decide +kernel, by decide +kernel⟩
theorem mm_L_54 : bMV RL 54 yX11_warmest cX11_warmest 2 (some .int) 1 := ⟨(bTB_in (List.mem_append_right _ (List.mem_of_getElem? (i := 838) (by decide +kernel))) rfl), (bTB_in (List.mem_append_right _ (List.mem_of_getElem? (i := 839) (by decide +kernel))) rfl), (bTB_in (List.mem_append_right _ (List.mem_of_getElem? (i := 840) (by decide +kernel))) rfl), (bTB_in (List.mem_append_right _ (List.mem_of_getElem? (i := 1) (by decide +kernel))) rfl), (bTB_in (List.mem_append_right _ (List.mem_of_getElem? (i := 841) (by decide +kernel))) rfl), by decide, by decide +kernel, by decide +kernel, by decide +kernel⟩
theorem mm_L_57 : bMV RL 57 yX12_warmest cX12_warmest 4 (some .int) 1 := ⟨(bTB_in (List.mem_append_right _ (List.mem_of_getElem? (i := 1693) (by decide +kernel))) rfl), (bTB_in (List.mem_append_right _ (List.mem_of_getElem? (i := 1694) (by decide +kernel))) rfl), (bTB_in (List.mem_append_right _ (List.mem_of_getElem? (i := 1695) (by decide +kernel))) rfl), (bTB_in (List.mem_append_right _ (List.mem_of_getElem? (i := 17) (by decide +kernel))) rfl), (bTB_in (List.mem_append_right _ (List.mem_of_getElem? (i := 1696) (by decide +kernel))) rfl), by decide, by decide +kernel, by decide +kernel, by decide +kernel⟩
theorem mm_L_58 : bMV RL 58 yX11_rents cX11_rents 1 (some .int) 0 := ⟨(bTB_in (List.mem_append_right _ (List.mem_of_getElem? (i := 849) (by decide +kernel))) rfl), (bTB_in (List.mem_append_right _ (List.mem_of_getElem? (i := 850) (by decide +kernel))) rfl), (bTB_in (List.mem_append_right _ (List.mem_of_getElem? (i := 851) (by decide +kernel))) rfl), (bTB_in (List.mem_append_right _ (List.mem_of_getElem? (i := 1) (by decide +kernel))) rfl), (bTB_in (List.mem_append_right _ (List.mem_of_getElem? (i := 852) (by decide +kernel))) rfl), by decide, by decide +kernel, by decide +kernel, by decide +kernel⟩
theorem mm_L_61 : bMV RL 61 yX12_rents cX12_rents 3 (some .int) 0 := ⟨(bTB_in (List.mem_append_right _ (List.mem_of_getElem? (i := 1705) (by decide +kernel))) rfl), (bTB_in (List.mem_append_right _ (List.mem_of_getElem? (i := 1706) (by decide +kernel))) rfl), (bTB_in (List.mem_append_right _ (List.mem_of_getElem? (i := 1707) (by decide +kernel))) rfl), (bTB_in (List.mem_append_right _ (List.mem_of_getElem? (i := 17) (by decide +kernel))) rfl), (bTB_in (List.mem_append_right _ (List.mem_of_getElem? (i := 1708) (by decide +kernel))) rfl), by decide, by decide +kernel, by decide +kernel, by decide +kernel⟩
theorem mm_L_62 : bMV RL 62 yX11_heatFor cX11_heatFor 1 (some .int) 0 := ⟨(bTB_in (List.mem_append_right _ (List.mem_of_getElem? (i := 857) (by decide +kernel))) rfl), (bTB_in (List.mem_append_right _ (List.mem_of_getElem? (i := 858) (by decide +kernel))) rfl), (bTB_in (List.mem_append_right _ (List.mem_of_getElem? (i := 859) (by decide +kernel))) rfl), (bTB_in (List.mem_append_right _ (List.mem_of_getElem? (i := 1) (by decide +kernel))) rfl), (bTB_in (List.mem_append_right _ (List.mem_of_getElem? (i := 860) (by decide +kernel))) rfl), by decide, by decide +kernel, by decide +kernel, by decide +kernel⟩
theorem mm_L_65 : bMV RL 65 yX12_heatFor cX12_heatFor 3 (some .int) 0 := ⟨(bTB_in (List.mem_append_right _ (List.mem_of_getElem? (i := 1713) (by decide +kernel))) rfl), (bTB_in (List.mem_append_right _ (List.mem_of_getElem? (i := 1714) (by decide +kernel))) rfl), (bTB_in (List.mem_append_right _ (List.mem_of_getElem? (i := 1715) (by decide +kernel))) rfl), (bTB_in (List.mem_append_right _ (List.mem_of_getElem? (i := 17) (by decide +kernel))) rfl), (bTB_in (List.mem_append_right _ (List.mem_of_getElem? (i := 1716) (by decide +kernel))) rfl), by decide, by decide +kernel, by decide +kernel, by decide +kernel⟩
theorem mm_L_66 : bMV RL 66 yX11_packed cX11_packed 1 (some .int) 0 := ⟨(bTB_in (List.mem_append_right _ (List.mem_of_getElem? (i := 866) (by decide +kernel))) rfl), (bTB_in (List.mem_append_right _ (List.mem_of_getElem? (i := 867) (by decide +kernel))) rfl), (bTB_in (List.mem_append_right _ (List.mem_of_getElem? (i := 868) (by decide +kernel))) rfl), (bTB_in (List.mem_append_right _ (List.mem_of_getElem? (i := 1) (by decide +kernel))) rfl), (bTB_in (List.mem_append_right _ (List.mem_of_getElem? (i := 869) (by decide +kernel))) rfl), by decide, by decide +kernel, by decide +kernel, by decide +kernel⟩
theorem mm_L_69 : bMV RL 69 yX12_packed cX12_packed 1 (some .int) 0 := ⟨(bTB_in (List.mem_append_right _ (List.mem_of_getElem? (i := 1717) (by decide +kernel))) rfl), (bTB_in (List.mem_append_right _ (List.mem_of_getElem? (i := 1718) (by decide +kernel))) rfl), (bTB_in (List.mem_append_right _ (List.mem_of_getElem? (i := 1719) (by decide +kernel))) rfl), (bTB_in (List.mem_append_right _ (List.mem_of_getElem? (i := 17) (by decide +kernel))) rfl), (bTB_in (List.mem_append_right _ (List.mem_of_getElem? (i := 1720) (by decide +kernel))) rfl), by decide, by decide +kernel, by decide +kernel, by decide +kernel⟩
theorem mm_L_70 : bMV RL 70 yX11_packedAt cX11_packedAt 2 (some .int) 1 := ⟨(bTB_in (List.mem_append_right _ (List.mem_of_getElem? (i := 896) (by decide +kernel))) rfl), (bTB_in (List.mem_append_right _ (List.mem_of_getElem? (i := 897) (by decide +kernel))) rfl), (bTB_in (List.mem_append_right _ (List.mem_of_getElem? (i := 898) (by decide +kernel))) rfl), (bTB_in (List.mem_append_right _ (List.mem_of_getElem? (i := 1) (by decide +kernel))) rfl), (bTB_in (List.mem_append_right _ (List.mem_of_getElem? (i := 899) (by decide +kernel))) rfl), by decide, by decide +kernel, by decide +kernel, by decide +kernel⟩
theorem mm_L_73 : bMV RL 73 yX12_packedAt cX12_packedAt 2 (some .int) 1 := ⟨(bTB_in (List.mem_append_right _ (List.mem_of_getElem? (i := 1730) (by decide +kernel))) rfl), (bTB_in (List.mem_append_right _ (List.mem_of_getElem? (i := 1731) (by decide +kernel))) rfl), (bTB_in (List.mem_append_right _ (List.mem_of_getElem? (i := 1732) (by decide +kernel))) rfl), (bTB_in (List.mem_append_right _ (List.mem_of_getElem? (i := 17) (by decide +kernel))) rfl), (bTB_in (List.mem_append_right _ (List.mem_of_getElem? (i := 1733) (by decide +kernel))) rfl), by decide, by decide +kernel, by decide +kernel, by decide +kernel⟩
theorem mm_L_74 : bMV RL 74 yX11_cheapest cX11_cheapest 1 (some .int) 0 := ⟨(bTB_in (List.mem_append_right _ (List.mem_of_getElem? (i := 911) (by decide +kernel))) rfl), (bTB_in (List.mem_append_right _ (List.mem_of_getElem? (i := 912) (by decide +kernel))) rfl), (bTB_in (List.mem_append_right _ (List.mem_of_getElem? (i := 913) (by decide +kernel))) rfl), (bTB_in (List.mem_append_right _ (List.mem_of_getElem? (i := 1) (by decide +kernel))) rfl), (bTB_in (List.mem_append_right _ (List.mem_of_getElem? (i := 914) (by decide +kernel))) rfl), by decide, by decide +kernel, by decide +kernel, by decide +kernel⟩
theorem mm_L_77 : bMV RL 77 yX12_cheapest cX12_cheapest 1 (some .int) 0 := ⟨(bTB_in (List.mem_append_right _ (List.mem_of_getElem? (i := 1734) (by decide +kernel))) rfl), (bTB_in (List.mem_append_right _ (List.mem_of_getElem? (i := 1735) (by decide +kernel))) rfl), (bTB_in (List.mem_append_right _ (List.mem_of_getElem? (i := 1736) (by decide +kernel))) rfl), (bTB_in (List.mem_append_right _ (List.mem_of_getElem? (i := 17) (by decide +kernel))) rfl), (bTB_in (List.mem_append_right _ (List.mem_of_getElem? (i := 1737) (by decide +kernel))) rfl), by decide, by decide +kernel, by decide +kernel, by decide +kernel⟩
theorem mm_L_78 : bMV RL 78 yX11_packedWithout cX11_packedWithout 2 (some .int) 1 := ⟨(bTB_in (List.mem_append_right _ (List.mem_of_getElem? (i := 923) (by decide +kernel))) rfl), (bTB_in (List.mem_append_right _ (List.mem_of_getElem? (i := 924) (by decide +kernel))) rfl), (bTB_in (List.mem_append_right _ (List.mem_of_getElem? (i := 925) (by decide +kernel))) rfl), (bTB_in (List.mem_append_right _ (List.mem_of_getElem? (i := 1) (by decide +kernel))) rfl), (bTB_in (List.mem_append_right _ (List.mem_of_getElem? (i := 926) (by decide +kernel))) rfl), by decide, by decide +kernel, by decide +kernel, by decide +kernel⟩
theorem mm_L_81 : bMV RL 81 yX12_packedWithout cX12_packedWithout 2 (some .int) 1 := ⟨(bTB_in (List.mem_append_right _ (List.mem_of_getElem? (i := 1738) (by decide +kernel))) rfl), (bTB_in (List.mem_append_right _ (List.mem_of_getElem? (i := 1739) (by decide +kernel))) rfl), (bTB_in (List.mem_append_right _ (List.mem_of_getElem? (i := 1740) (by decide +kernel))) rfl), (bTB_in (List.mem_append_right _ (List.mem_of_getElem? (i := 17) (by decide +kernel))) rfl), (bTB_in (List.mem_append_right _ (List.mem_of_getElem? (i := 1741) (by decide +kernel))) rfl), by decide, by decide +kernel, by decide +kernel, by decide +kernel⟩
theorem mm_L_82 : bMV RL 82 yX11_bestSeat cX11_bestSeat 1 (some .int) 0 := ⟨(bTB_in (List.mem_append_right _ (List.mem_of_getElem? (i := 927) (by decide +kernel))) rfl), (bTB_in (List.mem_append_right _ (List.mem_of_getElem? (i := 928) (by decide +kernel))) rfl), (bTB_in (List.mem_append_right _ (List.mem_of_getElem? (i := 929) (by decide +kernel))) rfl), (bTB_in (List.mem_append_right _ (List.mem_of_getElem? (i := 1) (by decide +kernel))) rfl), (bTB_in (List.mem_append_right _ (List.mem_of_getElem? (i := 930) (by decide +kernel))) rfl), by decide, by decide +kernel, by decide +kernel, by decide +kernel⟩
theorem mm_L_85 : bMV RL 85 yX12_bestSeat cX12_bestSeat 5 (some .int) 0 := ⟨(bTB_in (List.mem_append_right _ (List.mem_of_getElem? (i := 1742) (by decide +kernel))) rfl), (bTB_in (List.mem_append_right _ (List.mem_of_getElem? (i := 1743) (by decide +kernel))) rfl), (bTB_in (List.mem_append_right _ (List.mem_of_getElem? (i := 1744) (by decide +kernel))) rfl), (bTB_in (List.mem_append_right _ (List.mem_of_getElem? (i := 17) (by decide +kernel))) rfl), (bTB_in (List.mem_append_right _ (List.mem_of_getElem? (i := 1745) (by decide +kernel))) rfl), by decide, by decide +kernel, by decide +kernel, by decide +kernel⟩
theorem mm_L_86 : bMV RL 86 yX11_coal cX11_coal 3 (some .int) 2 := ⟨(bTB_in (List.mem_append_right _ (List.mem_of_getElem? (i := 935) (by decide +kernel))) rfl), (bTB_in (List.mem_append_right _ (List.mem_of_getElem? (i := 936) (by decide +kernel))) rfl), (bTB_in (List.mem_append_right _ (List.mem_of_getElem? (i := 937) (by decide +kernel))) rfl), (bTB_in (List.mem_append_right _ (List.mem_of_getElem? (i := 1) (by decide +kernel))) rfl), (bTB_in (List.mem_append_right _ (List.mem_of_getElem? (i := 938) (by decide +kernel))) rfl), by decide, by decide +kernel, by decide +kernel, by decide +kernel⟩
theorem mm_L_89 : bMV RL 89 yX12_coal cX12_coal 8 (some .int) 2 := ⟨(bTB_in (List.mem_append_right _ (List.mem_of_getElem? (i := 1746) (by decide +kernel))) rfl), (bTB_in (List.mem_append_right _ (List.mem_of_getElem? (i := 1747) (by decide +kernel))) rfl), (bTB_in (List.mem_append_right _ (List.mem_of_getElem? (i := 1748) (by decide +kernel))) rfl), (bTB_in (List.mem_append_right _ (List.mem_of_getElem? (i := 17) (by decide +kernel))) rfl), (bTB_in (List.mem_append_right _ (List.mem_of_getElem? (i := 1749) (by decide +kernel))) rfl), by decide, by decide +kernel, by decide +kernel, by decide +kernel⟩
theorem mm_L_90 : bMV RL 90 yX11_couples cX11_couples 1 (some .int) 0 := ⟨(bTB_in (List.mem_append_right _ (List.mem_of_getElem? (i := 947) (by decide +kernel))) rfl), (bTB_in (List.mem_append_right _ (List.mem_of_getElem? (i := 948) (by decide +kernel))) rfl), (bTB_in (List.mem_append_right _ (List.mem_of_getElem? (i := 949) (by decide +kernel))) rfl), (bTB_in (List.mem_append_right _ (List.mem_of_getElem? (i := 1) (by decide +kernel))) rfl), (bTB_in (List.mem_append_right _ (List.mem_of_getElem? (i := 950) (by decide +kernel))) rfl), by decide, by decide +kernel, by decide +kernel, by decide +kernel⟩
theorem mm_L_93 : bMV RL 93 yX12_couples cX12_couples 1 (some .int) 0 := ⟨(bTB_in (List.mem_append_right _ (List.mem_of_getElem? (i := 1754) (by decide +kernel))) rfl), (bTB_in (List.mem_append_right _ (List.mem_of_getElem? (i := 1755) (by decide +kernel))) rfl), (bTB_in (List.mem_append_right _ (List.mem_of_getElem? (i := 1756) (by decide +kernel))) rfl), (bTB_in (List.mem_append_right _ (List.mem_of_getElem? (i := 17) (by decide +kernel))) rfl), (bTB_in (List.mem_append_right _ (List.mem_of_getElem? (i := 1757) (by decide +kernel))) rfl), by decide, by decide +kernel, by decide +kernel, by decide +kernel⟩
theorem mm_L_94 : bMV RL 94 yX11_spouse cX11_spouse 2 (some .int) 1 := ⟨(bTB_in (List.mem_append_right _ (List.mem_of_getElem? (i := 975) (by decide +kernel))) rfl), (bTB_in (List.mem_append_right _ (List.mem_of_getElem? (i := 976) (by decide +kernel))) rfl), (bTB_in (List.mem_append_right _ (List.mem_of_getElem? (i := 977) (by decide +kernel))) rfl), (bTB_in (List.mem_append_right _ (List.mem_of_getElem? (i := 1) (by decide +kernel))) rfl), (bTB_in (List.mem_append_right _ (List.mem_of_getElem? (i := 978) (by decide +kernel))) rfl), by decide, by decide +kernel, by decide +kernel, by decide +kernel⟩
theorem mm_L_97 : bMV RL 97 yX12_spouse cX12_spouse 2 (some .int) 1 := ⟨(bTB_in (List.mem_append_right _ (List.mem_of_getElem? (i := 1770) (by decide +kernel))) rfl), (bTB_in (List.mem_append_right _ (List.mem_of_getElem? (i := 1771) (by decide +kernel))) rfl), (bTB_in (List.mem_append_right _ (List.mem_of_getElem? (i := 1772) (by decide +kernel))) rfl), (bTB_in (List.mem_append_right _ (List.mem_of_getElem? (i := 17) (by decide +kernel))) rfl), (bTB_in (List.mem_append_right _ (List.mem_of_getElem? (i := 1773) (by decide +kernel))) rfl), by decide, by decide +kernel, by decide +kernel, by decide +kernel⟩
theorem mm_L_98 : bMV RL 98 yX11_mayMarry cX11_mayMarry 2 (some .int) 1 := ⟨(bTB_in (List.mem_append_right _ (List.mem_of_getElem? (i := 979) (by decide +kernel))) rfl), (bTB_in (List.mem_append_right _ (List.mem_of_getElem? (i := 980) (by decide +kernel))) rfl), (bTB_in (List.mem_append_right _ (List.mem_of_getElem? (i := 981) (by decide +kernel))) rfl), (bTB_in (List.mem_append_right _ (List.mem_of_getElem? (i := 1) (by decide +kernel))) rfl), (bTB_in (List.mem_append_right _ (List.mem_of_getElem? (i := 982) (by decide +kernel))) rfl), by decide, by decide +kernel, by decide +kernel, by decide +kernel⟩
theorem mm_L_101 : bMV RL 101 yX12_mayMarry cX12_mayMarry 4 (some .int) 1 := ⟨(bTB_in (List.mem_append_right _ (List.mem_of_getElem? (i := 1774) (by decide +kernel))) rfl), (bTB_in (List.mem_append_right _ (List.mem_of_getElem? (i := 1775) (by decide +kernel))) rfl), (bTB_in (List.mem_append_right _ (List.mem_of_getElem? (i := 1776) (by decide +kernel))) rfl), (bTB_in (List.mem_append_right _ (List.mem_of_getElem? (i := 17) (by decide +kernel))) rfl), (bTB_in (List.mem_append_right _ (List.mem_of_getElem? (i := 1777) (by decide +kernel))) rfl), by decide, by decide +kernel, by decide +kernel, by decide +kernel⟩
theorem mm_L_102 : bMV RL 102 yX11_fed cX11_fed 2 (some .int) 0 := ⟨(bTB_in (List.mem_append_right _ (List.mem_of_getElem? (i := 984) (by decide +kernel))) rfl), (bTB_in (List.mem_append_right _ (List.mem_of_getElem? (i := 985) (by decide +kernel))) rfl), (bTB_in (List.mem_append_right _ (List.mem_of_getElem? (i := 986) (by decide +kernel))) rfl), (bTB_in (List.mem_append_right _ (List.mem_of_getElem? (i := 1) (by decide +kernel))) rfl), (bTB_in (List.mem_append_right _ (List.mem_of_getElem? (i := 987) (by decide +kernel))) rfl), by decide, by decide +kernel, by decide +kernel, by decide +kernel⟩
theorem mm_L_105 : bMV RL 105 yX12_fed cX12_fed 1 (some .int) 0 := ⟨(bTB_in (List.mem_append_right _ (List.mem_of_getElem? (i := 1778) (by decide +kernel))) rfl), (bTB_in (List.mem_append_right _ (List.mem_of_getElem? (i := 1779) (by decide +kernel))) rfl), (bTB_in (List.mem_append_right _ (List.mem_of_getElem? (i := 1780) (by decide +kernel))) rfl), (bTB_in (List.mem_append_right _ (List.mem_of_getElem? (i := 17) (by decide +kernel))) rfl), (bTB_in (List.mem_append_right _ (List.mem_of_getElem? (i := 1781) (by decide +kernel))) rfl), by decide, by decide +kernel, by decide +kernel, by decide +kernel⟩
theorem mm_L_106 : bMV RL 106 yX11_eats cX11_eats 6 (some .int) 2 := ⟨(bTB_in (List.mem_append_right _ (List.mem_of_getElem? (i := 988) (by decide +kernel))) rfl), (bTB_in (List.mem_append_right _ (List.mem_of_getElem? (i := 989) (by decide +kernel))) rfl), (bTB_in (List.mem_append_right _ (List.mem_of_getElem? (i := 990) (by decide +kernel))) rfl), (bTB_in (List.mem_append_right _ (List.mem_of_getElem? (i := 1) (by decide +kernel))) rfl), (bTB_in (List.mem_append_right _ (List.mem_of_getElem? (i := 991) (by decide +kernel))) rfl), by decide, by decide +kernel, by decide +kernel, by decide +kernel⟩
theorem mm_L_109 : bMV RL 109 yX12_eats cX12_eats 7 (some .int) 2 := ⟨(bTB_in (List.mem_append_right _ (List.mem_of_getElem? (i := 1782) (by decide +kernel))) rfl), (bTB_in (List.mem_append_right _ (List.mem_of_getElem? (i := 1783) (by decide +kernel))) rfl), (bTB_in (List.mem_append_right _ (List.mem_of_getElem? (i := 1784) (by decide +kernel))) rfl), (bTB_in (List.mem_append_right _ (List.mem_of_getElem? (i := 17) (by decide +kernel))) rfl), (bTB_in (List.mem_append_right _ (List.mem_of_getElem? (i := 1785) (by decide +kernel))) rfl), by decide, by decide +kernel, by decide +kernel, by decide +kernel⟩
theorem mm_L_110 : bMV RL 110 yX11_left cX11_left 2 (some .int) 1 := ⟨(bTB_in (List.mem_append_right _ (List.mem_of_getElem? (i := 1002) (by decide +kernel))) rfl), (bTB_in (List.mem_append_right _ (List.mem_of_getElem? (i := 1003) (by decide +kernel))) rfl), (bTB_in (List.mem_append_right _ (List.mem_of_getElem? (i := 1004) (by decide +kernel))) rfl), (bTB_in (List.mem_append_right _ (List.mem_of_getElem? (i := 1) (by decide +kernel))) rfl), (bTB_in (List.mem_append_right _ (List.mem_of_getElem? (i := 1005) (by decide +kernel))) rfl), by decide, by decide +kernel, by decide +kernel, by decide +kernel⟩
theorem mm_L_113 : bMV RL 113 yX12_left cX12_left 3 (some .int) 1 := ⟨(bTB_in (List.mem_append_right _ (List.mem_of_getElem? (i := 1790) (by decide +kernel))) rfl), (bTB_in (List.mem_append_right _ (List.mem_of_getElem? (i := 1791) (by decide +kernel))) rfl), (bTB_in (List.mem_append_right _ (List.mem_of_getElem? (i := 1792) (by decide +kernel))) rfl), (bTB_in (List.mem_append_right _ (List.mem_of_getElem? (i := 17) (by decide +kernel))) rfl), (bTB_in (List.mem_append_right _ (List.mem_of_getElem? (i := 1793) (by decide +kernel))) rfl), by decide, by decide +kernel, by decide +kernel, by decide +kernel⟩
theorem mm_L_114 : bMV RL 114 yX11_trains cX11_trains 1 (some .int) 0 := ⟨(bTB_in (List.mem_append_right _ (List.mem_of_getElem? (i := 1006) (by decide +kernel))) rfl), (bTB_in (List.mem_append_right _ (List.mem_of_getElem? (i := 1007) (by decide +kernel))) rfl), (bTB_in (List.mem_append_right _ (List.mem_of_getElem? (i := 1008) (by decide +kernel))) rfl), (bTB_in (List.mem_append_right _ (List.mem_of_getElem? (i := 1) (by decide +kernel))) rfl), (bTB_in (List.mem_append_right _ (List.mem_of_getElem? (i := 1009) (by decide +kernel))) rfl), by decide, by decide +kernel, by decide +kernel, by decide +kernel⟩
theorem mm_L_117 : bMV RL 117 yX12_trains cX12_trains 1 (some .int) 0 := ⟨(bTB_in (List.mem_append_right _ (List.mem_of_getElem? (i := 1794) (by decide +kernel))) rfl), (bTB_in (List.mem_append_right _ (List.mem_of_getElem? (i := 1795) (by decide +kernel))) rfl), (bTB_in (List.mem_append_right _ (List.mem_of_getElem? (i := 1796) (by decide +kernel))) rfl), (bTB_in (List.mem_append_right _ (List.mem_of_getElem? (i := 17) (by decide +kernel))) rfl), (bTB_in (List.mem_append_right _ (List.mem_of_getElem? (i := 1797) (by decide +kernel))) rfl), by decide, by decide +kernel, by decide +kernel, by decide +kernel⟩
theorem mm_L_118 : bMV RL 118 yX11_trainAt cX11_trainAt 3 (some .int) 1 := ⟨(bTB_in (List.mem_append_right _ (List.mem_of_getElem? (i := 1010) (by decide +kernel))) rfl), (bTB_in (List.mem_append_right _ (List.mem_of_getElem? (i := 1011) (by decide +kernel))) rfl), (bTB_in (List.mem_append_right _ (List.mem_of_getElem? (i := 1012) (by decide +kernel))) rfl), (bTB_in (List.mem_append_right _ (List.mem_of_getElem? (i := 1) (by decide +kernel))) rfl), (bTB_in (List.mem_append_right _ (List.mem_of_getElem? (i := 1013) (by decide +kernel))) rfl), by decide, by decide +kernel, by decide +kernel, by decide +kernel⟩
theorem mm_L_121 : bMV RL 121 yX12_trainAt cX12_trainAt 5 (some .int) 1 := ⟨(bTB_in (List.mem_append_right _ (List.mem_of_getElem? (i := 1809) (by decide +kernel))) rfl), (bTB_in (List.mem_append_right _ (List.mem_of_getElem? (i := 1810) (by decide +kernel))) rfl), (bTB_in (List.mem_append_right _ (List.mem_of_getElem? (i := 1811) (by decide +kernel))) rfl), (bTB_in (List.mem_append_right _ (List.mem_of_getElem? (i := 17) (by decide +kernel))) rfl), (bTB_in (List.mem_append_right _ (List.mem_of_getElem? (i := 1812) (by decide +kernel))) rfl), by decide, by decide +kernel, by decide +kernel, by decide +kernel⟩
theorem mm_L_122 : bMV RL 122 yX11_comes cX11_comes 2 (some .int) 1 := ⟨(bTB_in (List.mem_append_right _ (List.mem_of_getElem? (i := 1014) (by decide +kernel))) rfl), (bTB_in (List.mem_append_right _ (List.mem_of_getElem? (i := 1015) (by decide +kernel))) rfl), (bTB_in (List.mem_append_right _ (List.mem_of_getElem? (i := 1016) (by decide +kernel))) rfl), (bTB_in (List.mem_append_right _ (List.mem_of_getElem? (i := 1) (by decide +kernel))) rfl), (bTB_in (List.mem_append_right _ (List.mem_of_getElem? (i := 1017) (by decide +kernel))) rfl), by decide, by decide +kernel, by decide +kernel, by decide +kernel⟩
theorem mm_L_125 : bMV RL 125 yX12_comes cX12_comes 2 (some .int) 1 := ⟨(bTB_in (List.mem_append_right _ (List.mem_of_getElem? (i := 1813) (by decide +kernel))) rfl), (bTB_in (List.mem_append_right _ (List.mem_of_getElem? (i := 1814) (by decide +kernel))) rfl), (bTB_in (List.mem_append_right _ (List.mem_of_getElem? (i := 1815) (by decide +kernel))) rfl), (bTB_in (List.mem_append_right _ (List.mem_of_getElem? (i := 17) (by decide +kernel))) rfl), (bTB_in (List.mem_append_right _ (List.mem_of_getElem? (i := 1816) (by decide +kernel))) rfl), by decide, by decide +kernel, by decide +kernel, by decide +kernel⟩
theorem mm_L_126 : bMV RL 126 yX11_surely cX11_surely 2 (some .int) 1 := ⟨(bTB_in (List.mem_append_right _ (List.mem_of_getElem? (i := 1021) (by decide +kernel))) rfl), (bTB_in (List.mem_append_right _ (List.mem_of_getElem? (i := 1022) (by decide +kernel))) rfl), (bTB_in (List.mem_append_right _ (List.mem_of_getElem? (i := 1023) (by decide +kernel))) rfl), (bTB_in (List.mem_append_right _ (List.mem_of_getElem? (i := 1) (by decide +kernel))) rfl), (bTB_in (List.mem_append_right _ (List.mem_of_getElem? (i := 1024) (by decide +kernel))) rfl), by decide, by decide +kernel, by decide +kernel, by decide +kernel⟩
theorem mm_L_129 : bMV RL 129 yX12_surely cX12_surely 4 (some .int) 1 := ⟨(bTB_in (List.mem_append_right _ (List.mem_of_getElem? (i := 1817) (by decide +kernel))) rfl), (bTB_in (List.mem_append_right _ (List.mem_of_getElem? (i := 1818) (by decide +kernel))) rfl), (bTB_in (List.mem_append_right _ (List.mem_of_getElem? (i := 1819) (by decide +kernel))) rfl), (bTB_in (List.mem_append_right _ (List.mem_of_getElem? (i := 17) (by decide +kernel))) rfl), (bTB_in (List.mem_append_right _ (List.mem_of_getElem? (i := 1820) (by decide +kernel))) rfl), by decide, by decide +kernel, by decide +kernel, by decide +kernel⟩
theorem mm_L_130 : bMV RL 130 yX11_listen cX11_listen 1 (some .int) 0 := ⟨(bTB_in (List.mem_append_right _ (List.mem_of_getElem? (i := 1029) (by decide +kernel))) rfl), (bTB_in (List.mem_append_right _ (List.mem_of_getElem? (i := 1030) (by decide +kernel))) rfl), (bTB_in (List.mem_append_right _ (List.mem_of_getElem? (i := 1031) (by decide +kernel))) rfl), (bTB_in (List.mem_append_right _ (List.mem_of_getElem? (i := 1) (by decide +kernel))) rfl), (bTB_in (List.mem_append_right _ (List.mem_of_getElem? (i := 1032) (by decide +kernel))) rfl), by decide, by decide +kernel, by decide +kernel, by decide +kernel⟩
theorem mm_L_133 : bMV RL 133 yX12_listen cX12_listen 1 (some .int) 0 := ⟨(bTB_in (List.mem_append_right _ (List.mem_of_getElem? (i := 1821) (by decide +kernel))) rfl), (bTB_in (List.mem_append_right _ (List.mem_of_getElem? (i := 1822) (by decide +kernel))) rfl), (bTB_in (List.mem_append_right _ (List.mem_of_getElem? (i := 1823) (by decide +kernel))) rfl), (bTB_in (List.mem_append_right _ (List.mem_of_getElem? (i := 17) (by decide +kernel))) rfl), (bTB_in (List.mem_append_right _ (List.mem_of_getElem? (i := 1824) (by decide +kernel))) rfl), by decide, by decide +kernel, by decide +kernel, by decide +kernel⟩
theorem mm_L_134 : bMV RL 134 yX11_listenLeaves cX11_listenLeaves 2 (some .int) 0 := ⟨(bTB_in (List.mem_append_right _ (List.mem_of_getElem? (i := 1042) (by decide +kernel))) rfl), (bTB_in (List.mem_append_right _ (List.mem_of_getElem? (i := 1043) (by decide +kernel))) rfl), (bTB_in (List.mem_append_right _ (List.mem_of_getElem? (i := 1044) (by decide +kernel))) rfl), (bTB_in (List.mem_append_right _ (List.mem_of_getElem? (i := 1) (by decide +kernel))) rfl), (bTB_in (List.mem_append_right _ (List.mem_of_getElem? (i := 1045) (by decide +kernel))) rfl), by decide, by decide +kernel, by decide +kernel, by decide +kernel⟩
theorem mm_L_137 : bMV RL 137 yX12_listenLeaves cX12_listenLeaves 2 (some .int) 0 := ⟨(bTB_in (List.mem_append_right _ (List.mem_of_getElem? (i := 1833) (by decide +kernel))) rfl), (bTB_in (List.mem_append_right _ (List.mem_of_getElem? (i := 1834) (by decide +kernel))) rfl), (bTB_in (List.mem_append_right _ (List.mem_of_getElem? (i := 1835) (by decide +kernel))) rfl), (bTB_in (List.mem_append_right _ (List.mem_of_getElem? (i := 17) (by decide +kernel))) rfl), (bTB_in (List.mem_append_right _ (List.mem_of_getElem? (i := 1836) (by decide +kernel))) rfl), by decide, by decide +kernel, by decide +kernel, by decide +kernel⟩
theorem mm_L_138 : bMV RL 138 yX11_drawn cX11_drawn 2 (some .int) 1 := ⟨(bTB_in (List.mem_append_right _ (List.mem_of_getElem? (i := 1047) (by decide +kernel))) rfl), (bTB_in (List.mem_append_right _ (List.mem_of_getElem? (i := 1048) (by decide +kernel))) rfl), (bTB_in (List.mem_append_right _ (List.mem_of_getElem? (i := 1049) (by decide +kernel))) rfl), (bTB_in (List.mem_append_right _ (List.mem_of_getElem? (i := 1) (by decide +kernel))) rfl), (bTB_in (List.mem_append_right _ (List.mem_of_getElem? (i := 1050) (by decide +kernel))) rfl), by decide, by decide +kernel, by decide +kernel, by decide +kernel⟩
theorem mm_L_141 : bMV RL 141 yX12_drawn cX12_drawn 2 (some .int) 1 := ⟨(bTB_in (List.mem_append_right _ (List.mem_of_getElem? (i := 1837) (by decide +kernel))) rfl), (bTB_in (List.mem_append_right _ (List.mem_of_getElem? (i := 1838) (by decide +kernel))) rfl), (bTB_in (List.mem_append_right _ (List.mem_of_getElem? (i := 1839) (by decide +kernel))) rfl), (bTB_in (List.mem_append_right _ (List.mem_of_getElem? (i := 17) (by decide +kernel))) rfl), (bTB_in (List.mem_append_right _ (List.mem_of_getElem? (i := 1840) (by decide +kernel))) rfl), by decide, by decide +kernel, by decide +kernel, by decide +kernel⟩
theorem mm_L_142 : bMV RL 142 yX11_believers cX11_believers 2 (some .int) 1 := ⟨(bTB_in (List.mem_append_right _ (List.mem_of_getElem? (i := 1061) (by decide +kernel))) rfl), (bTB_in (List.mem_append_right _ (List.mem_of_getElem? (i := 1062) (by decide +kernel))) rfl), (bTB_in (List.mem_append_right _ (List.mem_of_getElem? (i := 1063) (by decide +kernel))) rfl), (bTB_in (List.mem_append_right _ (List.mem_of_getElem? (i := 1) (by decide +kernel))) rfl), (bTB_in (List.mem_append_right _ (List.mem_of_getElem? (i := 1064) (by decide +kernel))) rfl), by decide, by decide +kernel, by decide +kernel, by decide +kernel⟩
theorem mm_L_145 : bMV RL 145 yX12_believers cX12_believers 2 (some .int) 1 := ⟨(bTB_in (List.mem_append_right _ (List.mem_of_getElem? (i := 1845) (by decide +kernel))) rfl), (bTB_in (List.mem_append_right _ (List.mem_of_getElem? (i := 1846) (by decide +kernel))) rfl), (bTB_in (List.mem_append_right _ (List.mem_of_getElem? (i := 1847) (by decide +kernel))) rfl), (bTB_in (List.mem_append_right _ (List.mem_of_getElem? (i := 17) (by decide +kernel))) rfl), (bTB_in (List.mem_append_right _ (List.mem_of_getElem? (i := 1848) (by decide +kernel))) rfl), by decide, by decide +kernel, by decide +kernel, by decide +kernel⟩
theorem mm_L_146 : bMV RL 146 yX11_settled cX11_settled 1 (some .int) 0 := ⟨(bTB_in (List.mem_append_right _ (List.mem_of_getElem? (i := 1082) (by decide +kernel))) rfl), (bTB_in (List.mem_append_right _ (List.mem_of_getElem? (i := 1083) (by decide +kernel))) rfl), (bTB_in (List.mem_append_right _ (List.mem_of_getElem? (i := 1084) (by decide +kernel))) rfl), (bTB_in (List.mem_append_right _ (List.mem_of_getElem? (i := 1) (by decide +kernel))) rfl), (bTB_in (List.mem_append_right _ (List.mem_of_getElem? (i := 1085) (by decide +kernel))) rfl), by decide, by decide +kernel, by decide +kernel, by decide +kernel⟩
theorem mm_L_149 : bMV RL 149 yX12_settled cX12_settled 2 (some .int) 0 := ⟨(bTB_in (List.mem_append_right _ (List.mem_of_getElem? (i := 1861) (by decide +kernel))) rfl), (bTB_in (List.mem_append_right _ (List.mem_of_getElem? (i := 1862) (by decide +kernel))) rfl), (bTB_in (List.mem_append_right _ (List.mem_of_getElem? (i := 1863) (by decide +kernel))) rfl), (bTB_in (List.mem_append_right _ (List.mem_of_getElem? (i := 17) (by decide +kernel))) rfl), (bTB_in (List.mem_append_right _ (List.mem_of_getElem? (i := 1864) (by decide +kernel))) rfl), by decide, by decide +kernel, by decide +kernel, by decide +kernel⟩
theorem mm_L_150 : bMV RL 150 yX11_won cX11_won 1 (some .int) 0 := ⟨(bTB_in (List.mem_append_right _ (List.mem_of_getElem? (i := 1090) (by decide +kernel))) rfl), (bTB_in (List.mem_append_right _ (List.mem_of_getElem? (i := 1091) (by decide +kernel))) rfl), (bTB_in (List.mem_append_right _ (List.mem_of_getElem? (i := 1092) (by decide +kernel))) rfl), (bTB_in (List.mem_append_right _ (List.mem_of_getElem? (i := 1) (by decide +kernel))) rfl), (bTB_in (List.mem_append_right _ (List.mem_of_getElem? (i := 1093) (by decide +kernel))) rfl), by decide, by decide +kernel, by decide +kernel, by decide +kernel⟩
theorem mm_L_153 : bMV RL 153 yX12_won cX12_won 4 (some .int) 0 := ⟨(bTB_in (List.mem_append_right _ (List.mem_of_getElem? (i := 1865) (by decide +kernel))) rfl), (bTB_in (List.mem_append_right _ (List.mem_of_getElem? (i := 1866) (by decide +kernel))) rfl), (bTB_in (List.mem_append_right _ (List.mem_of_getElem? (i := 1867) (by decide +kernel))) rfl), (bTB_in (List.mem_append_right _ (List.mem_of_getElem? (i := 17) (by decide +kernel))) rfl), (bTB_in (List.mem_append_right _ (List.mem_of_getElem? (i := 1868) (by decide +kernel))) rfl), by decide, by decide +kernel, by decide +kernel, by decide +kernel⟩
theorem mm_L_154 : bMV RL 154 yX11_prophet cX11_prophet 1 (some .int) 0 := ⟨(bTB_in (List.mem_append_right _ (List.mem_of_getElem? (i := 1107) (by decide +kernel))) rfl), (bTB_in (List.mem_append_right _ (List.mem_of_getElem? (i := 1108) (by decide +kernel))) rfl), (bTB_in (List.mem_append_right _ (List.mem_of_getElem? (i := 1109) (by decide +kernel))) rfl), (bTB_in (List.mem_append_right _ (List.mem_of_getElem? (i := 1) (by decide +kernel))) rfl), (bTB_in (List.mem_append_right _ (List.mem_of_getElem? (i := 1110) (by decide +kernel))) rfl), by decide, by decide +kernel, by decide +kernel, by decide +kernel⟩
theorem mm_L_157 : bMV RL 157 yX12_prophet cX12_prophet 5 (some .int) 0 := ⟨(bTB_in (List.mem_append_right _ (List.mem_of_getElem? (i := 1869) (by decide +kernel))) rfl), (bTB_in (List.mem_append_right _ (List.mem_of_getElem? (i := 1870) (by decide +kernel))) rfl), (bTB_in (List.mem_append_right _ (List.mem_of_getElem? (i := 1871) (by decide +kernel))) rfl), (bTB_in (List.mem_append_right _ (List.mem_of_getElem? (i := 17) (by decide +kernel))) rfl), (bTB_in (List.mem_append_right _ (List.mem_of_getElem? (i := 1872) (by decide +kernel))) rfl), by decide, by decide +kernel, by decide +kernel, by decide +kernel⟩
theorem mm_L_158 : bMV RL 158 yX11_shout cX11_shout 5 (some .int) 4 := ⟨(bTB_in (List.mem_append_right _ (List.mem_of_getElem? (i := 1115) (by decide +kernel))) rfl), (bTB_in (List.mem_append_right _ (List.mem_of_getElem? (i := 1116) (by decide +kernel))) rfl), (bTB_in (List.mem_append_right _ (List.mem_of_getElem? (i := 1117) (by decide +kernel))) rfl), (bTB_in (List.mem_append_right _ (List.mem_of_getElem? (i := 1) (by decide +kernel))) rfl), (bTB_in (List.mem_append_right _ (List.mem_of_getElem? (i := 1118) (by decide +kernel))) rfl), by decide, by decide +kernel, by decide +kernel, by decide +kernel⟩
theorem mm_L_162 : bMV RL 162 yX12_shout cX12_shout 6 (some .int) 4 := ⟨(bTB_in (List.mem_append_right _ (List.mem_of_getElem? (i := 1873) (by decide +kernel))) rfl), (bTB_in (List.mem_append_right _ (List.mem_of_getElem? (i := 1874) (by decide +kernel))) rfl), (bTB_in (List.mem_append_right _ (List.mem_of_getElem? (i := 1875) (by decide +kernel))) rfl), (bTB_in (List.mem_append_right _ (List.mem_of_getElem? (i := 17) (by decide +kernel))) rfl), (bTB_in (List.mem_append_right _ (List.mem_of_getElem? (i := 1876) (by decide +kernel))) rfl), by decide, by decide +kernel, by decide +kernel, by decide +kernel⟩
theorem mm_L_163 : bMV RL 163 yX11_rests cX11_rests 5 (some .int) 1 := ⟨(bTB_in (List.mem_append_right _ (List.mem_of_getElem? (i := 1128) (by decide +kernel))) rfl), (bTB_in (List.mem_append_right _ (List.mem_of_getElem? (i := 1129) (by decide +kernel))) rfl), (bTB_in (List.mem_append_right _ (List.mem_of_getElem? (i := 1130) (by decide +kernel))) rfl), (bTB_in (List.mem_append_right _ (List.mem_of_getElem? (i := 1) (by decide +kernel))) rfl), (bTB_in (List.mem_append_right _ (List.mem_of_getElem? (i := 1131) (by decide +kernel))) rfl), by decide, by decide +kernel, by decide +kernel, by decide +kernel⟩
theorem mm_L_166 : bMV RL 166 yX12_rests cX12_rests 3 (some .int) 1 := ⟨(bTB_in (List.mem_append_right _ (List.mem_of_getElem? (i := 1884) (by decide +kernel))) rfl), (bTB_in (List.mem_append_right _ (List.mem_of_getElem? (i := 1885) (by decide +kernel))) rfl), (bTB_in (List.mem_append_right _ (List.mem_of_getElem? (i := 1886) (by decide +kernel))) rfl), (bTB_in (List.mem_append_right _ (List.mem_of_getElem? (i := 17) (by decide +kernel))) rfl), (bTB_in (List.mem_append_right _ (List.mem_of_getElem? (i := 1887) (by decide +kernel))) rfl), by decide, by decide +kernel, by decide +kernel, by decide +kernel⟩
theorem mm_L_167 : bMV RL 167 yX11_rest cX11_rest 4 (some .int) 1 := ⟨(bTB_in (List.mem_append_right _ (List.mem_of_getElem? (i := 1135) (by decide +kernel))) rfl), (bTB_in (List.mem_append_right _ (List.mem_of_getElem? (i := 1136) (by decide +kernel))) rfl), (bTB_in (List.mem_append_right _ (List.mem_of_getElem? (i := 1137) (by decide +kernel))) rfl), (bTB_in (List.mem_append_right _ (List.mem_of_getElem? (i := 1) (by decide +kernel))) rfl), (bTB_in (List.mem_append_right _ (List.mem_of_getElem? (i := 1138) (by decide +kernel))) rfl), by decide, by decide +kernel, by decide +kernel, by decide +kernel⟩
theorem mm_L_170 : bMV RL 170 yX12_rest cX12_rest 3 (some .int) 1 := ⟨(bTB_in (List.mem_append_right _ (List.mem_of_getElem? (i := 1895) (by decide +kernel))) rfl), (bTB_in (List.mem_append_right _ (List.mem_of_getElem? (i := 1896) (by decide +kernel))) rfl), (bTB_in (List.mem_append_right _ (List.mem_of_getElem? (i := 1897) (by decide +kernel))) rfl), (bTB_in (List.mem_append_right _ (List.mem_of_getElem? (i := 17) (by decide +kernel))) rfl), (bTB_in (List.mem_append_right _ (List.mem_of_getElem? (i := 1898) (by decide +kernel))) rfl), by decide, by decide +kernel, by decide +kernel, by decide +kernel⟩
theorem mm_L_171 : bMV RL 171 yX11_years cX11_years 3 (some .int) 2 := ⟨(bTB_in (List.mem_append_right _ (List.mem_of_getElem? (i := 1139) (by decide +kernel))) rfl), (bTB_in (List.mem_append_right _ (List.mem_of_getElem? (i := 1140) (by decide +kernel))) rfl), (bTB_in (List.mem_append_right _ (List.mem_of_getElem? (i := 1141) (by decide +kernel))) rfl), (bTB_in (List.mem_append_right _ (List.mem_of_getElem? (i := 1) (by decide +kernel))) rfl), (bTB_in (List.mem_append_right _ (List.mem_of_getElem? (i := 1142) (by decide +kernel))) rfl), by decide, by decide +kernel, by decide +kernel, by decide +kernel⟩
theorem mm_L_174 : bMV RL 174 yX12_years cX12_years 4 (some .int) 2 := ⟨(bTB_in (List.mem_append_right _ (List.mem_of_getElem? (i := 1899) (by decide +kernel))) rfl), (bTB_in (List.mem_append_right _ (List.mem_of_getElem? (i := 1900) (by decide +kernel))) rfl), (bTB_in (List.mem_append_right _ (List.mem_of_getElem? (i := 1901) (by decide +kernel))) rfl), (bTB_in (List.mem_append_right _ (List.mem_of_getElem? (i := 17) (by decide +kernel))) rfl), (bTB_in (List.mem_append_right _ (List.mem_of_getElem? (i := 1902) (by decide +kernel))) rfl), by decide, by decide +kernel, by decide +kernel, by decide +kernel⟩
theorem mm_L_175 : bMV RL 175 yX11_yearsAt cX11_yearsAt 4 (some .int) 3 := ⟨(bTB_in (List.mem_append_right _ (List.mem_of_getElem? (i := 1162) (by decide +kernel))) rfl), (bTB_in (List.mem_append_right _ (List.mem_of_getElem? (i := 1163) (by decide +kernel))) rfl), (bTB_in (List.mem_append_right _ (List.mem_of_getElem? (i := 1164) (by decide +kernel))) rfl), (bTB_in (List.mem_append_right _ (List.mem_of_getElem? (i := 1) (by decide +kernel))) rfl), (bTB_in (List.mem_append_right _ (List.mem_of_getElem? (i := 1165) (by decide +kernel))) rfl), by decide, by decide +kernel, by decide +kernel, by decide +kernel⟩
theorem mm_L_179 : bMV RL 179 yX12_yearsAt cX12_yearsAt 5 (some .int) 3 := ⟨(bTB_in (List.mem_append_right _ (List.mem_of_getElem? (i := 1909) (by decide +kernel))) rfl), (bTB_in (List.mem_append_right _ (List.mem_of_getElem? (i := 1910) (by decide +kernel))) rfl), (bTB_in (List.mem_append_right _ (List.mem_of_getElem? (i := 1911) (by decide +kernel))) rfl), (bTB_in (List.mem_append_right _ (List.mem_of_getElem? (i := 17) (by decide +kernel))) rfl), (bTB_in (List.mem_append_right _ (List.mem_of_getElem? (i := 1912) (by decide +kernel))) rfl), by decide, by decide +kernel, by decide +kernel, by decide +kernel⟩
theorem mm_L_180 : bMV RL 180 yX11_happy cX11_happy 4 (some .int) 3 := ⟨(bTB_in (List.mem_append_right _ (List.mem_of_getElem? (i := 1166) (by decide +kernel))) rfl), (bTB_in (List.mem_append_right _ (List.mem_of_getElem? (i := 1167) (by decide +kernel))) rfl), (bTB_in (List.mem_append_right _ (List.mem_of_getElem? (i := 1168) (by decide +kernel))) rfl), (bTB_in (List.mem_append_right _ (List.mem_of_getElem? (i := 1) (by decide +kernel))) rfl), (bTB_in (List.mem_append_right _ (List.mem_of_getElem? (i := 1169) (by decide +kernel))) rfl), by decide, by decide +kernel, by decide +kernel, by decide +kernel⟩
theorem mm_L_183 : bMV RL 183 yX12_happy cX12_happy 5 (some .int) 3 := ⟨(bTB_in (List.mem_append_right _ (List.mem_of_getElem? (i := 1913) (by decide +kernel))) rfl), (bTB_in (List.mem_append_right _ (List.mem_of_getElem? (i := 1914) (by decide +kernel))) rfl), (bTB_in (List.mem_append_right _ (List.mem_of_getElem? (i := 1915) (by decide +kernel))) rfl), (bTB_in (List.mem_append_right _ (List.mem_of_getElem? (i := 17) (by decide +kernel))) rfl), (bTB_in (List.mem_append_right _ (List.mem_of_getElem? (i := 1916) (by decide +kernel))) rfl), by decide, by decide +kernel, by decide +kernel, by decide +kernel⟩
theorem mm_L_184 : bMV RL 184 yX11_sit cX11_sit 3 (some .boolean) 2 := ⟨(bTB_in (List.mem_append_right _ (List.mem_of_getElem? (i := 1170) (by decide +kernel))) rfl), (bTB_in (List.mem_append_right _ (List.mem_of_getElem? (i := 1171) (by decide +kernel))) rfl), (bTB_in (List.mem_append_right _ (List.mem_of_getElem? (i := 1172) (by decide +kernel))) rfl), (bTB_in (List.mem_append_right _ (List.mem_of_getElem? (i := 1) (by decide +kernel))) rfl), (bTB_in (List.mem_append_right _ (List.mem_of_getElem? (i := 1173) (by decide +kernel))) rfl), by decide, by decide +kernel, by decide +kernel, by decide +kernel⟩
theorem mm_L_188 : bMV RL 188 yX12_sit cX12_sit 3 (some .boolean) 2 := ⟨(bTB_in (List.mem_append_right _ (List.mem_of_getElem? (i := 1917) (by decide +kernel))) rfl), (bTB_in (List.mem_append_right _ (List.mem_of_getElem? (i := 1918) (by decide +kernel))) rfl), (bTB_in (List.mem_append_right _ (List.mem_of_getElem? (i := 1919) (by decide +kernel))) rfl), (bTB_in (List.mem_append_right _ (List.mem_of_getElem? (i := 17) (by decide +kernel))) rfl), (bTB_in (List.mem_append_right _ (List.mem_of_getElem? (i := 1920) (by decide +kernel))) rfl), by decide, by decide +kernel, by decide +kernel, by decide +kernel⟩
theorem mm_L_189 : bMV RL 189 yX11_stand cX11_stand 2 (some .boolean) 1 := ⟨(bTB_in (List.mem_append_right _ (List.mem_of_getElem? (i := 1192) (by decide +kernel))) rfl), (bTB_in (List.mem_append_right _ (List.mem_of_getElem? (i := 1193) (by decide +kernel))) rfl), (bTB_in (List.mem_append_right _ (List.mem_of_getElem? (i := 1194) (by decide +kernel))) rfl), (bTB_in (List.mem_append_right _ (List.mem_of_getElem? (i := 1) (by decide +kernel))) rfl), (bTB_in (List.mem_append_right _ (List.mem_of_getElem? (i := 1195) (by decide +kernel))) rfl), by decide, by decide +kernel, by decide +kernel, by decide +kernel⟩
theorem mm_L_193 : bMV RL 193 yX12_stand cX12_stand 2 (some .boolean) 1 := ⟨(bTB_in (List.mem_append_right _ (List.mem_of_getElem? (i := 1929) (by decide +kernel))) rfl), (bTB_in (List.mem_append_right _ (List.mem_of_getElem? (i := 1930) (by decide +kernel))) rfl), (bTB_in (List.mem_append_right _ (List.mem_of_getElem? (i := 1931) (by decide +kernel))) rfl), (bTB_in (List.mem_append_right _ (List.mem_of_getElem? (i := 17) (by decide +kernel))) rfl), (bTB_in (List.mem_append_right _ (List.mem_of_getElem? (i := 1932) (by decide +kernel))) rfl), by decide, by decide +kernel, by decide +kernel, by decide +kernel⟩
theorem mm_L_194 : bMV RL 194 yX11_preach cX11_preach 3 (some .boolean) 2 := ⟨(bTB_in (List.mem_append_right _ (List.mem_of_getElem? (i := 1196) (by decide +kernel))) rfl), (bTB_in (List.mem_append_right _ (List.mem_of_getElem? (i := 1197) (by decide +kernel))) rfl), (bTB_in (List.mem_append_right _ (List.mem_of_getElem? (i := 1198) (by decide +kernel))) rfl), (bTB_in (List.mem_append_right _ (List.mem_of_getElem? (i := 1) (by decide +kernel))) rfl), (bTB_in (List.mem_append_right _ (List.mem_of_getElem? (i := 1199) (by decide +kernel))) rfl), by decide, by decide +kernel, by decide +kernel, by decide +kernel⟩
theorem mm_L_197 : bMV RL 197 yX12_preach cX12_preach 3 (some .boolean) 2 := ⟨(bTB_in (List.mem_append_right _ (List.mem_of_getElem? (i := 1933) (by decide +kernel))) rfl), (bTB_in (List.mem_append_right _ (List.mem_of_getElem? (i := 1934) (by decide +kernel))) rfl), (bTB_in (List.mem_append_right _ (List.mem_of_getElem? (i := 1935) (by decide +kernel))) rfl), (bTB_in (List.mem_append_right _ (List.mem_of_getElem? (i := 17) (by decide +kernel))) rfl), (bTB_in (List.mem_append_right _ (List.mem_of_getElem? (i := 1936) (by decide +kernel))) rfl), by decide, by decide +kernel, by decide +kernel, by decide +kernel⟩
theorem mm_L_198 : bMV RL 198 yX11_round cX11_round 2 (some .int) 0 := ⟨(bTB_in (List.mem_append_right _ (List.mem_of_getElem? (i := 1200) (by decide +kernel))) rfl), (bTB_in (List.mem_append_right _ (List.mem_of_getElem? (i := 1201) (by decide +kernel))) rfl), (bTB_in (List.mem_append_right _ (List.mem_of_getElem? (i := 1202) (by decide +kernel))) rfl), (bTB_in (List.mem_append_right _ (List.mem_of_getElem? (i := 1) (by decide +kernel))) rfl), (bTB_in (List.mem_append_right _ (List.mem_of_getElem? (i := 1203) (by decide +kernel))) rfl), by decide, by decide +kernel, by decide +kernel, by decide +kernel⟩
theorem mm_L_201 : bMV RL 201 yX12_round cX12_round 1 (some .int) 0 := ⟨(bTB_in (List.mem_append_right _ (List.mem_of_getElem? (i := 1937) (by decide +kernel))) rfl), (bTB_in (List.mem_append_right _ (List.mem_of_getElem? (i := 1938) (by decide +kernel))) rfl), (bTB_in (List.mem_append_right _ (List.mem_of_getElem? (i := 1939) (by decide +kernel))) rfl), (bTB_in (List.mem_append_right _ (List.mem_of_getElem? (i := 17) (by decide +kernel))) rfl), (bTB_in (List.mem_append_right _ (List.mem_of_getElem? (i := 1940) (by decide +kernel))) rfl), by decide, by decide +kernel, by decide +kernel, by decide +kernel⟩
theorem mm_L_202 : bMV RL 202 yX11_day cX11_day 2 (some .int) 0 := ⟨(bTB_in (List.mem_append_right _ (List.mem_of_getElem? (i := 1209) (by decide +kernel))) rfl), (bTB_in (List.mem_append_right _ (List.mem_of_getElem? (i := 1210) (by decide +kernel))) rfl), (bTB_in (List.mem_append_right _ (List.mem_of_getElem? (i := 1211) (by decide +kernel))) rfl), (bTB_in (List.mem_append_right _ (List.mem_of_getElem? (i := 1) (by decide +kernel))) rfl), (bTB_in (List.mem_append_right _ (List.mem_of_getElem? (i := 1212) (by decide +kernel))) rfl), by decide, by decide +kernel, by decide +kernel, by decide +kernel⟩
theorem mm_L_205 : bMV RL 205 yX12_day cX12_day 2 (some .int) 0 := ⟨(bTB_in (List.mem_append_right _ (List.mem_of_getElem? (i := 1941) (by decide +kernel))) rfl), (bTB_in (List.mem_append_right _ (List.mem_of_getElem? (i := 1942) (by decide +kernel))) rfl), (bTB_in (List.mem_append_right _ (List.mem_of_getElem? (i := 1943) (by decide +kernel))) rfl), (bTB_in (List.mem_append_right _ (List.mem_of_getElem? (i := 17) (by decide +kernel))) rfl), (bTB_in (List.mem_append_right _ (List.mem_of_getElem? (i := 1944) (by decide +kernel))) rfl), by decide, by decide +kernel, by decide +kernel, by decide +kernel⟩
theorem mm_L_206 : bMV RL 206 yX11_undo cX11_undo 1 (some .boolean) 0 := ⟨(bTB_in (List.mem_append_right _ (List.mem_of_getElem? (i := 1218) (by decide +kernel))) rfl), (bTB_in (List.mem_append_right _ (List.mem_of_getElem? (i := 1219) (by decide +kernel))) rfl), (bTB_in (List.mem_append_right _ (List.mem_of_getElem? (i := 1220) (by decide +kernel))) rfl), (bTB_in (List.mem_append_right _ (List.mem_of_getElem? (i := 1) (by decide +kernel))) rfl), (bTB_in (List.mem_append_right _ (List.mem_of_getElem? (i := 1221) (by decide +kernel))) rfl), by decide, by decide +kernel, by decide +kernel, by decide +kernel⟩
theorem mm_L_210 : bMV RL 210 yX12_undo cX12_undo 1 (some .boolean) 0 := ⟨(bTB_in (List.mem_append_right _ (List.mem_of_getElem? (i := 1945) (by decide +kernel))) rfl), (bTB_in (List.mem_append_right _ (List.mem_of_getElem? (i := 1946) (by decide +kernel))) rfl), (bTB_in (List.mem_append_right _ (List.mem_of_getElem? (i := 1947) (by decide +kernel))) rfl), (bTB_in (List.mem_append_right _ (List.mem_of_getElem? (i := 17) (by decide +kernel))) rfl), (bTB_in (List.mem_append_right _ (List.mem_of_getElem? (i := 1948) (by decide +kernel))) rfl), by decide, by decide +kernel, by decide +kernel, by decide +kernel⟩
theorem mm_L_211 : bMV RL 211 yX11_image cX11_image 1 (some .int) 0 := ⟨(bTB_in (List.mem_append_right _ (List.mem_of_getElem? (i := 1230) (by decide +kernel))) rfl), (bTB_in (List.mem_append_right _ (List.mem_of_getElem? (i := 1231) (by decide +kernel))) rfl), (bTB_in (List.mem_append_right _ (List.mem_of_getElem? (i := 1232) (by decide +kernel))) rfl), (bTB_in (List.mem_append_right _ (List.mem_of_getElem? (i := 1) (by decide +kernel))) rfl), (bTB_in (List.mem_append_right _ (List.mem_of_getElem? (i := 1233) (by decide +kernel))) rfl), by decide, by decide +kernel, by decide +kernel, by decide +kernel⟩
theorem mm_L_214 : bMV RL 214 yX12_image cX12_image 1 (some .int) 0 := ⟨(bTB_in (List.mem_append_right _ (List.mem_of_getElem? (i := 1949) (by decide +kernel))) rfl), (bTB_in (List.mem_append_right _ (List.mem_of_getElem? (i := 1950) (by decide +kernel))) rfl), (bTB_in (List.mem_append_right _ (List.mem_of_getElem? (i := 1951) (by decide +kernel))) rfl), (bTB_in (List.mem_append_right _ (List.mem_of_getElem? (i := 17) (by decide +kernel))) rfl), (bTB_in (List.mem_append_right _ (List.mem_of_getElem? (i := 1952) (by decide +kernel))) rfl), by decide, by decide +kernel, by decide +kernel, by decide +kernel⟩
theorem mm_L_215 : bMV RL 215 yX11_back cX11_back 2 (some .boolean) 1 := ⟨(bTB_in (List.mem_append_right _ (List.mem_of_getElem? (i := 1238) (by decide +kernel))) rfl), (bTB_in (List.mem_append_right _ (List.mem_of_getElem? (i := 1239) (by decide +kernel))) rfl), (bTB_in (List.mem_append_right _ (List.mem_of_getElem? (i := 1240) (by decide +kernel))) rfl), (bTB_in (List.mem_append_right _ (List.mem_of_getElem? (i := 1) (by decide +kernel))) rfl), (bTB_in (List.mem_append_right _ (List.mem_of_getElem? (i := 1241) (by decide +kernel))) rfl), by decide, by decide +kernel, by decide +kernel, by decide +kernel⟩
theorem mm_L_218 : bMV RL 218 yX12_back cX12_back 2 (some .boolean) 1 := ⟨(bTB_in (List.mem_append_right _ (List.mem_of_getElem? (i := 1953) (by decide +kernel))) rfl), (bTB_in (List.mem_append_right _ (List.mem_of_getElem? (i := 1954) (by decide +kernel))) rfl), (bTB_in (List.mem_append_right _ (List.mem_of_getElem? (i := 1955) (by decide +kernel))) rfl), (bTB_in (List.mem_append_right _ (List.mem_of_getElem? (i := 17) (by decide +kernel))) rfl), (bTB_in (List.mem_append_right _ (List.mem_of_getElem? (i := 1956) (by decide +kernel))) rfl), by decide, by decide +kernel, by decide +kernel, by decide +kernel⟩
theorem mm_L_228 : bMV RL 228 yX11_size cX11_size 2 (some .int) 1 := ⟨(bTB_in (List.mem_append_right _ (List.mem_of_getElem? (i := 1246) (by decide +kernel))) rfl), (bTB_in (List.mem_append_right _ (List.mem_of_getElem? (i := 1247) (by decide +kernel))) rfl), (bTB_in (List.mem_append_right _ (List.mem_of_getElem? (i := 1248) (by decide +kernel))) rfl), (bTB_in (List.mem_append_right _ (List.mem_of_getElem? (i := 1) (by decide +kernel))) rfl), (bTB_in (List.mem_append_right _ (List.mem_of_getElem? (i := 1249) (by decide +kernel))) rfl), by decide, by decide +kernel, by decide +kernel, by decide +kernel⟩
theorem mm_L_231 : bMV RL 231 yX12_size cX12_size 2 (some .int) 1 := ⟨(bTB_in (List.mem_append_right _ (List.mem_of_getElem? (i := 1961) (by decide +kernel))) rfl), (bTB_in (List.mem_append_right _ (List.mem_of_getElem? (i := 1962) (by decide +kernel))) rfl), (bTB_in (List.mem_append_right _ (List.mem_of_getElem? (i := 1963) (by decide +kernel))) rfl), (bTB_in (List.mem_append_right _ (List.mem_of_getElem? (i := 17) (by decide +kernel))) rfl), (bTB_in (List.mem_append_right _ (List.mem_of_getElem? (i := 1964) (by decide +kernel))) rfl), by decide, by decide +kernel, by decide +kernel, by decide +kernel⟩
theorem mm_L_232 : bMV RL 232 yX11_trouble cX11_trouble 1 (some .int) 0 := ⟨(bTB_in (List.mem_append_right _ (List.mem_of_getElem? (i := 1254) (by decide +kernel))) rfl), (bTB_in (List.mem_append_right _ (List.mem_of_getElem? (i := 1255) (by decide +kernel))) rfl), (bTB_in (List.mem_append_right _ (List.mem_of_getElem? (i := 1256) (by decide +kernel))) rfl), (bTB_in (List.mem_append_right _ (List.mem_of_getElem? (i := 1) (by decide +kernel))) rfl), (bTB_in (List.mem_append_right _ (List.mem_of_getElem? (i := 1257) (by decide +kernel))) rfl), by decide, by decide +kernel, by decide +kernel, by decide +kernel⟩
theorem mm_L_235 : bMV RL 235 yX12_trouble cX12_trouble 1 (some .int) 0 := ⟨(bTB_in (List.mem_append_right _ (List.mem_of_getElem? (i := 1965) (by decide +kernel))) rfl), (bTB_in (List.mem_append_right _ (List.mem_of_getElem? (i := 1966) (by decide +kernel))) rfl), (bTB_in (List.mem_append_right _ (List.mem_of_getElem? (i := 1967) (by decide +kernel))) rfl), (bTB_in (List.mem_append_right _ (List.mem_of_getElem? (i := 17) (by decide +kernel))) rfl), (bTB_in (List.mem_append_right _ (List.mem_of_getElem? (i := 1968) (by decide +kernel))) rfl), by decide, by decide +kernel, by decide +kernel, by decide +kernel⟩
set_option maxHeartbeats 4000000 in
set_option maxRecDepth 20000 in
theorem q_law_0 {X : bX} {l : Launch} {G : bG} {ρ : Nat → Nat} {A : Nat → Prop} {L i : Nat} {xs : Nat → Int32} (C : bCX X cL_law RL 800) (Hh : bH X l G bSHf ρ A 7) (hX : bSX X 500 L xs) (hL : L ≤ 3072) (hi : i + 6 ≤ L) {σ : bSto} (hI : INV σ) (K : ∀ σ2, INV σ2 → bAJ X 1558 [(0, .ref 500), (1, .ref 0), (2, .ref 92), (3, .ref 110), (4, .int (nI i))] [] σ2) : bAJ X 260 [(0, .ref 500), (1, .ref 0), (2, .ref 92), (3, .ref 110), (4, .int (nI i))] [] σ := by
  obtain ⟨r, σ1, σ2, h1, h2, hI2⟩ := o_feed hI (xs (i + 1)) (xs (i + 2)) (xs (i + 3)) (xs (i + 4)) (xs (i + 5))
  refine b_aload_n (pc := 260) C dL_law_260 rfl 1 rfl ?_
  refine b_aload_n (pc := 261) C dL_law_261 rfl 0 rfl ?_
  refine b_iload (pc := 262) C dL_law_262 4 rfl ?_
  refine b_iconst (pc := 264) C dL_law_264 ic_1 ?_
  refine b_iadd (pc := 265) C dL_law_265 ?_
  refine b_sldL (pc := 266) C dL_law_266 hX hL (q_add i 1) (by omega) ?_
  refine b_aload_n (pc := 267) C dL_law_267 rfl 0 rfl ?_
  refine b_iload (pc := 268) C dL_law_268 4 rfl ?_
  refine b_iconst (pc := 270) C dL_law_270 ic_2 ?_
  refine b_iadd (pc := 271) C dL_law_271 ?_
  refine b_sldL (pc := 272) C dL_law_272 hX hL (q_add i 2) (by omega) ?_
  refine b_aload_n (pc := 273) C dL_law_273 rfl 0 rfl ?_
  refine b_iload (pc := 274) C dL_law_274 4 rfl ?_
  refine b_iconst (pc := 276) C dL_law_276 ic_3 ?_
  refine b_iadd (pc := 277) C dL_law_277 ?_
  refine b_sldL (pc := 278) C dL_law_278 hX hL (q_add i 3) (by omega) ?_
  refine b_aload_n (pc := 279) C dL_law_279 rfl 0 rfl ?_
  refine b_iload (pc := 280) C dL_law_280 4 rfl ?_
  refine b_iconst (pc := 282) C dL_law_282 ic_4 ?_
  refine b_iadd (pc := 283) C dL_law_283 ?_
  refine b_sldL (pc := 284) C dL_law_284 hX hL (q_add i 4) (by omega) ?_
  refine b_aload_n (pc := 285) C dL_law_285 rfl 0 rfl ?_
  refine b_iload (pc := 286) C dL_law_286 4 rfl ?_
  refine b_iconst (pc := 288) C dL_law_288 ic_5 ?_
  refine b_iadd (pc := 289) C dL_law_289 ?_
  refine b_sldL (pc := 290) C dL_law_290 hX hL (q_add i 5) (by omega) ?_
  refine b_cV5i (pc := 291) C dL_law_291 mm_L_19 (Hh.1 _ _ sh_0) rfl (Nat.le_of_ble_eq_true rfl) (by omega) (Hh.2.2 _ _ _ _ _ _ _ _ _ (e_X11_feed 0 _ _ _ _ _ _ _ _ h1)) ?_
  refine b_aload_n (pc := 294) C dL_law_294 rfl 2 rfl ?_
  refine b_aload_n (pc := 295) C dL_law_295 rfl 0 rfl ?_
  refine b_iload (pc := 296) C dL_law_296 4 rfl ?_
  refine b_iconst (pc := 298) C dL_law_298 ic_1 ?_
  refine b_iadd (pc := 299) C dL_law_299 ?_
  refine b_sldL (pc := 300) C dL_law_300 hX hL (q_add i 1) (by omega) ?_
  refine b_aload_n (pc := 301) C dL_law_301 rfl 0 rfl ?_
  refine b_iload (pc := 302) C dL_law_302 4 rfl ?_
  refine b_iconst (pc := 304) C dL_law_304 ic_2 ?_
  refine b_iadd (pc := 305) C dL_law_305 ?_
  refine b_sldL (pc := 306) C dL_law_306 hX hL (q_add i 2) (by omega) ?_
  refine b_aload_n (pc := 307) C dL_law_307 rfl 0 rfl ?_
  refine b_iload (pc := 308) C dL_law_308 4 rfl ?_
  refine b_iconst (pc := 310) C dL_law_310 ic_3 ?_
  refine b_iadd (pc := 311) C dL_law_311 ?_
  refine b_sldL (pc := 312) C dL_law_312 hX hL (q_add i 3) (by omega) ?_
  refine b_aload_n (pc := 313) C dL_law_313 rfl 0 rfl ?_
  refine b_iload (pc := 314) C dL_law_314 4 rfl ?_
  refine b_iconst (pc := 316) C dL_law_316 ic_4 ?_
  refine b_iadd (pc := 317) C dL_law_317 ?_
  refine b_sldL (pc := 318) C dL_law_318 hX hL (q_add i 4) (by omega) ?_
  refine b_aload_n (pc := 319) C dL_law_319 rfl 0 rfl ?_
  refine b_iload (pc := 320) C dL_law_320 4 rfl ?_
  refine b_iconst (pc := 322) C dL_law_322 ic_5 ?_
  refine b_iadd (pc := 323) C dL_law_323 ?_
  refine b_sldL (pc := 324) C dL_law_324 hX hL (q_add i 5) (by omega) ?_
  refine b_cV5i (pc := 325) C dL_law_325 mm_L_23 (Hh.1 _ _ sh_92) rfl (Nat.le_of_ble_eq_true rfl) (by omega) (Hh.2.2 _ _ _ _ _ _ _ _ _ (e_X12_feed 0 _ _ _ _ _ _ _ _ h2)) ?_
  exact b_icmp_eq (tgt := 1558) (pc := 328) C dL_law_328 rfl (fun _ => K _ hI2) (fun z => absurd rfl z)
set_option maxHeartbeats 4000000 in
set_option maxRecDepth 20000 in
theorem q_law_1 {X : bX} {l : Launch} {G : bG} {ρ : Nat → Nat} {A : Nat → Prop} {L i : Nat} {xs : Nat → Int32} (C : bCX X cL_law RL 800) (Hh : bH X l G bSHf ρ A 7) (hX : bSX X 500 L xs) (hL : L ≤ 3072) (hi : i + 6 ≤ L) {σ : bSto} (hI : INV σ) (K : ∀ σ2, INV σ2 → bAJ X 1558 [(0, .ref 500), (1, .ref 0), (2, .ref 92), (3, .ref 110), (4, .int (nI i))] [] σ2) : bAJ X 333 [(0, .ref 500), (1, .ref 0), (2, .ref 92), (3, .ref 110), (4, .int (nI i))] [] σ := by
  obtain ⟨r, σ1, σ2, h1, h2, hI2⟩ := o_room hI (xs (i + 1))
  refine b_aload_n (pc := 333) C dL_law_333 rfl 1 rfl ?_
  refine b_aload_n (pc := 334) C dL_law_334 rfl 0 rfl ?_
  refine b_iload (pc := 335) C dL_law_335 4 rfl ?_
  refine b_iconst (pc := 337) C dL_law_337 ic_1 ?_
  refine b_iadd (pc := 338) C dL_law_338 ?_
  refine b_sldL (pc := 339) C dL_law_339 hX hL (q_add i 1) (by omega) ?_
  refine b_cV1i (pc := 340) C dL_law_340 mm_L_24 (Hh.1 _ _ sh_0) rfl (Nat.le_of_ble_eq_true rfl) (by omega) (Hh.2.2 _ _ _ _ _ _ _ _ _ (e_X11_room 0 _ _ _ _ h1)) ?_
  refine b_aload_n (pc := 343) C dL_law_343 rfl 2 rfl ?_
  refine b_aload_n (pc := 344) C dL_law_344 rfl 0 rfl ?_
  refine b_iload (pc := 345) C dL_law_345 4 rfl ?_
  refine b_iconst (pc := 347) C dL_law_347 ic_1 ?_
  refine b_iadd (pc := 348) C dL_law_348 ?_
  refine b_sldL (pc := 349) C dL_law_349 hX hL (q_add i 1) (by omega) ?_
  refine b_cV1i (pc := 350) C dL_law_350 mm_L_27 (Hh.1 _ _ sh_92) rfl (Nat.le_of_ble_eq_true rfl) (by omega) (Hh.2.2 _ _ _ _ _ _ _ _ _ (e_X12_room 0 _ _ _ _ h2)) ?_
  exact b_icmp_eq (tgt := 1558) (pc := 353) C dL_law_353 rfl (fun _ => K _ hI2) (fun z => absurd rfl z)
set_option maxHeartbeats 4000000 in
set_option maxRecDepth 20000 in
theorem q_law_2 {X : bX} {l : Launch} {G : bG} {ρ : Nat → Nat} {A : Nat → Prop} {L i : Nat} {xs : Nat → Int32} (C : bCX X cL_law RL 800) (Hh : bH X l G bSHf ρ A 7) (hX : bSX X 500 L xs) (hL : L ≤ 3072) (hi : i + 6 ≤ L) {σ : bSto} (hI : INV σ) (K : ∀ σ2, INV σ2 → bAJ X 1558 [(0, .ref 500), (1, .ref 0), (2, .ref 92), (3, .ref 110), (4, .int (nI i))] [] σ2) : bAJ X 358 [(0, .ref 500), (1, .ref 0), (2, .ref 92), (3, .ref 110), (4, .int (nI i))] [] σ := by
  obtain ⟨r, σ1, σ2, h1, h2, hI2⟩ := o_fault hI 
  refine b_aload_n (pc := 358) C dL_law_358 rfl 1 rfl ?_
  refine b_cV0i (pc := 359) C dL_law_359 mm_L_28 (Hh.1 _ _ sh_0) rfl (Nat.le_of_ble_eq_true rfl) (by omega) (Hh.2.2 _ _ _ _ _ _ _ _ _ (e_X11_fault 0 _ _ _ h1)) ?_
  refine b_aload_n (pc := 362) C dL_law_362 rfl 2 rfl ?_
  refine b_cV0i (pc := 363) C dL_law_363 mm_L_32 (Hh.1 _ _ sh_92) rfl (Nat.le_of_ble_eq_true rfl) (by omega) (Hh.2.2 _ _ _ _ _ _ _ _ _ (e_X12_fault 0 _ _ _ h2)) ?_
  exact b_icmp_eq (tgt := 1558) (pc := 366) C dL_law_366 rfl (fun _ => K _ hI2) (fun z => absurd rfl z)
set_option maxHeartbeats 4000000 in
set_option maxRecDepth 20000 in
theorem q_law_3 {X : bX} {l : Launch} {G : bG} {ρ : Nat → Nat} {A : Nat → Prop} {L i : Nat} {xs : Nat → Int32} (C : bCX X cL_law RL 800) (Hh : bH X l G bSHf ρ A 7) (hX : bSX X 500 L xs) (hL : L ≤ 3072) (hi : i + 6 ≤ L) {σ : bSto} (hI : INV σ) (K : ∀ σ2, INV σ2 → bAJ X 1558 [(0, .ref 500), (1, .ref 0), (2, .ref 92), (3, .ref 110), (4, .int (nI i))] [] σ2) : bAJ X 371 [(0, .ref 500), (1, .ref 0), (2, .ref 92), (3, .ref 110), (4, .int (nI i))] [] σ := by
  obtain ⟨r, σ1, σ2, h1, h2, hI2⟩ := o_where hI 
  refine b_aload_n (pc := 371) C dL_law_371 rfl 1 rfl ?_
  refine b_cV0i (pc := 372) C dL_law_372 mm_L_33 (Hh.1 _ _ sh_0) rfl (Nat.le_of_ble_eq_true rfl) (by omega) (Hh.2.2 _ _ _ _ _ _ _ _ _ (e_X11_where 0 _ _ _ h1)) ?_
  refine b_aload_n (pc := 375) C dL_law_375 rfl 2 rfl ?_
  refine b_cV0i (pc := 376) C dL_law_376 mm_L_36 (Hh.1 _ _ sh_92) rfl (Nat.le_of_ble_eq_true rfl) (by omega) (Hh.2.2 _ _ _ _ _ _ _ _ _ (e_X12_where 0 _ _ _ h2)) ?_
  exact b_icmp_eq (tgt := 1558) (pc := 379) C dL_law_379 rfl (fun _ => K _ hI2) (fun z => absurd rfl z)
set_option maxHeartbeats 4000000 in
set_option maxRecDepth 20000 in
theorem q_law_4 {X : bX} {l : Launch} {G : bG} {ρ : Nat → Nat} {A : Nat → Prop} {L i : Nat} {xs : Nat → Int32} (C : bCX X cL_law RL 800) (Hh : bH X l G bSHf ρ A 7) (hX : bSX X 500 L xs) (hL : L ≤ 3072) (hi : i + 6 ≤ L) {σ : bSto} (hI : INV σ) (K : ∀ σ2, INV σ2 → bAJ X 1558 [(0, .ref 500), (1, .ref 0), (2, .ref 92), (3, .ref 110), (4, .int (nI i))] [] σ2) : bAJ X 384 [(0, .ref 500), (1, .ref 0), (2, .ref 92), (3, .ref 110), (4, .int (nI i))] [] σ := by
  obtain ⟨r, σ1, σ2, h1, h2, hI2⟩ := o_bench hI (xs (i + 1)) (xs (i + 2))
  refine b_aload_n (pc := 384) C dL_law_384 rfl 1 rfl ?_
  refine b_aload_n (pc := 385) C dL_law_385 rfl 0 rfl ?_
  refine b_iload (pc := 386) C dL_law_386 4 rfl ?_
  refine b_iconst (pc := 388) C dL_law_388 ic_1 ?_
  refine b_iadd (pc := 389) C dL_law_389 ?_
  refine b_sldL (pc := 390) C dL_law_390 hX hL (q_add i 1) (by omega) ?_
  refine b_aload_n (pc := 391) C dL_law_391 rfl 0 rfl ?_
  refine b_iload (pc := 392) C dL_law_392 4 rfl ?_
  refine b_iconst (pc := 394) C dL_law_394 ic_2 ?_
  refine b_iadd (pc := 395) C dL_law_395 ?_
  refine b_sldL (pc := 396) C dL_law_396 hX hL (q_add i 2) (by omega) ?_
  refine b_cV2i (pc := 397) C dL_law_397 mm_L_37 (Hh.1 _ _ sh_0) rfl (Nat.le_of_ble_eq_true rfl) (by omega) (Hh.2.2 _ _ _ _ _ _ _ _ _ (e_X11_bench 0 _ _ _ _ _ h1)) ?_
  refine b_aload_n (pc := 400) C dL_law_400 rfl 2 rfl ?_
  refine b_aload_n (pc := 401) C dL_law_401 rfl 0 rfl ?_
  refine b_iload (pc := 402) C dL_law_402 4 rfl ?_
  refine b_iconst (pc := 404) C dL_law_404 ic_1 ?_
  refine b_iadd (pc := 405) C dL_law_405 ?_
  refine b_sldL (pc := 406) C dL_law_406 hX hL (q_add i 1) (by omega) ?_
  refine b_aload_n (pc := 407) C dL_law_407 rfl 0 rfl ?_
  refine b_iload (pc := 408) C dL_law_408 4 rfl ?_
  refine b_iconst (pc := 410) C dL_law_410 ic_2 ?_
  refine b_iadd (pc := 411) C dL_law_411 ?_
  refine b_sldL (pc := 412) C dL_law_412 hX hL (q_add i 2) (by omega) ?_
  refine b_cV2i (pc := 413) C dL_law_413 mm_L_41 (Hh.1 _ _ sh_92) rfl (Nat.le_of_ble_eq_true rfl) (by omega) (Hh.2.2 _ _ _ _ _ _ _ _ _ (e_X12_bench 0 _ _ _ _ _ h2)) ?_
  exact b_icmp_eq (tgt := 1558) (pc := 416) C dL_law_416 rfl (fun _ => K _ hI2) (fun z => absurd rfl z)
set_option maxHeartbeats 4000000 in
set_option maxRecDepth 20000 in
theorem q_law_5 {X : bX} {l : Launch} {G : bG} {ρ : Nat → Nat} {A : Nat → Prop} {L i : Nat} {xs : Nat → Int32} (C : bCX X cL_law RL 800) (Hh : bH X l G bSHf ρ A 7) (hX : bSX X 500 L xs) (hL : L ≤ 3072) (hi : i + 6 ≤ L) {σ : bSto} (hI : INV σ) (K : ∀ σ2, INV σ2 → bAJ X 1558 [(0, .ref 500), (1, .ref 0), (2, .ref 92), (3, .ref 110), (4, .int (nI i))] [] σ2) : bAJ X 421 [(0, .ref 500), (1, .ref 0), (2, .ref 92), (3, .ref 110), (4, .int (nI i))] [] σ := by
  obtain ⟨r, σ1, σ2, h1, h2, hI2⟩ := o_person hI (xs (i + 1)) (xs (i + 2))
  refine b_aload_n (pc := 421) C dL_law_421 rfl 1 rfl ?_
  refine b_aload_n (pc := 422) C dL_law_422 rfl 0 rfl ?_
  refine b_iload (pc := 423) C dL_law_423 4 rfl ?_
  refine b_iconst (pc := 425) C dL_law_425 ic_1 ?_
  refine b_iadd (pc := 426) C dL_law_426 ?_
  refine b_sldL (pc := 427) C dL_law_427 hX hL (q_add i 1) (by omega) ?_
  refine b_aload_n (pc := 428) C dL_law_428 rfl 0 rfl ?_
  refine b_iload (pc := 429) C dL_law_429 4 rfl ?_
  refine b_iconst (pc := 431) C dL_law_431 ic_2 ?_
  refine b_iadd (pc := 432) C dL_law_432 ?_
  refine b_sldL (pc := 433) C dL_law_433 hX hL (q_add i 2) (by omega) ?_
  refine b_cV2i (pc := 434) C dL_law_434 mm_L_42 (Hh.1 _ _ sh_0) rfl (Nat.le_of_ble_eq_true rfl) (by omega) (Hh.2.2 _ _ _ _ _ _ _ _ _ (e_X11_person 0 _ _ _ _ _ h1)) ?_
  refine b_aload_n (pc := 437) C dL_law_437 rfl 2 rfl ?_
  refine b_aload_n (pc := 438) C dL_law_438 rfl 0 rfl ?_
  refine b_iload (pc := 439) C dL_law_439 4 rfl ?_
  refine b_iconst (pc := 441) C dL_law_441 ic_1 ?_
  refine b_iadd (pc := 442) C dL_law_442 ?_
  refine b_sldL (pc := 443) C dL_law_443 hX hL (q_add i 1) (by omega) ?_
  refine b_aload_n (pc := 444) C dL_law_444 rfl 0 rfl ?_
  refine b_iload (pc := 445) C dL_law_445 4 rfl ?_
  refine b_iconst (pc := 447) C dL_law_447 ic_2 ?_
  refine b_iadd (pc := 448) C dL_law_448 ?_
  refine b_sldL (pc := 449) C dL_law_449 hX hL (q_add i 2) (by omega) ?_
  refine b_cV2i (pc := 450) C dL_law_450 mm_L_45 (Hh.1 _ _ sh_92) rfl (Nat.le_of_ble_eq_true rfl) (by omega) (Hh.2.2 _ _ _ _ _ _ _ _ _ (e_X12_person 0 _ _ _ _ _ h2)) ?_
  exact b_icmp_eq (tgt := 1558) (pc := 453) C dL_law_453 rfl (fun _ => K _ hI2) (fun z => absurd rfl z)
set_option maxHeartbeats 4000000 in
set_option maxRecDepth 20000 in
theorem q_law_6 {X : bX} {l : Launch} {G : bG} {ρ : Nat → Nat} {A : Nat → Prop} {L i : Nat} {xs : Nat → Int32} (C : bCX X cL_law RL 800) (Hh : bH X l G bSHf ρ A 7) (hX : bSX X 500 L xs) (hL : L ≤ 3072) (hi : i + 6 ≤ L) {σ : bSto} (hI : INV σ) (K : ∀ σ2, INV σ2 → bAJ X 1558 [(0, .ref 500), (1, .ref 0), (2, .ref 92), (3, .ref 110), (4, .int (nI i))] [] σ2) : bAJ X 458 [(0, .ref 500), (1, .ref 0), (2, .ref 92), (3, .ref 110), (4, .int (nI i))] [] σ := by
  obtain ⟨r, σ1, σ2, h1, h2, hI2⟩ := o_may hI (xs (i + 1)) (xs (i + 2))
  refine b_aload_n (pc := 458) C dL_law_458 rfl 1 rfl ?_
  refine b_aload_n (pc := 459) C dL_law_459 rfl 0 rfl ?_
  refine b_iload (pc := 460) C dL_law_460 4 rfl ?_
  refine b_iconst (pc := 462) C dL_law_462 ic_1 ?_
  refine b_iadd (pc := 463) C dL_law_463 ?_
  refine b_sldL (pc := 464) C dL_law_464 hX hL (q_add i 1) (by omega) ?_
  refine b_aload_n (pc := 465) C dL_law_465 rfl 0 rfl ?_
  refine b_iload (pc := 466) C dL_law_466 4 rfl ?_
  refine b_iconst (pc := 468) C dL_law_468 ic_2 ?_
  refine b_iadd (pc := 469) C dL_law_469 ?_
  refine b_sldL (pc := 470) C dL_law_470 hX hL (q_add i 2) (by omega) ?_
  refine b_cV2i (pc := 471) C dL_law_471 mm_L_46 (Hh.1 _ _ sh_0) rfl (Nat.le_of_ble_eq_true rfl) (by omega) (Hh.2.2 _ _ _ _ _ _ _ _ _ (e_X11_may 0 _ _ _ _ _ h1)) ?_
  refine b_aload_n (pc := 474) C dL_law_474 rfl 2 rfl ?_
  refine b_aload_n (pc := 475) C dL_law_475 rfl 0 rfl ?_
  refine b_iload (pc := 476) C dL_law_476 4 rfl ?_
  refine b_iconst (pc := 478) C dL_law_478 ic_1 ?_
  refine b_iadd (pc := 479) C dL_law_479 ?_
  refine b_sldL (pc := 480) C dL_law_480 hX hL (q_add i 1) (by omega) ?_
  refine b_aload_n (pc := 481) C dL_law_481 rfl 0 rfl ?_
  refine b_iload (pc := 482) C dL_law_482 4 rfl ?_
  refine b_iconst (pc := 484) C dL_law_484 ic_2 ?_
  refine b_iadd (pc := 485) C dL_law_485 ?_
  refine b_sldL (pc := 486) C dL_law_486 hX hL (q_add i 2) (by omega) ?_
  refine b_cV2i (pc := 487) C dL_law_487 mm_L_49 (Hh.1 _ _ sh_92) rfl (Nat.le_of_ble_eq_true rfl) (by omega) (Hh.2.2 _ _ _ _ _ _ _ _ _ (e_X12_may 0 _ _ _ _ _ h2)) ?_
  exact b_icmp_eq (tgt := 1558) (pc := 490) C dL_law_490 rfl (fun _ => K _ hI2) (fun z => absurd rfl z)
set_option maxHeartbeats 4000000 in
set_option maxRecDepth 20000 in
theorem q_law_7 {X : bX} {l : Launch} {G : bG} {ρ : Nat → Nat} {A : Nat → Prop} {L i : Nat} {xs : Nat → Int32} (C : bCX X cL_law RL 800) (Hh : bH X l G bSHf ρ A 7) (hX : bSX X 500 L xs) (hL : L ≤ 3072) (hi : i + 6 ≤ L) {σ : bSto} (hI : INV σ) (K : ∀ σ2, INV σ2 → bAJ X 1558 [(0, .ref 500), (1, .ref 0), (2, .ref 92), (3, .ref 110), (4, .int (nI i))] [] σ2) : bAJ X 495 [(0, .ref 500), (1, .ref 0), (2, .ref 92), (3, .ref 110), (4, .int (nI i))] [] σ := by
  obtain ⟨r, σ1, σ2, h1, h2, hI2⟩ := o_content hI 
  refine b_aload_n (pc := 495) C dL_law_495 rfl 1 rfl ?_
  refine b_cV0i (pc := 496) C dL_law_496 mm_L_50 (Hh.1 _ _ sh_0) rfl (Nat.le_of_ble_eq_true rfl) (by omega) (Hh.2.2 _ _ _ _ _ _ _ _ _ (e_X11_content 0 _ _ _ h1)) ?_
  refine b_aload_n (pc := 499) C dL_law_499 rfl 2 rfl ?_
  refine b_cV0i (pc := 500) C dL_law_500 mm_L_53 (Hh.1 _ _ sh_92) rfl (Nat.le_of_ble_eq_true rfl) (by omega) (Hh.2.2 _ _ _ _ _ _ _ _ _ (e_X12_content 0 _ _ _ h2)) ?_
  exact b_icmp_eq (tgt := 1558) (pc := 503) C dL_law_503 rfl (fun _ => K _ hI2) (fun z => absurd rfl z)
set_option maxHeartbeats 4000000 in
set_option maxRecDepth 20000 in
theorem q_law_8 {X : bX} {l : Launch} {G : bG} {ρ : Nat → Nat} {A : Nat → Prop} {L i : Nat} {xs : Nat → Int32} (C : bCX X cL_law RL 800) (Hh : bH X l G bSHf ρ A 7) (hX : bSX X 500 L xs) (hL : L ≤ 3072) (hi : i + 6 ≤ L) {σ : bSto} (hI : INV σ) (K : ∀ σ2, INV σ2 → bAJ X 1558 [(0, .ref 500), (1, .ref 0), (2, .ref 92), (3, .ref 110), (4, .int (nI i))] [] σ2) : bAJ X 508 [(0, .ref 500), (1, .ref 0), (2, .ref 92), (3, .ref 110), (4, .int (nI i))] [] σ := by
  obtain ⟨r, σ1, σ2, h1, h2, hI2⟩ := o_warmest hI (xs (i + 1))
  refine b_aload_n (pc := 508) C dL_law_508 rfl 1 rfl ?_
  refine b_aload_n (pc := 509) C dL_law_509 rfl 0 rfl ?_
  refine b_iload (pc := 510) C dL_law_510 4 rfl ?_
  refine b_iconst (pc := 512) C dL_law_512 ic_1 ?_
  refine b_iadd (pc := 513) C dL_law_513 ?_
  refine b_sldL (pc := 514) C dL_law_514 hX hL (q_add i 1) (by omega) ?_
  refine b_cV1i (pc := 515) C dL_law_515 mm_L_54 (Hh.1 _ _ sh_0) rfl (Nat.le_of_ble_eq_true rfl) (by omega) (Hh.2.2 _ _ _ _ _ _ _ _ _ (e_X11_warmest 0 _ _ _ _ h1)) ?_
  refine b_aload_n (pc := 518) C dL_law_518 rfl 2 rfl ?_
  refine b_aload_n (pc := 519) C dL_law_519 rfl 0 rfl ?_
  refine b_iload (pc := 520) C dL_law_520 4 rfl ?_
  refine b_iconst (pc := 522) C dL_law_522 ic_1 ?_
  refine b_iadd (pc := 523) C dL_law_523 ?_
  refine b_sldL (pc := 524) C dL_law_524 hX hL (q_add i 1) (by omega) ?_
  refine b_cV1i (pc := 525) C dL_law_525 mm_L_57 (Hh.1 _ _ sh_92) rfl (Nat.le_of_ble_eq_true rfl) (by omega) (Hh.2.2 _ _ _ _ _ _ _ _ _ (e_X12_warmest 0 _ _ _ _ h2)) ?_
  exact b_icmp_eq (tgt := 1558) (pc := 528) C dL_law_528 rfl (fun _ => K _ hI2) (fun z => absurd rfl z)
set_option maxHeartbeats 4000000 in
set_option maxRecDepth 20000 in
theorem q_law_9 {X : bX} {l : Launch} {G : bG} {ρ : Nat → Nat} {A : Nat → Prop} {L i : Nat} {xs : Nat → Int32} (C : bCX X cL_law RL 800) (Hh : bH X l G bSHf ρ A 7) (hX : bSX X 500 L xs) (hL : L ≤ 3072) (hi : i + 6 ≤ L) {σ : bSto} (hI : INV σ) (K : ∀ σ2, INV σ2 → bAJ X 1558 [(0, .ref 500), (1, .ref 0), (2, .ref 92), (3, .ref 110), (4, .int (nI i))] [] σ2) : bAJ X 533 [(0, .ref 500), (1, .ref 0), (2, .ref 92), (3, .ref 110), (4, .int (nI i))] [] σ := by
  obtain ⟨r, σ1, σ2, h1, h2, hI2⟩ := o_rents hI 
  refine b_aload_n (pc := 533) C dL_law_533 rfl 1 rfl ?_
  refine b_cV0i (pc := 534) C dL_law_534 mm_L_58 (Hh.1 _ _ sh_0) rfl (Nat.le_of_ble_eq_true rfl) (by omega) (Hh.2.2 _ _ _ _ _ _ _ _ _ (e_X11_rents 0 _ _ _ h1)) ?_
  refine b_aload_n (pc := 537) C dL_law_537 rfl 2 rfl ?_
  refine b_cV0i (pc := 538) C dL_law_538 mm_L_61 (Hh.1 _ _ sh_92) rfl (Nat.le_of_ble_eq_true rfl) (by omega) (Hh.2.2 _ _ _ _ _ _ _ _ _ (e_X12_rents 0 _ _ _ h2)) ?_
  exact b_icmp_eq (tgt := 1558) (pc := 541) C dL_law_541 rfl (fun _ => K _ hI2) (fun z => absurd rfl z)
set_option maxHeartbeats 4000000 in
set_option maxRecDepth 20000 in
theorem q_law_10 {X : bX} {l : Launch} {G : bG} {ρ : Nat → Nat} {A : Nat → Prop} {L i : Nat} {xs : Nat → Int32} (C : bCX X cL_law RL 800) (Hh : bH X l G bSHf ρ A 7) (hX : bSX X 500 L xs) (hL : L ≤ 3072) (hi : i + 6 ≤ L) {σ : bSto} (hI : INV σ) (K : ∀ σ2, INV σ2 → bAJ X 1558 [(0, .ref 500), (1, .ref 0), (2, .ref 92), (3, .ref 110), (4, .int (nI i))] [] σ2) : bAJ X 546 [(0, .ref 500), (1, .ref 0), (2, .ref 92), (3, .ref 110), (4, .int (nI i))] [] σ := by
  obtain ⟨r, σ1, σ2, h1, h2, hI2⟩ := o_heatFor hI 
  refine b_aload_n (pc := 546) C dL_law_546 rfl 1 rfl ?_
  refine b_cV0i (pc := 547) C dL_law_547 mm_L_62 (Hh.1 _ _ sh_0) rfl (Nat.le_of_ble_eq_true rfl) (by omega) (Hh.2.2 _ _ _ _ _ _ _ _ _ (e_X11_heatFor 0 _ _ _ h1)) ?_
  refine b_aload_n (pc := 550) C dL_law_550 rfl 2 rfl ?_
  refine b_cV0i (pc := 551) C dL_law_551 mm_L_65 (Hh.1 _ _ sh_92) rfl (Nat.le_of_ble_eq_true rfl) (by omega) (Hh.2.2 _ _ _ _ _ _ _ _ _ (e_X12_heatFor 0 _ _ _ h2)) ?_
  exact b_icmp_eq (tgt := 1558) (pc := 554) C dL_law_554 rfl (fun _ => K _ hI2) (fun z => absurd rfl z)
set_option maxHeartbeats 4000000 in
set_option maxRecDepth 20000 in
theorem q_law_11 {X : bX} {l : Launch} {G : bG} {ρ : Nat → Nat} {A : Nat → Prop} {L i : Nat} {xs : Nat → Int32} (C : bCX X cL_law RL 800) (Hh : bH X l G bSHf ρ A 7) (hX : bSX X 500 L xs) (hL : L ≤ 3072) (hi : i + 6 ≤ L) {σ : bSto} (hI : INV σ) (K : ∀ σ2, INV σ2 → bAJ X 1558 [(0, .ref 500), (1, .ref 0), (2, .ref 92), (3, .ref 110), (4, .int (nI i))] [] σ2) : bAJ X 559 [(0, .ref 500), (1, .ref 0), (2, .ref 92), (3, .ref 110), (4, .int (nI i))] [] σ := by
  obtain ⟨r, σ1, σ2, h1, h2, hI2⟩ := o_packed hI 
  refine b_aload_n (pc := 559) C dL_law_559 rfl 1 rfl ?_
  refine b_cV0i (pc := 560) C dL_law_560 mm_L_66 (Hh.1 _ _ sh_0) rfl (Nat.le_of_ble_eq_true rfl) (by omega) (Hh.2.2 _ _ _ _ _ _ _ _ _ (e_X11_packed 0 _ _ _ h1)) ?_
  refine b_aload_n (pc := 563) C dL_law_563 rfl 2 rfl ?_
  refine b_cV0i (pc := 564) C dL_law_564 mm_L_69 (Hh.1 _ _ sh_92) rfl (Nat.le_of_ble_eq_true rfl) (by omega) (Hh.2.2 _ _ _ _ _ _ _ _ _ (e_X12_packed 0 _ _ _ h2)) ?_
  exact b_icmp_eq (tgt := 1558) (pc := 567) C dL_law_567 rfl (fun _ => K _ hI2) (fun z => absurd rfl z)
set_option maxHeartbeats 4000000 in
set_option maxRecDepth 20000 in
theorem q_law_12 {X : bX} {l : Launch} {G : bG} {ρ : Nat → Nat} {A : Nat → Prop} {L i : Nat} {xs : Nat → Int32} (C : bCX X cL_law RL 800) (Hh : bH X l G bSHf ρ A 7) (hX : bSX X 500 L xs) (hL : L ≤ 3072) (hi : i + 6 ≤ L) {σ : bSto} (hI : INV σ) (K : ∀ σ2, INV σ2 → bAJ X 1558 [(0, .ref 500), (1, .ref 0), (2, .ref 92), (3, .ref 110), (4, .int (nI i))] [] σ2) : bAJ X 572 [(0, .ref 500), (1, .ref 0), (2, .ref 92), (3, .ref 110), (4, .int (nI i))] [] σ := by
  obtain ⟨r, σ1, σ2, h1, h2, hI2⟩ := o_packedAt hI (xs (i + 1))
  refine b_aload_n (pc := 572) C dL_law_572 rfl 1 rfl ?_
  refine b_aload_n (pc := 573) C dL_law_573 rfl 0 rfl ?_
  refine b_iload (pc := 574) C dL_law_574 4 rfl ?_
  refine b_iconst (pc := 576) C dL_law_576 ic_1 ?_
  refine b_iadd (pc := 577) C dL_law_577 ?_
  refine b_sldL (pc := 578) C dL_law_578 hX hL (q_add i 1) (by omega) ?_
  refine b_cV1i (pc := 579) C dL_law_579 mm_L_70 (Hh.1 _ _ sh_0) rfl (Nat.le_of_ble_eq_true rfl) (by omega) (Hh.2.2 _ _ _ _ _ _ _ _ _ (e_X11_packedAt 0 _ _ _ _ h1)) ?_
  refine b_aload_n (pc := 582) C dL_law_582 rfl 2 rfl ?_
  refine b_aload_n (pc := 583) C dL_law_583 rfl 0 rfl ?_
  refine b_iload (pc := 584) C dL_law_584 4 rfl ?_
  refine b_iconst (pc := 586) C dL_law_586 ic_1 ?_
  refine b_iadd (pc := 587) C dL_law_587 ?_
  refine b_sldL (pc := 588) C dL_law_588 hX hL (q_add i 1) (by omega) ?_
  refine b_cV1i (pc := 589) C dL_law_589 mm_L_73 (Hh.1 _ _ sh_92) rfl (Nat.le_of_ble_eq_true rfl) (by omega) (Hh.2.2 _ _ _ _ _ _ _ _ _ (e_X12_packedAt 0 _ _ _ _ h2)) ?_
  exact b_icmp_eq (tgt := 1558) (pc := 592) C dL_law_592 rfl (fun _ => K _ hI2) (fun z => absurd rfl z)
set_option maxHeartbeats 4000000 in
set_option maxRecDepth 20000 in
theorem q_law_13 {X : bX} {l : Launch} {G : bG} {ρ : Nat → Nat} {A : Nat → Prop} {L i : Nat} {xs : Nat → Int32} (C : bCX X cL_law RL 800) (Hh : bH X l G bSHf ρ A 7) (hX : bSX X 500 L xs) (hL : L ≤ 3072) (hi : i + 6 ≤ L) {σ : bSto} (hI : INV σ) (K : ∀ σ2, INV σ2 → bAJ X 1558 [(0, .ref 500), (1, .ref 0), (2, .ref 92), (3, .ref 110), (4, .int (nI i))] [] σ2) : bAJ X 597 [(0, .ref 500), (1, .ref 0), (2, .ref 92), (3, .ref 110), (4, .int (nI i))] [] σ := by
  obtain ⟨r, σ1, σ2, h1, h2, hI2⟩ := o_cheapest hI 
  refine b_aload_n (pc := 597) C dL_law_597 rfl 1 rfl ?_
  refine b_cV0i (pc := 598) C dL_law_598 mm_L_74 (Hh.1 _ _ sh_0) rfl (Nat.le_of_ble_eq_true rfl) (by omega) (Hh.2.2 _ _ _ _ _ _ _ _ _ (e_X11_cheapest 0 _ _ _ h1)) ?_
  refine b_aload_n (pc := 601) C dL_law_601 rfl 2 rfl ?_
  refine b_cV0i (pc := 602) C dL_law_602 mm_L_77 (Hh.1 _ _ sh_92) rfl (Nat.le_of_ble_eq_true rfl) (by omega) (Hh.2.2 _ _ _ _ _ _ _ _ _ (e_X12_cheapest 0 _ _ _ h2)) ?_
  exact b_icmp_eq (tgt := 1558) (pc := 605) C dL_law_605 rfl (fun _ => K _ hI2) (fun z => absurd rfl z)
set_option maxHeartbeats 4000000 in
set_option maxRecDepth 20000 in
theorem q_law_14 {X : bX} {l : Launch} {G : bG} {ρ : Nat → Nat} {A : Nat → Prop} {L i : Nat} {xs : Nat → Int32} (C : bCX X cL_law RL 800) (Hh : bH X l G bSHf ρ A 7) (hX : bSX X 500 L xs) (hL : L ≤ 3072) (hi : i + 6 ≤ L) {σ : bSto} (hI : INV σ) (K : ∀ σ2, INV σ2 → bAJ X 1558 [(0, .ref 500), (1, .ref 0), (2, .ref 92), (3, .ref 110), (4, .int (nI i))] [] σ2) : bAJ X 610 [(0, .ref 500), (1, .ref 0), (2, .ref 92), (3, .ref 110), (4, .int (nI i))] [] σ := by
  obtain ⟨r, σ1, σ2, h1, h2, hI2⟩ := o_packedWithout hI (xs (i + 1))
  refine b_aload_n (pc := 610) C dL_law_610 rfl 1 rfl ?_
  refine b_aload_n (pc := 611) C dL_law_611 rfl 0 rfl ?_
  refine b_iload (pc := 612) C dL_law_612 4 rfl ?_
  refine b_iconst (pc := 614) C dL_law_614 ic_1 ?_
  refine b_iadd (pc := 615) C dL_law_615 ?_
  refine b_sldL (pc := 616) C dL_law_616 hX hL (q_add i 1) (by omega) ?_
  refine b_cV1i (pc := 617) C dL_law_617 mm_L_78 (Hh.1 _ _ sh_0) rfl (Nat.le_of_ble_eq_true rfl) (by omega) (Hh.2.2 _ _ _ _ _ _ _ _ _ (e_X11_packedWithout 0 _ _ _ _ h1)) ?_
  refine b_aload_n (pc := 620) C dL_law_620 rfl 2 rfl ?_
  refine b_aload_n (pc := 621) C dL_law_621 rfl 0 rfl ?_
  refine b_iload (pc := 622) C dL_law_622 4 rfl ?_
  refine b_iconst (pc := 624) C dL_law_624 ic_1 ?_
  refine b_iadd (pc := 625) C dL_law_625 ?_
  refine b_sldL (pc := 626) C dL_law_626 hX hL (q_add i 1) (by omega) ?_
  refine b_cV1i (pc := 627) C dL_law_627 mm_L_81 (Hh.1 _ _ sh_92) rfl (Nat.le_of_ble_eq_true rfl) (by omega) (Hh.2.2 _ _ _ _ _ _ _ _ _ (e_X12_packedWithout 0 _ _ _ _ h2)) ?_
  exact b_icmp_eq (tgt := 1558) (pc := 630) C dL_law_630 rfl (fun _ => K _ hI2) (fun z => absurd rfl z)
set_option maxHeartbeats 4000000 in
set_option maxRecDepth 20000 in
theorem q_law_15 {X : bX} {l : Launch} {G : bG} {ρ : Nat → Nat} {A : Nat → Prop} {L i : Nat} {xs : Nat → Int32} (C : bCX X cL_law RL 800) (Hh : bH X l G bSHf ρ A 7) (hX : bSX X 500 L xs) (hL : L ≤ 3072) (hi : i + 6 ≤ L) {σ : bSto} (hI : INV σ) (K : ∀ σ2, INV σ2 → bAJ X 1558 [(0, .ref 500), (1, .ref 0), (2, .ref 92), (3, .ref 110), (4, .int (nI i))] [] σ2) : bAJ X 635 [(0, .ref 500), (1, .ref 0), (2, .ref 92), (3, .ref 110), (4, .int (nI i))] [] σ := by
  obtain ⟨r, σ1, σ2, h1, h2, hI2⟩ := o_bestSeat hI 
  refine b_aload_n (pc := 635) C dL_law_635 rfl 1 rfl ?_
  refine b_cV0i (pc := 636) C dL_law_636 mm_L_82 (Hh.1 _ _ sh_0) rfl (Nat.le_of_ble_eq_true rfl) (by omega) (Hh.2.2 _ _ _ _ _ _ _ _ _ (e_X11_bestSeat 0 _ _ _ h1)) ?_
  refine b_aload_n (pc := 639) C dL_law_639 rfl 2 rfl ?_
  refine b_cV0i (pc := 640) C dL_law_640 mm_L_85 (Hh.1 _ _ sh_92) rfl (Nat.le_of_ble_eq_true rfl) (by omega) (Hh.2.2 _ _ _ _ _ _ _ _ _ (e_X12_bestSeat 0 _ _ _ h2)) ?_
  exact b_icmp_eq (tgt := 1558) (pc := 643) C dL_law_643 rfl (fun _ => K _ hI2) (fun z => absurd rfl z)
set_option maxHeartbeats 4000000 in
set_option maxRecDepth 20000 in
theorem q_law_16 {X : bX} {l : Launch} {G : bG} {ρ : Nat → Nat} {A : Nat → Prop} {L i : Nat} {xs : Nat → Int32} (C : bCX X cL_law RL 800) (Hh : bH X l G bSHf ρ A 7) (hX : bSX X 500 L xs) (hL : L ≤ 3072) (hi : i + 6 ≤ L) {σ : bSto} (hI : INV σ) (K : ∀ σ2, INV σ2 → bAJ X 1558 [(0, .ref 500), (1, .ref 0), (2, .ref 92), (3, .ref 110), (4, .int (nI i))] [] σ2) : bAJ X 648 [(0, .ref 500), (1, .ref 0), (2, .ref 92), (3, .ref 110), (4, .int (nI i))] [] σ := by
  obtain ⟨r, σ1, σ2, h1, h2, hI2⟩ := o_coal hI (xs (i + 1)) (xs (i + 2))
  refine b_aload_n (pc := 648) C dL_law_648 rfl 1 rfl ?_
  refine b_aload_n (pc := 649) C dL_law_649 rfl 0 rfl ?_
  refine b_iload (pc := 650) C dL_law_650 4 rfl ?_
  refine b_iconst (pc := 652) C dL_law_652 ic_1 ?_
  refine b_iadd (pc := 653) C dL_law_653 ?_
  refine b_sldL (pc := 654) C dL_law_654 hX hL (q_add i 1) (by omega) ?_
  refine b_aload_n (pc := 655) C dL_law_655 rfl 0 rfl ?_
  refine b_iload (pc := 656) C dL_law_656 4 rfl ?_
  refine b_iconst (pc := 658) C dL_law_658 ic_2 ?_
  refine b_iadd (pc := 659) C dL_law_659 ?_
  refine b_sldL (pc := 660) C dL_law_660 hX hL (q_add i 2) (by omega) ?_
  refine b_cV2i (pc := 661) C dL_law_661 mm_L_86 (Hh.1 _ _ sh_0) rfl (Nat.le_of_ble_eq_true rfl) (by omega) (Hh.2.2 _ _ _ _ _ _ _ _ _ (e_X11_coal 0 _ _ _ _ _ h1)) ?_
  refine b_aload_n (pc := 664) C dL_law_664 rfl 2 rfl ?_
  refine b_aload_n (pc := 665) C dL_law_665 rfl 0 rfl ?_
  refine b_iload (pc := 666) C dL_law_666 4 rfl ?_
  refine b_iconst (pc := 668) C dL_law_668 ic_1 ?_
  refine b_iadd (pc := 669) C dL_law_669 ?_
  refine b_sldL (pc := 670) C dL_law_670 hX hL (q_add i 1) (by omega) ?_
  refine b_aload_n (pc := 671) C dL_law_671 rfl 0 rfl ?_
  refine b_iload (pc := 672) C dL_law_672 4 rfl ?_
  refine b_iconst (pc := 674) C dL_law_674 ic_2 ?_
  refine b_iadd (pc := 675) C dL_law_675 ?_
  refine b_sldL (pc := 676) C dL_law_676 hX hL (q_add i 2) (by omega) ?_
  refine b_cV2i (pc := 677) C dL_law_677 mm_L_89 (Hh.1 _ _ sh_92) rfl (Nat.le_of_ble_eq_true rfl) (by omega) (Hh.2.2 _ _ _ _ _ _ _ _ _ (e_X12_coal 0 _ _ _ _ _ h2)) ?_
  exact b_icmp_eq (tgt := 1558) (pc := 680) C dL_law_680 rfl (fun _ => K _ hI2) (fun z => absurd rfl z)
set_option maxHeartbeats 4000000 in
set_option maxRecDepth 20000 in
theorem q_law_17 {X : bX} {l : Launch} {G : bG} {ρ : Nat → Nat} {A : Nat → Prop} {L i : Nat} {xs : Nat → Int32} (C : bCX X cL_law RL 800) (Hh : bH X l G bSHf ρ A 7) (hX : bSX X 500 L xs) (hL : L ≤ 3072) (hi : i + 6 ≤ L) {σ : bSto} (hI : INV σ) (K : ∀ σ2, INV σ2 → bAJ X 1558 [(0, .ref 500), (1, .ref 0), (2, .ref 92), (3, .ref 110), (4, .int (nI i))] [] σ2) : bAJ X 685 [(0, .ref 500), (1, .ref 0), (2, .ref 92), (3, .ref 110), (4, .int (nI i))] [] σ := by
  obtain ⟨r, σ1, σ2, h1, h2, hI2⟩ := o_couples hI 
  refine b_aload_n (pc := 685) C dL_law_685 rfl 1 rfl ?_
  refine b_cV0i (pc := 686) C dL_law_686 mm_L_90 (Hh.1 _ _ sh_0) rfl (Nat.le_of_ble_eq_true rfl) (by omega) (Hh.2.2 _ _ _ _ _ _ _ _ _ (e_X11_couples 0 _ _ _ h1)) ?_
  refine b_aload_n (pc := 689) C dL_law_689 rfl 2 rfl ?_
  refine b_cV0i (pc := 690) C dL_law_690 mm_L_93 (Hh.1 _ _ sh_92) rfl (Nat.le_of_ble_eq_true rfl) (by omega) (Hh.2.2 _ _ _ _ _ _ _ _ _ (e_X12_couples 0 _ _ _ h2)) ?_
  exact b_icmp_eq (tgt := 1558) (pc := 693) C dL_law_693 rfl (fun _ => K _ hI2) (fun z => absurd rfl z)
set_option maxHeartbeats 4000000 in
set_option maxRecDepth 20000 in
theorem q_law_18 {X : bX} {l : Launch} {G : bG} {ρ : Nat → Nat} {A : Nat → Prop} {L i : Nat} {xs : Nat → Int32} (C : bCX X cL_law RL 800) (Hh : bH X l G bSHf ρ A 7) (hX : bSX X 500 L xs) (hL : L ≤ 3072) (hi : i + 6 ≤ L) {σ : bSto} (hI : INV σ) (K : ∀ σ2, INV σ2 → bAJ X 1558 [(0, .ref 500), (1, .ref 0), (2, .ref 92), (3, .ref 110), (4, .int (nI i))] [] σ2) : bAJ X 698 [(0, .ref 500), (1, .ref 0), (2, .ref 92), (3, .ref 110), (4, .int (nI i))] [] σ := by
  obtain ⟨r, σ1, σ2, h1, h2, hI2⟩ := o_spouse hI (xs (i + 1))
  refine b_aload_n (pc := 698) C dL_law_698 rfl 1 rfl ?_
  refine b_aload_n (pc := 699) C dL_law_699 rfl 0 rfl ?_
  refine b_iload (pc := 700) C dL_law_700 4 rfl ?_
  refine b_iconst (pc := 702) C dL_law_702 ic_1 ?_
  refine b_iadd (pc := 703) C dL_law_703 ?_
  refine b_sldL (pc := 704) C dL_law_704 hX hL (q_add i 1) (by omega) ?_
  refine b_cV1i (pc := 705) C dL_law_705 mm_L_94 (Hh.1 _ _ sh_0) rfl (Nat.le_of_ble_eq_true rfl) (by omega) (Hh.2.2 _ _ _ _ _ _ _ _ _ (e_X11_spouse 0 _ _ _ _ h1)) ?_
  refine b_aload_n (pc := 708) C dL_law_708 rfl 2 rfl ?_
  refine b_aload_n (pc := 709) C dL_law_709 rfl 0 rfl ?_
  refine b_iload (pc := 710) C dL_law_710 4 rfl ?_
  refine b_iconst (pc := 712) C dL_law_712 ic_1 ?_
  refine b_iadd (pc := 713) C dL_law_713 ?_
  refine b_sldL (pc := 714) C dL_law_714 hX hL (q_add i 1) (by omega) ?_
  refine b_cV1i (pc := 715) C dL_law_715 mm_L_97 (Hh.1 _ _ sh_92) rfl (Nat.le_of_ble_eq_true rfl) (by omega) (Hh.2.2 _ _ _ _ _ _ _ _ _ (e_X12_spouse 0 _ _ _ _ h2)) ?_
  exact b_icmp_eq (tgt := 1558) (pc := 718) C dL_law_718 rfl (fun _ => K _ hI2) (fun z => absurd rfl z)
set_option maxHeartbeats 4000000 in
set_option maxRecDepth 20000 in
theorem q_law_19 {X : bX} {l : Launch} {G : bG} {ρ : Nat → Nat} {A : Nat → Prop} {L i : Nat} {xs : Nat → Int32} (C : bCX X cL_law RL 800) (Hh : bH X l G bSHf ρ A 7) (hX : bSX X 500 L xs) (hL : L ≤ 3072) (hi : i + 6 ≤ L) {σ : bSto} (hI : INV σ) (K : ∀ σ2, INV σ2 → bAJ X 1558 [(0, .ref 500), (1, .ref 0), (2, .ref 92), (3, .ref 110), (4, .int (nI i))] [] σ2) : bAJ X 723 [(0, .ref 500), (1, .ref 0), (2, .ref 92), (3, .ref 110), (4, .int (nI i))] [] σ := by
  obtain ⟨r, σ1, σ2, h1, h2, hI2⟩ := o_mayMarry hI (xs (i + 1))
  refine b_aload_n (pc := 723) C dL_law_723 rfl 1 rfl ?_
  refine b_aload_n (pc := 724) C dL_law_724 rfl 0 rfl ?_
  refine b_iload (pc := 725) C dL_law_725 4 rfl ?_
  refine b_iconst (pc := 727) C dL_law_727 ic_1 ?_
  refine b_iadd (pc := 728) C dL_law_728 ?_
  refine b_sldL (pc := 729) C dL_law_729 hX hL (q_add i 1) (by omega) ?_
  refine b_cV1i (pc := 730) C dL_law_730 mm_L_98 (Hh.1 _ _ sh_0) rfl (Nat.le_of_ble_eq_true rfl) (by omega) (Hh.2.2 _ _ _ _ _ _ _ _ _ (e_X11_mayMarry 0 _ _ _ _ h1)) ?_
  refine b_aload_n (pc := 733) C dL_law_733 rfl 2 rfl ?_
  refine b_aload_n (pc := 734) C dL_law_734 rfl 0 rfl ?_
  refine b_iload (pc := 735) C dL_law_735 4 rfl ?_
  refine b_iconst (pc := 737) C dL_law_737 ic_1 ?_
  refine b_iadd (pc := 738) C dL_law_738 ?_
  refine b_sldL (pc := 739) C dL_law_739 hX hL (q_add i 1) (by omega) ?_
  refine b_cV1i (pc := 740) C dL_law_740 mm_L_101 (Hh.1 _ _ sh_92) rfl (Nat.le_of_ble_eq_true rfl) (by omega) (Hh.2.2 _ _ _ _ _ _ _ _ _ (e_X12_mayMarry 0 _ _ _ _ h2)) ?_
  exact b_icmp_eq (tgt := 1558) (pc := 743) C dL_law_743 rfl (fun _ => K _ hI2) (fun z => absurd rfl z)
set_option maxHeartbeats 4000000 in
set_option maxRecDepth 20000 in
theorem q_law_20 {X : bX} {l : Launch} {G : bG} {ρ : Nat → Nat} {A : Nat → Prop} {L i : Nat} {xs : Nat → Int32} (C : bCX X cL_law RL 800) (Hh : bH X l G bSHf ρ A 7) (hX : bSX X 500 L xs) (hL : L ≤ 3072) (hi : i + 6 ≤ L) {σ : bSto} (hI : INV σ) (K : ∀ σ2, INV σ2 → bAJ X 1558 [(0, .ref 500), (1, .ref 0), (2, .ref 92), (3, .ref 110), (4, .int (nI i))] [] σ2) : bAJ X 748 [(0, .ref 500), (1, .ref 0), (2, .ref 92), (3, .ref 110), (4, .int (nI i))] [] σ := by
  obtain ⟨r, σ1, σ2, h1, h2, hI2⟩ := o_fed hI 
  refine b_aload_n (pc := 748) C dL_law_748 rfl 1 rfl ?_
  refine b_cV0i (pc := 749) C dL_law_749 mm_L_102 (Hh.1 _ _ sh_0) rfl (Nat.le_of_ble_eq_true rfl) (by omega) (Hh.2.2 _ _ _ _ _ _ _ _ _ (e_X11_fed 0 _ _ _ h1)) ?_
  refine b_aload_n (pc := 752) C dL_law_752 rfl 2 rfl ?_
  refine b_cV0i (pc := 753) C dL_law_753 mm_L_105 (Hh.1 _ _ sh_92) rfl (Nat.le_of_ble_eq_true rfl) (by omega) (Hh.2.2 _ _ _ _ _ _ _ _ _ (e_X12_fed 0 _ _ _ h2)) ?_
  exact b_icmp_eq (tgt := 1558) (pc := 756) C dL_law_756 rfl (fun _ => K _ hI2) (fun z => absurd rfl z)
set_option maxHeartbeats 4000000 in
set_option maxRecDepth 20000 in
theorem q_law_21 {X : bX} {l : Launch} {G : bG} {ρ : Nat → Nat} {A : Nat → Prop} {L i : Nat} {xs : Nat → Int32} (C : bCX X cL_law RL 800) (Hh : bH X l G bSHf ρ A 7) (hX : bSX X 500 L xs) (hL : L ≤ 3072) (hi : i + 6 ≤ L) {σ : bSto} (hI : INV σ) (K : ∀ σ2, INV σ2 → bAJ X 1558 [(0, .ref 500), (1, .ref 0), (2, .ref 92), (3, .ref 110), (4, .int (nI i))] [] σ2) : bAJ X 761 [(0, .ref 500), (1, .ref 0), (2, .ref 92), (3, .ref 110), (4, .int (nI i))] [] σ := by
  obtain ⟨r, σ1, σ2, h1, h2, hI2⟩ := o_eats hI (xs (i + 1)) (xs (i + 2))
  refine b_aload_n (pc := 761) C dL_law_761 rfl 1 rfl ?_
  refine b_aload_n (pc := 762) C dL_law_762 rfl 0 rfl ?_
  refine b_iload (pc := 763) C dL_law_763 4 rfl ?_
  refine b_iconst (pc := 765) C dL_law_765 ic_1 ?_
  refine b_iadd (pc := 766) C dL_law_766 ?_
  refine b_sldL (pc := 767) C dL_law_767 hX hL (q_add i 1) (by omega) ?_
  refine b_aload_n (pc := 768) C dL_law_768 rfl 0 rfl ?_
  refine b_iload (pc := 769) C dL_law_769 4 rfl ?_
  refine b_iconst (pc := 771) C dL_law_771 ic_2 ?_
  refine b_iadd (pc := 772) C dL_law_772 ?_
  refine b_sldL (pc := 773) C dL_law_773 hX hL (q_add i 2) (by omega) ?_
  refine b_cV2i (pc := 774) C dL_law_774 mm_L_106 (Hh.1 _ _ sh_0) rfl (Nat.le_of_ble_eq_true rfl) (by omega) (Hh.2.2 _ _ _ _ _ _ _ _ _ (e_X11_eats 0 _ _ _ _ _ h1)) ?_
  refine b_aload_n (pc := 777) C dL_law_777 rfl 2 rfl ?_
  refine b_aload_n (pc := 778) C dL_law_778 rfl 0 rfl ?_
  refine b_iload (pc := 779) C dL_law_779 4 rfl ?_
  refine b_iconst (pc := 781) C dL_law_781 ic_1 ?_
  refine b_iadd (pc := 782) C dL_law_782 ?_
  refine b_sldL (pc := 783) C dL_law_783 hX hL (q_add i 1) (by omega) ?_
  refine b_aload_n (pc := 784) C dL_law_784 rfl 0 rfl ?_
  refine b_iload (pc := 785) C dL_law_785 4 rfl ?_
  refine b_iconst (pc := 787) C dL_law_787 ic_2 ?_
  refine b_iadd (pc := 788) C dL_law_788 ?_
  refine b_sldL (pc := 789) C dL_law_789 hX hL (q_add i 2) (by omega) ?_
  refine b_cV2i (pc := 790) C dL_law_790 mm_L_109 (Hh.1 _ _ sh_92) rfl (Nat.le_of_ble_eq_true rfl) (by omega) (Hh.2.2 _ _ _ _ _ _ _ _ _ (e_X12_eats 0 _ _ _ _ _ h2)) ?_
  exact b_icmp_eq (tgt := 1558) (pc := 793) C dL_law_793 rfl (fun _ => K _ hI2) (fun z => absurd rfl z)
set_option maxHeartbeats 4000000 in
set_option maxRecDepth 20000 in
theorem q_law_22 {X : bX} {l : Launch} {G : bG} {ρ : Nat → Nat} {A : Nat → Prop} {L i : Nat} {xs : Nat → Int32} (C : bCX X cL_law RL 800) (Hh : bH X l G bSHf ρ A 7) (hX : bSX X 500 L xs) (hL : L ≤ 3072) (hi : i + 6 ≤ L) {σ : bSto} (hI : INV σ) (K : ∀ σ2, INV σ2 → bAJ X 1558 [(0, .ref 500), (1, .ref 0), (2, .ref 92), (3, .ref 110), (4, .int (nI i))] [] σ2) : bAJ X 798 [(0, .ref 500), (1, .ref 0), (2, .ref 92), (3, .ref 110), (4, .int (nI i))] [] σ := by
  obtain ⟨r, σ1, σ2, h1, h2, hI2⟩ := o_left hI (xs (i + 1))
  refine b_aload_n (pc := 798) C dL_law_798 rfl 1 rfl ?_
  refine b_aload_n (pc := 799) C dL_law_799 rfl 0 rfl ?_
  refine b_iload (pc := 800) C dL_law_800 4 rfl ?_
  refine b_iconst (pc := 802) C dL_law_802 ic_1 ?_
  refine b_iadd (pc := 803) C dL_law_803 ?_
  refine b_sldL (pc := 804) C dL_law_804 hX hL (q_add i 1) (by omega) ?_
  refine b_cV1i (pc := 805) C dL_law_805 mm_L_110 (Hh.1 _ _ sh_0) rfl (Nat.le_of_ble_eq_true rfl) (by omega) (Hh.2.2 _ _ _ _ _ _ _ _ _ (e_X11_left 0 _ _ _ _ h1)) ?_
  refine b_aload_n (pc := 808) C dL_law_808 rfl 2 rfl ?_
  refine b_aload_n (pc := 809) C dL_law_809 rfl 0 rfl ?_
  refine b_iload (pc := 810) C dL_law_810 4 rfl ?_
  refine b_iconst (pc := 812) C dL_law_812 ic_1 ?_
  refine b_iadd (pc := 813) C dL_law_813 ?_
  refine b_sldL (pc := 814) C dL_law_814 hX hL (q_add i 1) (by omega) ?_
  refine b_cV1i (pc := 815) C dL_law_815 mm_L_113 (Hh.1 _ _ sh_92) rfl (Nat.le_of_ble_eq_true rfl) (by omega) (Hh.2.2 _ _ _ _ _ _ _ _ _ (e_X12_left 0 _ _ _ _ h2)) ?_
  exact b_icmp_eq (tgt := 1558) (pc := 818) C dL_law_818 rfl (fun _ => K _ hI2) (fun z => absurd rfl z)
set_option maxHeartbeats 4000000 in
set_option maxRecDepth 20000 in
theorem q_law_23 {X : bX} {l : Launch} {G : bG} {ρ : Nat → Nat} {A : Nat → Prop} {L i : Nat} {xs : Nat → Int32} (C : bCX X cL_law RL 800) (Hh : bH X l G bSHf ρ A 7) (hX : bSX X 500 L xs) (hL : L ≤ 3072) (hi : i + 6 ≤ L) {σ : bSto} (hI : INV σ) (K : ∀ σ2, INV σ2 → bAJ X 1558 [(0, .ref 500), (1, .ref 0), (2, .ref 92), (3, .ref 110), (4, .int (nI i))] [] σ2) : bAJ X 823 [(0, .ref 500), (1, .ref 0), (2, .ref 92), (3, .ref 110), (4, .int (nI i))] [] σ := by
  obtain ⟨r, σ1, σ2, h1, h2, hI2⟩ := o_trains hI 
  refine b_aload_n (pc := 823) C dL_law_823 rfl 1 rfl ?_
  refine b_cV0i (pc := 824) C dL_law_824 mm_L_114 (Hh.1 _ _ sh_0) rfl (Nat.le_of_ble_eq_true rfl) (by omega) (Hh.2.2 _ _ _ _ _ _ _ _ _ (e_X11_trains 0 _ _ _ h1)) ?_
  refine b_aload_n (pc := 827) C dL_law_827 rfl 2 rfl ?_
  refine b_cV0i (pc := 828) C dL_law_828 mm_L_117 (Hh.1 _ _ sh_92) rfl (Nat.le_of_ble_eq_true rfl) (by omega) (Hh.2.2 _ _ _ _ _ _ _ _ _ (e_X12_trains 0 _ _ _ h2)) ?_
  exact b_icmp_eq (tgt := 1558) (pc := 831) C dL_law_831 rfl (fun _ => K _ hI2) (fun z => absurd rfl z)
set_option maxHeartbeats 4000000 in
set_option maxRecDepth 20000 in
theorem q_law_24 {X : bX} {l : Launch} {G : bG} {ρ : Nat → Nat} {A : Nat → Prop} {L i : Nat} {xs : Nat → Int32} (C : bCX X cL_law RL 800) (Hh : bH X l G bSHf ρ A 7) (hX : bSX X 500 L xs) (hL : L ≤ 3072) (hi : i + 6 ≤ L) {σ : bSto} (hI : INV σ) (K : ∀ σ2, INV σ2 → bAJ X 1558 [(0, .ref 500), (1, .ref 0), (2, .ref 92), (3, .ref 110), (4, .int (nI i))] [] σ2) : bAJ X 836 [(0, .ref 500), (1, .ref 0), (2, .ref 92), (3, .ref 110), (4, .int (nI i))] [] σ := by
  obtain ⟨r, σ1, σ2, h1, h2, hI2⟩ := o_trainAt hI (xs (i + 1))
  refine b_aload_n (pc := 836) C dL_law_836 rfl 1 rfl ?_
  refine b_aload_n (pc := 837) C dL_law_837 rfl 0 rfl ?_
  refine b_iload (pc := 838) C dL_law_838 4 rfl ?_
  refine b_iconst (pc := 840) C dL_law_840 ic_1 ?_
  refine b_iadd (pc := 841) C dL_law_841 ?_
  refine b_sldL (pc := 842) C dL_law_842 hX hL (q_add i 1) (by omega) ?_
  refine b_cV1i (pc := 843) C dL_law_843 mm_L_118 (Hh.1 _ _ sh_0) rfl (Nat.le_of_ble_eq_true rfl) (by omega) (Hh.2.2 _ _ _ _ _ _ _ _ _ (e_X11_trainAt 0 _ _ _ _ h1)) ?_
  refine b_aload_n (pc := 846) C dL_law_846 rfl 2 rfl ?_
  refine b_aload_n (pc := 847) C dL_law_847 rfl 0 rfl ?_
  refine b_iload (pc := 848) C dL_law_848 4 rfl ?_
  refine b_iconst (pc := 850) C dL_law_850 ic_1 ?_
  refine b_iadd (pc := 851) C dL_law_851 ?_
  refine b_sldL (pc := 852) C dL_law_852 hX hL (q_add i 1) (by omega) ?_
  refine b_cV1i (pc := 853) C dL_law_853 mm_L_121 (Hh.1 _ _ sh_92) rfl (Nat.le_of_ble_eq_true rfl) (by omega) (Hh.2.2 _ _ _ _ _ _ _ _ _ (e_X12_trainAt 0 _ _ _ _ h2)) ?_
  exact b_icmp_eq (tgt := 1558) (pc := 856) C dL_law_856 rfl (fun _ => K _ hI2) (fun z => absurd rfl z)
set_option maxHeartbeats 4000000 in
set_option maxRecDepth 20000 in
theorem q_law_25 {X : bX} {l : Launch} {G : bG} {ρ : Nat → Nat} {A : Nat → Prop} {L i : Nat} {xs : Nat → Int32} (C : bCX X cL_law RL 800) (Hh : bH X l G bSHf ρ A 7) (hX : bSX X 500 L xs) (hL : L ≤ 3072) (hi : i + 6 ≤ L) {σ : bSto} (hI : INV σ) (K : ∀ σ2, INV σ2 → bAJ X 1558 [(0, .ref 500), (1, .ref 0), (2, .ref 92), (3, .ref 110), (4, .int (nI i))] [] σ2) : bAJ X 861 [(0, .ref 500), (1, .ref 0), (2, .ref 92), (3, .ref 110), (4, .int (nI i))] [] σ := by
  obtain ⟨r, σ1, σ2, h1, h2, hI2⟩ := o_comes hI (xs (i + 1))
  refine b_aload_n (pc := 861) C dL_law_861 rfl 1 rfl ?_
  refine b_aload_n (pc := 862) C dL_law_862 rfl 0 rfl ?_
  refine b_iload (pc := 863) C dL_law_863 4 rfl ?_
  refine b_iconst (pc := 865) C dL_law_865 ic_1 ?_
  refine b_iadd (pc := 866) C dL_law_866 ?_
  refine b_sldL (pc := 867) C dL_law_867 hX hL (q_add i 1) (by omega) ?_
  refine b_cV1i (pc := 868) C dL_law_868 mm_L_122 (Hh.1 _ _ sh_0) rfl (Nat.le_of_ble_eq_true rfl) (by omega) (Hh.2.2 _ _ _ _ _ _ _ _ _ (e_X11_comes 0 _ _ _ _ h1)) ?_
  refine b_aload_n (pc := 871) C dL_law_871 rfl 2 rfl ?_
  refine b_aload_n (pc := 872) C dL_law_872 rfl 0 rfl ?_
  refine b_iload (pc := 873) C dL_law_873 4 rfl ?_
  refine b_iconst (pc := 875) C dL_law_875 ic_1 ?_
  refine b_iadd (pc := 876) C dL_law_876 ?_
  refine b_sldL (pc := 877) C dL_law_877 hX hL (q_add i 1) (by omega) ?_
  refine b_cV1i (pc := 878) C dL_law_878 mm_L_125 (Hh.1 _ _ sh_92) rfl (Nat.le_of_ble_eq_true rfl) (by omega) (Hh.2.2 _ _ _ _ _ _ _ _ _ (e_X12_comes 0 _ _ _ _ h2)) ?_
  exact b_icmp_eq (tgt := 1558) (pc := 881) C dL_law_881 rfl (fun _ => K _ hI2) (fun z => absurd rfl z)
set_option maxHeartbeats 4000000 in
set_option maxRecDepth 20000 in
theorem q_law_26 {X : bX} {l : Launch} {G : bG} {ρ : Nat → Nat} {A : Nat → Prop} {L i : Nat} {xs : Nat → Int32} (C : bCX X cL_law RL 800) (Hh : bH X l G bSHf ρ A 7) (hX : bSX X 500 L xs) (hL : L ≤ 3072) (hi : i + 6 ≤ L) {σ : bSto} (hI : INV σ) (K : ∀ σ2, INV σ2 → bAJ X 1558 [(0, .ref 500), (1, .ref 0), (2, .ref 92), (3, .ref 110), (4, .int (nI i))] [] σ2) : bAJ X 886 [(0, .ref 500), (1, .ref 0), (2, .ref 92), (3, .ref 110), (4, .int (nI i))] [] σ := by
  obtain ⟨r, σ1, σ2, h1, h2, hI2⟩ := o_surely hI (xs (i + 1))
  refine b_aload_n (pc := 886) C dL_law_886 rfl 1 rfl ?_
  refine b_aload_n (pc := 887) C dL_law_887 rfl 0 rfl ?_
  refine b_iload (pc := 888) C dL_law_888 4 rfl ?_
  refine b_iconst (pc := 890) C dL_law_890 ic_1 ?_
  refine b_iadd (pc := 891) C dL_law_891 ?_
  refine b_sldL (pc := 892) C dL_law_892 hX hL (q_add i 1) (by omega) ?_
  refine b_cV1i (pc := 893) C dL_law_893 mm_L_126 (Hh.1 _ _ sh_0) rfl (Nat.le_of_ble_eq_true rfl) (by omega) (Hh.2.2 _ _ _ _ _ _ _ _ _ (e_X11_surely 0 _ _ _ _ h1)) ?_
  refine b_aload_n (pc := 896) C dL_law_896 rfl 2 rfl ?_
  refine b_aload_n (pc := 897) C dL_law_897 rfl 0 rfl ?_
  refine b_iload (pc := 898) C dL_law_898 4 rfl ?_
  refine b_iconst (pc := 900) C dL_law_900 ic_1 ?_
  refine b_iadd (pc := 901) C dL_law_901 ?_
  refine b_sldL (pc := 902) C dL_law_902 hX hL (q_add i 1) (by omega) ?_
  refine b_cV1i (pc := 903) C dL_law_903 mm_L_129 (Hh.1 _ _ sh_92) rfl (Nat.le_of_ble_eq_true rfl) (by omega) (Hh.2.2 _ _ _ _ _ _ _ _ _ (e_X12_surely 0 _ _ _ _ h2)) ?_
  exact b_icmp_eq (tgt := 1558) (pc := 906) C dL_law_906 rfl (fun _ => K _ hI2) (fun z => absurd rfl z)
set_option maxHeartbeats 4000000 in
set_option maxRecDepth 20000 in
theorem q_law_27 {X : bX} {l : Launch} {G : bG} {ρ : Nat → Nat} {A : Nat → Prop} {L i : Nat} {xs : Nat → Int32} (C : bCX X cL_law RL 800) (Hh : bH X l G bSHf ρ A 7) (hX : bSX X 500 L xs) (hL : L ≤ 3072) (hi : i + 6 ≤ L) {σ : bSto} (hI : INV σ) (K : ∀ σ2, INV σ2 → bAJ X 1558 [(0, .ref 500), (1, .ref 0), (2, .ref 92), (3, .ref 110), (4, .int (nI i))] [] σ2) : bAJ X 911 [(0, .ref 500), (1, .ref 0), (2, .ref 92), (3, .ref 110), (4, .int (nI i))] [] σ := by
  obtain ⟨r, σ1, σ2, h1, h2, hI2⟩ := o_listen hI 
  refine b_aload_n (pc := 911) C dL_law_911 rfl 1 rfl ?_
  refine b_cV0i (pc := 912) C dL_law_912 mm_L_130 (Hh.1 _ _ sh_0) rfl (Nat.le_of_ble_eq_true rfl) (by omega) (Hh.2.2 _ _ _ _ _ _ _ _ _ (e_X11_listen 0 _ _ _ h1)) ?_
  refine b_aload_n (pc := 915) C dL_law_915 rfl 2 rfl ?_
  refine b_cV0i (pc := 916) C dL_law_916 mm_L_133 (Hh.1 _ _ sh_92) rfl (Nat.le_of_ble_eq_true rfl) (by omega) (Hh.2.2 _ _ _ _ _ _ _ _ _ (e_X12_listen 0 _ _ _ h2)) ?_
  exact b_icmp_eq (tgt := 1558) (pc := 919) C dL_law_919 rfl (fun _ => K _ hI2) (fun z => absurd rfl z)
set_option maxHeartbeats 4000000 in
set_option maxRecDepth 20000 in
theorem q_law_28 {X : bX} {l : Launch} {G : bG} {ρ : Nat → Nat} {A : Nat → Prop} {L i : Nat} {xs : Nat → Int32} (C : bCX X cL_law RL 800) (Hh : bH X l G bSHf ρ A 7) (hX : bSX X 500 L xs) (hL : L ≤ 3072) (hi : i + 6 ≤ L) {σ : bSto} (hI : INV σ) (K : ∀ σ2, INV σ2 → bAJ X 1558 [(0, .ref 500), (1, .ref 0), (2, .ref 92), (3, .ref 110), (4, .int (nI i))] [] σ2) : bAJ X 924 [(0, .ref 500), (1, .ref 0), (2, .ref 92), (3, .ref 110), (4, .int (nI i))] [] σ := by
  obtain ⟨r, σ1, σ2, h1, h2, hI2⟩ := o_listenLeaves hI 
  refine b_aload_n (pc := 924) C dL_law_924 rfl 1 rfl ?_
  refine b_cV0i (pc := 925) C dL_law_925 mm_L_134 (Hh.1 _ _ sh_0) rfl (Nat.le_of_ble_eq_true rfl) (by omega) (Hh.2.2 _ _ _ _ _ _ _ _ _ (e_X11_listenLeaves 0 _ _ _ h1)) ?_
  refine b_aload_n (pc := 928) C dL_law_928 rfl 2 rfl ?_
  refine b_cV0i (pc := 929) C dL_law_929 mm_L_137 (Hh.1 _ _ sh_92) rfl (Nat.le_of_ble_eq_true rfl) (by omega) (Hh.2.2 _ _ _ _ _ _ _ _ _ (e_X12_listenLeaves 0 _ _ _ h2)) ?_
  exact b_icmp_eq (tgt := 1558) (pc := 932) C dL_law_932 rfl (fun _ => K _ hI2) (fun z => absurd rfl z)
set_option maxHeartbeats 4000000 in
set_option maxRecDepth 20000 in
theorem q_law_29 {X : bX} {l : Launch} {G : bG} {ρ : Nat → Nat} {A : Nat → Prop} {L i : Nat} {xs : Nat → Int32} (C : bCX X cL_law RL 800) (Hh : bH X l G bSHf ρ A 7) (hX : bSX X 500 L xs) (hL : L ≤ 3072) (hi : i + 6 ≤ L) {σ : bSto} (hI : INV σ) (K : ∀ σ2, INV σ2 → bAJ X 1558 [(0, .ref 500), (1, .ref 0), (2, .ref 92), (3, .ref 110), (4, .int (nI i))] [] σ2) : bAJ X 937 [(0, .ref 500), (1, .ref 0), (2, .ref 92), (3, .ref 110), (4, .int (nI i))] [] σ := by
  obtain ⟨r, σ1, σ2, h1, h2, hI2⟩ := o_drawn hI (xs (i + 1))
  refine b_aload_n (pc := 937) C dL_law_937 rfl 1 rfl ?_
  refine b_aload_n (pc := 938) C dL_law_938 rfl 0 rfl ?_
  refine b_iload (pc := 939) C dL_law_939 4 rfl ?_
  refine b_iconst (pc := 941) C dL_law_941 ic_1 ?_
  refine b_iadd (pc := 942) C dL_law_942 ?_
  refine b_sldL (pc := 943) C dL_law_943 hX hL (q_add i 1) (by omega) ?_
  refine b_cV1i (pc := 944) C dL_law_944 mm_L_138 (Hh.1 _ _ sh_0) rfl (Nat.le_of_ble_eq_true rfl) (by omega) (Hh.2.2 _ _ _ _ _ _ _ _ _ (e_X11_drawn 0 _ _ _ _ h1)) ?_
  refine b_aload_n (pc := 947) C dL_law_947 rfl 2 rfl ?_
  refine b_aload_n (pc := 948) C dL_law_948 rfl 0 rfl ?_
  refine b_iload (pc := 949) C dL_law_949 4 rfl ?_
  refine b_iconst (pc := 951) C dL_law_951 ic_1 ?_
  refine b_iadd (pc := 952) C dL_law_952 ?_
  refine b_sldL (pc := 953) C dL_law_953 hX hL (q_add i 1) (by omega) ?_
  refine b_cV1i (pc := 954) C dL_law_954 mm_L_141 (Hh.1 _ _ sh_92) rfl (Nat.le_of_ble_eq_true rfl) (by omega) (Hh.2.2 _ _ _ _ _ _ _ _ _ (e_X12_drawn 0 _ _ _ _ h2)) ?_
  exact b_icmp_eq (tgt := 1558) (pc := 957) C dL_law_957 rfl (fun _ => K _ hI2) (fun z => absurd rfl z)
set_option maxHeartbeats 4000000 in
set_option maxRecDepth 20000 in
theorem q_law_30 {X : bX} {l : Launch} {G : bG} {ρ : Nat → Nat} {A : Nat → Prop} {L i : Nat} {xs : Nat → Int32} (C : bCX X cL_law RL 800) (Hh : bH X l G bSHf ρ A 7) (hX : bSX X 500 L xs) (hL : L ≤ 3072) (hi : i + 6 ≤ L) {σ : bSto} (hI : INV σ) (K : ∀ σ2, INV σ2 → bAJ X 1558 [(0, .ref 500), (1, .ref 0), (2, .ref 92), (3, .ref 110), (4, .int (nI i))] [] σ2) : bAJ X 962 [(0, .ref 500), (1, .ref 0), (2, .ref 92), (3, .ref 110), (4, .int (nI i))] [] σ := by
  obtain ⟨r, σ1, σ2, h1, h2, hI2⟩ := o_believers hI (xs (i + 1))
  refine b_aload_n (pc := 962) C dL_law_962 rfl 1 rfl ?_
  refine b_aload_n (pc := 963) C dL_law_963 rfl 0 rfl ?_
  refine b_iload (pc := 964) C dL_law_964 4 rfl ?_
  refine b_iconst (pc := 966) C dL_law_966 ic_1 ?_
  refine b_iadd (pc := 967) C dL_law_967 ?_
  refine b_sldL (pc := 968) C dL_law_968 hX hL (q_add i 1) (by omega) ?_
  refine b_cV1i (pc := 969) C dL_law_969 mm_L_142 (Hh.1 _ _ sh_0) rfl (Nat.le_of_ble_eq_true rfl) (by omega) (Hh.2.2 _ _ _ _ _ _ _ _ _ (e_X11_believers 0 _ _ _ _ h1)) ?_
  refine b_aload_n (pc := 972) C dL_law_972 rfl 2 rfl ?_
  refine b_aload_n (pc := 973) C dL_law_973 rfl 0 rfl ?_
  refine b_iload (pc := 974) C dL_law_974 4 rfl ?_
  refine b_iconst (pc := 976) C dL_law_976 ic_1 ?_
  refine b_iadd (pc := 977) C dL_law_977 ?_
  refine b_sldL (pc := 978) C dL_law_978 hX hL (q_add i 1) (by omega) ?_
  refine b_cV1i (pc := 979) C dL_law_979 mm_L_145 (Hh.1 _ _ sh_92) rfl (Nat.le_of_ble_eq_true rfl) (by omega) (Hh.2.2 _ _ _ _ _ _ _ _ _ (e_X12_believers 0 _ _ _ _ h2)) ?_
  exact b_icmp_eq (tgt := 1558) (pc := 982) C dL_law_982 rfl (fun _ => K _ hI2) (fun z => absurd rfl z)
set_option maxHeartbeats 4000000 in
set_option maxRecDepth 20000 in
theorem q_law_31 {X : bX} {l : Launch} {G : bG} {ρ : Nat → Nat} {A : Nat → Prop} {L i : Nat} {xs : Nat → Int32} (C : bCX X cL_law RL 800) (Hh : bH X l G bSHf ρ A 7) (hX : bSX X 500 L xs) (hL : L ≤ 3072) (hi : i + 6 ≤ L) {σ : bSto} (hI : INV σ) (K : ∀ σ2, INV σ2 → bAJ X 1558 [(0, .ref 500), (1, .ref 0), (2, .ref 92), (3, .ref 110), (4, .int (nI i))] [] σ2) : bAJ X 987 [(0, .ref 500), (1, .ref 0), (2, .ref 92), (3, .ref 110), (4, .int (nI i))] [] σ := by
  obtain ⟨r, σ1, σ2, h1, h2, hI2⟩ := o_settled hI 
  refine b_aload_n (pc := 987) C dL_law_987 rfl 1 rfl ?_
  refine b_cV0i (pc := 988) C dL_law_988 mm_L_146 (Hh.1 _ _ sh_0) rfl (Nat.le_of_ble_eq_true rfl) (by omega) (Hh.2.2 _ _ _ _ _ _ _ _ _ (e_X11_settled 0 _ _ _ h1)) ?_
  refine b_aload_n (pc := 991) C dL_law_991 rfl 2 rfl ?_
  refine b_cV0i (pc := 992) C dL_law_992 mm_L_149 (Hh.1 _ _ sh_92) rfl (Nat.le_of_ble_eq_true rfl) (by omega) (Hh.2.2 _ _ _ _ _ _ _ _ _ (e_X12_settled 0 _ _ _ h2)) ?_
  exact b_icmp_eq (tgt := 1558) (pc := 995) C dL_law_995 rfl (fun _ => K _ hI2) (fun z => absurd rfl z)
set_option maxHeartbeats 4000000 in
set_option maxRecDepth 20000 in
theorem q_law_32 {X : bX} {l : Launch} {G : bG} {ρ : Nat → Nat} {A : Nat → Prop} {L i : Nat} {xs : Nat → Int32} (C : bCX X cL_law RL 800) (Hh : bH X l G bSHf ρ A 7) (hX : bSX X 500 L xs) (hL : L ≤ 3072) (hi : i + 6 ≤ L) {σ : bSto} (hI : INV σ) (K : ∀ σ2, INV σ2 → bAJ X 1558 [(0, .ref 500), (1, .ref 0), (2, .ref 92), (3, .ref 110), (4, .int (nI i))] [] σ2) : bAJ X 1000 [(0, .ref 500), (1, .ref 0), (2, .ref 92), (3, .ref 110), (4, .int (nI i))] [] σ := by
  obtain ⟨r, σ1, σ2, h1, h2, hI2⟩ := o_won hI 
  refine b_aload_n (pc := 1000) C dL_law_1000 rfl 1 rfl ?_
  refine b_cV0i (pc := 1001) C dL_law_1001 mm_L_150 (Hh.1 _ _ sh_0) rfl (Nat.le_of_ble_eq_true rfl) (by omega) (Hh.2.2 _ _ _ _ _ _ _ _ _ (e_X11_won 0 _ _ _ h1)) ?_
  refine b_aload_n (pc := 1004) C dL_law_1004 rfl 2 rfl ?_
  refine b_cV0i (pc := 1005) C dL_law_1005 mm_L_153 (Hh.1 _ _ sh_92) rfl (Nat.le_of_ble_eq_true rfl) (by omega) (Hh.2.2 _ _ _ _ _ _ _ _ _ (e_X12_won 0 _ _ _ h2)) ?_
  exact b_icmp_eq (tgt := 1558) (pc := 1008) C dL_law_1008 rfl (fun _ => K _ hI2) (fun z => absurd rfl z)
set_option maxHeartbeats 4000000 in
set_option maxRecDepth 20000 in
theorem q_law_33 {X : bX} {l : Launch} {G : bG} {ρ : Nat → Nat} {A : Nat → Prop} {L i : Nat} {xs : Nat → Int32} (C : bCX X cL_law RL 800) (Hh : bH X l G bSHf ρ A 7) (hX : bSX X 500 L xs) (hL : L ≤ 3072) (hi : i + 6 ≤ L) {σ : bSto} (hI : INV σ) (K : ∀ σ2, INV σ2 → bAJ X 1558 [(0, .ref 500), (1, .ref 0), (2, .ref 92), (3, .ref 110), (4, .int (nI i))] [] σ2) : bAJ X 1013 [(0, .ref 500), (1, .ref 0), (2, .ref 92), (3, .ref 110), (4, .int (nI i))] [] σ := by
  obtain ⟨r, σ1, σ2, h1, h2, hI2⟩ := o_prophet hI 
  refine b_aload_n (pc := 1013) C dL_law_1013 rfl 1 rfl ?_
  refine b_cV0i (pc := 1014) C dL_law_1014 mm_L_154 (Hh.1 _ _ sh_0) rfl (Nat.le_of_ble_eq_true rfl) (by omega) (Hh.2.2 _ _ _ _ _ _ _ _ _ (e_X11_prophet 0 _ _ _ h1)) ?_
  refine b_aload_n (pc := 1017) C dL_law_1017 rfl 2 rfl ?_
  refine b_cV0i (pc := 1018) C dL_law_1018 mm_L_157 (Hh.1 _ _ sh_92) rfl (Nat.le_of_ble_eq_true rfl) (by omega) (Hh.2.2 _ _ _ _ _ _ _ _ _ (e_X12_prophet 0 _ _ _ h2)) ?_
  exact b_icmp_eq (tgt := 1558) (pc := 1021) C dL_law_1021 rfl (fun _ => K _ hI2) (fun z => absurd rfl z)
set_option maxHeartbeats 4000000 in
set_option maxRecDepth 20000 in
theorem q_law_34 {X : bX} {l : Launch} {G : bG} {ρ : Nat → Nat} {A : Nat → Prop} {L i : Nat} {xs : Nat → Int32} (C : bCX X cL_law RL 800) (Hh : bH X l G bSHf ρ A 7) (hX : bSX X 500 L xs) (hL : L ≤ 3072) (hi : i + 6 ≤ L) {σ : bSto} (hI : INV σ) (K : ∀ σ2, INV σ2 → bAJ X 1558 [(0, .ref 500), (1, .ref 0), (2, .ref 92), (3, .ref 110), (4, .int (nI i))] [] σ2) : bAJ X 1026 [(0, .ref 500), (1, .ref 0), (2, .ref 92), (3, .ref 110), (4, .int (nI i))] [] σ := by
  by_cases hz : xs (i + 4) = 0
  · obtain ⟨r, σ1, σ2, h1, h2, hI2⟩ := o_shout hI (xs (i + 1)) (xs (i + 2)) (xs (i + 3)) (0 : Int32)
    refine b_aload_n (pc := 1026) C dL_law_1026 rfl 1 rfl ?_
    refine b_aload_n (pc := 1027) C dL_law_1027 rfl 0 rfl ?_
    refine b_iload (pc := 1028) C dL_law_1028 4 rfl ?_
    refine b_iconst (pc := 1030) C dL_law_1030 ic_1 ?_
    refine b_iadd (pc := 1031) C dL_law_1031 ?_
    refine b_sldL (pc := 1032) C dL_law_1032 hX hL (q_add i 1) (by omega) ?_
    refine b_aload_n (pc := 1033) C dL_law_1033 rfl 0 rfl ?_
    refine b_iload (pc := 1034) C dL_law_1034 4 rfl ?_
    refine b_iconst (pc := 1036) C dL_law_1036 ic_2 ?_
    refine b_iadd (pc := 1037) C dL_law_1037 ?_
    refine b_sldL (pc := 1038) C dL_law_1038 hX hL (q_add i 2) (by omega) ?_
    refine b_aload_n (pc := 1039) C dL_law_1039 rfl 0 rfl ?_
    refine b_iload (pc := 1040) C dL_law_1040 4 rfl ?_
    refine b_iconst (pc := 1042) C dL_law_1042 ic_3 ?_
    refine b_iadd (pc := 1043) C dL_law_1043 ?_
    refine b_sldL (pc := 1044) C dL_law_1044 hX hL (q_add i 3) (by omega) ?_
    refine b_aload_n (pc := 1045) C dL_law_1045 rfl 0 rfl ?_
    refine b_iload (pc := 1046) C dL_law_1046 4 rfl ?_
    refine b_iconst (pc := 1048) C dL_law_1048 ic_4 ?_
    refine b_iadd (pc := 1049) C dL_law_1049 ?_
    refine b_sldL (pc := 1050) C dL_law_1050 hX hL (q_add i 4) (by omega) ?_
    refine b_if_eq (tgt := 1058) (pc := 1051) C dL_law_1051 rfl (fun _ => ?_) (fun hc => absurd hz hc)
    refine b_iconst (pc := 1058) C dL_law_1058 ic_0 ?_
    refine b_cV4i (pc := 1059) C dL_law_1059 mm_L_158 (Hh.1 _ _ sh_0) rfl (Nat.le_of_ble_eq_true rfl) (by omega) (Hh.2.2 _ _ _ _ _ _ _ _ _ (e_X11_shout 0 _ _ _ _ _ _ _ h1)) ?_
    refine b_aload_n (pc := 1062) C dL_law_1062 rfl 2 rfl ?_
    refine b_aload_n (pc := 1063) C dL_law_1063 rfl 0 rfl ?_
    refine b_iload (pc := 1064) C dL_law_1064 4 rfl ?_
    refine b_iconst (pc := 1066) C dL_law_1066 ic_1 ?_
    refine b_iadd (pc := 1067) C dL_law_1067 ?_
    refine b_sldL (pc := 1068) C dL_law_1068 hX hL (q_add i 1) (by omega) ?_
    refine b_aload_n (pc := 1069) C dL_law_1069 rfl 0 rfl ?_
    refine b_iload (pc := 1070) C dL_law_1070 4 rfl ?_
    refine b_iconst (pc := 1072) C dL_law_1072 ic_2 ?_
    refine b_iadd (pc := 1073) C dL_law_1073 ?_
    refine b_sldL (pc := 1074) C dL_law_1074 hX hL (q_add i 2) (by omega) ?_
    refine b_aload_n (pc := 1075) C dL_law_1075 rfl 0 rfl ?_
    refine b_iload (pc := 1076) C dL_law_1076 4 rfl ?_
    refine b_iconst (pc := 1078) C dL_law_1078 ic_3 ?_
    refine b_iadd (pc := 1079) C dL_law_1079 ?_
    refine b_sldL (pc := 1080) C dL_law_1080 hX hL (q_add i 3) (by omega) ?_
    refine b_aload_n (pc := 1081) C dL_law_1081 rfl 0 rfl ?_
    refine b_iload (pc := 1082) C dL_law_1082 4 rfl ?_
    refine b_iconst (pc := 1084) C dL_law_1084 ic_4 ?_
    refine b_iadd (pc := 1085) C dL_law_1085 ?_
    refine b_sldL (pc := 1086) C dL_law_1086 hX hL (q_add i 4) (by omega) ?_
    refine b_if_eq (tgt := 1094) (pc := 1087) C dL_law_1087 rfl (fun _ => ?_) (fun hc => absurd hz hc)
    refine b_iconst (pc := 1094) C dL_law_1094 ic_0 ?_
    refine b_cV4i (pc := 1095) C dL_law_1095 mm_L_162 (Hh.1 _ _ sh_92) rfl (Nat.le_of_ble_eq_true rfl) (by omega) (Hh.2.2 _ _ _ _ _ _ _ _ _ (e_X12_shout 0 _ _ _ _ _ _ _ h2)) ?_
    exact b_icmp_eq (tgt := 1558) (pc := 1098) C dL_law_1098 rfl (fun _ => K _ hI2) (fun z => absurd rfl z)
  · obtain ⟨r, σ1, σ2, h1, h2, hI2⟩ := o_shout hI (xs (i + 1)) (xs (i + 2)) (xs (i + 3)) (1 : Int32)
    refine b_aload_n (pc := 1026) C dL_law_1026 rfl 1 rfl ?_
    refine b_aload_n (pc := 1027) C dL_law_1027 rfl 0 rfl ?_
    refine b_iload (pc := 1028) C dL_law_1028 4 rfl ?_
    refine b_iconst (pc := 1030) C dL_law_1030 ic_1 ?_
    refine b_iadd (pc := 1031) C dL_law_1031 ?_
    refine b_sldL (pc := 1032) C dL_law_1032 hX hL (q_add i 1) (by omega) ?_
    refine b_aload_n (pc := 1033) C dL_law_1033 rfl 0 rfl ?_
    refine b_iload (pc := 1034) C dL_law_1034 4 rfl ?_
    refine b_iconst (pc := 1036) C dL_law_1036 ic_2 ?_
    refine b_iadd (pc := 1037) C dL_law_1037 ?_
    refine b_sldL (pc := 1038) C dL_law_1038 hX hL (q_add i 2) (by omega) ?_
    refine b_aload_n (pc := 1039) C dL_law_1039 rfl 0 rfl ?_
    refine b_iload (pc := 1040) C dL_law_1040 4 rfl ?_
    refine b_iconst (pc := 1042) C dL_law_1042 ic_3 ?_
    refine b_iadd (pc := 1043) C dL_law_1043 ?_
    refine b_sldL (pc := 1044) C dL_law_1044 hX hL (q_add i 3) (by omega) ?_
    refine b_aload_n (pc := 1045) C dL_law_1045 rfl 0 rfl ?_
    refine b_iload (pc := 1046) C dL_law_1046 4 rfl ?_
    refine b_iconst (pc := 1048) C dL_law_1048 ic_4 ?_
    refine b_iadd (pc := 1049) C dL_law_1049 ?_
    refine b_sldL (pc := 1050) C dL_law_1050 hX hL (q_add i 4) (by omega) ?_
    refine b_if_eq (tgt := 1058) (pc := 1051) C dL_law_1051 rfl (fun hc => absurd hc hz) (fun _ => ?_)
    refine b_iconst (pc := 1054) C dL_law_1054 ic_1 ?_
    refine b_goto (tgt := 1059) (pc := 1055) C dL_law_1055 rfl ?_
    refine b_cV4i (pc := 1059) C dL_law_1059 mm_L_158 (Hh.1 _ _ sh_0) rfl (Nat.le_of_ble_eq_true rfl) (by omega) (Hh.2.2 _ _ _ _ _ _ _ _ _ (e_X11_shout 0 _ _ _ _ _ _ _ h1)) ?_
    refine b_aload_n (pc := 1062) C dL_law_1062 rfl 2 rfl ?_
    refine b_aload_n (pc := 1063) C dL_law_1063 rfl 0 rfl ?_
    refine b_iload (pc := 1064) C dL_law_1064 4 rfl ?_
    refine b_iconst (pc := 1066) C dL_law_1066 ic_1 ?_
    refine b_iadd (pc := 1067) C dL_law_1067 ?_
    refine b_sldL (pc := 1068) C dL_law_1068 hX hL (q_add i 1) (by omega) ?_
    refine b_aload_n (pc := 1069) C dL_law_1069 rfl 0 rfl ?_
    refine b_iload (pc := 1070) C dL_law_1070 4 rfl ?_
    refine b_iconst (pc := 1072) C dL_law_1072 ic_2 ?_
    refine b_iadd (pc := 1073) C dL_law_1073 ?_
    refine b_sldL (pc := 1074) C dL_law_1074 hX hL (q_add i 2) (by omega) ?_
    refine b_aload_n (pc := 1075) C dL_law_1075 rfl 0 rfl ?_
    refine b_iload (pc := 1076) C dL_law_1076 4 rfl ?_
    refine b_iconst (pc := 1078) C dL_law_1078 ic_3 ?_
    refine b_iadd (pc := 1079) C dL_law_1079 ?_
    refine b_sldL (pc := 1080) C dL_law_1080 hX hL (q_add i 3) (by omega) ?_
    refine b_aload_n (pc := 1081) C dL_law_1081 rfl 0 rfl ?_
    refine b_iload (pc := 1082) C dL_law_1082 4 rfl ?_
    refine b_iconst (pc := 1084) C dL_law_1084 ic_4 ?_
    refine b_iadd (pc := 1085) C dL_law_1085 ?_
    refine b_sldL (pc := 1086) C dL_law_1086 hX hL (q_add i 4) (by omega) ?_
    refine b_if_eq (tgt := 1094) (pc := 1087) C dL_law_1087 rfl (fun hc => absurd hc hz) (fun _ => ?_)
    refine b_iconst (pc := 1090) C dL_law_1090 ic_1 ?_
    refine b_goto (tgt := 1095) (pc := 1091) C dL_law_1091 rfl ?_
    refine b_cV4i (pc := 1095) C dL_law_1095 mm_L_162 (Hh.1 _ _ sh_92) rfl (Nat.le_of_ble_eq_true rfl) (by omega) (Hh.2.2 _ _ _ _ _ _ _ _ _ (e_X12_shout 0 _ _ _ _ _ _ _ h2)) ?_
    exact b_icmp_eq (tgt := 1558) (pc := 1098) C dL_law_1098 rfl (fun _ => K _ hI2) (fun z => absurd rfl z)
set_option maxHeartbeats 4000000 in
set_option maxRecDepth 20000 in
theorem q_law_35 {X : bX} {l : Launch} {G : bG} {ρ : Nat → Nat} {A : Nat → Prop} {L i : Nat} {xs : Nat → Int32} (C : bCX X cL_law RL 800) (Hh : bH X l G bSHf ρ A 7) (hX : bSX X 500 L xs) (hL : L ≤ 3072) (hi : i + 6 ≤ L) {σ : bSto} (hI : INV σ) (K : ∀ σ2, INV σ2 → bAJ X 1558 [(0, .ref 500), (1, .ref 0), (2, .ref 92), (3, .ref 110), (4, .int (nI i))] [] σ2) : bAJ X 1103 [(0, .ref 500), (1, .ref 0), (2, .ref 92), (3, .ref 110), (4, .int (nI i))] [] σ := by
  obtain ⟨r, σ1, σ2, h1, h2, hI2⟩ := o_rests hI (xs (i + 1))
  refine b_aload_n (pc := 1103) C dL_law_1103 rfl 1 rfl ?_
  refine b_aload_n (pc := 1104) C dL_law_1104 rfl 0 rfl ?_
  refine b_iload (pc := 1105) C dL_law_1105 4 rfl ?_
  refine b_iconst (pc := 1107) C dL_law_1107 ic_1 ?_
  refine b_iadd (pc := 1108) C dL_law_1108 ?_
  refine b_sldL (pc := 1109) C dL_law_1109 hX hL (q_add i 1) (by omega) ?_
  refine b_cV1i (pc := 1110) C dL_law_1110 mm_L_163 (Hh.1 _ _ sh_0) rfl (Nat.le_of_ble_eq_true rfl) (by omega) (Hh.2.2 _ _ _ _ _ _ _ _ _ (e_X11_rests 0 _ _ _ _ h1)) ?_
  refine b_aload_n (pc := 1113) C dL_law_1113 rfl 2 rfl ?_
  refine b_aload_n (pc := 1114) C dL_law_1114 rfl 0 rfl ?_
  refine b_iload (pc := 1115) C dL_law_1115 4 rfl ?_
  refine b_iconst (pc := 1117) C dL_law_1117 ic_1 ?_
  refine b_iadd (pc := 1118) C dL_law_1118 ?_
  refine b_sldL (pc := 1119) C dL_law_1119 hX hL (q_add i 1) (by omega) ?_
  refine b_cV1i (pc := 1120) C dL_law_1120 mm_L_166 (Hh.1 _ _ sh_92) rfl (Nat.le_of_ble_eq_true rfl) (by omega) (Hh.2.2 _ _ _ _ _ _ _ _ _ (e_X12_rests 0 _ _ _ _ h2)) ?_
  exact b_icmp_eq (tgt := 1558) (pc := 1123) C dL_law_1123 rfl (fun _ => K _ hI2) (fun z => absurd rfl z)
set_option maxHeartbeats 4000000 in
set_option maxRecDepth 20000 in
theorem q_law_36 {X : bX} {l : Launch} {G : bG} {ρ : Nat → Nat} {A : Nat → Prop} {L i : Nat} {xs : Nat → Int32} (C : bCX X cL_law RL 800) (Hh : bH X l G bSHf ρ A 7) (hX : bSX X 500 L xs) (hL : L ≤ 3072) (hi : i + 6 ≤ L) {σ : bSto} (hI : INV σ) (K : ∀ σ2, INV σ2 → bAJ X 1558 [(0, .ref 500), (1, .ref 0), (2, .ref 92), (3, .ref 110), (4, .int (nI i))] [] σ2) : bAJ X 1128 [(0, .ref 500), (1, .ref 0), (2, .ref 92), (3, .ref 110), (4, .int (nI i))] [] σ := by
  obtain ⟨r, σ1, σ2, h1, h2, hI2⟩ := o_rest hI (xs (i + 1))
  refine b_aload_n (pc := 1128) C dL_law_1128 rfl 1 rfl ?_
  refine b_aload_n (pc := 1129) C dL_law_1129 rfl 0 rfl ?_
  refine b_iload (pc := 1130) C dL_law_1130 4 rfl ?_
  refine b_iconst (pc := 1132) C dL_law_1132 ic_1 ?_
  refine b_iadd (pc := 1133) C dL_law_1133 ?_
  refine b_sldL (pc := 1134) C dL_law_1134 hX hL (q_add i 1) (by omega) ?_
  refine b_cV1i (pc := 1135) C dL_law_1135 mm_L_167 (Hh.1 _ _ sh_0) rfl (Nat.le_of_ble_eq_true rfl) (by omega) (Hh.2.2 _ _ _ _ _ _ _ _ _ (e_X11_rest 0 _ _ _ _ h1)) ?_
  refine b_aload_n (pc := 1138) C dL_law_1138 rfl 2 rfl ?_
  refine b_aload_n (pc := 1139) C dL_law_1139 rfl 0 rfl ?_
  refine b_iload (pc := 1140) C dL_law_1140 4 rfl ?_
  refine b_iconst (pc := 1142) C dL_law_1142 ic_1 ?_
  refine b_iadd (pc := 1143) C dL_law_1143 ?_
  refine b_sldL (pc := 1144) C dL_law_1144 hX hL (q_add i 1) (by omega) ?_
  refine b_cV1i (pc := 1145) C dL_law_1145 mm_L_170 (Hh.1 _ _ sh_92) rfl (Nat.le_of_ble_eq_true rfl) (by omega) (Hh.2.2 _ _ _ _ _ _ _ _ _ (e_X12_rest 0 _ _ _ _ h2)) ?_
  exact b_icmp_eq (tgt := 1558) (pc := 1148) C dL_law_1148 rfl (fun _ => K _ hI2) (fun z => absurd rfl z)
set_option maxHeartbeats 4000000 in
set_option maxRecDepth 20000 in
theorem q_law_37 {X : bX} {l : Launch} {G : bG} {ρ : Nat → Nat} {A : Nat → Prop} {L i : Nat} {xs : Nat → Int32} (C : bCX X cL_law RL 800) (Hh : bH X l G bSHf ρ A 7) (hX : bSX X 500 L xs) (hL : L ≤ 3072) (hi : i + 6 ≤ L) {σ : bSto} (hI : INV σ) (K : ∀ σ2, INV σ2 → bAJ X 1558 [(0, .ref 500), (1, .ref 0), (2, .ref 92), (3, .ref 110), (4, .int (nI i))] [] σ2) : bAJ X 1153 [(0, .ref 500), (1, .ref 0), (2, .ref 92), (3, .ref 110), (4, .int (nI i))] [] σ := by
  obtain ⟨r, σ1, σ2, h1, h2, hI2⟩ := o_years hI (xs (i + 1)) (xs (i + 2))
  refine b_aload_n (pc := 1153) C dL_law_1153 rfl 1 rfl ?_
  refine b_aload_n (pc := 1154) C dL_law_1154 rfl 0 rfl ?_
  refine b_iload (pc := 1155) C dL_law_1155 4 rfl ?_
  refine b_iconst (pc := 1157) C dL_law_1157 ic_1 ?_
  refine b_iadd (pc := 1158) C dL_law_1158 ?_
  refine b_sldL (pc := 1159) C dL_law_1159 hX hL (q_add i 1) (by omega) ?_
  refine b_aload_n (pc := 1160) C dL_law_1160 rfl 0 rfl ?_
  refine b_iload (pc := 1161) C dL_law_1161 4 rfl ?_
  refine b_iconst (pc := 1163) C dL_law_1163 ic_2 ?_
  refine b_iadd (pc := 1164) C dL_law_1164 ?_
  refine b_sldL (pc := 1165) C dL_law_1165 hX hL (q_add i 2) (by omega) ?_
  refine b_cV2i (pc := 1166) C dL_law_1166 mm_L_171 (Hh.1 _ _ sh_0) rfl (Nat.le_of_ble_eq_true rfl) (by omega) (Hh.2.2 _ _ _ _ _ _ _ _ _ (e_X11_years 0 _ _ _ _ _ h1)) ?_
  refine b_aload_n (pc := 1169) C dL_law_1169 rfl 2 rfl ?_
  refine b_aload_n (pc := 1170) C dL_law_1170 rfl 0 rfl ?_
  refine b_iload (pc := 1171) C dL_law_1171 4 rfl ?_
  refine b_iconst (pc := 1173) C dL_law_1173 ic_1 ?_
  refine b_iadd (pc := 1174) C dL_law_1174 ?_
  refine b_sldL (pc := 1175) C dL_law_1175 hX hL (q_add i 1) (by omega) ?_
  refine b_aload_n (pc := 1176) C dL_law_1176 rfl 0 rfl ?_
  refine b_iload (pc := 1177) C dL_law_1177 4 rfl ?_
  refine b_iconst (pc := 1179) C dL_law_1179 ic_2 ?_
  refine b_iadd (pc := 1180) C dL_law_1180 ?_
  refine b_sldL (pc := 1181) C dL_law_1181 hX hL (q_add i 2) (by omega) ?_
  refine b_cV2i (pc := 1182) C dL_law_1182 mm_L_174 (Hh.1 _ _ sh_92) rfl (Nat.le_of_ble_eq_true rfl) (by omega) (Hh.2.2 _ _ _ _ _ _ _ _ _ (e_X12_years 0 _ _ _ _ _ h2)) ?_
  exact b_icmp_eq (tgt := 1558) (pc := 1185) C dL_law_1185 rfl (fun _ => K _ hI2) (fun z => absurd rfl z)
set_option maxHeartbeats 4000000 in
set_option maxRecDepth 20000 in
theorem q_law_38 {X : bX} {l : Launch} {G : bG} {ρ : Nat → Nat} {A : Nat → Prop} {L i : Nat} {xs : Nat → Int32} (C : bCX X cL_law RL 800) (Hh : bH X l G bSHf ρ A 7) (hX : bSX X 500 L xs) (hL : L ≤ 3072) (hi : i + 6 ≤ L) {σ : bSto} (hI : INV σ) (K : ∀ σ2, INV σ2 → bAJ X 1558 [(0, .ref 500), (1, .ref 0), (2, .ref 92), (3, .ref 110), (4, .int (nI i))] [] σ2) : bAJ X 1190 [(0, .ref 500), (1, .ref 0), (2, .ref 92), (3, .ref 110), (4, .int (nI i))] [] σ := by
  obtain ⟨r, σ1, σ2, h1, h2, hI2⟩ := o_yearsAt hI (xs (i + 1)) (xs (i + 2)) (xs (i + 3))
  refine b_aload_n (pc := 1190) C dL_law_1190 rfl 1 rfl ?_
  refine b_aload_n (pc := 1191) C dL_law_1191 rfl 0 rfl ?_
  refine b_iload (pc := 1192) C dL_law_1192 4 rfl ?_
  refine b_iconst (pc := 1194) C dL_law_1194 ic_1 ?_
  refine b_iadd (pc := 1195) C dL_law_1195 ?_
  refine b_sldL (pc := 1196) C dL_law_1196 hX hL (q_add i 1) (by omega) ?_
  refine b_aload_n (pc := 1197) C dL_law_1197 rfl 0 rfl ?_
  refine b_iload (pc := 1198) C dL_law_1198 4 rfl ?_
  refine b_iconst (pc := 1200) C dL_law_1200 ic_2 ?_
  refine b_iadd (pc := 1201) C dL_law_1201 ?_
  refine b_sldL (pc := 1202) C dL_law_1202 hX hL (q_add i 2) (by omega) ?_
  refine b_aload_n (pc := 1203) C dL_law_1203 rfl 0 rfl ?_
  refine b_iload (pc := 1204) C dL_law_1204 4 rfl ?_
  refine b_iconst (pc := 1206) C dL_law_1206 ic_3 ?_
  refine b_iadd (pc := 1207) C dL_law_1207 ?_
  refine b_sldL (pc := 1208) C dL_law_1208 hX hL (q_add i 3) (by omega) ?_
  refine b_cV3i (pc := 1209) C dL_law_1209 mm_L_175 (Hh.1 _ _ sh_0) rfl (Nat.le_of_ble_eq_true rfl) (by omega) (Hh.2.2 _ _ _ _ _ _ _ _ _ (e_X11_yearsAt 0 _ _ _ _ _ _ h1)) ?_
  refine b_aload_n (pc := 1212) C dL_law_1212 rfl 2 rfl ?_
  refine b_aload_n (pc := 1213) C dL_law_1213 rfl 0 rfl ?_
  refine b_iload (pc := 1214) C dL_law_1214 4 rfl ?_
  refine b_iconst (pc := 1216) C dL_law_1216 ic_1 ?_
  refine b_iadd (pc := 1217) C dL_law_1217 ?_
  refine b_sldL (pc := 1218) C dL_law_1218 hX hL (q_add i 1) (by omega) ?_
  refine b_aload_n (pc := 1219) C dL_law_1219 rfl 0 rfl ?_
  refine b_iload (pc := 1220) C dL_law_1220 4 rfl ?_
  refine b_iconst (pc := 1222) C dL_law_1222 ic_2 ?_
  refine b_iadd (pc := 1223) C dL_law_1223 ?_
  refine b_sldL (pc := 1224) C dL_law_1224 hX hL (q_add i 2) (by omega) ?_
  refine b_aload_n (pc := 1225) C dL_law_1225 rfl 0 rfl ?_
  refine b_iload (pc := 1226) C dL_law_1226 4 rfl ?_
  refine b_iconst (pc := 1228) C dL_law_1228 ic_3 ?_
  refine b_iadd (pc := 1229) C dL_law_1229 ?_
  refine b_sldL (pc := 1230) C dL_law_1230 hX hL (q_add i 3) (by omega) ?_
  refine b_cV3i (pc := 1231) C dL_law_1231 mm_L_179 (Hh.1 _ _ sh_92) rfl (Nat.le_of_ble_eq_true rfl) (by omega) (Hh.2.2 _ _ _ _ _ _ _ _ _ (e_X12_yearsAt 0 _ _ _ _ _ _ h2)) ?_
  exact b_icmp_eq (tgt := 1558) (pc := 1234) C dL_law_1234 rfl (fun _ => K _ hI2) (fun z => absurd rfl z)
set_option maxHeartbeats 4000000 in
set_option maxRecDepth 20000 in
theorem q_law_39 {X : bX} {l : Launch} {G : bG} {ρ : Nat → Nat} {A : Nat → Prop} {L i : Nat} {xs : Nat → Int32} (C : bCX X cL_law RL 800) (Hh : bH X l G bSHf ρ A 7) (hX : bSX X 500 L xs) (hL : L ≤ 3072) (hi : i + 6 ≤ L) {σ : bSto} (hI : INV σ) (K : ∀ σ2, INV σ2 → bAJ X 1558 [(0, .ref 500), (1, .ref 0), (2, .ref 92), (3, .ref 110), (4, .int (nI i))] [] σ2) : bAJ X 1239 [(0, .ref 500), (1, .ref 0), (2, .ref 92), (3, .ref 110), (4, .int (nI i))] [] σ := by
  obtain ⟨r, σ1, σ2, h1, h2, hI2⟩ := o_happy hI (xs (i + 1)) (xs (i + 2)) (xs (i + 3))
  refine b_aload_n (pc := 1239) C dL_law_1239 rfl 1 rfl ?_
  refine b_aload_n (pc := 1240) C dL_law_1240 rfl 0 rfl ?_
  refine b_iload (pc := 1241) C dL_law_1241 4 rfl ?_
  refine b_iconst (pc := 1243) C dL_law_1243 ic_1 ?_
  refine b_iadd (pc := 1244) C dL_law_1244 ?_
  refine b_sldL (pc := 1245) C dL_law_1245 hX hL (q_add i 1) (by omega) ?_
  refine b_aload_n (pc := 1246) C dL_law_1246 rfl 0 rfl ?_
  refine b_iload (pc := 1247) C dL_law_1247 4 rfl ?_
  refine b_iconst (pc := 1249) C dL_law_1249 ic_2 ?_
  refine b_iadd (pc := 1250) C dL_law_1250 ?_
  refine b_sldL (pc := 1251) C dL_law_1251 hX hL (q_add i 2) (by omega) ?_
  refine b_aload_n (pc := 1252) C dL_law_1252 rfl 0 rfl ?_
  refine b_iload (pc := 1253) C dL_law_1253 4 rfl ?_
  refine b_iconst (pc := 1255) C dL_law_1255 ic_3 ?_
  refine b_iadd (pc := 1256) C dL_law_1256 ?_
  refine b_sldL (pc := 1257) C dL_law_1257 hX hL (q_add i 3) (by omega) ?_
  refine b_cV3i (pc := 1258) C dL_law_1258 mm_L_180 (Hh.1 _ _ sh_0) rfl (Nat.le_of_ble_eq_true rfl) (by omega) (Hh.2.2 _ _ _ _ _ _ _ _ _ (e_X11_happy 0 _ _ _ _ _ _ h1)) ?_
  refine b_aload_n (pc := 1261) C dL_law_1261 rfl 2 rfl ?_
  refine b_aload_n (pc := 1262) C dL_law_1262 rfl 0 rfl ?_
  refine b_iload (pc := 1263) C dL_law_1263 4 rfl ?_
  refine b_iconst (pc := 1265) C dL_law_1265 ic_1 ?_
  refine b_iadd (pc := 1266) C dL_law_1266 ?_
  refine b_sldL (pc := 1267) C dL_law_1267 hX hL (q_add i 1) (by omega) ?_
  refine b_aload_n (pc := 1268) C dL_law_1268 rfl 0 rfl ?_
  refine b_iload (pc := 1269) C dL_law_1269 4 rfl ?_
  refine b_iconst (pc := 1271) C dL_law_1271 ic_2 ?_
  refine b_iadd (pc := 1272) C dL_law_1272 ?_
  refine b_sldL (pc := 1273) C dL_law_1273 hX hL (q_add i 2) (by omega) ?_
  refine b_aload_n (pc := 1274) C dL_law_1274 rfl 0 rfl ?_
  refine b_iload (pc := 1275) C dL_law_1275 4 rfl ?_
  refine b_iconst (pc := 1277) C dL_law_1277 ic_3 ?_
  refine b_iadd (pc := 1278) C dL_law_1278 ?_
  refine b_sldL (pc := 1279) C dL_law_1279 hX hL (q_add i 3) (by omega) ?_
  refine b_cV3i (pc := 1280) C dL_law_1280 mm_L_183 (Hh.1 _ _ sh_92) rfl (Nat.le_of_ble_eq_true rfl) (by omega) (Hh.2.2 _ _ _ _ _ _ _ _ _ (e_X12_happy 0 _ _ _ _ _ _ h2)) ?_
  exact b_icmp_eq (tgt := 1558) (pc := 1283) C dL_law_1283 rfl (fun _ => K _ hI2) (fun z => absurd rfl z)
set_option maxHeartbeats 4000000 in
set_option maxRecDepth 20000 in
theorem q_law_40 {X : bX} {l : Launch} {G : bG} {ρ : Nat → Nat} {A : Nat → Prop} {L i : Nat} {xs : Nat → Int32} (C : bCX X cL_law RL 800) (Hh : bH X l G bSHf ρ A 7) (hX : bSX X 500 L xs) (hL : L ≤ 3072) (hi : i + 6 ≤ L) {σ : bSto} (hI : INV σ) (K : ∀ σ2, INV σ2 → bAJ X 1558 [(0, .ref 500), (1, .ref 0), (2, .ref 92), (3, .ref 110), (4, .int (nI i))] [] σ2) : bAJ X 1288 [(0, .ref 500), (1, .ref 0), (2, .ref 92), (3, .ref 110), (4, .int (nI i))] [] σ := by
  obtain ⟨r, σ1, σ2, h1, h2, hI2⟩ := o_sit hI (xs (i + 1)) (xs (i + 2))
  refine b_aload_n (pc := 1288) C dL_law_1288 rfl 1 rfl ?_
  refine b_aload_n (pc := 1289) C dL_law_1289 rfl 0 rfl ?_
  refine b_iload (pc := 1290) C dL_law_1290 4 rfl ?_
  refine b_iconst (pc := 1292) C dL_law_1292 ic_1 ?_
  refine b_iadd (pc := 1293) C dL_law_1293 ?_
  refine b_sldL (pc := 1294) C dL_law_1294 hX hL (q_add i 1) (by omega) ?_
  refine b_aload_n (pc := 1295) C dL_law_1295 rfl 0 rfl ?_
  refine b_iload (pc := 1296) C dL_law_1296 4 rfl ?_
  refine b_iconst (pc := 1298) C dL_law_1298 ic_2 ?_
  refine b_iadd (pc := 1299) C dL_law_1299 ?_
  refine b_sldL (pc := 1300) C dL_law_1300 hX hL (q_add i 2) (by omega) ?_
  refine b_cV2i (pc := 1301) C dL_law_1301 mm_L_184 (Hh.1 _ _ sh_0) rfl (Nat.le_of_ble_eq_true rfl) (by omega) (Hh.2.2 _ _ _ _ _ _ _ _ _ (e_X11_sit 0 _ _ _ _ _ h1)) ?_
  refine b_aload_n (pc := 1304) C dL_law_1304 rfl 2 rfl ?_
  refine b_aload_n (pc := 1305) C dL_law_1305 rfl 0 rfl ?_
  refine b_iload (pc := 1306) C dL_law_1306 4 rfl ?_
  refine b_iconst (pc := 1308) C dL_law_1308 ic_1 ?_
  refine b_iadd (pc := 1309) C dL_law_1309 ?_
  refine b_sldL (pc := 1310) C dL_law_1310 hX hL (q_add i 1) (by omega) ?_
  refine b_aload_n (pc := 1311) C dL_law_1311 rfl 0 rfl ?_
  refine b_iload (pc := 1312) C dL_law_1312 4 rfl ?_
  refine b_iconst (pc := 1314) C dL_law_1314 ic_2 ?_
  refine b_iadd (pc := 1315) C dL_law_1315 ?_
  refine b_sldL (pc := 1316) C dL_law_1316 hX hL (q_add i 2) (by omega) ?_
  refine b_cV2i (pc := 1317) C dL_law_1317 mm_L_188 (Hh.1 _ _ sh_92) rfl (Nat.le_of_ble_eq_true rfl) (by omega) (Hh.2.2 _ _ _ _ _ _ _ _ _ (e_X12_sit 0 _ _ _ _ _ h2)) ?_
  exact b_icmp_eq (tgt := 1558) (pc := 1320) C dL_law_1320 rfl (fun _ => K _ hI2) (fun z => absurd rfl z)
set_option maxHeartbeats 4000000 in
set_option maxRecDepth 20000 in
theorem q_law_41 {X : bX} {l : Launch} {G : bG} {ρ : Nat → Nat} {A : Nat → Prop} {L i : Nat} {xs : Nat → Int32} (C : bCX X cL_law RL 800) (Hh : bH X l G bSHf ρ A 7) (hX : bSX X 500 L xs) (hL : L ≤ 3072) (hi : i + 6 ≤ L) {σ : bSto} (hI : INV σ) (K : ∀ σ2, INV σ2 → bAJ X 1558 [(0, .ref 500), (1, .ref 0), (2, .ref 92), (3, .ref 110), (4, .int (nI i))] [] σ2) : bAJ X 1325 [(0, .ref 500), (1, .ref 0), (2, .ref 92), (3, .ref 110), (4, .int (nI i))] [] σ := by
  obtain ⟨r, σ1, σ2, h1, h2, hI2⟩ := o_stand hI (xs (i + 1))
  refine b_aload_n (pc := 1325) C dL_law_1325 rfl 1 rfl ?_
  refine b_aload_n (pc := 1326) C dL_law_1326 rfl 0 rfl ?_
  refine b_iload (pc := 1327) C dL_law_1327 4 rfl ?_
  refine b_iconst (pc := 1329) C dL_law_1329 ic_1 ?_
  refine b_iadd (pc := 1330) C dL_law_1330 ?_
  refine b_sldL (pc := 1331) C dL_law_1331 hX hL (q_add i 1) (by omega) ?_
  refine b_cV1i (pc := 1332) C dL_law_1332 mm_L_189 (Hh.1 _ _ sh_0) rfl (Nat.le_of_ble_eq_true rfl) (by omega) (Hh.2.2 _ _ _ _ _ _ _ _ _ (e_X11_stand 0 _ _ _ _ h1)) ?_
  refine b_aload_n (pc := 1335) C dL_law_1335 rfl 2 rfl ?_
  refine b_aload_n (pc := 1336) C dL_law_1336 rfl 0 rfl ?_
  refine b_iload (pc := 1337) C dL_law_1337 4 rfl ?_
  refine b_iconst (pc := 1339) C dL_law_1339 ic_1 ?_
  refine b_iadd (pc := 1340) C dL_law_1340 ?_
  refine b_sldL (pc := 1341) C dL_law_1341 hX hL (q_add i 1) (by omega) ?_
  refine b_cV1i (pc := 1342) C dL_law_1342 mm_L_193 (Hh.1 _ _ sh_92) rfl (Nat.le_of_ble_eq_true rfl) (by omega) (Hh.2.2 _ _ _ _ _ _ _ _ _ (e_X12_stand 0 _ _ _ _ h2)) ?_
  exact b_icmp_eq (tgt := 1558) (pc := 1345) C dL_law_1345 rfl (fun _ => K _ hI2) (fun z => absurd rfl z)
set_option maxHeartbeats 4000000 in
set_option maxRecDepth 20000 in
theorem q_law_42 {X : bX} {l : Launch} {G : bG} {ρ : Nat → Nat} {A : Nat → Prop} {L i : Nat} {xs : Nat → Int32} (C : bCX X cL_law RL 800) (Hh : bH X l G bSHf ρ A 7) (hX : bSX X 500 L xs) (hL : L ≤ 3072) (hi : i + 6 ≤ L) {σ : bSto} (hI : INV σ) (K : ∀ σ2, INV σ2 → bAJ X 1558 [(0, .ref 500), (1, .ref 0), (2, .ref 92), (3, .ref 110), (4, .int (nI i))] [] σ2) : bAJ X 1350 [(0, .ref 500), (1, .ref 0), (2, .ref 92), (3, .ref 110), (4, .int (nI i))] [] σ := by
  obtain ⟨r, σ1, σ2, h1, h2, hI2⟩ := o_preach hI (xs (i + 1)) (xs (i + 2))
  refine b_aload_n (pc := 1350) C dL_law_1350 rfl 1 rfl ?_
  refine b_aload_n (pc := 1351) C dL_law_1351 rfl 0 rfl ?_
  refine b_iload (pc := 1352) C dL_law_1352 4 rfl ?_
  refine b_iconst (pc := 1354) C dL_law_1354 ic_1 ?_
  refine b_iadd (pc := 1355) C dL_law_1355 ?_
  refine b_sldL (pc := 1356) C dL_law_1356 hX hL (q_add i 1) (by omega) ?_
  refine b_aload_n (pc := 1357) C dL_law_1357 rfl 0 rfl ?_
  refine b_iload (pc := 1358) C dL_law_1358 4 rfl ?_
  refine b_iconst (pc := 1360) C dL_law_1360 ic_2 ?_
  refine b_iadd (pc := 1361) C dL_law_1361 ?_
  refine b_sldL (pc := 1362) C dL_law_1362 hX hL (q_add i 2) (by omega) ?_
  refine b_cV2i (pc := 1363) C dL_law_1363 mm_L_194 (Hh.1 _ _ sh_0) rfl (Nat.le_of_ble_eq_true rfl) (by omega) (Hh.2.2 _ _ _ _ _ _ _ _ _ (e_X11_preach 0 _ _ _ _ _ h1)) ?_
  refine b_aload_n (pc := 1366) C dL_law_1366 rfl 2 rfl ?_
  refine b_aload_n (pc := 1367) C dL_law_1367 rfl 0 rfl ?_
  refine b_iload (pc := 1368) C dL_law_1368 4 rfl ?_
  refine b_iconst (pc := 1370) C dL_law_1370 ic_1 ?_
  refine b_iadd (pc := 1371) C dL_law_1371 ?_
  refine b_sldL (pc := 1372) C dL_law_1372 hX hL (q_add i 1) (by omega) ?_
  refine b_aload_n (pc := 1373) C dL_law_1373 rfl 0 rfl ?_
  refine b_iload (pc := 1374) C dL_law_1374 4 rfl ?_
  refine b_iconst (pc := 1376) C dL_law_1376 ic_2 ?_
  refine b_iadd (pc := 1377) C dL_law_1377 ?_
  refine b_sldL (pc := 1378) C dL_law_1378 hX hL (q_add i 2) (by omega) ?_
  refine b_cV2i (pc := 1379) C dL_law_1379 mm_L_197 (Hh.1 _ _ sh_92) rfl (Nat.le_of_ble_eq_true rfl) (by omega) (Hh.2.2 _ _ _ _ _ _ _ _ _ (e_X12_preach 0 _ _ _ _ _ h2)) ?_
  exact b_icmp_eq (tgt := 1558) (pc := 1382) C dL_law_1382 rfl (fun _ => K _ hI2) (fun z => absurd rfl z)
set_option maxHeartbeats 4000000 in
set_option maxRecDepth 20000 in
theorem q_law_43 {X : bX} {l : Launch} {G : bG} {ρ : Nat → Nat} {A : Nat → Prop} {L i : Nat} {xs : Nat → Int32} (C : bCX X cL_law RL 800) (Hh : bH X l G bSHf ρ A 7) (hX : bSX X 500 L xs) (hL : L ≤ 3072) (hi : i + 6 ≤ L) {σ : bSto} (hI : INV σ) (K : ∀ σ2, INV σ2 → bAJ X 1558 [(0, .ref 500), (1, .ref 0), (2, .ref 92), (3, .ref 110), (4, .int (nI i))] [] σ2) : bAJ X 1387 [(0, .ref 500), (1, .ref 0), (2, .ref 92), (3, .ref 110), (4, .int (nI i))] [] σ := by
  obtain ⟨r, σ1, σ2, h1, h2, hI2⟩ := o_round hI 
  refine b_aload_n (pc := 1387) C dL_law_1387 rfl 1 rfl ?_
  refine b_cV0i (pc := 1388) C dL_law_1388 mm_L_198 (Hh.1 _ _ sh_0) rfl (Nat.le_of_ble_eq_true rfl) (by omega) (Hh.2.2 _ _ _ _ _ _ _ _ _ (e_X11_round 0 _ _ _ h1)) ?_
  refine b_aload_n (pc := 1391) C dL_law_1391 rfl 2 rfl ?_
  refine b_cV0i (pc := 1392) C dL_law_1392 mm_L_201 (Hh.1 _ _ sh_92) rfl (Nat.le_of_ble_eq_true rfl) (by omega) (Hh.2.2 _ _ _ _ _ _ _ _ _ (e_X12_round 0 _ _ _ h2)) ?_
  exact b_icmp_eq (tgt := 1558) (pc := 1395) C dL_law_1395 rfl (fun _ => K _ hI2) (fun z => absurd rfl z)
set_option maxHeartbeats 4000000 in
set_option maxRecDepth 20000 in
theorem q_law_44 {X : bX} {l : Launch} {G : bG} {ρ : Nat → Nat} {A : Nat → Prop} {L i : Nat} {xs : Nat → Int32} (C : bCX X cL_law RL 800) (Hh : bH X l G bSHf ρ A 7) (hX : bSX X 500 L xs) (hL : L ≤ 3072) (hi : i + 6 ≤ L) {σ : bSto} (hI : INV σ) (K : ∀ σ2, INV σ2 → bAJ X 1558 [(0, .ref 500), (1, .ref 0), (2, .ref 92), (3, .ref 110), (4, .int (nI i))] [] σ2) : bAJ X 1400 [(0, .ref 500), (1, .ref 0), (2, .ref 92), (3, .ref 110), (4, .int (nI i))] [] σ := by
  obtain ⟨r, σ1, σ2, h1, h2, hI2⟩ := o_day hI 
  refine b_aload_n (pc := 1400) C dL_law_1400 rfl 1 rfl ?_
  refine b_cV0i (pc := 1401) C dL_law_1401 mm_L_202 (Hh.1 _ _ sh_0) rfl (Nat.le_of_ble_eq_true rfl) (by omega) (Hh.2.2 _ _ _ _ _ _ _ _ _ (e_X11_day 0 _ _ _ h1)) ?_
  refine b_aload_n (pc := 1404) C dL_law_1404 rfl 2 rfl ?_
  refine b_cV0i (pc := 1405) C dL_law_1405 mm_L_205 (Hh.1 _ _ sh_92) rfl (Nat.le_of_ble_eq_true rfl) (by omega) (Hh.2.2 _ _ _ _ _ _ _ _ _ (e_X12_day 0 _ _ _ h2)) ?_
  exact b_icmp_eq (tgt := 1558) (pc := 1408) C dL_law_1408 rfl (fun _ => K _ hI2) (fun z => absurd rfl z)
set_option maxHeartbeats 4000000 in
set_option maxRecDepth 20000 in
theorem q_law_45 {X : bX} {l : Launch} {G : bG} {ρ : Nat → Nat} {A : Nat → Prop} {L i : Nat} {xs : Nat → Int32} (C : bCX X cL_law RL 800) (Hh : bH X l G bSHf ρ A 7) (hX : bSX X 500 L xs) (hL : L ≤ 3072) (hi : i + 6 ≤ L) {σ : bSto} (hI : INV σ) (K : ∀ σ2, INV σ2 → bAJ X 1558 [(0, .ref 500), (1, .ref 0), (2, .ref 92), (3, .ref 110), (4, .int (nI i))] [] σ2) : bAJ X 1413 [(0, .ref 500), (1, .ref 0), (2, .ref 92), (3, .ref 110), (4, .int (nI i))] [] σ := by
  obtain ⟨r, σ1, σ2, h1, h2, hI2⟩ := o_undo hI 
  refine b_aload_n (pc := 1413) C dL_law_1413 rfl 1 rfl ?_
  refine b_cV0i (pc := 1414) C dL_law_1414 mm_L_206 (Hh.1 _ _ sh_0) rfl (Nat.le_of_ble_eq_true rfl) (by omega) (Hh.2.2 _ _ _ _ _ _ _ _ _ (e_X11_undo 0 _ _ _ h1)) ?_
  refine b_aload_n (pc := 1417) C dL_law_1417 rfl 2 rfl ?_
  refine b_cV0i (pc := 1418) C dL_law_1418 mm_L_210 (Hh.1 _ _ sh_92) rfl (Nat.le_of_ble_eq_true rfl) (by omega) (Hh.2.2 _ _ _ _ _ _ _ _ _ (e_X12_undo 0 _ _ _ h2)) ?_
  exact b_icmp_eq (tgt := 1558) (pc := 1421) C dL_law_1421 rfl (fun _ => K _ hI2) (fun z => absurd rfl z)
set_option maxHeartbeats 4000000 in
set_option maxRecDepth 20000 in
theorem q_law_46 {X : bX} {l : Launch} {G : bG} {ρ : Nat → Nat} {A : Nat → Prop} {L i : Nat} {xs : Nat → Int32} (C : bCX X cL_law RL 800) (Hh : bH X l G bSHf ρ A 7) (hX : bSX X 500 L xs) (hL : L ≤ 3072) (hi : i + 6 ≤ L) {σ : bSto} (hI : INV σ) (K : ∀ σ2, INV σ2 → bAJ X 1558 [(0, .ref 500), (1, .ref 0), (2, .ref 92), (3, .ref 110), (4, .int (nI i))] [] σ2) : bAJ X 1426 [(0, .ref 500), (1, .ref 0), (2, .ref 92), (3, .ref 110), (4, .int (nI i))] [] σ := by
  obtain ⟨r, σ1, σ2, h1, h2, hI2⟩ := o_image hI 
  refine b_aload_n (pc := 1426) C dL_law_1426 rfl 1 rfl ?_
  refine b_cV0i (pc := 1427) C dL_law_1427 mm_L_211 (Hh.1 _ _ sh_0) rfl (Nat.le_of_ble_eq_true rfl) (by omega) (Hh.2.2 _ _ _ _ _ _ _ _ _ (e_X11_image 0 _ _ _ h1)) ?_
  refine b_aload_n (pc := 1430) C dL_law_1430 rfl 2 rfl ?_
  refine b_cV0i (pc := 1431) C dL_law_1431 mm_L_214 (Hh.1 _ _ sh_92) rfl (Nat.le_of_ble_eq_true rfl) (by omega) (Hh.2.2 _ _ _ _ _ _ _ _ _ (e_X12_image 0 _ _ _ h2)) ?_
  exact b_icmp_eq (tgt := 1558) (pc := 1434) C dL_law_1434 rfl (fun _ => K _ hI2) (fun z => absurd rfl z)
set_option maxHeartbeats 4000000 in
set_option maxRecDepth 20000 in
theorem q_law_47 {X : bX} {l : Launch} {G : bG} {ρ : Nat → Nat} {A : Nat → Prop} {L i : Nat} {xs : Nat → Int32} (C : bCX X cL_law RL 800) (Hh : bH X l G bSHf ρ A 7) (hX : bSX X 500 L xs) (hL : L ≤ 3072) (hi : i + 6 ≤ L) {σ : bSto} (hI : INV σ) (K : ∀ σ2, INV σ2 → bAJ X 1558 [(0, .ref 500), (1, .ref 0), (2, .ref 92), (3, .ref 110), (4, .int (nI i))] [] σ2) : bAJ X 1439 [(0, .ref 500), (1, .ref 0), (2, .ref 92), (3, .ref 110), (4, .int (nI i))] [] σ := by
  obtain ⟨r, σ1, σ2, h1, h2, hI2⟩ := o_back hI (xs (i + 1))
  refine b_aload_n (pc := 1439) C dL_law_1439 rfl 1 rfl ?_
  refine b_aload_n (pc := 1440) C dL_law_1440 rfl 0 rfl ?_
  refine b_iload (pc := 1441) C dL_law_1441 4 rfl ?_
  refine b_iconst (pc := 1443) C dL_law_1443 ic_1 ?_
  refine b_iadd (pc := 1444) C dL_law_1444 ?_
  refine b_sldL (pc := 1445) C dL_law_1445 hX hL (q_add i 1) (by omega) ?_
  refine b_cV1i (pc := 1446) C dL_law_1446 mm_L_215 (Hh.1 _ _ sh_0) rfl (Nat.le_of_ble_eq_true rfl) (by omega) (Hh.2.2 _ _ _ _ _ _ _ _ _ (e_X11_back 0 _ _ _ _ h1)) ?_
  refine b_aload_n (pc := 1449) C dL_law_1449 rfl 2 rfl ?_
  refine b_aload_n (pc := 1450) C dL_law_1450 rfl 0 rfl ?_
  refine b_iload (pc := 1451) C dL_law_1451 4 rfl ?_
  refine b_iconst (pc := 1453) C dL_law_1453 ic_1 ?_
  refine b_iadd (pc := 1454) C dL_law_1454 ?_
  refine b_sldL (pc := 1455) C dL_law_1455 hX hL (q_add i 1) (by omega) ?_
  refine b_cV1i (pc := 1456) C dL_law_1456 mm_L_218 (Hh.1 _ _ sh_92) rfl (Nat.le_of_ble_eq_true rfl) (by omega) (Hh.2.2 _ _ _ _ _ _ _ _ _ (e_X12_back 0 _ _ _ _ h2)) ?_
  exact b_icmp_eq (tgt := 1558) (pc := 1459) C dL_law_1459 rfl (fun _ => K _ hI2) (fun z => absurd rfl z)
set_option maxHeartbeats 4000000 in
set_option maxRecDepth 20000 in
theorem q_law_49 {X : bX} {l : Launch} {G : bG} {ρ : Nat → Nat} {A : Nat → Prop} {L i : Nat} {xs : Nat → Int32} (C : bCX X cL_law RL 800) (Hh : bH X l G bSHf ρ A 7) (hX : bSX X 500 L xs) (hL : L ≤ 3072) (hi : i + 6 ≤ L) {σ : bSto} (hI : INV σ) (K : ∀ σ2, INV σ2 → bAJ X 1558 [(0, .ref 500), (1, .ref 0), (2, .ref 92), (3, .ref 110), (4, .int (nI i))] [] σ2) : bAJ X 1520 [(0, .ref 500), (1, .ref 0), (2, .ref 92), (3, .ref 110), (4, .int (nI i))] [] σ := by
  obtain ⟨r, σ1, σ2, h1, h2, hI2⟩ := o_size hI (xs (i + 1))
  refine b_aload_n (pc := 1520) C dL_law_1520 rfl 1 rfl ?_
  refine b_aload_n (pc := 1521) C dL_law_1521 rfl 0 rfl ?_
  refine b_iload (pc := 1522) C dL_law_1522 4 rfl ?_
  refine b_iconst (pc := 1524) C dL_law_1524 ic_1 ?_
  refine b_iadd (pc := 1525) C dL_law_1525 ?_
  refine b_sldL (pc := 1526) C dL_law_1526 hX hL (q_add i 1) (by omega) ?_
  refine b_cV1i (pc := 1527) C dL_law_1527 mm_L_228 (Hh.1 _ _ sh_0) rfl (Nat.le_of_ble_eq_true rfl) (by omega) (Hh.2.2 _ _ _ _ _ _ _ _ _ (e_X11_size 0 _ _ _ _ h1)) ?_
  refine b_aload_n (pc := 1530) C dL_law_1530 rfl 2 rfl ?_
  refine b_aload_n (pc := 1531) C dL_law_1531 rfl 0 rfl ?_
  refine b_iload (pc := 1532) C dL_law_1532 4 rfl ?_
  refine b_iconst (pc := 1534) C dL_law_1534 ic_1 ?_
  refine b_iadd (pc := 1535) C dL_law_1535 ?_
  refine b_sldL (pc := 1536) C dL_law_1536 hX hL (q_add i 1) (by omega) ?_
  refine b_cV1i (pc := 1537) C dL_law_1537 mm_L_231 (Hh.1 _ _ sh_92) rfl (Nat.le_of_ble_eq_true rfl) (by omega) (Hh.2.2 _ _ _ _ _ _ _ _ _ (e_X12_size 0 _ _ _ _ h2)) ?_
  exact b_icmp_eq (tgt := 1558) (pc := 1540) C dL_law_1540 rfl (fun _ => K _ hI2) (fun z => absurd rfl z)
set_option maxHeartbeats 4000000 in
set_option maxRecDepth 20000 in
theorem q_law_50 {X : bX} {l : Launch} {G : bG} {ρ : Nat → Nat} {A : Nat → Prop} {L i : Nat} {xs : Nat → Int32} (C : bCX X cL_law RL 800) (Hh : bH X l G bSHf ρ A 7) (hX : bSX X 500 L xs) (hL : L ≤ 3072) (hi : i + 6 ≤ L) {σ : bSto} (hI : INV σ) (K : ∀ σ2, INV σ2 → bAJ X 1558 [(0, .ref 500), (1, .ref 0), (2, .ref 92), (3, .ref 110), (4, .int (nI i))] [] σ2) : bAJ X 1545 [(0, .ref 500), (1, .ref 0), (2, .ref 92), (3, .ref 110), (4, .int (nI i))] [] σ := by
  obtain ⟨r, σ1, σ2, h1, h2, hI2⟩ := o_trouble hI 
  refine b_aload_n (pc := 1545) C dL_law_1545 rfl 1 rfl ?_
  refine b_cV0i (pc := 1546) C dL_law_1546 mm_L_232 (Hh.1 _ _ sh_0) rfl (Nat.le_of_ble_eq_true rfl) (by omega) (Hh.2.2 _ _ _ _ _ _ _ _ _ (e_X11_trouble 0 _ _ _ h1)) ?_
  refine b_aload_n (pc := 1549) C dL_law_1549 rfl 2 rfl ?_
  refine b_cV0i (pc := 1550) C dL_law_1550 mm_L_235 (Hh.1 _ _ sh_92) rfl (Nat.le_of_ble_eq_true rfl) (by omega) (Hh.2.2 _ _ _ _ _ _ _ _ _ (e_X12_trouble 0 _ _ _ h2)) ?_
  exact b_icmp_eq (tgt := 1558) (pc := 1553) C dL_law_1553 rfl (fun _ => K _ hI2) (fun z => absurd rfl z)
