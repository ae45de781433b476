abbrev cc_law : ByteArray := code
theorem wa_589 : (Cond.codeWith y_L_area cc_L_area 4 (some .int) [(0, 9, 12, 13), (0, 9, 15, 15)]) ∈ jv_LT := List.mem_filter.mpr ⟨List.mem_of_getElem? (i := 189) (by decide +kernel), by decide +kernel⟩
theorem wa_590 : (Cond.initialized R_Law) ∈ jv_LT := List.mem_filter.mpr ⟨List.mem_of_getElem? (i := 49) (by decide +kernel), by decide +kernel⟩
theorem wa_591 : (Cond.methodLink R_Law 77 y_L_area) ∈ jv_LT := List.mem_filter.mpr ⟨List.mem_of_getElem? (i := 187) (by decide +kernel), by decide +kernel⟩
theorem wa_592 : (Cond.static y_L_area) ∈ jv_LT := List.mem_filter.mpr ⟨List.mem_of_getElem? (i := 188) (by decide +kernel), by decide +kernel⟩
theorem wa_593 : (Cond.code y_M_area prog_10_method_8_code 4 (some .int)) ∈ jv_LT := List.mem_filter.mpr ⟨List.mem_of_getElem? (i := 842) (by decide +kernel), by decide +kernel⟩
theorem wa_594 : (Cond.methodLink R_Law 82 y_M_area) ∈ jv_LT := List.mem_filter.mpr ⟨List.mem_of_getElem? (i := 839) (by decide +kernel), by decide +kernel⟩
theorem wa_595 : (Cond.instanceMethod y_M_area) ∈ jv_LT := List.mem_filter.mpr ⟨List.mem_of_getElem? (i := 840) (by decide +kernel), by decide +kernel⟩
theorem wa_596 : (Cond.selects R_Model y_M_area y_M_area) ∈ jv_LT := List.mem_filter.mpr ⟨List.mem_of_getElem? (i := 841) (by decide +kernel), by decide +kernel⟩
theorem wa_597 : (Cond.code y_M_thrown prog_10_method_2_code 1 (some .int)) ∈ jv_LT := List.mem_filter.mpr ⟨List.mem_of_getElem? (i := 825) (by decide +kernel), by decide +kernel⟩
theorem wa_598 : (Cond.methodLink R_Law 83 y_M_thrown) ∈ jv_LT := List.mem_filter.mpr ⟨List.mem_of_getElem? (i := 822) (by decide +kernel), by decide +kernel⟩
theorem wa_599 : (Cond.instanceMethod y_M_thrown) ∈ jv_LT := List.mem_filter.mpr ⟨List.mem_of_getElem? (i := 823) (by decide +kernel), by decide +kernel⟩
theorem wa_600 : (Cond.selects R_Model y_M_thrown y_M_thrown) ∈ jv_LT := List.mem_filter.mpr ⟨List.mem_of_getElem? (i := 824) (by decide +kernel), by decide +kernel⟩
theorem wa_601 : (Cond.codeWith y_L_flows cc_L_flows 5 (some .int) [(0, 17, 20, 13)]) ∈ jv_LT := List.mem_filter.mpr ⟨List.mem_of_getElem? (i := 366) (by decide +kernel), by decide +kernel⟩
theorem wa_602 : (Cond.methodLink R_Law 87 y_L_flows) ∈ jv_LT := List.mem_filter.mpr ⟨List.mem_of_getElem? (i := 364) (by decide +kernel), by decide +kernel⟩
theorem wa_603 : (Cond.static y_L_flows) ∈ jv_LT := List.mem_filter.mpr ⟨List.mem_of_getElem? (i := 365) (by decide +kernel), by decide +kernel⟩
theorem wa_604 : (Cond.code y_M_flows prog_10_method_6_code 3 (some .boolean)) ∈ jv_LT := List.mem_filter.mpr ⟨List.mem_of_getElem? (i := 829) (by decide +kernel), by decide +kernel⟩
theorem wa_605 : (Cond.methodLink R_Law 90 y_M_flows) ∈ jv_LT := List.mem_filter.mpr ⟨List.mem_of_getElem? (i := 826) (by decide +kernel), by decide +kernel⟩
theorem wa_606 : (Cond.instanceMethod y_M_flows) ∈ jv_LT := List.mem_filter.mpr ⟨List.mem_of_getElem? (i := 827) (by decide +kernel), by decide +kernel⟩
theorem wa_607 : (Cond.selects R_Model y_M_flows y_M_flows) ∈ jv_LT := List.mem_filter.mpr ⟨List.mem_of_getElem? (i := 828) (by decide +kernel), by decide +kernel⟩
theorem wa_608 : (Cond.codeWith y_L_clear cc_L_clear 5 (some .int) [(0, 17, 20, 13)]) ∈ jv_LT := List.mem_filter.mpr ⟨List.mem_of_getElem? (i := 382) (by decide +kernel), by decide +kernel⟩
theorem wa_609 : (Cond.methodLink R_Law 91 y_L_clear) ∈ jv_LT := List.mem_filter.mpr ⟨List.mem_of_getElem? (i := 380) (by decide +kernel), by decide +kernel⟩
theorem wa_610 : (Cond.static y_L_clear) ∈ jv_LT := List.mem_filter.mpr ⟨List.mem_of_getElem? (i := 381) (by decide +kernel), by decide +kernel⟩
theorem wa_611 : (Cond.code y_M_clear prog_10_method_9_code 3 (some .boolean)) ∈ jv_LT := List.mem_filter.mpr ⟨List.mem_of_getElem? (i := 846) (by decide +kernel), by decide +kernel⟩
theorem wa_612 : (Cond.methodLink R_Law 93 y_M_clear) ∈ jv_LT := List.mem_filter.mpr ⟨List.mem_of_getElem? (i := 843) (by decide +kernel), by decide +kernel⟩
theorem wa_613 : (Cond.instanceMethod y_M_clear) ∈ jv_LT := List.mem_filter.mpr ⟨List.mem_of_getElem? (i := 844) (by decide +kernel), by decide +kernel⟩
theorem wa_614 : (Cond.selects R_Model y_M_clear y_M_clear) ∈ jv_LT := List.mem_filter.mpr ⟨List.mem_of_getElem? (i := 845) (by decide +kernel), by decide +kernel⟩
theorem wa_615 : (Cond.codeWith y_L_login cc_L_login 5 (some .int) [(0, 10, 13, 13), (0, 10, 17, 15)]) ∈ jv_LT := List.mem_filter.mpr ⟨List.mem_of_getElem? (i := 392) (by decide +kernel), by decide +kernel⟩
theorem wa_616 : (Cond.methodLink R_Law 94 y_L_login) ∈ jv_LT := List.mem_filter.mpr ⟨List.mem_of_getElem? (i := 390) (by decide +kernel), by decide +kernel⟩
theorem wa_617 : (Cond.static y_L_login) ∈ jv_LT := List.mem_filter.mpr ⟨List.mem_of_getElem? (i := 391) (by decide +kernel), by decide +kernel⟩
theorem wa_618 : (Cond.code y_M_login prog_10_method_10_code 7 (some .int)) ∈ jv_LT := List.mem_filter.mpr ⟨List.mem_of_getElem? (i := 850) (by decide +kernel), by decide +kernel⟩
theorem wa_619 : (Cond.methodLink R_Law 96 y_M_login) ∈ jv_LT := List.mem_filter.mpr ⟨List.mem_of_getElem? (i := 847) (by decide +kernel), by decide +kernel⟩
theorem wa_620 : (Cond.instanceMethod y_M_login) ∈ jv_LT := List.mem_filter.mpr ⟨List.mem_of_getElem? (i := 848) (by decide +kernel), by decide +kernel⟩
theorem wa_621 : (Cond.selects R_Model y_M_login y_M_login) ∈ jv_LT := List.mem_filter.mpr ⟨List.mem_of_getElem? (i := 849) (by decide +kernel), by decide +kernel⟩
theorem wa_622 : (Cond.codeWith y_L_logout cc_L_logout 4 (some .int) [(0, 9, 12, 13)]) ∈ jv_LT := List.mem_filter.mpr ⟨List.mem_of_getElem? (i := 411) (by decide +kernel), by decide +kernel⟩
theorem wa_623 : (Cond.methodLink R_Law 97 y_L_logout) ∈ jv_LT := List.mem_filter.mpr ⟨List.mem_of_getElem? (i := 409) (by decide +kernel), by decide +kernel⟩
theorem wa_624 : (Cond.static y_L_logout) ∈ jv_LT := List.mem_filter.mpr ⟨List.mem_of_getElem? (i := 410) (by decide +kernel), by decide +kernel⟩
theorem wa_625 : (Cond.code y_M_logout prog_10_method_12_code 3 (some .int)) ∈ jv_LT := List.mem_filter.mpr ⟨List.mem_of_getElem? (i := 858) (by decide +kernel), by decide +kernel⟩
theorem wa_626 : (Cond.methodLink R_Law 99 y_M_logout) ∈ jv_LT := List.mem_filter.mpr ⟨List.mem_of_getElem? (i := 855) (by decide +kernel), by decide +kernel⟩
theorem wa_627 : (Cond.instanceMethod y_M_logout) ∈ jv_LT := List.mem_filter.mpr ⟨List.mem_of_getElem? (i := 856) (by decide +kernel), by decide +kernel⟩
theorem wa_628 : (Cond.selects R_Model y_M_logout y_M_logout) ∈ jv_LT := List.mem_filter.mpr ⟨List.mem_of_getElem? (i := 857) (by decide +kernel), by decide +kernel⟩
theorem wa_629 : (Cond.codeWith y_L_make cc_L_make 6 (some .int) [(0, 12, 15, 13), (0, 12, 19, 35), (0, 12, 23, 37), (0, 12, 27, 15)]) ∈ jv_LT := List.mem_filter.mpr ⟨List.mem_of_getElem? (i := 426) (by decide +kernel), by decide +kernel⟩
theorem wa_630 : (Cond.methodLink R_Law 100 y_L_make) ∈ jv_LT := List.mem_filter.mpr ⟨List.mem_of_getElem? (i := 424) (by decide +kernel), by decide +kernel⟩
theorem wa_631 : (Cond.static y_L_make) ∈ jv_LT := List.mem_filter.mpr ⟨List.mem_of_getElem? (i := 425) (by decide +kernel), by decide +kernel⟩
theorem wa_632 : (Cond.code y_M_make prog_10_method_26_code 12 (some .int)) ∈ jv_LT := List.mem_filter.mpr ⟨List.mem_of_getElem? (i := 866) (by decide +kernel), by decide +kernel⟩
theorem wa_633 : (Cond.methodLink R_Law 103 y_M_make) ∈ jv_LT := List.mem_filter.mpr ⟨List.mem_of_getElem? (i := 863) (by decide +kernel), by decide +kernel⟩
theorem wa_634 : (Cond.instanceMethod y_M_make) ∈ jv_LT := List.mem_filter.mpr ⟨List.mem_of_getElem? (i := 864) (by decide +kernel), by decide +kernel⟩
theorem wa_635 : (Cond.selects R_Model y_M_make y_M_make) ∈ jv_LT := List.mem_filter.mpr ⟨List.mem_of_getElem? (i := 865) (by decide +kernel), by decide +kernel⟩
theorem wa_636 : (Cond.codeWith y_L_write cc_L_write 7 (some .int) [(0, 14, 17, 13), (0, 14, 21, 35), (0, 14, 25, 15), (0, 14, 29, 37)]) ∈ jv_LT := List.mem_filter.mpr ⟨List.mem_of_getElem? (i := 567) (by decide +kernel), by decide +kernel⟩
theorem wa_637 : (Cond.methodLink R_Law 104 y_L_write) ∈ jv_LT := List.mem_filter.mpr ⟨List.mem_of_getElem? (i := 565) (by decide +kernel), by decide +kernel⟩
theorem wa_638 : (Cond.static y_L_write) ∈ jv_LT := List.mem_filter.mpr ⟨List.mem_of_getElem? (i := 566) (by decide +kernel), by decide +kernel⟩
theorem wa_639 : (Cond.code y_M_write prog_10_method_30_code 11 (some .int)) ∈ jv_LT := List.mem_filter.mpr ⟨List.mem_of_getElem? (i := 915) (by decide +kernel), by decide +kernel⟩
theorem wa_640 : (Cond.methodLink R_Law 107 y_M_write) ∈ jv_LT := List.mem_filter.mpr ⟨List.mem_of_getElem? (i := 912) (by decide +kernel), by decide +kernel⟩
theorem wa_641 : (Cond.instanceMethod y_M_write) ∈ jv_LT := List.mem_filter.mpr ⟨List.mem_of_getElem? (i := 913) (by decide +kernel), by decide +kernel⟩
theorem wa_642 : (Cond.selects R_Model y_M_write y_M_write) ∈ jv_LT := List.mem_filter.mpr ⟨List.mem_of_getElem? (i := 914) (by decide +kernel), by decide +kernel⟩
theorem wa_643 : (Cond.codeWith y_L_truncate cc_L_truncate 6 (some .int) [(0, 12, 15, 13), (0, 12, 19, 35), (0, 12, 23, 15), (0, 12, 27, 37)]) ∈ jv_LT := List.mem_filter.mpr ⟨List.mem_of_getElem? (i := 627) (by decide +kernel), by decide +kernel⟩
theorem wa_644 : (Cond.methodLink R_Law 108 y_L_truncate) ∈ jv_LT := List.mem_filter.mpr ⟨List.mem_of_getElem? (i := 625) (by decide +kernel), by decide +kernel⟩
theorem wa_645 : (Cond.static y_L_truncate) ∈ jv_LT := List.mem_filter.mpr ⟨List.mem_of_getElem? (i := 626) (by decide +kernel), by decide +kernel⟩
theorem wa_646 : (Cond.code y_M_truncate prog_10_method_32_code 11 (some .int)) ∈ jv_LT := List.mem_filter.mpr ⟨List.mem_of_getElem? (i := 935) (by decide +kernel), by decide +kernel⟩
theorem wa_647 : (Cond.methodLink R_Law 110 y_M_truncate) ∈ jv_LT := List.mem_filter.mpr ⟨List.mem_of_getElem? (i := 932) (by decide +kernel), by decide +kernel⟩
theorem wa_648 : (Cond.instanceMethod y_M_truncate) ∈ jv_LT := List.mem_filter.mpr ⟨List.mem_of_getElem? (i := 933) (by decide +kernel), by decide +kernel⟩
theorem wa_649 : (Cond.selects R_Model y_M_truncate y_M_truncate) ∈ jv_LT := List.mem_filter.mpr ⟨List.mem_of_getElem? (i := 934) (by decide +kernel), by decide +kernel⟩
theorem wa_650 : (Cond.codeWith y_L_remove cc_L_remove 5 (some .int) [(0, 10, 13, 13), (0, 10, 17, 35), (0, 10, 21, 15), (0, 10, 25, 37)]) ∈ jv_LT := List.mem_filter.mpr ⟨List.mem_of_getElem? (i := 659) (by decide +kernel), by decide +kernel⟩
theorem wa_651 : (Cond.methodLink R_Law 111 y_L_remove) ∈ jv_LT := List.mem_filter.mpr ⟨List.mem_of_getElem? (i := 657) (by decide +kernel), by decide +kernel⟩
theorem wa_652 : (Cond.static y_L_remove) ∈ jv_LT := List.mem_filter.mpr ⟨List.mem_of_getElem? (i := 658) (by decide +kernel), by decide +kernel⟩
theorem wa_653 : (Cond.code y_M_remove prog_10_method_34_code 8 (some .int)) ∈ jv_LT := List.mem_filter.mpr ⟨List.mem_of_getElem? (i := 943) (by decide +kernel), by decide +kernel⟩
theorem wa_654 : (Cond.methodLink R_Law 113 y_M_remove) ∈ jv_LT := List.mem_filter.mpr ⟨List.mem_of_getElem? (i := 940) (by decide +kernel), by decide +kernel⟩
theorem wa_655 : (Cond.instanceMethod y_M_remove) ∈ jv_LT := List.mem_filter.mpr ⟨List.mem_of_getElem? (i := 941) (by decide +kernel), by decide +kernel⟩
theorem wa_656 : (Cond.selects R_Model y_M_remove y_M_remove) ∈ jv_LT := List.mem_filter.mpr ⟨List.mem_of_getElem? (i := 942) (by decide +kernel), by decide +kernel⟩
theorem wa_657 : (Cond.codeWith y_L_move cc_L_move 6 (some .int) [(0, 12, 15, 13), (0, 12, 19, 35), (0, 12, 23, 15), (0, 12, 27, 37)]) ∈ jv_LT := List.mem_filter.mpr ⟨List.mem_of_getElem? (i := 684) (by decide +kernel), by decide +kernel⟩
theorem wa_658 : (Cond.methodLink R_Law 114 y_L_move) ∈ jv_LT := List.mem_filter.mpr ⟨List.mem_of_getElem? (i := 682) (by decide +kernel), by decide +kernel⟩
theorem wa_659 : (Cond.static y_L_move) ∈ jv_LT := List.mem_filter.mpr ⟨List.mem_of_getElem? (i := 683) (by decide +kernel), by decide +kernel⟩
theorem wa_660 : (Cond.code y_M_move prog_10_method_36_code 10 (some .int)) ∈ jv_LT := List.mem_filter.mpr ⟨List.mem_of_getElem? (i := 951) (by decide +kernel), by decide +kernel⟩
theorem wa_661 : (Cond.methodLink R_Law 116 y_M_move) ∈ jv_LT := List.mem_filter.mpr ⟨List.mem_of_getElem? (i := 948) (by decide +kernel), by decide +kernel⟩
theorem wa_662 : (Cond.instanceMethod y_M_move) ∈ jv_LT := List.mem_filter.mpr ⟨List.mem_of_getElem? (i := 949) (by decide +kernel), by decide +kernel⟩
theorem wa_663 : (Cond.selects R_Model y_M_move y_M_move) ∈ jv_LT := List.mem_filter.mpr ⟨List.mem_of_getElem? (i := 950) (by decide +kernel), by decide +kernel⟩
theorem wa_664 : (Cond.codeWith y_L_read cc_L_read 7 (some .int) [(0, 14, 17, 13), (0, 14, 21, 15), (0, 14, 25, 35), (0, 14, 29, 37), (0, 14, 33, 55)]) ∈ jv_LT := List.mem_filter.mpr ⟨List.mem_of_getElem? (i := 705) (by decide +kernel), by decide +kernel⟩
theorem wa_665 : (Cond.methodLink R_Law 117 y_L_read) ∈ jv_LT := List.mem_filter.mpr ⟨List.mem_of_getElem? (i := 703) (by decide +kernel), by decide +kernel⟩
theorem wa_666 : (Cond.static y_L_read) ∈ jv_LT := List.mem_filter.mpr ⟨List.mem_of_getElem? (i := 704) (by decide +kernel), by decide +kernel⟩
theorem wa_667 : (Cond.code y_M_read prog_10_method_38_code 7 (some .int)) ∈ jv_LT := List.mem_filter.mpr ⟨List.mem_of_getElem? (i := 959) (by decide +kernel), by decide +kernel⟩
theorem wa_668 : (Cond.methodLink R_Law 119 y_M_read) ∈ jv_LT := List.mem_filter.mpr ⟨List.mem_of_getElem? (i := 956) (by decide +kernel), by decide +kernel⟩
theorem wa_669 : (Cond.instanceMethod y_M_read) ∈ jv_LT := List.mem_filter.mpr ⟨List.mem_of_getElem? (i := 957) (by decide +kernel), by decide +kernel⟩
theorem wa_670 : (Cond.selects R_Model y_M_read y_M_read) ∈ jv_LT := List.mem_filter.mpr ⟨List.mem_of_getElem? (i := 958) (by decide +kernel), by decide +kernel⟩
theorem wa_671 : (Cond.codeWith y_L_list cc_L_list 5 (some .int) [(0, 10, 13, 13), (0, 10, 17, 35), (0, 10, 21, 37)]) ∈ jv_LT := List.mem_filter.mpr ⟨List.mem_of_getElem? (i := 738) (by decide +kernel), by decide +kernel⟩
theorem wa_672 : (Cond.methodLink R_Law 120 y_L_list) ∈ jv_LT := List.mem_filter.mpr ⟨List.mem_of_getElem? (i := 736) (by decide +kernel), by decide +kernel⟩
theorem wa_673 : (Cond.static y_L_list) ∈ jv_LT := List.mem_filter.mpr ⟨List.mem_of_getElem? (i := 737) (by decide +kernel), by decide +kernel⟩
theorem wa_674 : (Cond.code y_M_list prog_10_method_40_code 7 (some .int)) ∈ jv_LT := List.mem_filter.mpr ⟨List.mem_of_getElem? (i := 971) (by decide +kernel), by decide +kernel⟩
theorem wa_675 : (Cond.methodLink R_Law 122 y_M_list) ∈ jv_LT := List.mem_filter.mpr ⟨List.mem_of_getElem? (i := 968) (by decide +kernel), by decide +kernel⟩
theorem wa_676 : (Cond.instanceMethod y_M_list) ∈ jv_LT := List.mem_filter.mpr ⟨List.mem_of_getElem? (i := 969) (by decide +kernel), by decide +kernel⟩
theorem wa_677 : (Cond.selects R_Model y_M_list y_M_list) ∈ jv_LT := List.mem_filter.mpr ⟨List.mem_of_getElem? (i := 970) (by decide +kernel), by decide +kernel⟩
theorem wa_678 : (Cond.codeWith y_L_look cc_L_look 5 (some .int) [(0, 10, 13, 13)]) ∈ jv_LT := List.mem_filter.mpr ⟨List.mem_of_getElem? (i := 758) (by decide +kernel), by decide +kernel⟩
theorem wa_679 : (Cond.methodLink R_Law 123 y_L_look) ∈ jv_LT := List.mem_filter.mpr ⟨List.mem_of_getElem? (i := 756) (by decide +kernel), by decide +kernel⟩
theorem wa_680 : (Cond.static y_L_look) ∈ jv_LT := List.mem_filter.mpr ⟨List.mem_of_getElem? (i := 757) (by decide +kernel), by decide +kernel⟩
theorem wa_681 : (Cond.code y_M_look prog_10_method_41_code 5 (some .int)) ∈ jv_LT := List.mem_filter.mpr ⟨List.mem_of_getElem? (i := 975) (by decide +kernel), by decide +kernel⟩
theorem wa_682 : (Cond.methodLink R_Law 125 y_M_look) ∈ jv_LT := List.mem_filter.mpr ⟨List.mem_of_getElem? (i := 972) (by decide +kernel), by decide +kernel⟩
theorem wa_683 : (Cond.instanceMethod y_M_look) ∈ jv_LT := List.mem_filter.mpr ⟨List.mem_of_getElem? (i := 973) (by decide +kernel), by decide +kernel⟩
theorem wa_684 : (Cond.selects R_Model y_M_look y_M_look) ∈ jv_LT := List.mem_filter.mpr ⟨List.mem_of_getElem? (i := 974) (by decide +kernel), by decide +kernel⟩
theorem wa_685 : (Cond.codeWith y_L_size cc_L_size 6 (some .int) [(0, 12, 15, 13), (0, 12, 19, 15), (0, 12, 23, 35), (0, 12, 27, 37)]) ∈ jv_LT := List.mem_filter.mpr ⟨List.mem_of_getElem? (i := 765) (by decide +kernel), by decide +kernel⟩
theorem wa_686 : (Cond.methodLink R_Law 126 y_L_size) ∈ jv_LT := List.mem_filter.mpr ⟨List.mem_of_getElem? (i := 763) (by decide +kernel), by decide +kernel⟩
theorem wa_687 : (Cond.static y_L_size) ∈ jv_LT := List.mem_filter.mpr ⟨List.mem_of_getElem? (i := 764) (by decide +kernel), by decide +kernel⟩
theorem wa_688 : (Cond.code y_M_size prog_10_method_39_code 4 (some .int)) ∈ jv_LT := List.mem_filter.mpr ⟨List.mem_of_getElem? (i := 967) (by decide +kernel), by decide +kernel⟩
theorem wa_689 : (Cond.methodLink R_Law 128 y_M_size) ∈ jv_LT := List.mem_filter.mpr ⟨List.mem_of_getElem? (i := 964) (by decide +kernel), by decide +kernel⟩
theorem wa_690 : (Cond.instanceMethod y_M_size) ∈ jv_LT := List.mem_filter.mpr ⟨List.mem_of_getElem? (i := 965) (by decide +kernel), by decide +kernel⟩
theorem wa_691 : (Cond.selects R_Model y_M_size y_M_size) ∈ jv_LT := List.mem_filter.mpr ⟨List.mem_of_getElem? (i := 966) (by decide +kernel), by decide +kernel⟩
theorem wa_692 : (Cond.code y_V_crash prog_1_method_16_code 1 (some .int)) ∈ jv_LT := List.mem_filter.mpr ⟨List.mem_of_getElem? (i := 108) (by decide +kernel), by decide +kernel⟩
theorem wa_693 : (Cond.methodLink R_Law 129 y_V_crash) ∈ jv_LT := List.mem_filter.mpr ⟨List.mem_of_getElem? (i := 105) (by decide +kernel), by decide +kernel⟩
theorem wa_694 : (Cond.instanceMethod y_V_crash) ∈ jv_LT := List.mem_filter.mpr ⟨List.mem_of_getElem? (i := 106) (by decide +kernel), by decide +kernel⟩
theorem wa_695 : (Cond.selects R_Vault y_V_crash y_V_crash) ∈ jv_LT := List.mem_filter.mpr ⟨List.mem_of_getElem? (i := 107) (by decide +kernel), by decide +kernel⟩
theorem wa_696 : (Cond.code y_M_crash prog_10_method_42_code 1 (some .int)) ∈ jv_LT := List.mem_filter.mpr ⟨List.mem_of_getElem? (i := 979) (by decide +kernel), by decide +kernel⟩
theorem wa_697 : (Cond.methodLink R_Law 132 y_M_crash) ∈ jv_LT := List.mem_filter.mpr ⟨List.mem_of_getElem? (i := 976) (by decide +kernel), by decide +kernel⟩
theorem wa_698 : (Cond.instanceMethod y_M_crash) ∈ jv_LT := List.mem_filter.mpr ⟨List.mem_of_getElem? (i := 977) (by decide +kernel), by decide +kernel⟩
theorem wa_699 : (Cond.selects R_Model y_M_crash y_M_crash) ∈ jv_LT := List.mem_filter.mpr ⟨List.mem_of_getElem? (i := 978) (by decide +kernel), by decide +kernel⟩
theorem wa_700 : (Cond.codeWith y_L_tear cc_L_tear 4 (some .int) [(0, 16, 19, 13)]) ∈ jv_LT := List.mem_filter.mpr ⟨List.mem_of_getElem? (i := 772) (by decide +kernel), by decide +kernel⟩
theorem wa_701 : (Cond.methodLink R_Law 133 y_L_tear) ∈ jv_LT := List.mem_filter.mpr ⟨List.mem_of_getElem? (i := 770) (by decide +kernel), by decide +kernel⟩
theorem wa_702 : (Cond.static y_L_tear) ∈ jv_LT := List.mem_filter.mpr ⟨List.mem_of_getElem? (i := 771) (by decide +kernel), by decide +kernel⟩
theorem wa_703 : (Cond.code y_M_tear prog_10_method_43_code 2 (some .boolean)) ∈ jv_LT := List.mem_filter.mpr ⟨List.mem_of_getElem? (i := 983) (by decide +kernel), by decide +kernel⟩
theorem wa_704 : (Cond.methodLink R_Law 135 y_M_tear) ∈ jv_LT := List.mem_filter.mpr ⟨List.mem_of_getElem? (i := 980) (by decide +kernel), by decide +kernel⟩
theorem wa_705 : (Cond.instanceMethod y_M_tear) ∈ jv_LT := List.mem_filter.mpr ⟨List.mem_of_getElem? (i := 981) (by decide +kernel), by decide +kernel⟩
theorem wa_706 : (Cond.selects R_Model y_M_tear y_M_tear) ∈ jv_LT := List.mem_filter.mpr ⟨List.mem_of_getElem? (i := 982) (by decide +kernel), by decide +kernel⟩
theorem wa_707 : (Cond.codeWith y_L_disk cc_L_disk 6 (some .int) [(0, 12, 15, 13)]) ∈ jv_LT := List.mem_filter.mpr ⟨List.mem_of_getElem? (i := 779) (by decide +kernel), by decide +kernel⟩
theorem wa_708 : (Cond.methodLink R_Law 136 y_L_disk) ∈ jv_LT := List.mem_filter.mpr ⟨List.mem_of_getElem? (i := 777) (by decide +kernel), by decide +kernel⟩
theorem wa_709 : (Cond.static y_L_disk) ∈ jv_LT := List.mem_filter.mpr ⟨List.mem_of_getElem? (i := 778) (by decide +kernel), by decide +kernel⟩
theorem wa_710 : (Cond.code y_M_disk prog_10_method_44_code 4 (some .int)) ∈ jv_LT := List.mem_filter.mpr ⟨List.mem_of_getElem? (i := 987) (by decide +kernel), by decide +kernel⟩
theorem wa_711 : (Cond.methodLink R_Law 138 y_M_disk) ∈ jv_LT := List.mem_filter.mpr ⟨List.mem_of_getElem? (i := 984) (by decide +kernel), by decide +kernel⟩
theorem wa_712 : (Cond.instanceMethod y_M_disk) ∈ jv_LT := List.mem_filter.mpr ⟨List.mem_of_getElem? (i := 985) (by decide +kernel), by decide +kernel⟩
theorem wa_713 : (Cond.selects R_Model y_M_disk y_M_disk) ∈ jv_LT := List.mem_filter.mpr ⟨List.mem_of_getElem? (i := 986) (by decide +kernel), by decide +kernel⟩
theorem wa_714 : (Cond.code y_V_about prog_1_method_19_code 4 (some .int)) ∈ jv_LT := List.mem_filter.mpr ⟨List.mem_of_getElem? (i := 144) (by decide +kernel), by decide +kernel⟩
theorem wa_715 : (Cond.methodLink R_Law 139 y_V_about) ∈ jv_LT := List.mem_filter.mpr ⟨List.mem_of_getElem? (i := 141) (by decide +kernel), by decide +kernel⟩
theorem wa_716 : (Cond.instanceMethod y_V_about) ∈ jv_LT := List.mem_filter.mpr ⟨List.mem_of_getElem? (i := 142) (by decide +kernel), by decide +kernel⟩
theorem wa_717 : (Cond.selects R_Vault y_V_about y_V_about) ∈ jv_LT := List.mem_filter.mpr ⟨List.mem_of_getElem? (i := 143) (by decide +kernel), by decide +kernel⟩
theorem wa_718 : (Cond.code y_M_about prog_10_method_45_code 5 (some .int)) ∈ jv_LT := List.mem_filter.mpr ⟨List.mem_of_getElem? (i := 991) (by decide +kernel), by decide +kernel⟩
theorem wa_719 : (Cond.methodLink R_Law 142 y_M_about) ∈ jv_LT := List.mem_filter.mpr ⟨List.mem_of_getElem? (i := 988) (by decide +kernel), by decide +kernel⟩
theorem wa_720 : (Cond.instanceMethod y_M_about) ∈ jv_LT := List.mem_filter.mpr ⟨List.mem_of_getElem? (i := 989) (by decide +kernel), by decide +kernel⟩
theorem wa_721 : (Cond.selects R_Model y_M_about y_M_about) ∈ jv_LT := List.mem_filter.mpr ⟨List.mem_of_getElem? (i := 990) (by decide +kernel), by decide +kernel⟩
theorem wa_722 : (Cond.code y_V_user prog_1_method_20_code 2 (some .int)) ∈ jv_LT := List.mem_filter.mpr ⟨List.mem_of_getElem? (i := 178) (by decide +kernel), by decide +kernel⟩
theorem wa_723 : (Cond.methodLink R_Law 143 y_V_user) ∈ jv_LT := List.mem_filter.mpr ⟨List.mem_of_getElem? (i := 175) (by decide +kernel), by decide +kernel⟩
theorem wa_724 : (Cond.instanceMethod y_V_user) ∈ jv_LT := List.mem_filter.mpr ⟨List.mem_of_getElem? (i := 176) (by decide +kernel), by decide +kernel⟩
theorem wa_725 : (Cond.selects R_Vault y_V_user y_V_user) ∈ jv_LT := List.mem_filter.mpr ⟨List.mem_of_getElem? (i := 177) (by decide +kernel), by decide +kernel⟩
theorem wa_726 : (Cond.code y_M_user prog_10_method_46_code 2 (some .int)) ∈ jv_LT := List.mem_filter.mpr ⟨List.mem_of_getElem? (i := 995) (by decide +kernel), by decide +kernel⟩
theorem wa_727 : (Cond.methodLink R_Law 146 y_M_user) ∈ jv_LT := List.mem_filter.mpr ⟨List.mem_of_getElem? (i := 992) (by decide +kernel), by decide +kernel⟩
theorem wa_728 : (Cond.instanceMethod y_M_user) ∈ jv_LT := List.mem_filter.mpr ⟨List.mem_of_getElem? (i := 993) (by decide +kernel), by decide +kernel⟩
theorem wa_729 : (Cond.selects R_Model y_M_user y_M_user) ∈ jv_LT := List.mem_filter.mpr ⟨List.mem_of_getElem? (i := 994) (by decide +kernel), by decide +kernel⟩
theorem wa_730 : (Cond.code y_V_fuse prog_1_method_21_code 1 (some .int)) ∈ jv_LT := List.mem_filter.mpr ⟨List.mem_of_getElem? (i := 186) (by decide +kernel), by decide +kernel⟩
theorem wa_731 : (Cond.methodLink R_Law 147 y_V_fuse) ∈ jv_LT := List.mem_filter.mpr ⟨List.mem_of_getElem? (i := 183) (by decide +kernel), by decide +kernel⟩
theorem wa_732 : (Cond.instanceMethod y_V_fuse) ∈ jv_LT := List.mem_filter.mpr ⟨List.mem_of_getElem? (i := 184) (by decide +kernel), by decide +kernel⟩
theorem wa_733 : (Cond.selects R_Vault y_V_fuse y_V_fuse) ∈ jv_LT := List.mem_filter.mpr ⟨List.mem_of_getElem? (i := 185) (by decide +kernel), by decide +kernel⟩
theorem wa_734 : (Cond.code y_M_fuse prog_10_method_47_code 1 (some .int)) ∈ jv_LT := List.mem_filter.mpr ⟨List.mem_of_getElem? (i := 999) (by decide +kernel), by decide +kernel⟩
theorem wa_735 : (Cond.methodLink R_Law 150 y_M_fuse) ∈ jv_LT := List.mem_filter.mpr ⟨List.mem_of_getElem? (i := 996) (by decide +kernel), by decide +kernel⟩
theorem wa_736 : (Cond.instanceMethod y_M_fuse) ∈ jv_LT := List.mem_filter.mpr ⟨List.mem_of_getElem? (i := 997) (by decide +kernel), by decide +kernel⟩
theorem wa_737 : (Cond.selects R_Model y_M_fuse y_M_fuse) ∈ jv_LT := List.mem_filter.mpr ⟨List.mem_of_getElem? (i := 998) (by decide +kernel), by decide +kernel⟩
