set_option maxRecDepth 20000 in
theorem tb_387 : Cond.methodLink RL 13 yX7_feed ∈ TBL := tb_seg (ts_2 _ (List.mem_of_getElem? (i := 39) rfl)) rfl
set_option maxRecDepth 20000 in
theorem tb_388 : Cond.instanceMethod yX7_feed ∈ TBL := tb_seg (ts_2 _ (List.mem_of_getElem? (i := 40) rfl)) rfl
set_option maxRecDepth 20000 in
theorem tb_389 : Cond.selects RX7 yX7_feed yX7_feed ∈ TBL := tb_seg (ts_2 _ (List.mem_of_getElem? (i := 41) rfl)) rfl
set_option maxRecDepth 20000 in
theorem tb_390 : Cond.code yX7_feed cX7_feed 2 (some .int) ∈ TBL := tb_seg (ts_2 _ (List.mem_of_getElem? (i := 42) rfl)) rfl
set_option maxRecDepth 20000 in
theorem tb_395 : Cond.methodLink RL 18 yX7_end ∈ TBL := tb_seg (ts_2 _ (List.mem_of_getElem? (i := 47) rfl)) rfl
set_option maxRecDepth 20000 in
theorem tb_396 : Cond.instanceMethod yX7_end ∈ TBL := tb_seg (ts_2 _ (List.mem_of_getElem? (i := 48) rfl)) rfl
set_option maxRecDepth 20000 in
theorem tb_397 : Cond.selects RX7 yX7_end yX7_end ∈ TBL := tb_seg (ts_2 _ (List.mem_of_getElem? (i := 49) rfl)) rfl
set_option maxRecDepth 20000 in
theorem tb_398 : Cond.code yX7_end cX7_end 3 (some .int) ∈ TBL := tb_seg (ts_2 _ (List.mem_of_getElem? (i := 50) rfl)) rfl
set_option maxRecDepth 20000 in
theorem tb_399 : Cond.methodLink RL 22 yX7_text ∈ TBL := tb_seg (ts_2 _ (List.mem_of_getElem? (i := 51) rfl)) rfl
set_option maxRecDepth 20000 in
theorem tb_400 : Cond.instanceMethod yX7_text ∈ TBL := tb_seg (ts_2 _ (List.mem_of_getElem? (i := 52) rfl)) rfl
set_option maxRecDepth 20000 in
theorem tb_401 : Cond.selects RX7 yX7_text yX7_text ∈ TBL := tb_seg (ts_2 _ (List.mem_of_getElem? (i := 53) rfl)) rfl
set_option maxRecDepth 20000 in
theorem tb_402 : Cond.code yX7_text cX7_text 2 (some .int) ∈ TBL := tb_seg (ts_2 _ (List.mem_of_getElem? (i := 54) rfl)) rfl
set_option maxRecDepth 20000 in
theorem tb_587 : Cond.methodLink RL 27 yX7_fault ∈ TBL := tb_seg (ts_2 _ (List.mem_of_getElem? (i := 239) rfl)) rfl
set_option maxRecDepth 20000 in
theorem tb_588 : Cond.instanceMethod yX7_fault ∈ TBL := tb_seg (ts_3 _ (List.mem_of_getElem? (i := 0) rfl)) rfl
set_option maxRecDepth 20000 in
theorem tb_589 : Cond.selects RX7 yX7_fault yX7_fault ∈ TBL := tb_seg (ts_3 _ (List.mem_of_getElem? (i := 1) rfl)) rfl
set_option maxRecDepth 20000 in
theorem tb_590 : Cond.code yX7_fault cX7_fault 1 (some .int) ∈ TBL := tb_seg (ts_3 _ (List.mem_of_getElem? (i := 2) rfl)) rfl
set_option maxRecDepth 20000 in
theorem tb_591 : Cond.methodLink RL 31 yX7_rule ∈ TBL := tb_seg (ts_3 _ (List.mem_of_getElem? (i := 3) rfl)) rfl
set_option maxRecDepth 20000 in
theorem tb_592 : Cond.instanceMethod yX7_rule ∈ TBL := tb_seg (ts_3 _ (List.mem_of_getElem? (i := 4) rfl)) rfl
set_option maxRecDepth 20000 in
theorem tb_593 : Cond.selects RX7 yX7_rule yX7_rule ∈ TBL := tb_seg (ts_3 _ (List.mem_of_getElem? (i := 5) rfl)) rfl
set_option maxRecDepth 20000 in
theorem tb_594 : Cond.code yX7_rule cX7_rule 2 (some .int) ∈ TBL := tb_seg (ts_3 _ (List.mem_of_getElem? (i := 6) rfl)) rfl
set_option maxRecDepth 20000 in
theorem tb_596 : Cond.methodLink RL 35 yX7_arm ∈ TBL := tb_seg (ts_3 _ (List.mem_of_getElem? (i := 8) rfl)) rfl
set_option maxRecDepth 20000 in
theorem tb_597 : Cond.instanceMethod yX7_arm ∈ TBL := tb_seg (ts_3 _ (List.mem_of_getElem? (i := 9) rfl)) rfl
set_option maxRecDepth 20000 in
theorem tb_598 : Cond.selects RX7 yX7_arm yX7_arm ∈ TBL := tb_seg (ts_3 _ (List.mem_of_getElem? (i := 10) rfl)) rfl
set_option maxRecDepth 20000 in
theorem tb_599 : Cond.code yX7_arm cX7_arm 3 (some .int) ∈ TBL := tb_seg (ts_3 _ (List.mem_of_getElem? (i := 11) rfl)) rfl
set_option maxRecDepth 20000 in
theorem tb_612 : Cond.methodLink RL 40 yX7_mark ∈ TBL := tb_seg (ts_3 _ (List.mem_of_getElem? (i := 24) rfl)) rfl
set_option maxRecDepth 20000 in
theorem tb_613 : Cond.instanceMethod yX7_mark ∈ TBL := tb_seg (ts_3 _ (List.mem_of_getElem? (i := 25) rfl)) rfl
set_option maxRecDepth 20000 in
theorem tb_614 : Cond.selects RX7 yX7_mark yX7_mark ∈ TBL := tb_seg (ts_3 _ (List.mem_of_getElem? (i := 26) rfl)) rfl
set_option maxRecDepth 20000 in
theorem tb_615 : Cond.code yX7_mark cX7_mark 3 (some .int) ∈ TBL := tb_seg (ts_3 _ (List.mem_of_getElem? (i := 27) rfl)) rfl
set_option maxRecDepth 20000 in
theorem tb_623 : Cond.methodLink RL 44 yX7_town ∈ TBL := tb_seg (ts_3 _ (List.mem_of_getElem? (i := 35) rfl)) rfl
set_option maxRecDepth 20000 in
theorem tb_624 : Cond.instanceMethod yX7_town ∈ TBL := tb_seg (ts_3 _ (List.mem_of_getElem? (i := 36) rfl)) rfl
set_option maxRecDepth 20000 in
theorem tb_625 : Cond.selects RX7 yX7_town yX7_town ∈ TBL := tb_seg (ts_3 _ (List.mem_of_getElem? (i := 37) rfl)) rfl
set_option maxRecDepth 20000 in
theorem tb_626 : Cond.code yX7_town cX7_town 3 (some .int) ∈ TBL := tb_seg (ts_3 _ (List.mem_of_getElem? (i := 38) rfl)) rfl
set_option maxRecDepth 20000 in
theorem tb_631 : Cond.methodLink RL 48 yX7_set ∈ TBL := tb_seg (ts_3 _ (List.mem_of_getElem? (i := 43) rfl)) rfl
set_option maxRecDepth 20000 in
theorem tb_632 : Cond.instanceMethod yX7_set ∈ TBL := tb_seg (ts_3 _ (List.mem_of_getElem? (i := 44) rfl)) rfl
set_option maxRecDepth 20000 in
theorem tb_633 : Cond.selects RX7 yX7_set yX7_set ∈ TBL := tb_seg (ts_3 _ (List.mem_of_getElem? (i := 45) rfl)) rfl
set_option maxRecDepth 20000 in
theorem tb_634 : Cond.code yX7_set cX7_set 5 (some .int) ∈ TBL := tb_seg (ts_3 _ (List.mem_of_getElem? (i := 46) rfl)) rfl
set_option maxRecDepth 20000 in
theorem tb_641 : Cond.methodLink RL 52 yX7_net ∈ TBL := tb_seg (ts_3 _ (List.mem_of_getElem? (i := 53) rfl)) rfl
set_option maxRecDepth 20000 in
theorem tb_642 : Cond.instanceMethod yX7_net ∈ TBL := tb_seg (ts_3 _ (List.mem_of_getElem? (i := 54) rfl)) rfl
set_option maxRecDepth 20000 in
theorem tb_643 : Cond.selects RX7 yX7_net yX7_net ∈ TBL := tb_seg (ts_3 _ (List.mem_of_getElem? (i := 55) rfl)) rfl
set_option maxRecDepth 20000 in
theorem tb_644 : Cond.code yX7_net cX7_net 4 (some .int) ∈ TBL := tb_seg (ts_3 _ (List.mem_of_getElem? (i := 56) rfl)) rfl
set_option maxRecDepth 20000 in
theorem tb_645 : Cond.methodLink RL 56 yX7_signal ∈ TBL := tb_seg (ts_3 _ (List.mem_of_getElem? (i := 57) rfl)) rfl
set_option maxRecDepth 20000 in
theorem tb_646 : Cond.instanceMethod yX7_signal ∈ TBL := tb_seg (ts_3 _ (List.mem_of_getElem? (i := 58) rfl)) rfl
set_option maxRecDepth 20000 in
theorem tb_647 : Cond.selects RX7 yX7_signal yX7_signal ∈ TBL := tb_seg (ts_3 _ (List.mem_of_getElem? (i := 59) rfl)) rfl
set_option maxRecDepth 20000 in
theorem tb_648 : Cond.code yX7_signal cX7_signal 5 (some .int) ∈ TBL := tb_seg (ts_3 _ (List.mem_of_getElem? (i := 60) rfl)) rfl
set_option maxRecDepth 20000 in
theorem tb_653 : Cond.methodLink RL 61 yX7_bridge ∈ TBL := tb_seg (ts_3 _ (List.mem_of_getElem? (i := 65) rfl)) rfl
set_option maxRecDepth 20000 in
theorem tb_654 : Cond.instanceMethod yX7_bridge ∈ TBL := tb_seg (ts_3 _ (List.mem_of_getElem? (i := 66) rfl)) rfl
set_option maxRecDepth 20000 in
theorem tb_655 : Cond.selects RX7 yX7_bridge yX7_bridge ∈ TBL := tb_seg (ts_3 _ (List.mem_of_getElem? (i := 67) rfl)) rfl
set_option maxRecDepth 20000 in
theorem tb_656 : Cond.code yX7_bridge cX7_bridge 3 (some .int) ∈ TBL := tb_seg (ts_3 _ (List.mem_of_getElem? (i := 68) rfl)) rfl
set_option maxRecDepth 20000 in
theorem tb_657 : Cond.methodLink RL 65 yX7_clear ∈ TBL := tb_seg (ts_3 _ (List.mem_of_getElem? (i := 69) rfl)) rfl
set_option maxRecDepth 20000 in
theorem tb_658 : Cond.instanceMethod yX7_clear ∈ TBL := tb_seg (ts_3 _ (List.mem_of_getElem? (i := 70) rfl)) rfl
set_option maxRecDepth 20000 in
theorem tb_659 : Cond.selects RX7 yX7_clear yX7_clear ∈ TBL := tb_seg (ts_3 _ (List.mem_of_getElem? (i := 71) rfl)) rfl
set_option maxRecDepth 20000 in
theorem tb_660 : Cond.code yX7_clear cX7_clear 4 (some .int) ∈ TBL := tb_seg (ts_3 _ (List.mem_of_getElem? (i := 72) rfl)) rfl
set_option maxRecDepth 20000 in
theorem tb_662 : Cond.methodLink RL 69 yX7_hang ∈ TBL := tb_seg (ts_3 _ (List.mem_of_getElem? (i := 74) rfl)) rfl
set_option maxRecDepth 20000 in
theorem tb_663 : Cond.instanceMethod yX7_hang ∈ TBL := tb_seg (ts_3 _ (List.mem_of_getElem? (i := 75) rfl)) rfl
set_option maxRecDepth 20000 in
theorem tb_664 : Cond.selects RX7 yX7_hang yX7_hang ∈ TBL := tb_seg (ts_3 _ (List.mem_of_getElem? (i := 76) rfl)) rfl
set_option maxRecDepth 20000 in
theorem tb_665 : Cond.code yX7_hang cX7_hang 4 (some .int) ∈ TBL := tb_seg (ts_3 _ (List.mem_of_getElem? (i := 77) rfl)) rfl
set_option maxRecDepth 20000 in
theorem tb_666 : Cond.methodLink RL 73 yX7_post ∈ TBL := tb_seg (ts_3 _ (List.mem_of_getElem? (i := 78) rfl)) rfl
set_option maxRecDepth 20000 in
theorem tb_667 : Cond.instanceMethod yX7_post ∈ TBL := tb_seg (ts_3 _ (List.mem_of_getElem? (i := 79) rfl)) rfl
set_option maxRecDepth 20000 in
theorem tb_668 : Cond.selects RX7 yX7_post yX7_post ∈ TBL := tb_seg (ts_3 _ (List.mem_of_getElem? (i := 80) rfl)) rfl
set_option maxRecDepth 20000 in
theorem tb_669 : Cond.code yX7_post cX7_post 4 (some .int) ∈ TBL := tb_seg (ts_3 _ (List.mem_of_getElem? (i := 81) rfl)) rfl
set_option maxRecDepth 20000 in
theorem tb_674 : Cond.methodLink RL 77 yX7_night ∈ TBL := tb_seg (ts_3 _ (List.mem_of_getElem? (i := 86) rfl)) rfl
set_option maxRecDepth 20000 in
theorem tb_675 : Cond.instanceMethod yX7_night ∈ TBL := tb_seg (ts_3 _ (List.mem_of_getElem? (i := 87) rfl)) rfl
set_option maxRecDepth 20000 in
theorem tb_676 : Cond.selects RX7 yX7_night yX7_night ∈ TBL := tb_seg (ts_3 _ (List.mem_of_getElem? (i := 88) rfl)) rfl
set_option maxRecDepth 20000 in
theorem tb_677 : Cond.code yX7_night cX7_night 4 (some .int) ∈ TBL := tb_seg (ts_3 _ (List.mem_of_getElem? (i := 89) rfl)) rfl
set_option maxRecDepth 20000 in
theorem tb_709 : Cond.methodLink RL 82 yX7_counts ∈ TBL := tb_seg (ts_3 _ (List.mem_of_getElem? (i := 121) rfl)) rfl
set_option maxRecDepth 20000 in
theorem tb_710 : Cond.instanceMethod yX7_counts ∈ TBL := tb_seg (ts_3 _ (List.mem_of_getElem? (i := 122) rfl)) rfl
set_option maxRecDepth 20000 in
theorem tb_711 : Cond.selects RX7 yX7_counts yX7_counts ∈ TBL := tb_seg (ts_3 _ (List.mem_of_getElem? (i := 123) rfl)) rfl
set_option maxRecDepth 20000 in
theorem tb_712 : Cond.code yX7_counts cX7_counts 6 (some .int) ∈ TBL := tb_seg (ts_3 _ (List.mem_of_getElem? (i := 124) rfl)) rfl
set_option maxRecDepth 20000 in
theorem tb_714 : Cond.methodLink RL 86 yX7_where ∈ TBL := tb_seg (ts_3 _ (List.mem_of_getElem? (i := 126) rfl)) rfl
set_option maxRecDepth 20000 in
theorem tb_715 : Cond.instanceMethod yX7_where ∈ TBL := tb_seg (ts_3 _ (List.mem_of_getElem? (i := 127) rfl)) rfl
set_option maxRecDepth 20000 in
theorem tb_716 : Cond.selects RX7 yX7_where yX7_where ∈ TBL := tb_seg (ts_3 _ (List.mem_of_getElem? (i := 128) rfl)) rfl
set_option maxRecDepth 20000 in
theorem tb_717 : Cond.code yX7_where cX7_where 4 (some .long) ∈ TBL := tb_seg (ts_3 _ (List.mem_of_getElem? (i := 129) rfl)) rfl
set_option maxRecDepth 20000 in
theorem tb_774 : Cond.methodLink RL 91 yX7_goes ∈ TBL := tb_seg (ts_3 _ (List.mem_of_getElem? (i := 186) rfl)) rfl
set_option maxRecDepth 20000 in
theorem tb_775 : Cond.instanceMethod yX7_goes ∈ TBL := tb_seg (ts_3 _ (List.mem_of_getElem? (i := 187) rfl)) rfl
set_option maxRecDepth 20000 in
theorem tb_776 : Cond.selects RX7 yX7_goes yX7_goes ∈ TBL := tb_seg (ts_3 _ (List.mem_of_getElem? (i := 188) rfl)) rfl
set_option maxRecDepth 20000 in
theorem tb_777 : Cond.code yX7_goes cX7_goes 3 (some .long) ∈ TBL := tb_seg (ts_3 _ (List.mem_of_getElem? (i := 189) rfl)) rfl
set_option maxRecDepth 20000 in
theorem tb_799 : Cond.methodLink RL 96 yX7_isOut ∈ TBL := tb_seg (ts_3 _ (List.mem_of_getElem? (i := 211) rfl)) rfl
set_option maxRecDepth 20000 in
theorem tb_800 : Cond.instanceMethod yX7_isOut ∈ TBL := tb_seg (ts_3 _ (List.mem_of_getElem? (i := 212) rfl)) rfl
set_option maxRecDepth 20000 in
theorem tb_801 : Cond.selects RX7 yX7_isOut yX7_isOut ∈ TBL := tb_seg (ts_3 _ (List.mem_of_getElem? (i := 213) rfl)) rfl
set_option maxRecDepth 20000 in
theorem tb_802 : Cond.code yX7_isOut cX7_isOut 3 (some .long) ∈ TBL := tb_seg (ts_3 _ (List.mem_of_getElem? (i := 214) rfl)) rfl
set_option maxRecDepth 20000 in
theorem tb_803 : Cond.methodLink RL 100 yX7_had ∈ TBL := tb_seg (ts_3 _ (List.mem_of_getElem? (i := 215) rfl)) rfl
set_option maxRecDepth 20000 in
theorem tb_804 : Cond.instanceMethod yX7_had ∈ TBL := tb_seg (ts_3 _ (List.mem_of_getElem? (i := 216) rfl)) rfl
set_option maxRecDepth 20000 in
theorem tb_805 : Cond.selects RX7 yX7_had yX7_had ∈ TBL := tb_seg (ts_3 _ (List.mem_of_getElem? (i := 217) rfl)) rfl
set_option maxRecDepth 20000 in
theorem tb_806 : Cond.code yX7_had cX7_had 3 (some .long) ∈ TBL := tb_seg (ts_3 _ (List.mem_of_getElem? (i := 218) rfl)) rfl
set_option maxRecDepth 20000 in
theorem tb_812 : Cond.methodLink RL 104 yX7_hits ∈ TBL := tb_seg (ts_3 _ (List.mem_of_getElem? (i := 224) rfl)) rfl
set_option maxRecDepth 20000 in
theorem tb_813 : Cond.instanceMethod yX7_hits ∈ TBL := tb_seg (ts_3 _ (List.mem_of_getElem? (i := 225) rfl)) rfl
set_option maxRecDepth 20000 in
theorem tb_814 : Cond.selects RX7 yX7_hits yX7_hits ∈ TBL := tb_seg (ts_3 _ (List.mem_of_getElem? (i := 226) rfl)) rfl
set_option maxRecDepth 20000 in
theorem tb_815 : Cond.code yX7_hits cX7_hits 2 (some .long) ∈ TBL := tb_seg (ts_3 _ (List.mem_of_getElem? (i := 227) rfl)) rfl
set_option maxRecDepth 20000 in
theorem tb_821 : Cond.methodLink RL 109 yX7_torn ∈ TBL := tb_seg (ts_3 _ (List.mem_of_getElem? (i := 233) rfl)) rfl
set_option maxRecDepth 20000 in
theorem tb_822 : Cond.instanceMethod yX7_torn ∈ TBL := tb_seg (ts_3 _ (List.mem_of_getElem? (i := 234) rfl)) rfl
set_option maxRecDepth 20000 in
theorem tb_823 : Cond.selects RX7 yX7_torn yX7_torn ∈ TBL := tb_seg (ts_3 _ (List.mem_of_getElem? (i := 235) rfl)) rfl
set_option maxRecDepth 20000 in
theorem tb_824 : Cond.code yX7_torn cX7_torn 2 (some .long) ∈ TBL := tb_seg (ts_3 _ (List.mem_of_getElem? (i := 236) rfl)) rfl
set_option maxRecDepth 20000 in
theorem tb_829 : Cond.methodLink RL 113 yX7_worth ∈ TBL := tb_seg (ts_4 _ (List.mem_of_getElem? (i := 1) rfl)) rfl
set_option maxRecDepth 20000 in
theorem tb_830 : Cond.instanceMethod yX7_worth ∈ TBL := tb_seg (ts_4 _ (List.mem_of_getElem? (i := 2) rfl)) rfl
set_option maxRecDepth 20000 in
theorem tb_831 : Cond.selects RX7 yX7_worth yX7_worth ∈ TBL := tb_seg (ts_4 _ (List.mem_of_getElem? (i := 3) rfl)) rfl
set_option maxRecDepth 20000 in
theorem tb_832 : Cond.code yX7_worth cX7_worth 2 (some .long) ∈ TBL := tb_seg (ts_4 _ (List.mem_of_getElem? (i := 4) rfl)) rfl
set_option maxRecDepth 20000 in
theorem tb_837 : Cond.methodLink RL 117 yX7_best ∈ TBL := tb_seg (ts_4 _ (List.mem_of_getElem? (i := 9) rfl)) rfl
set_option maxRecDepth 20000 in
theorem tb_838 : Cond.instanceMethod yX7_best ∈ TBL := tb_seg (ts_4 _ (List.mem_of_getElem? (i := 10) rfl)) rfl
set_option maxRecDepth 20000 in
theorem tb_839 : Cond.selects RX7 yX7_best yX7_best ∈ TBL := tb_seg (ts_4 _ (List.mem_of_getElem? (i := 11) rfl)) rfl
set_option maxRecDepth 20000 in
theorem tb_840 : Cond.code yX7_best cX7_best 9 (some .long) ∈ TBL := tb_seg (ts_4 _ (List.mem_of_getElem? (i := 12) rfl)) rfl
set_option maxRecDepth 20000 in
theorem tb_841 : Cond.methodLink RL 121 yX7_fog ∈ TBL := tb_seg (ts_4 _ (List.mem_of_getElem? (i := 13) rfl)) rfl
set_option maxRecDepth 20000 in
theorem tb_842 : Cond.instanceMethod yX7_fog ∈ TBL := tb_seg (ts_4 _ (List.mem_of_getElem? (i := 14) rfl)) rfl
set_option maxRecDepth 20000 in
theorem tb_843 : Cond.selects RX7 yX7_fog yX7_fog ∈ TBL := tb_seg (ts_4 _ (List.mem_of_getElem? (i := 15) rfl)) rfl
set_option maxRecDepth 20000 in
theorem tb_844 : Cond.code yX7_fog cX7_fog 4 (some .int) ∈ TBL := tb_seg (ts_4 _ (List.mem_of_getElem? (i := 16) rfl)) rfl
set_option maxRecDepth 20000 in
theorem tb_849 : Cond.methodLink RL 125 yX7_fast ∈ TBL := tb_seg (ts_4 _ (List.mem_of_getElem? (i := 21) rfl)) rfl
set_option maxRecDepth 20000 in
theorem tb_850 : Cond.instanceMethod yX7_fast ∈ TBL := tb_seg (ts_4 _ (List.mem_of_getElem? (i := 22) rfl)) rfl
set_option maxRecDepth 20000 in
theorem tb_851 : Cond.selects RX7 yX7_fast yX7_fast ∈ TBL := tb_seg (ts_4 _ (List.mem_of_getElem? (i := 23) rfl)) rfl
set_option maxRecDepth 20000 in
theorem tb_852 : Cond.code yX7_fast cX7_fast 4 (some .int) ∈ TBL := tb_seg (ts_4 _ (List.mem_of_getElem? (i := 24) rfl)) rfl
set_option maxRecDepth 20000 in
theorem tb_853 : Cond.methodLink RL 129 yX7_slack ∈ TBL := tb_seg (ts_4 _ (List.mem_of_getElem? (i := 25) rfl)) rfl
set_option maxRecDepth 20000 in
theorem tb_854 : Cond.instanceMethod yX7_slack ∈ TBL := tb_seg (ts_4 _ (List.mem_of_getElem? (i := 26) rfl)) rfl
set_option maxRecDepth 20000 in
theorem tb_855 : Cond.selects RX7 yX7_slack yX7_slack ∈ TBL := tb_seg (ts_4 _ (List.mem_of_getElem? (i := 27) rfl)) rfl
set_option maxRecDepth 20000 in
theorem tb_856 : Cond.code yX7_slack cX7_slack 4 (some .int) ∈ TBL := tb_seg (ts_4 _ (List.mem_of_getElem? (i := 28) rfl)) rfl
set_option maxRecDepth 20000 in
theorem tb_857 : Cond.methodLink RL 133 yX7_sort ∈ TBL := tb_seg (ts_4 _ (List.mem_of_getElem? (i := 29) rfl)) rfl
set_option maxRecDepth 20000 in
theorem tb_858 : Cond.instanceMethod yX7_sort ∈ TBL := tb_seg (ts_4 _ (List.mem_of_getElem? (i := 30) rfl)) rfl
set_option maxRecDepth 20000 in
theorem tb_859 : Cond.selects RX7 yX7_sort yX7_sort ∈ TBL := tb_seg (ts_4 _ (List.mem_of_getElem? (i := 31) rfl)) rfl
set_option maxRecDepth 20000 in
theorem tb_860 : Cond.code yX7_sort cX7_sort 8 (some .int) ∈ TBL := tb_seg (ts_4 _ (List.mem_of_getElem? (i := 32) rfl)) rfl
set_option maxRecDepth 20000 in
theorem tb_869 : Cond.methodLink RL 137 yX7_minutes ∈ TBL := tb_seg (ts_4 _ (List.mem_of_getElem? (i := 41) rfl)) rfl
set_option maxRecDepth 20000 in
theorem tb_870 : Cond.instanceMethod yX7_minutes ∈ TBL := tb_seg (ts_4 _ (List.mem_of_getElem? (i := 42) rfl)) rfl
set_option maxRecDepth 20000 in
theorem tb_871 : Cond.selects RX7 yX7_minutes yX7_minutes ∈ TBL := tb_seg (ts_4 _ (List.mem_of_getElem? (i := 43) rfl)) rfl
set_option maxRecDepth 20000 in
theorem tb_872 : Cond.code yX7_minutes cX7_minutes 2 (some .int) ∈ TBL := tb_seg (ts_4 _ (List.mem_of_getElem? (i := 44) rfl)) rfl
set_option maxRecDepth 20000 in
theorem tb_877 : Cond.methodLink RL 141 yX7_hands ∈ TBL := tb_seg (ts_4 _ (List.mem_of_getElem? (i := 49) rfl)) rfl
set_option maxRecDepth 20000 in
theorem tb_878 : Cond.instanceMethod yX7_hands ∈ TBL := tb_seg (ts_4 _ (List.mem_of_getElem? (i := 50) rfl)) rfl
set_option maxRecDepth 20000 in
theorem tb_879 : Cond.selects RX7 yX7_hands yX7_hands ∈ TBL := tb_seg (ts_4 _ (List.mem_of_getElem? (i := 51) rfl)) rfl
set_option maxRecDepth 20000 in
theorem tb_880 : Cond.code yX7_hands cX7_hands 4 (some .int) ∈ TBL := tb_seg (ts_4 _ (List.mem_of_getElem? (i := 52) rfl)) rfl
set_option maxRecDepth 20000 in
theorem tb_881 : Cond.methodLink RL 145 yX7_see ∈ TBL := tb_seg (ts_4 _ (List.mem_of_getElem? (i := 53) rfl)) rfl
set_option maxRecDepth 20000 in
theorem tb_882 : Cond.instanceMethod yX7_see ∈ TBL := tb_seg (ts_4 _ (List.mem_of_getElem? (i := 54) rfl)) rfl
set_option maxRecDepth 20000 in
theorem tb_883 : Cond.selects RX7 yX7_see yX7_see ∈ TBL := tb_seg (ts_4 _ (List.mem_of_getElem? (i := 55) rfl)) rfl
set_option maxRecDepth 20000 in
theorem tb_884 : Cond.code yX7_see cX7_see 3 (some .int) ∈ TBL := tb_seg (ts_4 _ (List.mem_of_getElem? (i := 56) rfl)) rfl
set_option maxRecDepth 20000 in
theorem tb_890 : Cond.methodLink RL 149 yX7_forget ∈ TBL := tb_seg (ts_4 _ (List.mem_of_getElem? (i := 62) rfl)) rfl
set_option maxRecDepth 20000 in
theorem tb_891 : Cond.instanceMethod yX7_forget ∈ TBL := tb_seg (ts_4 _ (List.mem_of_getElem? (i := 63) rfl)) rfl
set_option maxRecDepth 20000 in
theorem tb_892 : Cond.selects RX7 yX7_forget yX7_forget ∈ TBL := tb_seg (ts_4 _ (List.mem_of_getElem? (i := 64) rfl)) rfl
set_option maxRecDepth 20000 in
theorem tb_893 : Cond.code yX7_forget cX7_forget 3 (some .int) ∈ TBL := tb_seg (ts_4 _ (List.mem_of_getElem? (i := 65) rfl)) rfl
set_option maxRecDepth 20000 in
theorem tb_894 : Cond.methodLink RL 153 yX7_fits ∈ TBL := tb_seg (ts_4 _ (List.mem_of_getElem? (i := 66) rfl)) rfl
set_option maxRecDepth 20000 in
theorem tb_895 : Cond.instanceMethod yX7_fits ∈ TBL := tb_seg (ts_4 _ (List.mem_of_getElem? (i := 67) rfl)) rfl
set_option maxRecDepth 20000 in
theorem tb_896 : Cond.selects RX7 yX7_fits yX7_fits ∈ TBL := tb_seg (ts_4 _ (List.mem_of_getElem? (i := 68) rfl)) rfl
set_option maxRecDepth 20000 in
theorem tb_897 : Cond.code yX7_fits cX7_fits 4 (some .int) ∈ TBL := tb_seg (ts_4 _ (List.mem_of_getElem? (i := 69) rfl)) rfl
set_option maxRecDepth 20000 in
theorem tb_930 : Cond.methodLink RL 157 yX7_likely ∈ TBL := tb_seg (ts_4 _ (List.mem_of_getElem? (i := 102) rfl)) rfl
set_option maxRecDepth 20000 in
theorem tb_931 : Cond.instanceMethod yX7_likely ∈ TBL := tb_seg (ts_4 _ (List.mem_of_getElem? (i := 103) rfl)) rfl
set_option maxRecDepth 20000 in
theorem tb_932 : Cond.selects RX7 yX7_likely yX7_likely ∈ TBL := tb_seg (ts_4 _ (List.mem_of_getElem? (i := 104) rfl)) rfl
set_option maxRecDepth 20000 in
theorem tb_933 : Cond.code yX7_likely cX7_likely 2 (some .long) ∈ TBL := tb_seg (ts_4 _ (List.mem_of_getElem? (i := 105) rfl)) rfl
set_option maxRecDepth 20000 in
theorem tb_934 : Cond.methodLink RL 161 yX7_drift ∈ TBL := tb_seg (ts_4 _ (List.mem_of_getElem? (i := 106) rfl)) rfl
set_option maxRecDepth 20000 in
theorem tb_935 : Cond.instanceMethod yX7_drift ∈ TBL := tb_seg (ts_4 _ (List.mem_of_getElem? (i := 107) rfl)) rfl
set_option maxRecDepth 20000 in
theorem tb_936 : Cond.selects RX7 yX7_drift yX7_drift ∈ TBL := tb_seg (ts_4 _ (List.mem_of_getElem? (i := 108) rfl)) rfl
set_option maxRecDepth 20000 in
theorem tb_937 : Cond.code yX7_drift cX7_drift 7 (some .int) ∈ TBL := tb_seg (ts_4 _ (List.mem_of_getElem? (i := 109) rfl)) rfl
set_option maxRecDepth 20000 in
theorem tb_945 : Cond.methodLink RL 165 yX7_keep ∈ TBL := tb_seg (ts_4 _ (List.mem_of_getElem? (i := 117) rfl)) rfl
set_option maxRecDepth 20000 in
theorem tb_946 : Cond.instanceMethod yX7_keep ∈ TBL := tb_seg (ts_4 _ (List.mem_of_getElem? (i := 118) rfl)) rfl
set_option maxRecDepth 20000 in
theorem tb_947 : Cond.selects RX7 yX7_keep yX7_keep ∈ TBL := tb_seg (ts_4 _ (List.mem_of_getElem? (i := 119) rfl)) rfl
set_option maxRecDepth 20000 in
theorem tb_948 : Cond.code yX7_keep cX7_keep 3 (some .int) ∈ TBL := tb_seg (ts_4 _ (List.mem_of_getElem? (i := 120) rfl)) rfl
set_option maxRecDepth 20000 in
theorem tb_956 : Cond.methodLink RL 169 yX7_back ∈ TBL := tb_seg (ts_4 _ (List.mem_of_getElem? (i := 128) rfl)) rfl
set_option maxRecDepth 20000 in
theorem tb_957 : Cond.instanceMethod yX7_back ∈ TBL := tb_seg (ts_4 _ (List.mem_of_getElem? (i := 129) rfl)) rfl
set_option maxRecDepth 20000 in
theorem tb_958 : Cond.selects RX7 yX7_back yX7_back ∈ TBL := tb_seg (ts_4 _ (List.mem_of_getElem? (i := 130) rfl)) rfl
set_option maxRecDepth 20000 in
theorem tb_959 : Cond.code yX7_back cX7_back 2 (some .int) ∈ TBL := tb_seg (ts_4 _ (List.mem_of_getElem? (i := 131) rfl)) rfl
set_option maxRecDepth 20000 in
theorem tb_960 : Cond.methodLink RL 173 yX7_sheet ∈ TBL := tb_seg (ts_4 _ (List.mem_of_getElem? (i := 132) rfl)) rfl
set_option maxRecDepth 20000 in
theorem tb_961 : Cond.instanceMethod yX7_sheet ∈ TBL := tb_seg (ts_4 _ (List.mem_of_getElem? (i := 133) rfl)) rfl
set_option maxRecDepth 20000 in
theorem tb_962 : Cond.selects RX7 yX7_sheet yX7_sheet ∈ TBL := tb_seg (ts_4 _ (List.mem_of_getElem? (i := 134) rfl)) rfl
set_option maxRecDepth 20000 in
theorem tb_963 : Cond.code yX7_sheet cX7_sheet 4 (some .int) ∈ TBL := tb_seg (ts_4 _ (List.mem_of_getElem? (i := 135) rfl)) rfl
set_option maxRecDepth 20000 in
theorem tb_975 : Cond.methodLink RL 177 yX7_lay ∈ TBL := tb_seg (ts_4 _ (List.mem_of_getElem? (i := 147) rfl)) rfl
set_option maxRecDepth 20000 in
theorem tb_976 : Cond.instanceMethod yX7_lay ∈ TBL := tb_seg (ts_4 _ (List.mem_of_getElem? (i := 148) rfl)) rfl
set_option maxRecDepth 20000 in
theorem tb_977 : Cond.selects RX7 yX7_lay yX7_lay ∈ TBL := tb_seg (ts_4 _ (List.mem_of_getElem? (i := 149) rfl)) rfl
set_option maxRecDepth 20000 in
theorem tb_978 : Cond.code yX7_lay cX7_lay 5 (some .int) ∈ TBL := tb_seg (ts_4 _ (List.mem_of_getElem? (i := 150) rfl)) rfl
set_option maxRecDepth 20000 in
theorem tb_988 : Cond.methodLink RL 181 yX7_read ∈ TBL := tb_seg (ts_4 _ (List.mem_of_getElem? (i := 160) rfl)) rfl
set_option maxRecDepth 20000 in
theorem tb_989 : Cond.instanceMethod yX7_read ∈ TBL := tb_seg (ts_4 _ (List.mem_of_getElem? (i := 161) rfl)) rfl
set_option maxRecDepth 20000 in
theorem tb_990 : Cond.selects RX7 yX7_read yX7_read ∈ TBL := tb_seg (ts_4 _ (List.mem_of_getElem? (i := 162) rfl)) rfl
set_option maxRecDepth 20000 in
theorem tb_991 : Cond.code yX7_read cX7_read 10 (some .int) ∈ TBL := tb_seg (ts_4 _ (List.mem_of_getElem? (i := 163) rfl)) rfl
set_option maxRecDepth 20000 in
theorem tb_1006 : Cond.methodLink RL 186 yX7_split ∈ TBL := tb_seg (ts_4 _ (List.mem_of_getElem? (i := 178) rfl)) rfl
set_option maxRecDepth 20000 in
theorem tb_1007 : Cond.instanceMethod yX7_split ∈ TBL := tb_seg (ts_4 _ (List.mem_of_getElem? (i := 179) rfl)) rfl
set_option maxRecDepth 20000 in
theorem tb_1008 : Cond.selects RX7 yX7_split yX7_split ∈ TBL := tb_seg (ts_4 _ (List.mem_of_getElem? (i := 180) rfl)) rfl
set_option maxRecDepth 20000 in
theorem tb_1009 : Cond.code yX7_split cX7_split 1 (some .int) ∈ TBL := tb_seg (ts_4 _ (List.mem_of_getElem? (i := 181) rfl)) rfl
set_option maxRecDepth 20000 in
theorem tb_1010 : Cond.methodLink RL 190 yX7_count ∈ TBL := tb_seg (ts_4 _ (List.mem_of_getElem? (i := 182) rfl)) rfl
set_option maxRecDepth 20000 in
theorem tb_1011 : Cond.instanceMethod yX7_count ∈ TBL := tb_seg (ts_4 _ (List.mem_of_getElem? (i := 183) rfl)) rfl
set_option maxRecDepth 20000 in
theorem tb_1012 : Cond.selects RX7 yX7_count yX7_count ∈ TBL := tb_seg (ts_4 _ (List.mem_of_getElem? (i := 184) rfl)) rfl
set_option maxRecDepth 20000 in
theorem tb_1013 : Cond.code yX7_count cX7_count 2 (some .int) ∈ TBL := tb_seg (ts_4 _ (List.mem_of_getElem? (i := 185) rfl)) rfl
set_option maxRecDepth 20000 in
theorem tb_1177 : Cond.methodLink RL 17 yX8_feed ∈ TBL := tb_seg (ts_5 _ (List.mem_of_getElem? (i := 109) rfl)) rfl
set_option maxRecDepth 20000 in
theorem tb_1178 : Cond.instanceMethod yX8_feed ∈ TBL := tb_seg (ts_5 _ (List.mem_of_getElem? (i := 110) rfl)) rfl
set_option maxRecDepth 20000 in
theorem tb_1179 : Cond.selects RX8 yX8_feed yX8_feed ∈ TBL := tb_seg (ts_5 _ (List.mem_of_getElem? (i := 111) rfl)) rfl
set_option maxRecDepth 20000 in
theorem tb_1180 : Cond.code yX8_feed cX8_feed 2 (some .int) ∈ TBL := tb_seg (ts_5 _ (List.mem_of_getElem? (i := 112) rfl)) rfl
set_option maxRecDepth 20000 in
theorem tb_1185 : Cond.methodLink RL 21 yX8_end ∈ TBL := tb_seg (ts_5 _ (List.mem_of_getElem? (i := 117) rfl)) rfl
set_option maxRecDepth 20000 in
theorem tb_1186 : Cond.instanceMethod yX8_end ∈ TBL := tb_seg (ts_5 _ (List.mem_of_getElem? (i := 118) rfl)) rfl
set_option maxRecDepth 20000 in
theorem tb_1187 : Cond.selects RX8 yX8_end yX8_end ∈ TBL := tb_seg (ts_5 _ (List.mem_of_getElem? (i := 119) rfl)) rfl
set_option maxRecDepth 20000 in
theorem tb_1188 : Cond.code yX8_end cX8_end 3 (some .int) ∈ TBL := tb_seg (ts_5 _ (List.mem_of_getElem? (i := 120) rfl)) rfl
set_option maxRecDepth 20000 in
theorem tb_1189 : Cond.methodLink RL 26 yX8_text ∈ TBL := tb_seg (ts_5 _ (List.mem_of_getElem? (i := 121) rfl)) rfl
set_option maxRecDepth 20000 in
theorem tb_1190 : Cond.instanceMethod yX8_text ∈ TBL := tb_seg (ts_5 _ (List.mem_of_getElem? (i := 122) rfl)) rfl
set_option maxRecDepth 20000 in
theorem tb_1191 : Cond.selects RX8 yX8_text yX8_text ∈ TBL := tb_seg (ts_5 _ (List.mem_of_getElem? (i := 123) rfl)) rfl
set_option maxRecDepth 20000 in
theorem tb_1192 : Cond.code yX8_text cX8_text 3 (some .int) ∈ TBL := tb_seg (ts_5 _ (List.mem_of_getElem? (i := 124) rfl)) rfl
set_option maxRecDepth 20000 in
theorem tb_1238 : Cond.methodLink RL 30 yX8_fault ∈ TBL := tb_seg (ts_5 _ (List.mem_of_getElem? (i := 170) rfl)) rfl
set_option maxRecDepth 20000 in
theorem tb_1239 : Cond.instanceMethod yX8_fault ∈ TBL := tb_seg (ts_5 _ (List.mem_of_getElem? (i := 171) rfl)) rfl
set_option maxRecDepth 20000 in
theorem tb_1240 : Cond.selects RX8 yX8_fault yX8_fault ∈ TBL := tb_seg (ts_5 _ (List.mem_of_getElem? (i := 172) rfl)) rfl
set_option maxRecDepth 20000 in
theorem tb_1241 : Cond.code yX8_fault cX8_fault 1 (some .int) ∈ TBL := tb_seg (ts_5 _ (List.mem_of_getElem? (i := 173) rfl)) rfl
set_option maxRecDepth 20000 in
theorem tb_1242 : Cond.methodLink RL 34 yX8_rule ∈ TBL := tb_seg (ts_5 _ (List.mem_of_getElem? (i := 174) rfl)) rfl
set_option maxRecDepth 20000 in
theorem tb_1243 : Cond.instanceMethod yX8_rule ∈ TBL := tb_seg (ts_5 _ (List.mem_of_getElem? (i := 175) rfl)) rfl
set_option maxRecDepth 20000 in
theorem tb_1244 : Cond.selects RX8 yX8_rule yX8_rule ∈ TBL := tb_seg (ts_5 _ (List.mem_of_getElem? (i := 176) rfl)) rfl
set_option maxRecDepth 20000 in
theorem tb_1245 : Cond.code yX8_rule cX8_rule 2 (some .int) ∈ TBL := tb_seg (ts_5 _ (List.mem_of_getElem? (i := 177) rfl)) rfl
set_option maxRecDepth 20000 in
theorem tb_1258 : Cond.methodLink RL 39 yX8_arm ∈ TBL := tb_seg (ts_5 _ (List.mem_of_getElem? (i := 190) rfl)) rfl
set_option maxRecDepth 20000 in
theorem tb_1259 : Cond.instanceMethod yX8_arm ∈ TBL := tb_seg (ts_5 _ (List.mem_of_getElem? (i := 191) rfl)) rfl
set_option maxRecDepth 20000 in
theorem tb_1260 : Cond.selects RX8 yX8_arm yX8_arm ∈ TBL := tb_seg (ts_5 _ (List.mem_of_getElem? (i := 192) rfl)) rfl
set_option maxRecDepth 20000 in
theorem tb_1261 : Cond.code yX8_arm cX8_arm 3 (some .int) ∈ TBL := tb_seg (ts_5 _ (List.mem_of_getElem? (i := 193) rfl)) rfl
set_option maxRecDepth 20000 in
theorem tb_1270 : Cond.methodLink RL 43 yX8_mark ∈ TBL := tb_seg (ts_5 _ (List.mem_of_getElem? (i := 202) rfl)) rfl
set_option maxRecDepth 20000 in
theorem tb_1271 : Cond.instanceMethod yX8_mark ∈ TBL := tb_seg (ts_5 _ (List.mem_of_getElem? (i := 203) rfl)) rfl
set_option maxRecDepth 20000 in
theorem tb_1272 : Cond.selects RX8 yX8_mark yX8_mark ∈ TBL := tb_seg (ts_5 _ (List.mem_of_getElem? (i := 204) rfl)) rfl
set_option maxRecDepth 20000 in
theorem tb_1273 : Cond.code yX8_mark cX8_mark 3 (some .int) ∈ TBL := tb_seg (ts_5 _ (List.mem_of_getElem? (i := 205) rfl)) rfl
set_option maxRecDepth 20000 in
theorem tb_1274 : Cond.methodLink RL 47 yX8_town ∈ TBL := tb_seg (ts_5 _ (List.mem_of_getElem? (i := 206) rfl)) rfl
set_option maxRecDepth 20000 in
theorem tb_1275 : Cond.instanceMethod yX8_town ∈ TBL := tb_seg (ts_5 _ (List.mem_of_getElem? (i := 207) rfl)) rfl
set_option maxRecDepth 20000 in
theorem tb_1276 : Cond.selects RX8 yX8_town yX8_town ∈ TBL := tb_seg (ts_5 _ (List.mem_of_getElem? (i := 208) rfl)) rfl
set_option maxRecDepth 20000 in
theorem tb_1277 : Cond.code yX8_town cX8_town 3 (some .int) ∈ TBL := tb_seg (ts_5 _ (List.mem_of_getElem? (i := 209) rfl)) rfl
set_option maxRecDepth 20000 in
theorem tb_1278 : Cond.methodLink RL 51 yX8_set ∈ TBL := tb_seg (ts_5 _ (List.mem_of_getElem? (i := 210) rfl)) rfl
set_option maxRecDepth 20000 in
theorem tb_1279 : Cond.instanceMethod yX8_set ∈ TBL := tb_seg (ts_5 _ (List.mem_of_getElem? (i := 211) rfl)) rfl
set_option maxRecDepth 20000 in
theorem tb_1280 : Cond.selects RX8 yX8_set yX8_set ∈ TBL := tb_seg (ts_5 _ (List.mem_of_getElem? (i := 212) rfl)) rfl
set_option maxRecDepth 20000 in
theorem tb_1281 : Cond.code yX8_set cX8_set 3 (some .int) ∈ TBL := tb_seg (ts_5 _ (List.mem_of_getElem? (i := 213) rfl)) rfl
set_option maxRecDepth 20000 in
theorem tb_1287 : Cond.methodLink RL 55 yX8_net ∈ TBL := tb_seg (ts_5 _ (List.mem_of_getElem? (i := 219) rfl)) rfl
set_option maxRecDepth 20000 in
theorem tb_1288 : Cond.instanceMethod yX8_net ∈ TBL := tb_seg (ts_5 _ (List.mem_of_getElem? (i := 220) rfl)) rfl
set_option maxRecDepth 20000 in
theorem tb_1289 : Cond.selects RX8 yX8_net yX8_net ∈ TBL := tb_seg (ts_5 _ (List.mem_of_getElem? (i := 221) rfl)) rfl
set_option maxRecDepth 20000 in
theorem tb_1290 : Cond.code yX8_net cX8_net 3 (some .int) ∈ TBL := tb_seg (ts_5 _ (List.mem_of_getElem? (i := 222) rfl)) rfl
set_option maxRecDepth 20000 in
theorem tb_1292 : Cond.methodLink RL 60 yX8_signal ∈ TBL := tb_seg (ts_5 _ (List.mem_of_getElem? (i := 224) rfl)) rfl
set_option maxRecDepth 20000 in
theorem tb_1293 : Cond.instanceMethod yX8_signal ∈ TBL := tb_seg (ts_5 _ (List.mem_of_getElem? (i := 225) rfl)) rfl
set_option maxRecDepth 20000 in
theorem tb_1294 : Cond.selects RX8 yX8_signal yX8_signal ∈ TBL := tb_seg (ts_5 _ (List.mem_of_getElem? (i := 226) rfl)) rfl
set_option maxRecDepth 20000 in
theorem tb_1295 : Cond.code yX8_signal cX8_signal 4 (some .int) ∈ TBL := tb_seg (ts_5 _ (List.mem_of_getElem? (i := 227) rfl)) rfl
set_option maxRecDepth 20000 in
theorem tb_1300 : Cond.methodLink RL 64 yX8_bridge ∈ TBL := tb_seg (ts_5 _ (List.mem_of_getElem? (i := 232) rfl)) rfl
set_option maxRecDepth 20000 in
theorem tb_1301 : Cond.instanceMethod yX8_bridge ∈ TBL := tb_seg (ts_5 _ (List.mem_of_getElem? (i := 233) rfl)) rfl
set_option maxRecDepth 20000 in
theorem tb_1302 : Cond.selects RX8 yX8_bridge yX8_bridge ∈ TBL := tb_seg (ts_5 _ (List.mem_of_getElem? (i := 234) rfl)) rfl
set_option maxRecDepth 20000 in
theorem tb_1303 : Cond.code yX8_bridge cX8_bridge 2 (some .int) ∈ TBL := tb_seg (ts_5 _ (List.mem_of_getElem? (i := 235) rfl)) rfl
set_option maxRecDepth 20000 in
theorem tb_1304 : Cond.methodLink RL 68 yX8_clear ∈ TBL := tb_seg (ts_5 _ (List.mem_of_getElem? (i := 236) rfl)) rfl
set_option maxRecDepth 20000 in
theorem tb_1305 : Cond.instanceMethod yX8_clear ∈ TBL := tb_seg (ts_5 _ (List.mem_of_getElem? (i := 237) rfl)) rfl
set_option maxRecDepth 20000 in
theorem tb_1306 : Cond.selects RX8 yX8_clear yX8_clear ∈ TBL := tb_seg (ts_5 _ (List.mem_of_getElem? (i := 238) rfl)) rfl
set_option maxRecDepth 20000 in
theorem tb_1307 : Cond.code yX8_clear cX8_clear 3 (some .int) ∈ TBL := tb_seg (ts_5 _ (List.mem_of_getElem? (i := 239) rfl)) rfl
set_option maxRecDepth 20000 in
theorem tb_1308 : Cond.methodLink RL 72 yX8_hang ∈ TBL := tb_seg (ts_6 _ (List.mem_of_getElem? (i := 0) rfl)) rfl
set_option maxRecDepth 20000 in
theorem tb_1309 : Cond.instanceMethod yX8_hang ∈ TBL := tb_seg (ts_6 _ (List.mem_of_getElem? (i := 1) rfl)) rfl
set_option maxRecDepth 20000 in
theorem tb_1310 : Cond.selects RX8 yX8_hang yX8_hang ∈ TBL := tb_seg (ts_6 _ (List.mem_of_getElem? (i := 2) rfl)) rfl
set_option maxRecDepth 20000 in
theorem tb_1311 : Cond.code yX8_hang cX8_hang 3 (some .int) ∈ TBL := tb_seg (ts_6 _ (List.mem_of_getElem? (i := 3) rfl)) rfl
set_option maxRecDepth 20000 in
theorem tb_1313 : Cond.methodLink RL 76 yX8_post ∈ TBL := tb_seg (ts_6 _ (List.mem_of_getElem? (i := 5) rfl)) rfl
set_option maxRecDepth 20000 in
theorem tb_1314 : Cond.instanceMethod yX8_post ∈ TBL := tb_seg (ts_6 _ (List.mem_of_getElem? (i := 6) rfl)) rfl
set_option maxRecDepth 20000 in
theorem tb_1315 : Cond.selects RX8 yX8_post yX8_post ∈ TBL := tb_seg (ts_6 _ (List.mem_of_getElem? (i := 7) rfl)) rfl
set_option maxRecDepth 20000 in
theorem tb_1316 : Cond.code yX8_post cX8_post 3 (some .int) ∈ TBL := tb_seg (ts_6 _ (List.mem_of_getElem? (i := 8) rfl)) rfl
set_option maxRecDepth 20000 in
theorem tb_1322 : Cond.methodLink RL 81 yX8_night ∈ TBL := tb_seg (ts_6 _ (List.mem_of_getElem? (i := 14) rfl)) rfl
set_option maxRecDepth 20000 in
theorem tb_1323 : Cond.instanceMethod yX8_night ∈ TBL := tb_seg (ts_6 _ (List.mem_of_getElem? (i := 15) rfl)) rfl
set_option maxRecDepth 20000 in
theorem tb_1324 : Cond.selects RX8 yX8_night yX8_night ∈ TBL := tb_seg (ts_6 _ (List.mem_of_getElem? (i := 16) rfl)) rfl
set_option maxRecDepth 20000 in
theorem tb_1325 : Cond.code yX8_night cX8_night 4 (some .int) ∈ TBL := tb_seg (ts_6 _ (List.mem_of_getElem? (i := 17) rfl)) rfl
set_option maxRecDepth 20000 in
theorem tb_1343 : Cond.methodLink RL 85 yX8_counts ∈ TBL := tb_seg (ts_6 _ (List.mem_of_getElem? (i := 35) rfl)) rfl
set_option maxRecDepth 20000 in
theorem tb_1344 : Cond.instanceMethod yX8_counts ∈ TBL := tb_seg (ts_6 _ (List.mem_of_getElem? (i := 36) rfl)) rfl
set_option maxRecDepth 20000 in
theorem tb_1345 : Cond.selects RX8 yX8_counts yX8_counts ∈ TBL := tb_seg (ts_6 _ (List.mem_of_getElem? (i := 37) rfl)) rfl
set_option maxRecDepth 20000 in
theorem tb_1346 : Cond.code yX8_counts cX8_counts 4 (some .int) ∈ TBL := tb_seg (ts_6 _ (List.mem_of_getElem? (i := 38) rfl)) rfl
set_option maxRecDepth 20000 in
theorem tb_1351 : Cond.methodLink RL 90 yX8_where ∈ TBL := tb_seg (ts_6 _ (List.mem_of_getElem? (i := 43) rfl)) rfl
set_option maxRecDepth 20000 in
theorem tb_1352 : Cond.instanceMethod yX8_where ∈ TBL := tb_seg (ts_6 _ (List.mem_of_getElem? (i := 44) rfl)) rfl
set_option maxRecDepth 20000 in
theorem tb_1353 : Cond.selects RX8 yX8_where yX8_where ∈ TBL := tb_seg (ts_6 _ (List.mem_of_getElem? (i := 45) rfl)) rfl
set_option maxRecDepth 20000 in
theorem tb_1354 : Cond.code yX8_where cX8_where 4 (some .long) ∈ TBL := tb_seg (ts_6 _ (List.mem_of_getElem? (i := 46) rfl)) rfl
set_option maxRecDepth 20000 in
theorem tb_1390 : Cond.methodLink RL 95 yX8_goes ∈ TBL := tb_seg (ts_6 _ (List.mem_of_getElem? (i := 82) rfl)) rfl
set_option maxRecDepth 20000 in
theorem tb_1391 : Cond.instanceMethod yX8_goes ∈ TBL := tb_seg (ts_6 _ (List.mem_of_getElem? (i := 83) rfl)) rfl
set_option maxRecDepth 20000 in
theorem tb_1392 : Cond.selects RX8 yX8_goes yX8_goes ∈ TBL := tb_seg (ts_6 _ (List.mem_of_getElem? (i := 84) rfl)) rfl
set_option maxRecDepth 20000 in
theorem tb_1393 : Cond.code yX8_goes cX8_goes 3 (some .long) ∈ TBL := tb_seg (ts_6 _ (List.mem_of_getElem? (i := 85) rfl)) rfl
set_option maxRecDepth 20000 in
theorem tb_1394 : Cond.methodLink RL 99 yX8_isOut ∈ TBL := tb_seg (ts_6 _ (List.mem_of_getElem? (i := 86) rfl)) rfl
set_option maxRecDepth 20000 in
theorem tb_1395 : Cond.instanceMethod yX8_isOut ∈ TBL := tb_seg (ts_6 _ (List.mem_of_getElem? (i := 87) rfl)) rfl
set_option maxRecDepth 20000 in
theorem tb_1396 : Cond.selects RX8 yX8_isOut yX8_isOut ∈ TBL := tb_seg (ts_6 _ (List.mem_of_getElem? (i := 88) rfl)) rfl
set_option maxRecDepth 20000 in
theorem tb_1397 : Cond.code yX8_isOut cX8_isOut 3 (some .long) ∈ TBL := tb_seg (ts_6 _ (List.mem_of_getElem? (i := 89) rfl)) rfl
set_option maxRecDepth 20000 in
theorem tb_1398 : Cond.methodLink RL 103 yX8_had ∈ TBL := tb_seg (ts_6 _ (List.mem_of_getElem? (i := 90) rfl)) rfl
set_option maxRecDepth 20000 in
theorem tb_1399 : Cond.instanceMethod yX8_had ∈ TBL := tb_seg (ts_6 _ (List.mem_of_getElem? (i := 91) rfl)) rfl
set_option maxRecDepth 20000 in
theorem tb_1400 : Cond.selects RX8 yX8_had yX8_had ∈ TBL := tb_seg (ts_6 _ (List.mem_of_getElem? (i := 92) rfl)) rfl
set_option maxRecDepth 20000 in
theorem tb_1401 : Cond.code yX8_had cX8_had 3 (some .long) ∈ TBL := tb_seg (ts_6 _ (List.mem_of_getElem? (i := 93) rfl)) rfl
set_option maxRecDepth 20000 in
theorem tb_1402 : Cond.methodLink RL 108 yX8_hits ∈ TBL := tb_seg (ts_6 _ (List.mem_of_getElem? (i := 94) rfl)) rfl
set_option maxRecDepth 20000 in
theorem tb_1403 : Cond.instanceMethod yX8_hits ∈ TBL := tb_seg (ts_6 _ (List.mem_of_getElem? (i := 95) rfl)) rfl
set_option maxRecDepth 20000 in
theorem tb_1404 : Cond.selects RX8 yX8_hits yX8_hits ∈ TBL := tb_seg (ts_6 _ (List.mem_of_getElem? (i := 96) rfl)) rfl
set_option maxRecDepth 20000 in
theorem tb_1405 : Cond.code yX8_hits cX8_hits 2 (some .long) ∈ TBL := tb_seg (ts_6 _ (List.mem_of_getElem? (i := 97) rfl)) rfl
set_option maxRecDepth 20000 in
theorem tb_1406 : Cond.methodLink RL 112 yX8_torn ∈ TBL := tb_seg (ts_6 _ (List.mem_of_getElem? (i := 98) rfl)) rfl
set_option maxRecDepth 20000 in
theorem tb_1407 : Cond.instanceMethod yX8_torn ∈ TBL := tb_seg (ts_6 _ (List.mem_of_getElem? (i := 99) rfl)) rfl
set_option maxRecDepth 20000 in
theorem tb_1408 : Cond.selects RX8 yX8_torn yX8_torn ∈ TBL := tb_seg (ts_6 _ (List.mem_of_getElem? (i := 100) rfl)) rfl
set_option maxRecDepth 20000 in
theorem tb_1409 : Cond.code yX8_torn cX8_torn 2 (some .long) ∈ TBL := tb_seg (ts_6 _ (List.mem_of_getElem? (i := 101) rfl)) rfl
set_option maxRecDepth 20000 in
theorem tb_1410 : Cond.methodLink RL 116 yX8_worth ∈ TBL := tb_seg (ts_6 _ (List.mem_of_getElem? (i := 102) rfl)) rfl
set_option maxRecDepth 20000 in
theorem tb_1411 : Cond.instanceMethod yX8_worth ∈ TBL := tb_seg (ts_6 _ (List.mem_of_getElem? (i := 103) rfl)) rfl
set_option maxRecDepth 20000 in
theorem tb_1412 : Cond.selects RX8 yX8_worth yX8_worth ∈ TBL := tb_seg (ts_6 _ (List.mem_of_getElem? (i := 104) rfl)) rfl
set_option maxRecDepth 20000 in
theorem tb_1413 : Cond.code yX8_worth cX8_worth 2 (some .long) ∈ TBL := tb_seg (ts_6 _ (List.mem_of_getElem? (i := 105) rfl)) rfl
set_option maxRecDepth 20000 in
theorem tb_1414 : Cond.methodLink RL 120 yX8_best ∈ TBL := tb_seg (ts_6 _ (List.mem_of_getElem? (i := 106) rfl)) rfl
set_option maxRecDepth 20000 in
theorem tb_1415 : Cond.instanceMethod yX8_best ∈ TBL := tb_seg (ts_6 _ (List.mem_of_getElem? (i := 107) rfl)) rfl
set_option maxRecDepth 20000 in
theorem tb_1416 : Cond.selects RX8 yX8_best yX8_best ∈ TBL := tb_seg (ts_6 _ (List.mem_of_getElem? (i := 108) rfl)) rfl
set_option maxRecDepth 20000 in
theorem tb_1417 : Cond.code yX8_best cX8_best 10 (some .long) ∈ TBL := tb_seg (ts_6 _ (List.mem_of_getElem? (i := 109) rfl)) rfl
set_option maxRecDepth 20000 in
theorem tb_1423 : Cond.methodLink RL 124 yX8_fog ∈ TBL := tb_seg (ts_6 _ (List.mem_of_getElem? (i := 115) rfl)) rfl
set_option maxRecDepth 20000 in
theorem tb_1424 : Cond.instanceMethod yX8_fog ∈ TBL := tb_seg (ts_6 _ (List.mem_of_getElem? (i := 116) rfl)) rfl
set_option maxRecDepth 20000 in
theorem tb_1425 : Cond.selects RX8 yX8_fog yX8_fog ∈ TBL := tb_seg (ts_6 _ (List.mem_of_getElem? (i := 117) rfl)) rfl
set_option maxRecDepth 20000 in
theorem tb_1426 : Cond.code yX8_fog cX8_fog 6 (some .int) ∈ TBL := tb_seg (ts_6 _ (List.mem_of_getElem? (i := 118) rfl)) rfl
set_option maxRecDepth 20000 in
theorem tb_1434 : Cond.methodLink RL 128 yX8_fast ∈ TBL := tb_seg (ts_6 _ (List.mem_of_getElem? (i := 126) rfl)) rfl
set_option maxRecDepth 20000 in
theorem tb_1435 : Cond.instanceMethod yX8_fast ∈ TBL := tb_seg (ts_6 _ (List.mem_of_getElem? (i := 127) rfl)) rfl
set_option maxRecDepth 20000 in
theorem tb_1436 : Cond.selects RX8 yX8_fast yX8_fast ∈ TBL := tb_seg (ts_6 _ (List.mem_of_getElem? (i := 128) rfl)) rfl
set_option maxRecDepth 20000 in
theorem tb_1437 : Cond.code yX8_fast cX8_fast 5 (some .int) ∈ TBL := tb_seg (ts_6 _ (List.mem_of_getElem? (i := 129) rfl)) rfl
set_option maxRecDepth 20000 in
theorem tb_1438 : Cond.methodLink RL 132 yX8_slack ∈ TBL := tb_seg (ts_6 _ (List.mem_of_getElem? (i := 130) rfl)) rfl
set_option maxRecDepth 20000 in
theorem tb_1439 : Cond.instanceMethod yX8_slack ∈ TBL := tb_seg (ts_6 _ (List.mem_of_getElem? (i := 131) rfl)) rfl
set_option maxRecDepth 20000 in
theorem tb_1440 : Cond.selects RX8 yX8_slack yX8_slack ∈ TBL := tb_seg (ts_6 _ (List.mem_of_getElem? (i := 132) rfl)) rfl
set_option maxRecDepth 20000 in
theorem tb_1441 : Cond.code yX8_slack cX8_slack 5 (some .int) ∈ TBL := tb_seg (ts_6 _ (List.mem_of_getElem? (i := 133) rfl)) rfl
set_option maxRecDepth 20000 in
theorem tb_1442 : Cond.methodLink RL 136 yX8_sort ∈ TBL := tb_seg (ts_6 _ (List.mem_of_getElem? (i := 134) rfl)) rfl
set_option maxRecDepth 20000 in
theorem tb_1443 : Cond.instanceMethod yX8_sort ∈ TBL := tb_seg (ts_6 _ (List.mem_of_getElem? (i := 135) rfl)) rfl
set_option maxRecDepth 20000 in
theorem tb_1444 : Cond.selects RX8 yX8_sort yX8_sort ∈ TBL := tb_seg (ts_6 _ (List.mem_of_getElem? (i := 136) rfl)) rfl
set_option maxRecDepth 20000 in
theorem tb_1445 : Cond.code yX8_sort cX8_sort 8 (some .int) ∈ TBL := tb_seg (ts_6 _ (List.mem_of_getElem? (i := 137) rfl)) rfl
set_option maxRecDepth 20000 in
theorem tb_1450 : Cond.methodLink RL 140 yX8_minutes ∈ TBL := tb_seg (ts_6 _ (List.mem_of_getElem? (i := 142) rfl)) rfl
set_option maxRecDepth 20000 in
theorem tb_1451 : Cond.instanceMethod yX8_minutes ∈ TBL := tb_seg (ts_6 _ (List.mem_of_getElem? (i := 143) rfl)) rfl
set_option maxRecDepth 20000 in
theorem tb_1452 : Cond.selects RX8 yX8_minutes yX8_minutes ∈ TBL := tb_seg (ts_6 _ (List.mem_of_getElem? (i := 144) rfl)) rfl
set_option maxRecDepth 20000 in
theorem tb_1453 : Cond.code yX8_minutes cX8_minutes 2 (some .int) ∈ TBL := tb_seg (ts_6 _ (List.mem_of_getElem? (i := 145) rfl)) rfl
set_option maxRecDepth 20000 in
theorem tb_1454 : Cond.methodLink RL 144 yX8_hands ∈ TBL := tb_seg (ts_6 _ (List.mem_of_getElem? (i := 146) rfl)) rfl
set_option maxRecDepth 20000 in
theorem tb_1455 : Cond.instanceMethod yX8_hands ∈ TBL := tb_seg (ts_6 _ (List.mem_of_getElem? (i := 147) rfl)) rfl
set_option maxRecDepth 20000 in
theorem tb_1456 : Cond.selects RX8 yX8_hands yX8_hands ∈ TBL := tb_seg (ts_6 _ (List.mem_of_getElem? (i := 148) rfl)) rfl
set_option maxRecDepth 20000 in
theorem tb_1457 : Cond.code yX8_hands cX8_hands 3 (some .int) ∈ TBL := tb_seg (ts_6 _ (List.mem_of_getElem? (i := 149) rfl)) rfl
set_option maxRecDepth 20000 in
theorem tb_1458 : Cond.methodLink RL 148 yX8_see ∈ TBL := tb_seg (ts_6 _ (List.mem_of_getElem? (i := 150) rfl)) rfl
set_option maxRecDepth 20000 in
theorem tb_1459 : Cond.instanceMethod yX8_see ∈ TBL := tb_seg (ts_6 _ (List.mem_of_getElem? (i := 151) rfl)) rfl
set_option maxRecDepth 20000 in
theorem tb_1460 : Cond.selects RX8 yX8_see yX8_see ∈ TBL := tb_seg (ts_6 _ (List.mem_of_getElem? (i := 152) rfl)) rfl
set_option maxRecDepth 20000 in
theorem tb_1461 : Cond.code yX8_see cX8_see 3 (some .int) ∈ TBL := tb_seg (ts_6 _ (List.mem_of_getElem? (i := 153) rfl)) rfl
set_option maxRecDepth 20000 in
theorem tb_1462 : Cond.methodLink RL 152 yX8_forget ∈ TBL := tb_seg (ts_6 _ (List.mem_of_getElem? (i := 154) rfl)) rfl
set_option maxRecDepth 20000 in
theorem tb_1463 : Cond.instanceMethod yX8_forget ∈ TBL := tb_seg (ts_6 _ (List.mem_of_getElem? (i := 155) rfl)) rfl
set_option maxRecDepth 20000 in
theorem tb_1464 : Cond.selects RX8 yX8_forget yX8_forget ∈ TBL := tb_seg (ts_6 _ (List.mem_of_getElem? (i := 156) rfl)) rfl
set_option maxRecDepth 20000 in
theorem tb_1465 : Cond.code yX8_forget cX8_forget 3 (some .int) ∈ TBL := tb_seg (ts_6 _ (List.mem_of_getElem? (i := 157) rfl)) rfl
set_option maxRecDepth 20000 in
theorem tb_1466 : Cond.methodLink RL 156 yX8_fits ∈ TBL := tb_seg (ts_6 _ (List.mem_of_getElem? (i := 158) rfl)) rfl
set_option maxRecDepth 20000 in
theorem tb_1467 : Cond.instanceMethod yX8_fits ∈ TBL := tb_seg (ts_6 _ (List.mem_of_getElem? (i := 159) rfl)) rfl
set_option maxRecDepth 20000 in
theorem tb_1468 : Cond.selects RX8 yX8_fits yX8_fits ∈ TBL := tb_seg (ts_6 _ (List.mem_of_getElem? (i := 160) rfl)) rfl
set_option maxRecDepth 20000 in
theorem tb_1469 : Cond.code yX8_fits cX8_fits 9 (some .int) ∈ TBL := tb_seg (ts_6 _ (List.mem_of_getElem? (i := 161) rfl)) rfl
set_option maxRecDepth 20000 in
theorem tb_1470 : Cond.methodLink RL 160 yX8_likely ∈ TBL := tb_seg (ts_6 _ (List.mem_of_getElem? (i := 162) rfl)) rfl
set_option maxRecDepth 20000 in
theorem tb_1471 : Cond.instanceMethod yX8_likely ∈ TBL := tb_seg (ts_6 _ (List.mem_of_getElem? (i := 163) rfl)) rfl
set_option maxRecDepth 20000 in
theorem tb_1472 : Cond.selects RX8 yX8_likely yX8_likely ∈ TBL := tb_seg (ts_6 _ (List.mem_of_getElem? (i := 164) rfl)) rfl
set_option maxRecDepth 20000 in
theorem tb_1473 : Cond.code yX8_likely cX8_likely 2 (some .long) ∈ TBL := tb_seg (ts_6 _ (List.mem_of_getElem? (i := 165) rfl)) rfl
set_option maxRecDepth 20000 in
theorem tb_1474 : Cond.methodLink RL 164 yX8_drift ∈ TBL := tb_seg (ts_6 _ (List.mem_of_getElem? (i := 166) rfl)) rfl
set_option maxRecDepth 20000 in
theorem tb_1475 : Cond.instanceMethod yX8_drift ∈ TBL := tb_seg (ts_6 _ (List.mem_of_getElem? (i := 167) rfl)) rfl
set_option maxRecDepth 20000 in
theorem tb_1476 : Cond.selects RX8 yX8_drift yX8_drift ∈ TBL := tb_seg (ts_6 _ (List.mem_of_getElem? (i := 168) rfl)) rfl
set_option maxRecDepth 20000 in
theorem tb_1477 : Cond.code yX8_drift cX8_drift 7 (some .int) ∈ TBL := tb_seg (ts_6 _ (List.mem_of_getElem? (i := 169) rfl)) rfl
set_option maxRecDepth 20000 in
theorem tb_1479 : Cond.methodLink RL 168 yX8_keep ∈ TBL := tb_seg (ts_6 _ (List.mem_of_getElem? (i := 171) rfl)) rfl
set_option maxRecDepth 20000 in
theorem tb_1480 : Cond.instanceMethod yX8_keep ∈ TBL := tb_seg (ts_6 _ (List.mem_of_getElem? (i := 172) rfl)) rfl
set_option maxRecDepth 20000 in
theorem tb_1481 : Cond.selects RX8 yX8_keep yX8_keep ∈ TBL := tb_seg (ts_6 _ (List.mem_of_getElem? (i := 173) rfl)) rfl
set_option maxRecDepth 20000 in
theorem tb_1482 : Cond.code yX8_keep cX8_keep 3 (some .int) ∈ TBL := tb_seg (ts_6 _ (List.mem_of_getElem? (i := 174) rfl)) rfl
set_option maxRecDepth 20000 in
theorem tb_1483 : Cond.methodLink RL 172 yX8_back ∈ TBL := tb_seg (ts_6 _ (List.mem_of_getElem? (i := 175) rfl)) rfl
set_option maxRecDepth 20000 in
theorem tb_1484 : Cond.instanceMethod yX8_back ∈ TBL := tb_seg (ts_6 _ (List.mem_of_getElem? (i := 176) rfl)) rfl
set_option maxRecDepth 20000 in
theorem tb_1485 : Cond.selects RX8 yX8_back yX8_back ∈ TBL := tb_seg (ts_6 _ (List.mem_of_getElem? (i := 177) rfl)) rfl
set_option maxRecDepth 20000 in
theorem tb_1486 : Cond.code yX8_back cX8_back 2 (some .int) ∈ TBL := tb_seg (ts_6 _ (List.mem_of_getElem? (i := 178) rfl)) rfl
set_option maxRecDepth 20000 in
theorem tb_1487 : Cond.methodLink RL 176 yX8_sheet ∈ TBL := tb_seg (ts_6 _ (List.mem_of_getElem? (i := 179) rfl)) rfl
set_option maxRecDepth 20000 in
theorem tb_1488 : Cond.instanceMethod yX8_sheet ∈ TBL := tb_seg (ts_6 _ (List.mem_of_getElem? (i := 180) rfl)) rfl
set_option maxRecDepth 20000 in
theorem tb_1489 : Cond.selects RX8 yX8_sheet yX8_sheet ∈ TBL := tb_seg (ts_6 _ (List.mem_of_getElem? (i := 181) rfl)) rfl
set_option maxRecDepth 20000 in
theorem tb_1490 : Cond.code yX8_sheet cX8_sheet 5 (some .int) ∈ TBL := tb_seg (ts_6 _ (List.mem_of_getElem? (i := 182) rfl)) rfl
set_option maxRecDepth 20000 in
theorem tb_1492 : Cond.methodLink RL 180 yX8_lay ∈ TBL := tb_seg (ts_6 _ (List.mem_of_getElem? (i := 184) rfl)) rfl
set_option maxRecDepth 20000 in
theorem tb_1493 : Cond.instanceMethod yX8_lay ∈ TBL := tb_seg (ts_6 _ (List.mem_of_getElem? (i := 185) rfl)) rfl
set_option maxRecDepth 20000 in
theorem tb_1494 : Cond.selects RX8 yX8_lay yX8_lay ∈ TBL := tb_seg (ts_6 _ (List.mem_of_getElem? (i := 186) rfl)) rfl
set_option maxRecDepth 20000 in
theorem tb_1495 : Cond.code yX8_lay cX8_lay 4 (some .int) ∈ TBL := tb_seg (ts_6 _ (List.mem_of_getElem? (i := 187) rfl)) rfl
set_option maxRecDepth 20000 in
theorem tb_1496 : Cond.methodLink RL 185 yX8_read ∈ TBL := tb_seg (ts_6 _ (List.mem_of_getElem? (i := 188) rfl)) rfl
set_option maxRecDepth 20000 in
theorem tb_1497 : Cond.instanceMethod yX8_read ∈ TBL := tb_seg (ts_6 _ (List.mem_of_getElem? (i := 189) rfl)) rfl
set_option maxRecDepth 20000 in
theorem tb_1498 : Cond.selects RX8 yX8_read yX8_read ∈ TBL := tb_seg (ts_6 _ (List.mem_of_getElem? (i := 190) rfl)) rfl
set_option maxRecDepth 20000 in
theorem tb_1499 : Cond.code yX8_read cX8_read 9 (some .int) ∈ TBL := tb_seg (ts_6 _ (List.mem_of_getElem? (i := 191) rfl)) rfl
set_option maxRecDepth 20000 in
theorem tb_1501 : Cond.methodLink RL 189 yX8_split ∈ TBL := tb_seg (ts_6 _ (List.mem_of_getElem? (i := 193) rfl)) rfl
set_option maxRecDepth 20000 in
theorem tb_1502 : Cond.instanceMethod yX8_split ∈ TBL := tb_seg (ts_6 _ (List.mem_of_getElem? (i := 194) rfl)) rfl
set_option maxRecDepth 20000 in
theorem tb_1503 : Cond.selects RX8 yX8_split yX8_split ∈ TBL := tb_seg (ts_6 _ (List.mem_of_getElem? (i := 195) rfl)) rfl
set_option maxRecDepth 20000 in
theorem tb_1504 : Cond.code yX8_split cX8_split 1 (some .int) ∈ TBL := tb_seg (ts_6 _ (List.mem_of_getElem? (i := 196) rfl)) rfl
set_option maxRecDepth 20000 in
theorem tb_1505 : Cond.methodLink RL 193 yX8_count ∈ TBL := tb_seg (ts_6 _ (List.mem_of_getElem? (i := 197) rfl)) rfl
set_option maxRecDepth 20000 in
theorem tb_1506 : Cond.instanceMethod yX8_count ∈ TBL := tb_seg (ts_6 _ (List.mem_of_getElem? (i := 198) rfl)) rfl
set_option maxRecDepth 20000 in
theorem tb_1507 : Cond.selects RX8 yX8_count yX8_count ∈ TBL := tb_seg (ts_6 _ (List.mem_of_getElem? (i := 199) rfl)) rfl
set_option maxRecDepth 20000 in
theorem tb_1508 : Cond.code yX8_count cX8_count 4 (some .int) ∈ TBL := tb_seg (ts_6 _ (List.mem_of_getElem? (i := 200) rfl)) rfl
set_option maxRecDepth 20000 in
theorem lk_L_13 : lkV RL 13 yX7_feed cX7_feed 2 (some .int) 1 := ⟨tb_387, tb_388, tb_389, tb_109, tb_390, ⟨by decide, by decide, by decide +kernel⟩⟩
set_option maxRecDepth 20000 in
theorem lk_L_17 : lkV RL 17 yX8_feed cX8_feed 2 (some .int) 1 := ⟨tb_1177, tb_1178, tb_1179, tb_118, tb_1180, ⟨by decide, by decide, by decide +kernel⟩⟩
set_option maxRecDepth 20000 in
theorem lk_L_18 : lkV RL 18 yX7_end cX7_end 3 (some .int) 1 := ⟨tb_395, tb_396, tb_397, tb_109, tb_398, ⟨by decide, by decide, by decide +kernel⟩⟩
set_option maxRecDepth 20000 in
theorem lk_L_21 : lkV RL 21 yX8_end cX8_end 3 (some .int) 1 := ⟨tb_1185, tb_1186, tb_1187, tb_118, tb_1188, ⟨by decide, by decide, by decide +kernel⟩⟩
set_option maxRecDepth 20000 in
theorem lk_L_22 : lkV RL 22 yX7_text cX7_text 2 (some .int) 0 := ⟨tb_399, tb_400, tb_401, tb_109, tb_402, ⟨by decide, by decide, by decide +kernel⟩⟩
set_option maxRecDepth 20000 in
theorem lk_L_26 : lkV RL 26 yX8_text cX8_text 3 (some .int) 0 := ⟨tb_1189, tb_1190, tb_1191, tb_118, tb_1192, ⟨by decide, by decide, by decide +kernel⟩⟩
set_option maxRecDepth 20000 in
theorem lk_L_27 : lkV RL 27 yX7_fault cX7_fault 1 (some .int) 0 := ⟨tb_587, tb_588, tb_589, tb_109, tb_590, ⟨by decide, by decide, by decide +kernel⟩⟩
set_option maxRecDepth 20000 in
theorem lk_L_30 : lkV RL 30 yX8_fault cX8_fault 1 (some .int) 0 := ⟨tb_1238, tb_1239, tb_1240, tb_118, tb_1241, ⟨by decide, by decide, by decide +kernel⟩⟩
set_option maxRecDepth 20000 in
theorem lk_L_31 : lkV RL 31 yX7_rule cX7_rule 2 (some .int) 1 := ⟨tb_591, tb_592, tb_593, tb_109, tb_594, ⟨by decide, by decide, by decide +kernel⟩⟩
set_option maxRecDepth 20000 in
theorem lk_L_34 : lkV RL 34 yX8_rule cX8_rule 2 (some .int) 1 := ⟨tb_1242, tb_1243, tb_1244, tb_118, tb_1245, ⟨by decide, by decide, by decide +kernel⟩⟩
set_option maxRecDepth 20000 in
theorem lk_L_35 : lkV RL 35 yX7_arm cX7_arm 3 (some .int) 2 := ⟨tb_596, tb_597, tb_598, tb_109, tb_599, ⟨by decide, by decide, by decide +kernel⟩⟩
set_option maxRecDepth 20000 in
theorem lk_L_39 : lkV RL 39 yX8_arm cX8_arm 3 (some .int) 2 := ⟨tb_1258, tb_1259, tb_1260, tb_118, tb_1261, ⟨by decide, by decide, by decide +kernel⟩⟩
set_option maxRecDepth 20000 in
theorem lk_L_40 : lkV RL 40 yX7_mark cX7_mark 3 (some .int) 2 := ⟨tb_612, tb_613, tb_614, tb_109, tb_615, ⟨by decide, by decide, by decide +kernel⟩⟩
set_option maxRecDepth 20000 in
theorem lk_L_43 : lkV RL 43 yX8_mark cX8_mark 3 (some .int) 2 := ⟨tb_1270, tb_1271, tb_1272, tb_118, tb_1273, ⟨by decide, by decide, by decide +kernel⟩⟩
set_option maxRecDepth 20000 in
theorem lk_L_44 : lkV RL 44 yX7_town cX7_town 3 (some .int) 2 := ⟨tb_623, tb_624, tb_625, tb_109, tb_626, ⟨by decide, by decide, by decide +kernel⟩⟩
set_option maxRecDepth 20000 in
theorem lk_L_47 : lkV RL 47 yX8_town cX8_town 3 (some .int) 2 := ⟨tb_1274, tb_1275, tb_1276, tb_118, tb_1277, ⟨by decide, by decide, by decide +kernel⟩⟩
set_option maxRecDepth 20000 in
theorem lk_L_48 : lkV RL 48 yX7_set cX7_set 5 (some .int) 2 := ⟨tb_631, tb_632, tb_633, tb_109, tb_634, ⟨by decide, by decide, by decide +kernel⟩⟩
set_option maxRecDepth 20000 in
theorem lk_L_51 : lkV RL 51 yX8_set cX8_set 3 (some .int) 2 := ⟨tb_1278, tb_1279, tb_1280, tb_118, tb_1281, ⟨by decide, by decide, by decide +kernel⟩⟩
set_option maxRecDepth 20000 in
theorem lk_L_52 : lkV RL 52 yX7_net cX7_net 4 (some .int) 2 := ⟨tb_641, tb_642, tb_643, tb_109, tb_644, ⟨by decide, by decide, by decide +kernel⟩⟩
set_option maxRecDepth 20000 in
theorem lk_L_55 : lkV RL 55 yX8_net cX8_net 3 (some .int) 2 := ⟨tb_1287, tb_1288, tb_1289, tb_118, tb_1290, ⟨by decide, by decide, by decide +kernel⟩⟩
set_option maxRecDepth 20000 in
theorem lk_L_56 : lkV RL 56 yX7_signal cX7_signal 5 (some .int) 2 := ⟨tb_645, tb_646, tb_647, tb_109, tb_648, ⟨by decide, by decide, by decide +kernel⟩⟩
set_option maxRecDepth 20000 in
theorem lk_L_60 : lkV RL 60 yX8_signal cX8_signal 4 (some .int) 2 := ⟨tb_1292, tb_1293, tb_1294, tb_118, tb_1295, ⟨by decide, by decide, by decide +kernel⟩⟩
set_option maxRecDepth 20000 in
theorem lk_L_61 : lkV RL 61 yX7_bridge cX7_bridge 3 (some .int) 1 := ⟨tb_653, tb_654, tb_655, tb_109, tb_656, ⟨by decide, by decide, by decide +kernel⟩⟩
set_option maxRecDepth 20000 in
theorem lk_L_64 : lkV RL 64 yX8_bridge cX8_bridge 2 (some .int) 1 := ⟨tb_1300, tb_1301, tb_1302, tb_118, tb_1303, ⟨by decide, by decide, by decide +kernel⟩⟩
set_option maxRecDepth 20000 in
theorem lk_L_65 : lkV RL 65 yX7_clear cX7_clear 4 (some .int) 2 := ⟨tb_657, tb_658, tb_659, tb_109, tb_660, ⟨by decide, by decide, by decide +kernel⟩⟩
set_option maxRecDepth 20000 in
theorem lk_L_68 : lkV RL 68 yX8_clear cX8_clear 3 (some .int) 2 := ⟨tb_1304, tb_1305, tb_1306, tb_118, tb_1307, ⟨by decide, by decide, by decide +kernel⟩⟩
set_option maxRecDepth 20000 in
theorem lk_L_69 : lkV RL 69 yX7_hang cX7_hang 4 (some .int) 2 := ⟨tb_662, tb_663, tb_664, tb_109, tb_665, ⟨by decide, by decide, by decide +kernel⟩⟩
set_option maxRecDepth 20000 in
theorem lk_L_72 : lkV RL 72 yX8_hang cX8_hang 3 (some .int) 2 := ⟨tb_1308, tb_1309, tb_1310, tb_118, tb_1311, ⟨by decide, by decide, by decide +kernel⟩⟩
set_option maxRecDepth 20000 in
theorem lk_L_73 : lkV RL 73 yX7_post cX7_post 4 (some .int) 2 := ⟨tb_666, tb_667, tb_668, tb_109, tb_669, ⟨by decide, by decide, by decide +kernel⟩⟩
set_option maxRecDepth 20000 in
theorem lk_L_76 : lkV RL 76 yX8_post cX8_post 3 (some .int) 2 := ⟨tb_1313, tb_1314, tb_1315, tb_118, tb_1316, ⟨by decide, by decide, by decide +kernel⟩⟩
set_option maxRecDepth 20000 in
theorem lk_L_77 : lkV RL 77 yX7_night cX7_night 4 (some .int) 3 := ⟨tb_674, tb_675, tb_676, tb_109, tb_677, ⟨by decide, by decide, by decide +kernel⟩⟩
set_option maxRecDepth 20000 in
theorem lk_L_81 : lkV RL 81 yX8_night cX8_night 4 (some .int) 3 := ⟨tb_1322, tb_1323, tb_1324, tb_118, tb_1325, ⟨by decide, by decide, by decide +kernel⟩⟩
set_option maxRecDepth 20000 in
theorem lk_L_82 : lkV RL 82 yX7_counts cX7_counts 6 (some .int) 3 := ⟨tb_709, tb_710, tb_711, tb_109, tb_712, ⟨by decide, by decide, by decide +kernel⟩⟩
set_option maxRecDepth 20000 in
theorem lk_L_85 : lkV RL 85 yX8_counts cX8_counts 4 (some .int) 3 := ⟨tb_1343, tb_1344, tb_1345, tb_118, tb_1346, ⟨by decide, by decide, by decide +kernel⟩⟩
set_option maxRecDepth 20000 in
theorem lk_L_86 : lkV RL 86 yX7_where cX7_where 4 (some .long) 3 := ⟨tb_714, tb_715, tb_716, tb_109, tb_717, ⟨by decide, by decide, by decide +kernel⟩⟩
set_option maxRecDepth 20000 in
theorem lk_L_90 : lkV RL 90 yX8_where cX8_where 4 (some .long) 3 := ⟨tb_1351, tb_1352, tb_1353, tb_118, tb_1354, ⟨by decide, by decide, by decide +kernel⟩⟩
set_option maxRecDepth 20000 in
theorem lk_L_91 : lkV RL 91 yX7_goes cX7_goes 3 (some .long) 2 := ⟨tb_774, tb_775, tb_776, tb_109, tb_777, ⟨by decide, by decide, by decide +kernel⟩⟩
set_option maxRecDepth 20000 in
theorem lk_L_95 : lkV RL 95 yX8_goes cX8_goes 3 (some .long) 2 := ⟨tb_1390, tb_1391, tb_1392, tb_118, tb_1393, ⟨by decide, by decide, by decide +kernel⟩⟩
set_option maxRecDepth 20000 in
theorem lk_L_96 : lkV RL 96 yX7_isOut cX7_isOut 3 (some .long) 2 := ⟨tb_799, tb_800, tb_801, tb_109, tb_802, ⟨by decide, by decide, by decide +kernel⟩⟩
set_option maxRecDepth 20000 in
theorem lk_L_99 : lkV RL 99 yX8_isOut cX8_isOut 3 (some .long) 2 := ⟨tb_1394, tb_1395, tb_1396, tb_118, tb_1397, ⟨by decide, by decide, by decide +kernel⟩⟩
set_option maxRecDepth 20000 in
theorem lk_L_100 : lkV RL 100 yX7_had cX7_had 3 (some .long) 2 := ⟨tb_803, tb_804, tb_805, tb_109, tb_806, ⟨by decide, by decide, by decide +kernel⟩⟩
set_option maxRecDepth 20000 in
theorem lk_L_103 : lkV RL 103 yX8_had cX8_had 3 (some .long) 2 := ⟨tb_1398, tb_1399, tb_1400, tb_118, tb_1401, ⟨by decide, by decide, by decide +kernel⟩⟩
set_option maxRecDepth 20000 in
theorem lk_L_104 : lkV RL 104 yX7_hits cX7_hits 2 (some .long) 1 := ⟨tb_812, tb_813, tb_814, tb_109, tb_815, ⟨by decide, by decide, by decide +kernel⟩⟩
set_option maxRecDepth 20000 in
theorem lk_L_108 : lkV RL 108 yX8_hits cX8_hits 2 (some .long) 1 := ⟨tb_1402, tb_1403, tb_1404, tb_118, tb_1405, ⟨by decide, by decide, by decide +kernel⟩⟩
set_option maxRecDepth 20000 in
theorem lk_L_109 : lkV RL 109 yX7_torn cX7_torn 2 (some .long) 1 := ⟨tb_821, tb_822, tb_823, tb_109, tb_824, ⟨by decide, by decide, by decide +kernel⟩⟩
set_option maxRecDepth 20000 in
theorem lk_L_112 : lkV RL 112 yX8_torn cX8_torn 2 (some .long) 1 := ⟨tb_1406, tb_1407, tb_1408, tb_118, tb_1409, ⟨by decide, by decide, by decide +kernel⟩⟩
set_option maxRecDepth 20000 in
theorem lk_L_113 : lkV RL 113 yX7_worth cX7_worth 2 (some .long) 1 := ⟨tb_829, tb_830, tb_831, tb_109, tb_832, ⟨by decide, by decide, by decide +kernel⟩⟩
set_option maxRecDepth 20000 in
theorem lk_L_116 : lkV RL 116 yX8_worth cX8_worth 2 (some .long) 1 := ⟨tb_1410, tb_1411, tb_1412, tb_118, tb_1413, ⟨by decide, by decide, by decide +kernel⟩⟩
set_option maxRecDepth 20000 in
theorem lk_L_117 : lkV RL 117 yX7_best cX7_best 9 (some .long) 1 := ⟨tb_837, tb_838, tb_839, tb_109, tb_840, ⟨by decide, by decide, by decide +kernel⟩⟩
set_option maxRecDepth 20000 in
theorem lk_L_120 : lkV RL 120 yX8_best cX8_best 10 (some .long) 1 := ⟨tb_1414, tb_1415, tb_1416, tb_118, tb_1417, ⟨by decide, by decide, by decide +kernel⟩⟩
set_option maxRecDepth 20000 in
theorem lk_L_121 : lkV RL 121 yX7_fog cX7_fog 4 (some .int) 2 := ⟨tb_841, tb_842, tb_843, tb_109, tb_844, ⟨by decide, by decide, by decide +kernel⟩⟩
set_option maxRecDepth 20000 in
theorem lk_L_124 : lkV RL 124 yX8_fog cX8_fog 6 (some .int) 2 := ⟨tb_1423, tb_1424, tb_1425, tb_118, tb_1426, ⟨by decide, by decide, by decide +kernel⟩⟩
set_option maxRecDepth 20000 in
theorem lk_L_125 : lkV RL 125 yX7_fast cX7_fast 4 (some .int) 2 := ⟨tb_849, tb_850, tb_851, tb_109, tb_852, ⟨by decide, by decide, by decide +kernel⟩⟩
set_option maxRecDepth 20000 in
theorem lk_L_128 : lkV RL 128 yX8_fast cX8_fast 5 (some .int) 2 := ⟨tb_1434, tb_1435, tb_1436, tb_118, tb_1437, ⟨by decide, by decide, by decide +kernel⟩⟩
set_option maxRecDepth 20000 in
theorem lk_L_129 : lkV RL 129 yX7_slack cX7_slack 4 (some .int) 2 := ⟨tb_853, tb_854, tb_855, tb_109, tb_856, ⟨by decide, by decide, by decide +kernel⟩⟩
set_option maxRecDepth 20000 in
theorem lk_L_132 : lkV RL 132 yX8_slack cX8_slack 5 (some .int) 2 := ⟨tb_1438, tb_1439, tb_1440, tb_118, tb_1441, ⟨by decide, by decide, by decide +kernel⟩⟩
set_option maxRecDepth 20000 in
theorem lk_L_133 : lkV RL 133 yX7_sort cX7_sort 8 (some .int) 2 := ⟨tb_857, tb_858, tb_859, tb_109, tb_860, ⟨by decide, by decide, by decide +kernel⟩⟩
set_option maxRecDepth 20000 in
theorem lk_L_136 : lkV RL 136 yX8_sort cX8_sort 8 (some .int) 2 := ⟨tb_1442, tb_1443, tb_1444, tb_118, tb_1445, ⟨by decide, by decide, by decide +kernel⟩⟩
set_option maxRecDepth 20000 in
theorem lk_L_137 : lkV RL 137 yX7_minutes cX7_minutes 2 (some .int) 1 := ⟨tb_869, tb_870, tb_871, tb_109, tb_872, ⟨by decide, by decide, by decide +kernel⟩⟩
set_option maxRecDepth 20000 in
theorem lk_L_140 : lkV RL 140 yX8_minutes cX8_minutes 2 (some .int) 1 := ⟨tb_1450, tb_1451, tb_1452, tb_118, tb_1453, ⟨by decide, by decide, by decide +kernel⟩⟩
set_option maxRecDepth 20000 in
theorem lk_L_141 : lkV RL 141 yX7_hands cX7_hands 4 (some .int) 1 := ⟨tb_877, tb_878, tb_879, tb_109, tb_880, ⟨by decide, by decide, by decide +kernel⟩⟩
set_option maxRecDepth 20000 in
theorem lk_L_144 : lkV RL 144 yX8_hands cX8_hands 3 (some .int) 1 := ⟨tb_1454, tb_1455, tb_1456, tb_118, tb_1457, ⟨by decide, by decide, by decide +kernel⟩⟩
set_option maxRecDepth 20000 in
theorem lk_L_145 : lkV RL 145 yX7_see cX7_see 3 (some .int) 2 := ⟨tb_881, tb_882, tb_883, tb_109, tb_884, ⟨by decide, by decide, by decide +kernel⟩⟩
set_option maxRecDepth 20000 in
theorem lk_L_148 : lkV RL 148 yX8_see cX8_see 3 (some .int) 2 := ⟨tb_1458, tb_1459, tb_1460, tb_118, tb_1461, ⟨by decide, by decide, by decide +kernel⟩⟩
set_option maxRecDepth 20000 in
theorem lk_L_149 : lkV RL 149 yX7_forget cX7_forget 3 (some .int) 1 := ⟨tb_890, tb_891, tb_892, tb_109, tb_893, ⟨by decide, by decide, by decide +kernel⟩⟩
set_option maxRecDepth 20000 in
theorem lk_L_152 : lkV RL 152 yX8_forget cX8_forget 3 (some .int) 1 := ⟨tb_1462, tb_1463, tb_1464, tb_118, tb_1465, ⟨by decide, by decide, by decide +kernel⟩⟩
set_option maxRecDepth 20000 in
theorem lk_L_153 : lkV RL 153 yX7_fits cX7_fits 4 (some .int) 1 := ⟨tb_894, tb_895, tb_896, tb_109, tb_897, ⟨by decide, by decide, by decide +kernel⟩⟩
set_option maxRecDepth 20000 in
theorem lk_L_156 : lkV RL 156 yX8_fits cX8_fits 9 (some .int) 1 := ⟨tb_1466, tb_1467, tb_1468, tb_118, tb_1469, ⟨by decide, by decide, by decide +kernel⟩⟩
set_option maxRecDepth 20000 in
theorem lk_L_157 : lkV RL 157 yX7_likely cX7_likely 2 (some .long) 1 := ⟨tb_930, tb_931, tb_932, tb_109, tb_933, ⟨by decide, by decide, by decide +kernel⟩⟩
set_option maxRecDepth 20000 in
theorem lk_L_160 : lkV RL 160 yX8_likely cX8_likely 2 (some .long) 1 := ⟨tb_1470, tb_1471, tb_1472, tb_118, tb_1473, ⟨by decide, by decide, by decide +kernel⟩⟩
set_option maxRecDepth 20000 in
theorem lk_L_161 : lkV RL 161 yX7_drift cX7_drift 7 (some .int) 2 := ⟨tb_934, tb_935, tb_936, tb_109, tb_937, ⟨by decide, by decide, by decide +kernel⟩⟩
set_option maxRecDepth 20000 in
theorem lk_L_164 : lkV RL 164 yX8_drift cX8_drift 7 (some .int) 2 := ⟨tb_1474, tb_1475, tb_1476, tb_118, tb_1477, ⟨by decide, by decide, by decide +kernel⟩⟩
set_option maxRecDepth 20000 in
theorem lk_L_165 : lkV RL 165 yX7_keep cX7_keep 3 (some .int) 1 := ⟨tb_945, tb_946, tb_947, tb_109, tb_948, ⟨by decide, by decide, by decide +kernel⟩⟩
set_option maxRecDepth 20000 in
theorem lk_L_168 : lkV RL 168 yX8_keep cX8_keep 3 (some .int) 1 := ⟨tb_1479, tb_1480, tb_1481, tb_118, tb_1482, ⟨by decide, by decide, by decide +kernel⟩⟩
set_option maxRecDepth 20000 in
theorem lk_L_169 : lkV RL 169 yX7_back cX7_back 2 (some .int) 1 := ⟨tb_956, tb_957, tb_958, tb_109, tb_959, ⟨by decide, by decide, by decide +kernel⟩⟩
set_option maxRecDepth 20000 in
theorem lk_L_172 : lkV RL 172 yX8_back cX8_back 2 (some .int) 1 := ⟨tb_1483, tb_1484, tb_1485, tb_118, tb_1486, ⟨by decide, by decide, by decide +kernel⟩⟩
set_option maxRecDepth 20000 in
theorem lk_L_173 : lkV RL 173 yX7_sheet cX7_sheet 4 (some .int) 3 := ⟨tb_960, tb_961, tb_962, tb_109, tb_963, ⟨by decide, by decide, by decide +kernel⟩⟩
set_option maxRecDepth 20000 in
theorem lk_L_176 : lkV RL 176 yX8_sheet cX8_sheet 5 (some .int) 3 := ⟨tb_1487, tb_1488, tb_1489, tb_118, tb_1490, ⟨by decide, by decide, by decide +kernel⟩⟩
set_option maxRecDepth 20000 in
theorem lk_L_177 : lkV RL 177 yX7_lay cX7_lay 5 (some .int) 3 := ⟨tb_975, tb_976, tb_977, tb_109, tb_978, ⟨by decide, by decide, by decide +kernel⟩⟩
set_option maxRecDepth 20000 in
theorem lk_L_180 : lkV RL 180 yX8_lay cX8_lay 4 (some .int) 3 := ⟨tb_1492, tb_1493, tb_1494, tb_118, tb_1495, ⟨by decide, by decide, by decide +kernel⟩⟩
set_option maxRecDepth 20000 in
theorem lk_L_181 : lkV RL 181 yX7_read cX7_read 10 (some .int) 4 := ⟨tb_988, tb_989, tb_990, tb_109, tb_991, ⟨by decide, by decide, by decide +kernel⟩⟩
set_option maxRecDepth 20000 in
theorem lk_L_185 : lkV RL 185 yX8_read cX8_read 9 (some .int) 4 := ⟨tb_1496, tb_1497, tb_1498, tb_118, tb_1499, ⟨by decide, by decide, by decide +kernel⟩⟩
set_option maxRecDepth 20000 in
theorem lk_L_186 : lkV RL 186 yX7_split cX7_split 1 (some .int) 0 := ⟨tb_1006, tb_1007, tb_1008, tb_109, tb_1009, ⟨by decide, by decide, by decide +kernel⟩⟩
set_option maxRecDepth 20000 in
theorem lk_L_189 : lkV RL 189 yX8_split cX8_split 1 (some .int) 0 := ⟨tb_1501, tb_1502, tb_1503, tb_118, tb_1504, ⟨by decide, by decide, by decide +kernel⟩⟩
set_option maxRecDepth 20000 in
theorem lk_L_190 : lkV RL 190 yX7_count cX7_count 2 (some .int) 1 := ⟨tb_1010, tb_1011, tb_1012, tb_109, tb_1013, ⟨by decide, by decide, by decide +kernel⟩⟩
set_option maxRecDepth 20000 in
theorem lk_L_193 : lkV RL 193 yX8_count cX8_count 4 (some .int) 1 := ⟨tb_1505, tb_1506, tb_1507, tb_118, tb_1508, ⟨by decide, by decide, by decide +kernel⟩⟩
