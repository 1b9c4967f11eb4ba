theorem q_21 : Cond.selects RX8 yX8_here yX8_here ∈ lw_gd := mem_gd (List.mem_of_getElem? (i := 21) (by decide +kernel)) rfl
theorem q_22 : Cond.selects RX8 yX8_takeClause yX8_takeClause ∈ lw_gd := mem_gd (List.mem_of_getElem? (i := 22) (by decide +kernel)) rfl
theorem q_23 : Cond.selects RX8 yX8_readWord yX8_readWord ∈ lw_gd := mem_gd (List.mem_of_getElem? (i := 23) (by decide +kernel)) rfl
theorem q_24 : Cond.selects RX8 yX8_fails yX8_fails ∈ lw_gd := mem_gd (List.mem_of_getElem? (i := 24) (by decide +kernel)) rfl
theorem q_25 : Cond.selects RX8 yX8_takeYear yX8_takeYear ∈ lw_gd := mem_gd (List.mem_of_getElem? (i := 25) (by decide +kernel)) rfl
theorem q_26 : Cond.selects RX8 yX8_takeNumber yX8_takeNumber ∈ lw_gd := mem_gd (List.mem_of_getElem? (i := 26) (by decide +kernel)) rfl
theorem q_27 : Cond.selects RX8 yX8_takeBell yX8_takeBell ∈ lw_gd := mem_gd (List.mem_of_getElem? (i := 27) (by decide +kernel)) rfl
theorem q_28 : Cond.selects RX8 yX8_into yX8_into ∈ lw_gd := mem_gd (List.mem_of_getElem? (i := 28) (by decide +kernel)) rfl
theorem q_29 : Cond.selects RX8 yX8_takeSpot yX8_takeSpot ∈ lw_gd := mem_gd (List.mem_of_getElem? (i := 29) (by decide +kernel)) rfl
theorem q_30 : Cond.selects RX8 yX8_takeBeggar yX8_takeBeggar ∈ lw_gd := mem_gd (List.mem_of_getElem? (i := 30) (by decide +kernel)) rfl
theorem q_31 : Cond.selects RX8 yX8_takeHat yX8_takeHat ∈ lw_gd := mem_gd (List.mem_of_getElem? (i := 31) (by decide +kernel)) rfl
theorem q_32 : Cond.selects RX8 yX8_isBell yX8_isBell ∈ lw_gd := mem_gd (List.mem_of_getElem? (i := 32) (by decide +kernel)) rfl
theorem q_33 : Cond.selects RX8 yX8_longOn yX8_longOn ∈ lw_gd := mem_gd (List.mem_of_getElem? (i := 33) (by decide +kernel)) rfl
theorem q_34 : Cond.selects RX8 yX8_isSpot yX8_isSpot ∈ lw_gd := mem_gd (List.mem_of_getElem? (i := 34) (by decide +kernel)) rfl
theorem q_35 : Cond.selects RX8 yX8_whoIsOn yX8_whoIsOn ∈ lw_gd := mem_gd (List.mem_of_getElem? (i := 35) (by decide +kernel)) rfl
theorem q_36 : Cond.selects RX8 yX8_isBeggar yX8_isBeggar ∈ lw_gd := mem_gd (List.mem_of_getElem? (i := 36) (by decide +kernel)) rfl
theorem q_37 : Cond.selects RX8 yX8_tallOf yX8_tallOf ∈ lw_gd := mem_gd (List.mem_of_getElem? (i := 37) (by decide +kernel)) rfl
theorem q_38 : Cond.selects RX8 yX8_isHat yX8_isHat ∈ lw_gd := mem_gd (List.mem_of_getElem? (i := 38) (by decide +kernel)) rfl
theorem q_39 : Cond.selects RX8 yX8_onWhom yX8_onWhom ∈ lw_gd := mem_gd (List.mem_of_getElem? (i := 39) (by decide +kernel)) rfl
theorem q_40 : Cond.selects RX8 yX8_longNow yX8_longNow ∈ lw_gd := mem_gd (List.mem_of_getElem? (i := 40) (by decide +kernel)) rfl
theorem q_41 : Cond.selects RX8 yX8_findAlms yX8_findAlms ∈ lw_gd := mem_gd (List.mem_of_getElem? (i := 41) (by decide +kernel)) rfl
theorem q_42 : Cond.selects RX8 yX8_shadowOf yX8_shadowOf ∈ lw_gd := mem_gd (List.mem_of_getElem? (i := 42) (by decide +kernel)) rfl
theorem q_43 : Cond.selects RX8 yX8_lengthBy yX8_lengthBy ∈ lw_gd := mem_gd (List.mem_of_getElem? (i := 43) (by decide +kernel)) rfl
theorem q_44 : Cond.selects RX8 yX8_almsOf yX8_almsOf ∈ lw_gd := mem_gd (List.mem_of_getElem? (i := 44) (by decide +kernel)) rfl
theorem q_45 : Cond.selects RX8 yX8_costOf yX8_costOf ∈ lw_gd := mem_gd (List.mem_of_getElem? (i := 45) (by decide +kernel)) rfl
theorem q_46 : Cond.selects RX8 yX8_ringNow yX8_ringNow ∈ lw_gd := mem_gd (List.mem_of_getElem? (i := 46) (by decide +kernel)) rfl
theorem q_47 : Cond.selects RX8 yX8_dayNow yX8_dayNow ∈ lw_gd := mem_gd (List.mem_of_getElem? (i := 47) (by decide +kernel)) rfl
theorem q_48 : Cond.selects RX8 yX8_draw yX8_draw ∈ lw_gd := mem_gd (List.mem_of_getElem? (i := 48) (by decide +kernel)) rfl
theorem q_49 : Cond.selects RX8 yX8_saveAll yX8_saveAll ∈ lw_gd := mem_gd (List.mem_of_getElem? (i := 49) (by decide +kernel)) rfl
theorem q_50 : Cond.selects RX8 yX8_findStanding yX8_findStanding ∈ lw_gd := mem_gd (List.mem_of_getElem? (i := 50) (by decide +kernel)) rfl
theorem q_51 : Cond.selects RX8 yX8_standBy yX8_standBy ∈ lw_gd := mem_gd (List.mem_of_getElem? (i := 51) (by decide +kernel)) rfl
theorem q_52 : Cond.selects RX8 yX8_almsOfAll yX8_almsOfAll ∈ lw_gd := mem_gd (List.mem_of_getElem? (i := 52) (by decide +kernel)) rfl
theorem q_53 : Cond.selects RX8 yX8_putBack yX8_putBack ∈ lw_gd := mem_gd (List.mem_of_getElem? (i := 53) (by decide +kernel)) rfl
theorem q_54 : Cond.selects RX8 yX8_lendBy yX8_lendBy ∈ lw_gd := mem_gd (List.mem_of_getElem? (i := 54) (by decide +kernel)) rfl
theorem q_55 : Cond.selects RX8 yX8_lacksFor yX8_lacksFor ∈ lw_gd := mem_gd (List.mem_of_getElem? (i := 55) (by decide +kernel)) rfl
theorem q_56 : Cond.selects RX8 yX8_isAsTold yX8_isAsTold ∈ lw_gd := mem_gd (List.mem_of_getElem? (i := 56) (by decide +kernel)) rfl
theorem q_67 : Cond.initialized "ShadowAlmsModel" ∈ lw_gd := mem_gd (List.mem_of_getElem? (i := 67) (by decide +kernel)) rfl
theorem q_754 : Cond.fieldLink RX8 7 "ShadowAlmsModel" "year" "I" ∈ lw_gd := mem_gd (List.mem_of_getElem? (i := 754) (by decide +kernel)) rfl
theorem q_755 : Cond.fieldLink RX8 120 "ShadowAlmsModel" "bells" "I" ∈ lw_gd := mem_gd (List.mem_of_getElem? (i := 755) (by decide +kernel)) rfl
theorem q_756 : Cond.fieldLink RX8 13 "ShadowAlmsModel" "longAt" "[I" ∈ lw_gd := mem_gd (List.mem_of_getElem? (i := 756) (by decide +kernel)) rfl
theorem q_757 : Cond.fieldLink RX8 17 "ShadowAlmsModel" "longer" "[I" ∈ lw_gd := mem_gd (List.mem_of_getElem? (i := 757) (by decide +kernel)) rfl
theorem q_758 : Cond.fieldLink RX8 117 "ShadowAlmsModel" "spots" "I" ∈ lw_gd := mem_gd (List.mem_of_getElem? (i := 758) (by decide +kernel)) rfl
theorem q_759 : Cond.fieldLink RX8 20 "ShadowAlmsModel" "steps" "[I" ∈ lw_gd := mem_gd (List.mem_of_getElem? (i := 759) (by decide +kernel)) rfl
theorem q_760 : Cond.fieldLink RX8 23 "ShadowAlmsModel" "mud" "[I" ∈ lw_gd := mem_gd (List.mem_of_getElem? (i := 760) (by decide +kernel)) rfl
theorem q_761 : Cond.fieldLink RX8 26 "ShadowAlmsModel" "wall" "[I" ∈ lw_gd := mem_gd (List.mem_of_getElem? (i := 761) (by decide +kernel)) rfl
theorem q_762 : Cond.fieldLink RX8 127 "ShadowAlmsModel" "beggars" "I" ∈ lw_gd := mem_gd (List.mem_of_getElem? (i := 762) (by decide +kernel)) rfl
theorem q_763 : Cond.fieldLink RX8 29 "ShadowAlmsModel" "tall" "[I" ∈ lw_gd := mem_gd (List.mem_of_getElem? (i := 763) (by decide +kernel)) rfl
theorem q_764 : Cond.fieldLink RX8 130 "ShadowAlmsModel" "hats" "I" ∈ lw_gd := mem_gd (List.mem_of_getElem? (i := 764) (by decide +kernel)) rfl
theorem q_765 : Cond.fieldLink RX8 32 "ShadowAlmsModel" "high" "[I" ∈ lw_gd := mem_gd (List.mem_of_getElem? (i := 765) (by decide +kernel)) rfl
theorem q_766 : Cond.fieldLink RX8 35 "ShadowAlmsModel" "cost" "[I" ∈ lw_gd := mem_gd (List.mem_of_getElem? (i := 766) (by decide +kernel)) rfl
theorem q_767 : Cond.fieldLink RX8 236 "ShadowAlmsModel" "today" "I" ∈ lw_gd := mem_gd (List.mem_of_getElem? (i := 767) (by decide +kernel)) rfl
theorem q_768 : Cond.fieldLink RX8 38 "ShadowAlmsModel" "spotOf" "[I" ∈ lw_gd := mem_gd (List.mem_of_getElem? (i := 768) (by decide +kernel)) rfl
theorem q_769 : Cond.fieldLink RX8 41 "ShadowAlmsModel" "hatOf" "[I" ∈ lw_gd := mem_gd (List.mem_of_getElem? (i := 769) (by decide +kernel)) rfl
theorem q_770 : Cond.fieldLink RX8 44 "ShadowAlmsModel" "purse" "[I" ∈ lw_gd := mem_gd (List.mem_of_getElem? (i := 770) (by decide +kernel)) rfl
theorem q_771 : Cond.fieldLink RX8 239 "ShadowAlmsModel" "given" "I" ∈ lw_gd := mem_gd (List.mem_of_getElem? (i := 771) (by decide +kernel)) rfl
theorem q_772 : Cond.fieldLink RX8 248 "ShadowAlmsModel" "law" "I" ∈ lw_gd := mem_gd (List.mem_of_getElem? (i := 772) (by decide +kernel)) rfl
theorem q_773 : Cond.fieldLink RX8 312 "ShadowAlmsModel" "seed" "I" ∈ lw_gd := mem_gd (List.mem_of_getElem? (i := 773) (by decide +kernel)) rfl
theorem q_774 : Cond.fieldLink RX8 47 "ShadowAlmsModel" "text" "[I" ∈ lw_gd := mem_gd (List.mem_of_getElem? (i := 774) (by decide +kernel)) rfl
theorem q_775 : Cond.fieldLink RX8 136 "ShadowAlmsModel" "texted" "I" ∈ lw_gd := mem_gd (List.mem_of_getElem? (i := 775) (by decide +kernel)) rfl
theorem q_776 : Cond.fieldLink RX8 50 "ShadowAlmsModel" "faultPlace" "I" ∈ lw_gd := mem_gd (List.mem_of_getElem? (i := 776) (by decide +kernel)) rfl
theorem q_777 : Cond.fieldLink RX8 142 "ShadowAlmsModel" "at0" "I" ∈ lw_gd := mem_gd (List.mem_of_getElem? (i := 777) (by decide +kernel)) rfl
theorem q_778 : Cond.fieldLink RX8 149 "ShadowAlmsModel" "said" "J" ∈ lw_gd := mem_gd (List.mem_of_getElem? (i := 778) (by decide +kernel)) rfl
theorem q_779 : Cond.fieldLink RX8 153 "ShadowAlmsModel" "wordEnd" "I" ∈ lw_gd := mem_gd (List.mem_of_getElem? (i := 779) (by decide +kernel)) rfl
theorem q_780 : Cond.fieldLink RX8 179 "ShadowAlmsModel" "number" "I" ∈ lw_gd := mem_gd (List.mem_of_getElem? (i := 780) (by decide +kernel)) rfl
theorem q_781 : Cond.fieldLink RX8 176 "ShadowAlmsModel" "numberAt" "I" ∈ lw_gd := mem_gd (List.mem_of_getElem? (i := 781) (by decide +kernel)) rfl
theorem q_782 : Cond.fieldLink RX8 201 "ShadowAlmsModel" "readYear" "I" ∈ lw_gd := mem_gd (List.mem_of_getElem? (i := 782) (by decide +kernel)) rfl
theorem q_783 : Cond.fieldLink RX8 215 "ShadowAlmsModel" "readClauses" "I" ∈ lw_gd := mem_gd (List.mem_of_getElem? (i := 783) (by decide +kernel)) rfl
theorem q_784 : Cond.fieldLink RX8 185 "ShadowAlmsModel" "readBells" "I" ∈ lw_gd := mem_gd (List.mem_of_getElem? (i := 784) (by decide +kernel)) rfl
theorem q_785 : Cond.fieldLink RX8 53 "ShadowAlmsModel" "readLong" "[I" ∈ lw_gd := mem_gd (List.mem_of_getElem? (i := 785) (by decide +kernel)) rfl
theorem q_786 : Cond.fieldLink RX8 56 "ShadowAlmsModel" "readLonger" "[I" ∈ lw_gd := mem_gd (List.mem_of_getElem? (i := 786) (by decide +kernel)) rfl
theorem q_787 : Cond.fieldLink RX8 192 "ShadowAlmsModel" "readSpots" "I" ∈ lw_gd := mem_gd (List.mem_of_getElem? (i := 787) (by decide +kernel)) rfl
theorem q_788 : Cond.fieldLink RX8 59 "ShadowAlmsModel" "readSteps" "[I" ∈ lw_gd := mem_gd (List.mem_of_getElem? (i := 788) (by decide +kernel)) rfl
theorem q_789 : Cond.fieldLink RX8 62 "ShadowAlmsModel" "readMud" "[I" ∈ lw_gd := mem_gd (List.mem_of_getElem? (i := 789) (by decide +kernel)) rfl
theorem q_790 : Cond.fieldLink RX8 65 "ShadowAlmsModel" "readWall" "[I" ∈ lw_gd := mem_gd (List.mem_of_getElem? (i := 790) (by decide +kernel)) rfl
theorem q_791 : Cond.fieldLink RX8 195 "ShadowAlmsModel" "readBeggars" "I" ∈ lw_gd := mem_gd (List.mem_of_getElem? (i := 791) (by decide +kernel)) rfl
theorem q_792 : Cond.fieldLink RX8 68 "ShadowAlmsModel" "readTall" "[I" ∈ lw_gd := mem_gd (List.mem_of_getElem? (i := 792) (by decide +kernel)) rfl
theorem q_793 : Cond.fieldLink RX8 198 "ShadowAlmsModel" "readHats" "I" ∈ lw_gd := mem_gd (List.mem_of_getElem? (i := 793) (by decide +kernel)) rfl
theorem q_794 : Cond.fieldLink RX8 71 "ShadowAlmsModel" "readHigh" "[I" ∈ lw_gd := mem_gd (List.mem_of_getElem? (i := 794) (by decide +kernel)) rfl
theorem q_795 : Cond.fieldLink RX8 74 "ShadowAlmsModel" "readCost" "[I" ∈ lw_gd := mem_gd (List.mem_of_getElem? (i := 795) (by decide +kernel)) rfl
theorem q_796 : Cond.fieldLink RX8 77 "ShadowAlmsModel" "shade" "[I" ∈ lw_gd := mem_gd (List.mem_of_getElem? (i := 796) (by decide +kernel)) rfl
theorem q_797 : Cond.fieldLink RX8 80 "ShadowAlmsModel" "alms" "[I" ∈ lw_gd := mem_gd (List.mem_of_getElem? (i := 797) (by decide +kernel)) rfl
theorem q_798 : Cond.fieldLink RX8 83 "ShadowAlmsModel" "wasSpot" "[I" ∈ lw_gd := mem_gd (List.mem_of_getElem? (i := 798) (by decide +kernel)) rfl
theorem q_799 : Cond.fieldLink RX8 86 "ShadowAlmsModel" "wasHat" "[I" ∈ lw_gd := mem_gd (List.mem_of_getElem? (i := 799) (by decide +kernel)) rfl
theorem q_800 : Cond.fieldLink RX8 89 "ShadowAlmsModel" "bestRow" "[I" ∈ lw_gd := mem_gd (List.mem_of_getElem? (i := 800) (by decide +kernel)) rfl
theorem q_801 : Cond.fieldLink RX8 329 "ShadowAlmsModel" "bestSum" "I" ∈ lw_gd := mem_gd (List.mem_of_getElem? (i := 801) (by decide +kernel)) rfl
theorem q_802 : Cond.fieldLink RX8 242 "ShadowAlmsModel" "tolds" "I" ∈ lw_gd := mem_gd (List.mem_of_getElem? (i := 802) (by decide +kernel)) rfl
theorem q_803 : Cond.fieldLink RX8 92 "ShadowAlmsModel" "toldLong" "[I" ∈ lw_gd := mem_gd (List.mem_of_getElem? (i := 803) (by decide +kernel)) rfl
theorem q_804 : Cond.fieldLink RX8 95 "ShadowAlmsModel" "toldSpot" "[I" ∈ lw_gd := mem_gd (List.mem_of_getElem? (i := 804) (by decide +kernel)) rfl
theorem q_805 : Cond.fieldLink RX8 98 "ShadowAlmsModel" "toldInches" "[I" ∈ lw_gd := mem_gd (List.mem_of_getElem? (i := 805) (by decide +kernel)) rfl
theorem q_806 : Cond.fieldLink RX8 245 "ShadowAlmsModel" "booked" "I" ∈ lw_gd := mem_gd (List.mem_of_getElem? (i := 806) (by decide +kernel)) rfl
theorem q_807 : Cond.fieldLink RX8 101 "ShadowAlmsModel" "bookBell" "[I" ∈ lw_gd := mem_gd (List.mem_of_getElem? (i := 807) (by decide +kernel)) rfl
theorem q_808 : Cond.fieldLink RX8 104 "ShadowAlmsModel" "bookWho" "[I" ∈ lw_gd := mem_gd (List.mem_of_getElem? (i := 808) (by decide +kernel)) rfl
theorem q_809 : Cond.fieldLink RX8 107 "ShadowAlmsModel" "bookAlms" "[I" ∈ lw_gd := mem_gd (List.mem_of_getElem? (i := 809) (by decide +kernel)) rfl
theorem q_810 : Cond.fieldLink RX8 110 "ShadowAlmsModel" "images" "[I" ∈ lw_gd := mem_gd (List.mem_of_getElem? (i := 810) (by decide +kernel)) rfl
theorem q_811 : Cond.fieldLink RX8 113 "ShadowAlmsModel" "isKept" "[Z" ∈ lw_gd := mem_gd (List.mem_of_getElem? (i := 811) (by decide +kernel)) rfl
theorem q_930 : Cond.instanceMethod yX8_feed ∈ lw_gd := mem_gd (List.mem_of_getElem? (i := 930) (by decide +kernel)) rfl
theorem q_931 : Cond.selects RX8 yX8_feed yX8_feed ∈ lw_gd := mem_gd (List.mem_of_getElem? (i := 931) (by decide +kernel)) rfl
theorem q_932 : Cond.code yX8_feed cX8_feed 5 (some .int) ∈ lw_gd := mem_gd (List.mem_of_getElem? (i := 932) (by decide +kernel)) rfl
theorem q_933 : Cond.constantLong RX8 133 (8) ∈ lw_gd := mem_gd (List.mem_of_getElem? (i := 933) (by decide +kernel)) rfl
theorem q_934 : Cond.methodLink RX8 123 yX8_in ∈ lw_gd := mem_gd (List.mem_of_getElem? (i := 934) (by decide +kernel)) rfl
theorem q_935 : Cond.static yX8_in ∈ lw_gd := mem_gd (List.mem_of_getElem? (i := 935) (by decide +kernel)) rfl
theorem q_936 : Cond.code yX8_in cX8_in 6 (some .boolean) ∈ lw_gd := mem_gd (List.mem_of_getElem? (i := 936) (by decide +kernel)) rfl
theorem q_937 : Cond.constant RX8 135 (-1000000002) ∈ lw_gd := mem_gd (List.mem_of_getElem? (i := 937) (by decide +kernel)) rfl
theorem q_938 : Cond.constant RX8 139 (-1000000004) ∈ lw_gd := mem_gd (List.mem_of_getElem? (i := 938) (by decide +kernel)) rfl
theorem q_939 : Cond.constantLong RX8 140 (255) ∈ lw_gd := mem_gd (List.mem_of_getElem? (i := 939) (by decide +kernel)) rfl
theorem q_941 : Cond.instanceMethod yX8_square ∈ lw_gd := mem_gd (List.mem_of_getElem? (i := 941) (by decide +kernel)) rfl
theorem q_942 : Cond.selects RX8 yX8_square yX8_square ∈ lw_gd := mem_gd (List.mem_of_getElem? (i := 942) (by decide +kernel)) rfl
theorem q_943 : Cond.code yX8_square cX8_square 3 (some .int) ∈ lw_gd := mem_gd (List.mem_of_getElem? (i := 943) (by decide +kernel)) rfl
theorem q_944 : Cond.methodLink RX8 145 yX8_here ∈ lw_gd := mem_gd (List.mem_of_getElem? (i := 944) (by decide +kernel)) rfl
theorem q_946 : Cond.instanceMethod yX8_here ∈ lw_gd := mem_gd (List.mem_of_getElem? (i := 946) (by decide +kernel)) rfl
theorem q_947 : Cond.code yX8_here cX8_here 1 (some .int) ∈ lw_gd := mem_gd (List.mem_of_getElem? (i := 947) (by decide +kernel)) rfl
theorem q_948 : Cond.methodLink RX8 233 yX8_takeClause ∈ lw_gd := mem_gd (List.mem_of_getElem? (i := 948) (by decide +kernel)) rfl
theorem q_950 : Cond.instanceMethod yX8_takeClause ∈ lw_gd := mem_gd (List.mem_of_getElem? (i := 950) (by decide +kernel)) rfl
theorem q_951 : Cond.code yX8_takeClause cX8_takeClause 5 (some .int) ∈ lw_gd := mem_gd (List.mem_of_getElem? (i := 951) (by decide +kernel)) rfl
theorem q_952 : Cond.methodLink RX8 204 yX8_readWord ∈ lw_gd := mem_gd (List.mem_of_getElem? (i := 952) (by decide +kernel)) rfl
theorem q_954 : Cond.instanceMethod yX8_readWord ∈ lw_gd := mem_gd (List.mem_of_getElem? (i := 954) (by decide +kernel)) rfl
theorem q_955 : Cond.code yX8_readWord cX8_readWord 2 none ∈ lw_gd := mem_gd (List.mem_of_getElem? (i := 955) (by decide +kernel)) rfl
theorem q_956 : Cond.constantLong RX8 156 (97) ∈ lw_gd := mem_gd (List.mem_of_getElem? (i := 956) (by decide +kernel)) rfl
theorem q_957 : Cond.constantLong RX8 158 (122) ∈ lw_gd := mem_gd (List.mem_of_getElem? (i := 957) (by decide +kernel)) rfl
theorem q_958 : Cond.constantLong RX8 160 (100000000000000) ∈ lw_gd := mem_gd (List.mem_of_getElem? (i := 958) (by decide +kernel)) rfl
theorem q_959 : Cond.constantLong RX8 162 (200000000000000) ∈ lw_gd := mem_gd (List.mem_of_getElem? (i := 959) (by decide +kernel)) rfl
theorem q_960 : Cond.constantLong RX8 164 (27) ∈ lw_gd := mem_gd (List.mem_of_getElem? (i := 960) (by decide +kernel)) rfl
theorem q_961 : Cond.constantLong RX8 166 (96) ∈ lw_gd := mem_gd (List.mem_of_getElem? (i := 961) (by decide +kernel)) rfl
theorem q_962 : Cond.methodLink RX8 207 yX8_code ∈ lw_gd := mem_gd (List.mem_of_getElem? (i := 962) (by decide +kernel)) rfl
theorem q_963 : Cond.static yX8_code ∈ lw_gd := mem_gd (List.mem_of_getElem? (i := 963) (by decide +kernel)) rfl
theorem q_964 : Cond.code yX8_code cX8_code 3 (some .long) ∈ lw_gd := mem_gd (List.mem_of_getElem? (i := 964) (by decide +kernel)) rfl
theorem q_965 : Cond.methodLink RX8 211 yX8_more ∈ lw_gd := mem_gd (List.mem_of_getElem? (i := 965) (by decide +kernel)) rfl
theorem q_966 : Cond.static yX8_more ∈ lw_gd := mem_gd (List.mem_of_getElem? (i := 966) (by decide +kernel)) rfl
theorem q_967 : Cond.code yX8_more cX8_more 3 (some .long) ∈ lw_gd := mem_gd (List.mem_of_getElem? (i := 967) (by decide +kernel)) rfl
theorem q_968 : Cond.methodLink RX8 172 yX8_fails ∈ lw_gd := mem_gd (List.mem_of_getElem? (i := 968) (by decide +kernel)) rfl
theorem q_970 : Cond.instanceMethod yX8_fails ∈ lw_gd := mem_gd (List.mem_of_getElem? (i := 970) (by decide +kernel)) rfl
theorem q_971 : Cond.code yX8_fails cX8_fails 3 (some .int) ∈ lw_gd := mem_gd (List.mem_of_getElem? (i := 971) (by decide +kernel)) rfl
theorem q_972 : Cond.methodLink RX8 218 yX8_takeYear ∈ lw_gd := mem_gd (List.mem_of_getElem? (i := 972) (by decide +kernel)) rfl
theorem q_974 : Cond.instanceMethod yX8_takeYear ∈ lw_gd := mem_gd (List.mem_of_getElem? (i := 974) (by decide +kernel)) rfl
theorem q_975 : Cond.code yX8_takeYear cX8_takeYear 2 (some .int) ∈ lw_gd := mem_gd (List.mem_of_getElem? (i := 975) (by decide +kernel)) rfl
theorem q_976 : Cond.methodLink RX8 182 yX8_takeNumber ∈ lw_gd := mem_gd (List.mem_of_getElem? (i := 976) (by decide +kernel)) rfl
theorem q_978 : Cond.instanceMethod yX8_takeNumber ∈ lw_gd := mem_gd (List.mem_of_getElem? (i := 978) (by decide +kernel)) rfl
theorem q_979 : Cond.code yX8_takeNumber cX8_takeNumber 4 (some .int) ∈ lw_gd := mem_gd (List.mem_of_getElem? (i := 979) (by decide +kernel)) rfl
theorem q_980 : Cond.constantLong RX8 168 (48) ∈ lw_gd := mem_gd (List.mem_of_getElem? (i := 980) (by decide +kernel)) rfl
theorem q_981 : Cond.constantLong RX8 170 (57) ∈ lw_gd := mem_gd (List.mem_of_getElem? (i := 981) (by decide +kernel)) rfl
theorem q_982 : Cond.methodLink RX8 221 yX8_takeBell ∈ lw_gd := mem_gd (List.mem_of_getElem? (i := 982) (by decide +kernel)) rfl
theorem q_984 : Cond.instanceMethod yX8_takeBell ∈ lw_gd := mem_gd (List.mem_of_getElem? (i := 984) (by decide +kernel)) rfl
theorem q_985 : Cond.code yX8_takeBell cX8_takeBell 3 (some .int) ∈ lw_gd := mem_gd (List.mem_of_getElem? (i := 985) (by decide +kernel)) rfl
theorem q_986 : Cond.methodLink RX8 188 yX8_into ∈ lw_gd := mem_gd (List.mem_of_getElem? (i := 986) (by decide +kernel)) rfl
theorem q_988 : Cond.instanceMethod yX8_into ∈ lw_gd := mem_gd (List.mem_of_getElem? (i := 988) (by decide +kernel)) rfl
theorem q_989 : Cond.code yX8_into cX8_into 6 (some .int) ∈ lw_gd := mem_gd (List.mem_of_getElem? (i := 989) (by decide +kernel)) rfl
theorem q_990 : Cond.methodLink RX8 224 yX8_takeSpot ∈ lw_gd := mem_gd (List.mem_of_getElem? (i := 990) (by decide +kernel)) rfl
theorem q_992 : Cond.instanceMethod yX8_takeSpot ∈ lw_gd := mem_gd (List.mem_of_getElem? (i := 992) (by decide +kernel)) rfl
theorem q_993 : Cond.code yX8_takeSpot cX8_takeSpot 3 (some .int) ∈ lw_gd := mem_gd (List.mem_of_getElem? (i := 993) (by decide +kernel)) rfl
theorem q_994 : Cond.methodLink RX8 227 yX8_takeBeggar ∈ lw_gd := mem_gd (List.mem_of_getElem? (i := 994) (by decide +kernel)) rfl
theorem q_996 : Cond.instanceMethod yX8_takeBeggar ∈ lw_gd := mem_gd (List.mem_of_getElem? (i := 996) (by decide +kernel)) rfl
theorem q_997 : Cond.code yX8_takeBeggar cX8_takeBeggar 2 (some .int) ∈ lw_gd := mem_gd (List.mem_of_getElem? (i := 997) (by decide +kernel)) rfl
theorem q_998 : Cond.methodLink RX8 230 yX8_takeHat ∈ lw_gd := mem_gd (List.mem_of_getElem? (i := 998) (by decide +kernel)) rfl
theorem q_1000 : Cond.instanceMethod yX8_takeHat ∈ lw_gd := mem_gd (List.mem_of_getElem? (i := 1000) (by decide +kernel)) rfl
theorem q_1001 : Cond.code yX8_takeHat cX8_takeHat 3 (some .int) ∈ lw_gd := mem_gd (List.mem_of_getElem? (i := 1001) (by decide +kernel)) rfl
theorem q_1003 : Cond.instanceMethod yX8_fault ∈ lw_gd := mem_gd (List.mem_of_getElem? (i := 1003) (by decide +kernel)) rfl
theorem q_1004 : Cond.selects RX8 yX8_fault yX8_fault ∈ lw_gd := mem_gd (List.mem_of_getElem? (i := 1004) (by decide +kernel)) rfl
theorem q_1005 : Cond.code yX8_fault cX8_fault 1 (some .int) ∈ lw_gd := mem_gd (List.mem_of_getElem? (i := 1005) (by decide +kernel)) rfl
theorem q_1007 : Cond.instanceMethod yX8_told ∈ lw_gd := mem_gd (List.mem_of_getElem? (i := 1007) (by decide +kernel)) rfl
theorem q_1008 : Cond.selects RX8 yX8_told yX8_told ∈ lw_gd := mem_gd (List.mem_of_getElem? (i := 1008) (by decide +kernel)) rfl
theorem q_1009 : Cond.code yX8_told cX8_told 2 (some .int) ∈ lw_gd := mem_gd (List.mem_of_getElem? (i := 1009) (by decide +kernel)) rfl
theorem q_1011 : Cond.instanceMethod yX8_bell ∈ lw_gd := mem_gd (List.mem_of_getElem? (i := 1011) (by decide +kernel)) rfl
theorem q_1012 : Cond.selects RX8 yX8_bell yX8_bell ∈ lw_gd := mem_gd (List.mem_of_getElem? (i := 1012) (by decide +kernel)) rfl
theorem q_1013 : Cond.code yX8_bell cX8_bell 3 (some .int) ∈ lw_gd := mem_gd (List.mem_of_getElem? (i := 1013) (by decide +kernel)) rfl
theorem q_1014 : Cond.methodLink RX8 251 yX8_isBell ∈ lw_gd := mem_gd (List.mem_of_getElem? (i := 1014) (by decide +kernel)) rfl
theorem q_1016 : Cond.instanceMethod yX8_isBell ∈ lw_gd := mem_gd (List.mem_of_getElem? (i := 1016) (by decide +kernel)) rfl
theorem q_1017 : Cond.code yX8_isBell cX8_isBell 2 (some .boolean) ∈ lw_gd := mem_gd (List.mem_of_getElem? (i := 1017) (by decide +kernel)) rfl
theorem q_1018 : Cond.constant RX8 255 (-1000000001) ∈ lw_gd := mem_gd (List.mem_of_getElem? (i := 1018) (by decide +kernel)) rfl
theorem q_1019 : Cond.constantLong RX8 256 (99999) ∈ lw_gd := mem_gd (List.mem_of_getElem? (i := 1019) (by decide +kernel)) rfl
theorem q_1020 : Cond.methodLink RX8 258 yX8_longOn ∈ lw_gd := mem_gd (List.mem_of_getElem? (i := 1020) (by decide +kernel)) rfl
theorem q_1022 : Cond.instanceMethod yX8_longOn ∈ lw_gd := mem_gd (List.mem_of_getElem? (i := 1022) (by decide +kernel)) rfl
theorem q_1023 : Cond.code yX8_longOn cX8_longOn 5 (some .int) ∈ lw_gd := mem_gd (List.mem_of_getElem? (i := 1023) (by decide +kernel)) rfl
theorem q_1025 : Cond.instanceMethod yX8_spot ∈ lw_gd := mem_gd (List.mem_of_getElem? (i := 1025) (by decide +kernel)) rfl
theorem q_1026 : Cond.selects RX8 yX8_spot yX8_spot ∈ lw_gd := mem_gd (List.mem_of_getElem? (i := 1026) (by decide +kernel)) rfl
theorem q_1027 : Cond.code yX8_spot cX8_spot 3 (some .int) ∈ lw_gd := mem_gd (List.mem_of_getElem? (i := 1027) (by decide +kernel)) rfl
theorem q_1028 : Cond.methodLink RX8 261 yX8_isSpot ∈ lw_gd := mem_gd (List.mem_of_getElem? (i := 1028) (by decide +kernel)) rfl
theorem q_1030 : Cond.instanceMethod yX8_isSpot ∈ lw_gd := mem_gd (List.mem_of_getElem? (i := 1030) (by decide +kernel)) rfl
theorem q_1031 : Cond.code yX8_isSpot cX8_isSpot 2 (some .boolean) ∈ lw_gd := mem_gd (List.mem_of_getElem? (i := 1031) (by decide +kernel)) rfl
theorem q_1032 : Cond.methodLink RX8 264 yX8_whoIsOn ∈ lw_gd := mem_gd (List.mem_of_getElem? (i := 1032) (by decide +kernel)) rfl
theorem q_1034 : Cond.instanceMethod yX8_whoIsOn ∈ lw_gd := mem_gd (List.mem_of_getElem? (i := 1034) (by decide +kernel)) rfl
theorem q_1035 : Cond.code yX8_whoIsOn cX8_whoIsOn 5 (some .int) ∈ lw_gd := mem_gd (List.mem_of_getElem? (i := 1035) (by decide +kernel)) rfl
theorem q_1037 : Cond.instanceMethod yX8_beggar ∈ lw_gd := mem_gd (List.mem_of_getElem? (i := 1037) (by decide +kernel)) rfl
theorem q_1038 : Cond.selects RX8 yX8_beggar yX8_beggar ∈ lw_gd := mem_gd (List.mem_of_getElem? (i := 1038) (by decide +kernel)) rfl
theorem q_1039 : Cond.code yX8_beggar cX8_beggar 3 (some .int) ∈ lw_gd := mem_gd (List.mem_of_getElem? (i := 1039) (by decide +kernel)) rfl
theorem q_1040 : Cond.methodLink RX8 267 yX8_isBeggar ∈ lw_gd := mem_gd (List.mem_of_getElem? (i := 1040) (by decide +kernel)) rfl
theorem q_1042 : Cond.instanceMethod yX8_isBeggar ∈ lw_gd := mem_gd (List.mem_of_getElem? (i := 1042) (by decide +kernel)) rfl
theorem q_1043 : Cond.code yX8_isBeggar cX8_isBeggar 2 (some .boolean) ∈ lw_gd := mem_gd (List.mem_of_getElem? (i := 1043) (by decide +kernel)) rfl
theorem q_1044 : Cond.methodLink RX8 270 yX8_tallOf ∈ lw_gd := mem_gd (List.mem_of_getElem? (i := 1044) (by decide +kernel)) rfl
theorem q_1046 : Cond.instanceMethod yX8_tallOf ∈ lw_gd := mem_gd (List.mem_of_getElem? (i := 1046) (by decide +kernel)) rfl
theorem q_1047 : Cond.code yX8_tallOf cX8_tallOf 3 (some .int) ∈ lw_gd := mem_gd (List.mem_of_getElem? (i := 1047) (by decide +kernel)) rfl
theorem q_1049 : Cond.instanceMethod yX8_hat ∈ lw_gd := mem_gd (List.mem_of_getElem? (i := 1049) (by decide +kernel)) rfl
theorem q_1050 : Cond.selects RX8 yX8_hat yX8_hat ∈ lw_gd := mem_gd (List.mem_of_getElem? (i := 1050) (by decide +kernel)) rfl
theorem q_1051 : Cond.code yX8_hat cX8_hat 3 (some .int) ∈ lw_gd := mem_gd (List.mem_of_getElem? (i := 1051) (by decide +kernel)) rfl
theorem q_1052 : Cond.methodLink RX8 274 yX8_isHat ∈ lw_gd := mem_gd (List.mem_of_getElem? (i := 1052) (by decide +kernel)) rfl
theorem q_1054 : Cond.instanceMethod yX8_isHat ∈ lw_gd := mem_gd (List.mem_of_getElem? (i := 1054) (by decide +kernel)) rfl
theorem q_1055 : Cond.code yX8_isHat cX8_isHat 2 (some .boolean) ∈ lw_gd := mem_gd (List.mem_of_getElem? (i := 1055) (by decide +kernel)) rfl
theorem q_1056 : Cond.methodLink RX8 277 yX8_onWhom ∈ lw_gd := mem_gd (List.mem_of_getElem? (i := 1056) (by decide +kernel)) rfl
theorem q_1058 : Cond.instanceMethod yX8_onWhom ∈ lw_gd := mem_gd (List.mem_of_getElem? (i := 1058) (by decide +kernel)) rfl
theorem q_1059 : Cond.code yX8_onWhom cX8_onWhom 4 (some .int) ∈ lw_gd := mem_gd (List.mem_of_getElem? (i := 1059) (by decide +kernel)) rfl
theorem q_1061 : Cond.instanceMethod yX8_shadow ∈ lw_gd := mem_gd (List.mem_of_getElem? (i := 1061) (by decide +kernel)) rfl
theorem q_1062 : Cond.selects RX8 yX8_shadow yX8_shadow ∈ lw_gd := mem_gd (List.mem_of_getElem? (i := 1062) (by decide +kernel)) rfl
theorem q_1063 : Cond.code yX8_shadow cX8_shadow 4 (some .int) ∈ lw_gd := mem_gd (List.mem_of_getElem? (i := 1063) (by decide +kernel)) rfl
theorem q_1064 : Cond.methodLink RX8 293 yX8_longNow ∈ lw_gd := mem_gd (List.mem_of_getElem? (i := 1064) (by decide +kernel)) rfl
theorem q_1066 : Cond.instanceMethod yX8_longNow ∈ lw_gd := mem_gd (List.mem_of_getElem? (i := 1066) (by decide +kernel)) rfl
theorem q_1067 : Cond.code yX8_longNow cX8_longNow 2 (some .int) ∈ lw_gd := mem_gd (List.mem_of_getElem? (i := 1067) (by decide +kernel)) rfl
theorem q_1068 : Cond.methodLink RX8 296 yX8_findAlms ∈ lw_gd := mem_gd (List.mem_of_getElem? (i := 1068) (by decide +kernel)) rfl
theorem q_1070 : Cond.instanceMethod yX8_findAlms ∈ lw_gd := mem_gd (List.mem_of_getElem? (i := 1070) (by decide +kernel)) rfl
theorem q_1071 : Cond.code yX8_findAlms cX8_findAlms 7 none ∈ lw_gd := mem_gd (List.mem_of_getElem? (i := 1071) (by decide +kernel)) rfl
theorem q_1072 : Cond.methodLink RX8 284 yX8_shadowOf ∈ lw_gd := mem_gd (List.mem_of_getElem? (i := 1072) (by decide +kernel)) rfl
theorem q_1074 : Cond.instanceMethod yX8_shadowOf ∈ lw_gd := mem_gd (List.mem_of_getElem? (i := 1074) (by decide +kernel)) rfl
theorem q_1075 : Cond.code yX8_shadowOf cX8_shadowOf 6 (some .int) ∈ lw_gd := mem_gd (List.mem_of_getElem? (i := 1075) (by decide +kernel)) rfl
theorem q_1076 : Cond.methodLink RX8 280 yX8_lengthBy ∈ lw_gd := mem_gd (List.mem_of_getElem? (i := 1076) (by decide +kernel)) rfl
theorem q_1078 : Cond.instanceMethod yX8_lengthBy ∈ lw_gd := mem_gd (List.mem_of_getElem? (i := 1078) (by decide +kernel)) rfl
theorem q_1079 : Cond.code yX8_lengthBy cX8_lengthBy 5 (some .int) ∈ lw_gd := mem_gd (List.mem_of_getElem? (i := 1079) (by decide +kernel)) rfl
theorem q_1080 : Cond.methodLink RX8 290 yX8_almsOf ∈ lw_gd := mem_gd (List.mem_of_getElem? (i := 1080) (by decide +kernel)) rfl
theorem q_1082 : Cond.instanceMethod yX8_almsOf ∈ lw_gd := mem_gd (List.mem_of_getElem? (i := 1082) (by decide +kernel)) rfl
theorem q_1083 : Cond.code yX8_almsOf cX8_almsOf 2 (some .int) ∈ lw_gd := mem_gd (List.mem_of_getElem? (i := 1083) (by decide +kernel)) rfl
theorem q_1084 : Cond.methodLink RX8 287 yX8_costOf ∈ lw_gd := mem_gd (List.mem_of_getElem? (i := 1084) (by decide +kernel)) rfl
theorem q_1086 : Cond.instanceMethod yX8_costOf ∈ lw_gd := mem_gd (List.mem_of_getElem? (i := 1086) (by decide +kernel)) rfl
theorem q_1087 : Cond.code yX8_costOf cX8_costOf 2 (some .int) ∈ lw_gd := mem_gd (List.mem_of_getElem? (i := 1087) (by decide +kernel)) rfl
theorem q_1089 : Cond.instanceMethod yX8_go ∈ lw_gd := mem_gd (List.mem_of_getElem? (i := 1089) (by decide +kernel)) rfl
theorem q_1090 : Cond.selects RX8 yX8_go yX8_go ∈ lw_gd := mem_gd (List.mem_of_getElem? (i := 1090) (by decide +kernel)) rfl
theorem q_1091 : Cond.code yX8_go cX8_go 5 (some .int) ∈ lw_gd := mem_gd (List.mem_of_getElem? (i := 1091) (by decide +kernel)) rfl
theorem q_1092 : Cond.constant RX8 300 (-1000000003) ∈ lw_gd := mem_gd (List.mem_of_getElem? (i := 1092) (by decide +kernel)) rfl
theorem q_1094 : Cond.instanceMethod yX8_lend ∈ lw_gd := mem_gd (List.mem_of_getElem? (i := 1094) (by decide +kernel)) rfl
theorem q_1095 : Cond.selects RX8 yX8_lend yX8_lend ∈ lw_gd := mem_gd (List.mem_of_getElem? (i := 1095) (by decide +kernel)) rfl
theorem q_1096 : Cond.code yX8_lend cX8_lend 4 (some .int) ∈ lw_gd := mem_gd (List.mem_of_getElem? (i := 1096) (by decide +kernel)) rfl
theorem q_1098 : Cond.instanceMethod yX8_law ∈ lw_gd := mem_gd (List.mem_of_getElem? (i := 1098) (by decide +kernel)) rfl
theorem q_1099 : Cond.selects RX8 yX8_law yX8_law ∈ lw_gd := mem_gd (List.mem_of_getElem? (i := 1099) (by decide +kernel)) rfl
theorem q_1100 : Cond.code yX8_law cX8_law 3 (some .int) ∈ lw_gd := mem_gd (List.mem_of_getElem? (i := 1100) (by decide +kernel)) rfl
theorem q_1101 : Cond.constantLong RX8 301 (2) ∈ lw_gd := mem_gd (List.mem_of_getElem? (i := 1101) (by decide +kernel)) rfl
theorem q_1103 : Cond.instanceMethod yX8_ring ∈ lw_gd := mem_gd (List.mem_of_getElem? (i := 1103) (by decide +kernel)) rfl
theorem q_1104 : Cond.selects RX8 yX8_ring yX8_ring ∈ lw_gd := mem_gd (List.mem_of_getElem? (i := 1104) (by decide +kernel)) rfl
theorem q_1105 : Cond.code yX8_ring cX8_ring 2 (some .int) ∈ lw_gd := mem_gd (List.mem_of_getElem? (i := 1105) (by decide +kernel)) rfl
theorem q_1106 : Cond.methodLink RX8 307 yX8_ringNow ∈ lw_gd := mem_gd (List.mem_of_getElem? (i := 1106) (by decide +kernel)) rfl
theorem q_1108 : Cond.instanceMethod yX8_ringNow ∈ lw_gd := mem_gd (List.mem_of_getElem? (i := 1108) (by decide +kernel)) rfl
theorem q_1109 : Cond.code yX8_ringNow cX8_ringNow 4 (some .int) ∈ lw_gd := mem_gd (List.mem_of_getElem? (i := 1109) (by decide +kernel)) rfl
theorem q_1110 : Cond.methodLink RX8 304 yX8_held ∈ lw_gd := mem_gd (List.mem_of_getElem? (i := 1110) (by decide +kernel)) rfl
theorem q_1111 : Cond.static yX8_held ∈ lw_gd := mem_gd (List.mem_of_getElem? (i := 1111) (by decide +kernel)) rfl
theorem q_1112 : Cond.code yX8_held cX8_held 1 (some .int) ∈ lw_gd := mem_gd (List.mem_of_getElem? (i := 1112) (by decide +kernel)) rfl
theorem q_1113 : Cond.constant RX8 303 (999999999) ∈ lw_gd := mem_gd (List.mem_of_getElem? (i := 1113) (by decide +kernel)) rfl
theorem q_1115 : Cond.instanceMethod yX8_day ∈ lw_gd := mem_gd (List.mem_of_getElem? (i := 1115) (by decide +kernel)) rfl
theorem q_1116 : Cond.selects RX8 yX8_day yX8_day ∈ lw_gd := mem_gd (List.mem_of_getElem? (i := 1116) (by decide +kernel)) rfl
theorem q_1117 : Cond.code yX8_day cX8_day 2 (some .int) ∈ lw_gd := mem_gd (List.mem_of_getElem? (i := 1117) (by decide +kernel)) rfl
theorem q_1118 : Cond.constantLong RX8 310 (99) ∈ lw_gd := mem_gd (List.mem_of_getElem? (i := 1118) (by decide +kernel)) rfl
theorem q_1120 : Cond.instanceMethod yX8_drift ∈ lw_gd := mem_gd (List.mem_of_getElem? (i := 1120) (by decide +kernel)) rfl
theorem q_1121 : Cond.selects RX8 yX8_drift yX8_drift ∈ lw_gd := mem_gd (List.mem_of_getElem? (i := 1121) (by decide +kernel)) rfl
theorem q_1122 : Cond.code yX8_drift cX8_drift 5 (some .int) ∈ lw_gd := mem_gd (List.mem_of_getElem? (i := 1122) (by decide +kernel)) rfl
theorem q_1123 : Cond.methodLink RX8 325 yX8_dayNow ∈ lw_gd := mem_gd (List.mem_of_getElem? (i := 1123) (by decide +kernel)) rfl
theorem q_1125 : Cond.instanceMethod yX8_dayNow ∈ lw_gd := mem_gd (List.mem_of_getElem? (i := 1125) (by decide +kernel)) rfl
theorem q_1126 : Cond.code yX8_dayNow cX8_dayNow 4 (some .int) ∈ lw_gd := mem_gd (List.mem_of_getElem? (i := 1126) (by decide +kernel)) rfl
theorem q_1127 : Cond.methodLink RX8 322 yX8_draw ∈ lw_gd := mem_gd (List.mem_of_getElem? (i := 1127) (by decide +kernel)) rfl
theorem q_1129 : Cond.instanceMethod yX8_draw ∈ lw_gd := mem_gd (List.mem_of_getElem? (i := 1129) (by decide +kernel)) rfl
theorem q_1130 : Cond.code yX8_draw cX8_draw 2 (some .int) ∈ lw_gd := mem_gd (List.mem_of_getElem? (i := 1130) (by decide +kernel)) rfl
theorem q_1131 : Cond.constantLong RX8 315 (1103515245) ∈ lw_gd := mem_gd (List.mem_of_getElem? (i := 1131) (by decide +kernel)) rfl
theorem q_1132 : Cond.constantLong RX8 317 (12345) ∈ lw_gd := mem_gd (List.mem_of_getElem? (i := 1132) (by decide +kernel)) rfl
theorem q_1133 : Cond.constantLong RX8 319 (2147483648) ∈ lw_gd := mem_gd (List.mem_of_getElem? (i := 1133) (by decide +kernel)) rfl
theorem q_1134 : Cond.constant RX8 321 (65536) ∈ lw_gd := mem_gd (List.mem_of_getElem? (i := 1134) (by decide +kernel)) rfl
theorem q_1136 : Cond.instanceMethod yX8_standing ∈ lw_gd := mem_gd (List.mem_of_getElem? (i := 1136) (by decide +kernel)) rfl
theorem q_1137 : Cond.selects RX8 yX8_standing yX8_standing ∈ lw_gd := mem_gd (List.mem_of_getElem? (i := 1137) (by decide +kernel)) rfl
theorem q_1138 : Cond.code yX8_standing cX8_standing 4 (some .int) ∈ lw_gd := mem_gd (List.mem_of_getElem? (i := 1138) (by decide +kernel)) rfl
theorem q_1139 : Cond.methodLink RX8 339 yX8_saveAll ∈ lw_gd := mem_gd (List.mem_of_getElem? (i := 1139) (by decide +kernel)) rfl
theorem q_1141 : Cond.instanceMethod yX8_saveAll ∈ lw_gd := mem_gd (List.mem_of_getElem? (i := 1141) (by decide +kernel)) rfl
theorem q_1142 : Cond.code yX8_saveAll cX8_saveAll 2 none ∈ lw_gd := mem_gd (List.mem_of_getElem? (i := 1142) (by decide +kernel)) rfl
theorem q_1143 : Cond.methodLink RX8 342 yX8_findStanding ∈ lw_gd := mem_gd (List.mem_of_getElem? (i := 1143) (by decide +kernel)) rfl
theorem q_1145 : Cond.instanceMethod yX8_findStanding ∈ lw_gd := mem_gd (List.mem_of_getElem? (i := 1145) (by decide +kernel)) rfl
theorem q_1146 : Cond.code yX8_findStanding cX8_findStanding 8 none ∈ lw_gd := mem_gd (List.mem_of_getElem? (i := 1146) (by decide +kernel)) rfl
theorem q_1147 : Cond.constant RX8 328 (-1000000000) ∈ lw_gd := mem_gd (List.mem_of_getElem? (i := 1147) (by decide +kernel)) rfl
theorem q_1148 : Cond.methodLink RX8 332 yX8_standBy ∈ lw_gd := mem_gd (List.mem_of_getElem? (i := 1148) (by decide +kernel)) rfl
theorem q_1150 : Cond.instanceMethod yX8_standBy ∈ lw_gd := mem_gd (List.mem_of_getElem? (i := 1150) (by decide +kernel)) rfl
theorem q_1151 : Cond.code yX8_standBy cX8_standBy 8 (some .boolean) ∈ lw_gd := mem_gd (List.mem_of_getElem? (i := 1151) (by decide +kernel)) rfl
theorem q_1152 : Cond.methodLink RX8 336 yX8_almsOfAll ∈ lw_gd := mem_gd (List.mem_of_getElem? (i := 1152) (by decide +kernel)) rfl
theorem q_1154 : Cond.instanceMethod yX8_almsOfAll ∈ lw_gd := mem_gd (List.mem_of_getElem? (i := 1154) (by decide +kernel)) rfl
theorem q_1155 : Cond.code yX8_almsOfAll cX8_almsOfAll 4 (some .int) ∈ lw_gd := mem_gd (List.mem_of_getElem? (i := 1155) (by decide +kernel)) rfl
theorem q_1156 : Cond.methodLink RX8 345 yX8_putBack ∈ lw_gd := mem_gd (List.mem_of_getElem? (i := 1156) (by decide +kernel)) rfl
theorem q_1158 : Cond.instanceMethod yX8_putBack ∈ lw_gd := mem_gd (List.mem_of_getElem? (i := 1158) (by decide +kernel)) rfl
theorem q_1159 : Cond.code yX8_putBack cX8_putBack 2 none ∈ lw_gd := mem_gd (List.mem_of_getElem? (i := 1159) (by decide +kernel)) rfl
theorem q_1161 : Cond.instanceMethod yX8_hats ∈ lw_gd := mem_gd (List.mem_of_getElem? (i := 1161) (by decide +kernel)) rfl
theorem q_1162 : Cond.selects RX8 yX8_hats yX8_hats ∈ lw_gd := mem_gd (List.mem_of_getElem? (i := 1162) (by decide +kernel)) rfl
theorem q_1163 : Cond.code yX8_hats cX8_hats 7 (some .int) ∈ lw_gd := mem_gd (List.mem_of_getElem? (i := 1163) (by decide +kernel)) rfl
theorem q_1164 : Cond.methodLink RX8 348 yX8_lendBy ∈ lw_gd := mem_gd (List.mem_of_getElem? (i := 1164) (by decide +kernel)) rfl
theorem q_1166 : Cond.instanceMethod yX8_lendBy ∈ lw_gd := mem_gd (List.mem_of_getElem? (i := 1166) (by decide +kernel)) rfl
theorem q_1167 : Cond.code yX8_lendBy cX8_lendBy 6 (some .boolean) ∈ lw_gd := mem_gd (List.mem_of_getElem? (i := 1167) (by decide +kernel)) rfl
theorem q_1169 : Cond.instanceMethod yX8_giant ∈ lw_gd := mem_gd (List.mem_of_getElem? (i := 1169) (by decide +kernel)) rfl
theorem q_1170 : Cond.selects RX8 yX8_giant yX8_giant ∈ lw_gd := mem_gd (List.mem_of_getElem? (i := 1170) (by decide +kernel)) rfl
theorem q_1171 : Cond.code yX8_giant cX8_giant 12 (some .int) ∈ lw_gd := mem_gd (List.mem_of_getElem? (i := 1171) (by decide +kernel)) rfl
theorem q_1172 : Cond.constantLong RX8 351 (200) ∈ lw_gd := mem_gd (List.mem_of_getElem? (i := 1172) (by decide +kernel)) rfl
theorem q_1173 : Cond.constantLong RX8 353 (999) ∈ lw_gd := mem_gd (List.mem_of_getElem? (i := 1173) (by decide +kernel)) rfl
theorem q_1175 : Cond.instanceMethod yX8_peace ∈ lw_gd := mem_gd (List.mem_of_getElem? (i := 1175) (by decide +kernel)) rfl
theorem q_1176 : Cond.selects RX8 yX8_peace yX8_peace ∈ lw_gd := mem_gd (List.mem_of_getElem? (i := 1176) (by decide +kernel)) rfl
theorem q_1177 : Cond.code yX8_peace cX8_peace 3 (some .int) ∈ lw_gd := mem_gd (List.mem_of_getElem? (i := 1177) (by decide +kernel)) rfl
theorem q_1178 : Cond.methodLink RX8 355 yX8_lacksFor ∈ lw_gd := mem_gd (List.mem_of_getElem? (i := 1178) (by decide +kernel)) rfl
theorem q_1180 : Cond.instanceMethod yX8_lacksFor ∈ lw_gd := mem_gd (List.mem_of_getElem? (i := 1180) (by decide +kernel)) rfl
theorem q_1181 : Cond.code yX8_lacksFor cX8_lacksFor 4 (some .int) ∈ lw_gd := mem_gd (List.mem_of_getElem? (i := 1181) (by decide +kernel)) rfl
theorem q_1183 : Cond.instanceMethod yX8_bread ∈ lw_gd := mem_gd (List.mem_of_getElem? (i := 1183) (by decide +kernel)) rfl
theorem q_1184 : Cond.selects RX8 yX8_bread yX8_bread ∈ lw_gd := mem_gd (List.mem_of_getElem? (i := 1184) (by decide +kernel)) rfl
theorem q_1185 : Cond.code yX8_bread cX8_bread 4 (some .int) ∈ lw_gd := mem_gd (List.mem_of_getElem? (i := 1185) (by decide +kernel)) rfl
theorem q_1186 : Cond.constantLong RX8 358 (9999) ∈ lw_gd := mem_gd (List.mem_of_getElem? (i := 1186) (by decide +kernel)) rfl
theorem q_1188 : Cond.instanceMethod yX8_best ∈ lw_gd := mem_gd (List.mem_of_getElem? (i := 1188) (by decide +kernel)) rfl
theorem q_1189 : Cond.selects RX8 yX8_best yX8_best ∈ lw_gd := mem_gd (List.mem_of_getElem? (i := 1189) (by decide +kernel)) rfl
theorem q_1190 : Cond.code yX8_best cX8_best 8 (some .int) ∈ lw_gd := mem_gd (List.mem_of_getElem? (i := 1190) (by decide +kernel)) rfl
theorem q_1192 : Cond.instanceMethod yX8_tell ∈ lw_gd := mem_gd (List.mem_of_getElem? (i := 1192) (by decide +kernel)) rfl
theorem q_1193 : Cond.selects RX8 yX8_tell yX8_tell ∈ lw_gd := mem_gd (List.mem_of_getElem? (i := 1193) (by decide +kernel)) rfl
theorem q_1194 : Cond.code yX8_tell cX8_tell 5 (some .int) ∈ lw_gd := mem_gd (List.mem_of_getElem? (i := 1194) (by decide +kernel)) rfl
theorem q_1196 : Cond.instanceMethod yX8_fits ∈ lw_gd := mem_gd (List.mem_of_getElem? (i := 1196) (by decide +kernel)) rfl
theorem q_1197 : Cond.selects RX8 yX8_fits yX8_fits ∈ lw_gd := mem_gd (List.mem_of_getElem? (i := 1197) (by decide +kernel)) rfl
theorem q_1198 : Cond.code yX8_fits cX8_fits 6 (some .int) ∈ lw_gd := mem_gd (List.mem_of_getElem? (i := 1198) (by decide +kernel)) rfl
theorem q_1199 : Cond.methodLink RX8 360 yX8_isAsTold ∈ lw_gd := mem_gd (List.mem_of_getElem? (i := 1199) (by decide +kernel)) rfl
theorem q_1201 : Cond.instanceMethod yX8_isAsTold ∈ lw_gd := mem_gd (List.mem_of_getElem? (i := 1201) (by decide +kernel)) rfl
theorem q_1202 : Cond.code yX8_isAsTold cX8_isAsTold 4 (some .boolean) ∈ lw_gd := mem_gd (List.mem_of_getElem? (i := 1202) (by decide +kernel)) rfl
theorem q_1204 : Cond.instanceMethod yX8_write ∈ lw_gd := mem_gd (List.mem_of_getElem? (i := 1204) (by decide +kernel)) rfl
theorem q_1205 : Cond.selects RX8 yX8_write yX8_write ∈ lw_gd := mem_gd (List.mem_of_getElem? (i := 1205) (by decide +kernel)) rfl
theorem q_1206 : Cond.code yX8_write cX8_write 4 (some .int) ∈ lw_gd := mem_gd (List.mem_of_getElem? (i := 1206) (by decide +kernel)) rfl
theorem q_1207 : Cond.constantLong RX8 363 (-999) ∈ lw_gd := mem_gd (List.mem_of_getElem? (i := 1207) (by decide +kernel)) rfl
theorem q_1209 : Cond.instanceMethod yX8_tear ∈ lw_gd := mem_gd (List.mem_of_getElem? (i := 1209) (by decide +kernel)) rfl
theorem q_1210 : Cond.selects RX8 yX8_tear yX8_tear ∈ lw_gd := mem_gd (List.mem_of_getElem? (i := 1210) (by decide +kernel)) rfl
theorem q_1211 : Cond.code yX8_tear cX8_tear 2 (some .int) ∈ lw_gd := mem_gd (List.mem_of_getElem? (i := 1211) (by decide +kernel)) rfl
theorem q_1213 : Cond.instanceMethod yX8_judge ∈ lw_gd := mem_gd (List.mem_of_getElem? (i := 1213) (by decide +kernel)) rfl
theorem q_1214 : Cond.selects RX8 yX8_judge yX8_judge ∈ lw_gd := mem_gd (List.mem_of_getElem? (i := 1214) (by decide +kernel)) rfl
theorem q_1215 : Cond.code yX8_judge cX8_judge 2 (some .int) ∈ lw_gd := mem_gd (List.mem_of_getElem? (i := 1215) (by decide +kernel)) rfl
theorem q_1217 : Cond.instanceMethod yX8_seed ∈ lw_gd := mem_gd (List.mem_of_getElem? (i := 1217) (by decide +kernel)) rfl
theorem q_1218 : Cond.selects RX8 yX8_seed yX8_seed ∈ lw_gd := mem_gd (List.mem_of_getElem? (i := 1218) (by decide +kernel)) rfl
theorem q_1219 : Cond.code yX8_seed cX8_seed 3 (some .int) ∈ lw_gd := mem_gd (List.mem_of_getElem? (i := 1219) (by decide +kernel)) rfl
theorem q_1221 : Cond.instanceMethod yX8_keep ∈ lw_gd := mem_gd (List.mem_of_getElem? (i := 1221) (by decide +kernel)) rfl
theorem q_1222 : Cond.selects RX8 yX8_keep yX8_keep ∈ lw_gd := mem_gd (List.mem_of_getElem? (i := 1222) (by decide +kernel)) rfl
theorem q_1223 : Cond.code yX8_keep cX8_keep 4 (some .int) ∈ lw_gd := mem_gd (List.mem_of_getElem? (i := 1223) (by decide +kernel)) rfl
theorem q_1225 : Cond.instanceMethod yX8_goBack ∈ lw_gd := mem_gd (List.mem_of_getElem? (i := 1225) (by decide +kernel)) rfl
theorem q_1226 : Cond.selects RX8 yX8_goBack yX8_goBack ∈ lw_gd := mem_gd (List.mem_of_getElem? (i := 1226) (by decide +kernel)) rfl
theorem q_1227 : Cond.code yX8_goBack cX8_goBack 4 (some .int) ∈ lw_gd := mem_gd (List.mem_of_getElem? (i := 1227) (by decide +kernel)) rfl
