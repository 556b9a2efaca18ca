set_option maxRecDepth 20000 in
theorem kX11_init : Cond.code yX11_init cX11_init 1 (Option.none : Option Jvm.ClassFile.FieldType) ∈ tb := tb_of 174 rfl rfl
set_option maxRecDepth 20000 in
theorem kX9_init : Cond.code yX9_init cX9_init 2 (Option.none : Option Jvm.ClassFile.FieldType) ∈ tb := tb_of 182 rfl rfl
set_option maxRecDepth 20000 in
theorem kX7_init : Cond.code yX7_init cX7_init 2 (Option.none : Option Jvm.ClassFile.FieldType) ∈ tb := tb_of 207 rfl rfl
set_option maxRecDepth 20000 in
theorem kX3_init : Cond.code yX3_init cX3_init 1 (Option.none : Option Jvm.ClassFile.FieldType) ∈ tb := tb_of 213 rfl rfl
set_option maxRecDepth 20000 in
theorem kX4_init : Cond.code yX4_init cX4_init 3 (Option.none : Option Jvm.ClassFile.FieldType) ∈ tb := tb_of 235 rfl rfl
set_option maxRecDepth 20000 in
theorem kX2_init : Cond.code yX2_init cX2_init 3 (Option.none : Option Jvm.ClassFile.FieldType) ∈ tb := tb_of 276 rfl rfl
set_option maxRecDepth 20000 in
theorem kX1_init : Cond.code yX1_init cX1_init 1 (Option.none : Option Jvm.ClassFile.FieldType) ∈ tb := tb_of 292 rfl rfl
set_option maxRecDepth 20000 in
theorem kX8_init : Cond.code yX8_init cX8_init 1 (Option.none : Option Jvm.ClassFile.FieldType) ∈ tb := tb_of 375 rfl rfl
set_option maxRecDepth 20000 in
theorem kX10_init : Cond.code yX10_init cX10_init 2 (Option.none : Option Jvm.ClassFile.FieldType) ∈ tb := tb_of 433 rfl rfl
set_option maxRecDepth 20000 in
theorem kX0_init : Cond.code yX0_init cX0_init 2 (Option.none : Option Jvm.ClassFile.FieldType) ∈ tb := tb_of 459 rfl rfl
set_option maxRecDepth 20000 in
theorem kX5_init : Cond.code yX5_init cX5_init 1 (Option.none : Option Jvm.ClassFile.FieldType) ∈ tb := tb_of 482 rfl rfl
set_option maxRecDepth 20000 in
theorem kX6_init : Cond.code yX6_init cX6_init 2 (Option.none : Option Jvm.ClassFile.FieldType) ∈ tb := tb_of 503 rfl rfl
set_option maxRecDepth 20000 in
theorem kX1_complete : Cond.code yX1_complete cX1_complete 1 (Option.none : Option Jvm.ClassFile.FieldType) ∈ tb := tb_of 531 rfl rfl
set_option maxRecDepth 20000 in
theorem kX1_fallBack : Cond.code yX1_fallBack cX1_fallBack 5 (Option.none : Option Jvm.ClassFile.FieldType) ∈ tb := tb_of 535 rfl rfl
set_option maxRecDepth 20000 in
theorem kX3_holds : Cond.code yX3_holds cX3_holds 2 (Option.some .boolean) ∈ tb := tb_of 539 rfl rfl
set_option maxRecDepth 20000 in
theorem kX3_begin : Cond.code yX3_begin cX3_begin 2 (Option.none : Option Jvm.ClassFile.FieldType) ∈ tb := tb_of 543 rfl rfl
set_option maxRecDepth 20000 in
theorem kX3_put : Cond.code yX3_put cX3_put 2 (Option.none : Option Jvm.ClassFile.FieldType) ∈ tb := tb_of 547 rfl rfl
set_option maxRecDepth 20000 in
theorem kX3_finish : Cond.code yX3_finish cX3_finish 2 (Option.none : Option Jvm.ClassFile.FieldType) ∈ tb := tb_of 551 rfl rfl
set_option maxRecDepth 20000 in
theorem kX8_begin : Cond.code yX8_begin cX8_begin 3 (Option.none : Option Jvm.ClassFile.FieldType) ∈ tb := tb_of 555 rfl rfl
set_option maxRecDepth 20000 in
theorem kX11_feed : Cond.code yX11_feed cX11_feed 6 (Option.some .int) ∈ tb := tb_of 623 rfl rfl
set_option maxRecDepth 20000 in
theorem kX11_refuse : Cond.code yX11_refuse cX11_refuse 2 (Option.some .int) ∈ tb := tb_of 627 rfl rfl
set_option maxRecDepth 20000 in
theorem kX11_putFour : Cond.code yX11_putFour cX11_putFour 3 (Option.none : Option Jvm.ClassFile.FieldType) ∈ tb := tb_of 631 rfl rfl
set_option maxRecDepth 20000 in
theorem kX11_end : Cond.code yX11_end cX11_end 2 (Option.some .boolean) ∈ tb := tb_of 635 rfl rfl
set_option maxRecDepth 20000 in
theorem kX11_church : Cond.code yX11_church cX11_church 3 (Option.some .int) ∈ tb := tb_of 639 rfl rfl
set_option maxRecDepth 20000 in
theorem kX11_takeTape : Cond.code yX11_takeTape cX11_takeTape 2 (Option.some .int) ∈ tb := tb_of 643 rfl rfl
set_option maxRecDepth 20000 in
theorem kX9_open : Cond.code yX9_open cX9_open 2 (Option.none : Option Jvm.ClassFile.FieldType) ∈ tb := tb_of 647 rfl rfl
set_option maxRecDepth 20000 in
theorem kX2_read : Cond.code yX2_read cX2_read 4 (Option.some .int) ∈ tb := tb_of 651 rfl rfl
set_option maxRecDepth 20000 in
theorem kX1_clear : Cond.code yX1_clear cX1_clear 2 (Option.none : Option Jvm.ClassFile.FieldType) ∈ tb := tb_of 655 rfl rfl
set_option maxRecDepth 20000 in
theorem kJ7_fill_53178 : Cond.code yJ7_fill_53178 cJ7_fill_53178 4 (Option.none : Option Jvm.ClassFile.FieldType) ∈ tb := tb_of 658 rfl rfl
set_option maxRecDepth 20000 in
theorem kX3_clear : Cond.code yX3_clear cX3_clear 1 (Option.none : Option Jvm.ClassFile.FieldType) ∈ tb := tb_of 662 rfl rfl
set_option maxRecDepth 20000 in
theorem kX9_sound : Cond.code yX9_sound cX9_sound 1 (Option.some .boolean) ∈ tb := tb_of 667 rfl rfl
set_option maxRecDepth 20000 in
theorem kX9_ended : Cond.code yX9_ended cX9_ended 1 (Option.some .boolean) ∈ tb := tb_of 671 rfl rfl
set_option maxRecDepth 20000 in
theorem kX9_begin : Cond.code yX9_begin cX9_begin 1 (Option.some .int) ∈ tb := tb_of 675 rfl rfl
set_option maxRecDepth 20000 in
theorem kX9_fail : Cond.code yX9_fail cX9_fail 3 (Option.none : Option Jvm.ClassFile.FieldType) ∈ tb := tb_of 680 rfl rfl
set_option maxRecDepth 20000 in
theorem kX2_statement : Cond.code yX2_statement cX2_statement 4 (Option.none : Option Jvm.ClassFile.FieldType) ∈ tb := tb_of 684 rfl rfl
set_option maxRecDepth 20000 in
theorem kX9_wordIn : Cond.code yX9_wordIn cX9_wordIn 2 (Option.some .int) ∈ tb := tb_of 689 rfl rfl
set_option maxRecDepth 20000 in
theorem kX9_wordLength : Cond.code yX9_wordLength cX9_wordLength 3 (Option.some .int) ∈ tb := tb_of 693 rfl rfl
set_option maxRecDepth 20000 in
theorem kX9_byteAt : Cond.code yX9_byteAt cX9_byteAt 2 (Option.some .int) ∈ tb := tb_of 698 rfl rfl
set_option maxRecDepth 20000 in
theorem kX11_isDigit : Cond.code yX11_isDigit cX11_isDigit 1 (Option.some .boolean) ∈ tb := tb_of 701 rfl rfl
set_option maxRecDepth 20000 in
theorem kX11_isLetter : Cond.code yX11_isLetter cX11_isLetter 1 (Option.some .boolean) ∈ tb := tb_of 704 rfl rfl
set_option maxRecDepth 20000 in
theorem kX9_listed : Cond.code yX9_listed cX9_listed 7 (Option.some .int) ∈ tb := tb_of 708 rfl rfl
set_option maxRecDepth 20000 in
theorem kJ0_length_8abf5 : Cond.code yJ0_length_8abf5 cJ0_length_8abf5 1 (Option.some .int) ∈ tb := tb_of 712 rfl rfl
set_option maxRecDepth 20000 in
theorem kJ0_coder_7d493 : Cond.code yJ0_coder_7d493 cJ0_coder_7d493 1 (Option.some .byte) ∈ tb := tb_of 716 rfl rfl
set_option maxRecDepth 20000 in
theorem kJ0_charAt_5068e : Cond.code yJ0_charAt_5068e cJ0_charAt_5068e 2 (Option.some .char) ∈ tb := tb_of 722 rfl rfl
set_option maxRecDepth 20000 in
theorem kJ0_isLatin1_aae02 : Cond.code yJ0_isLatin1_aae02 cJ0_isLatin1_aae02 1 (Option.some .boolean) ∈ tb := tb_of 726 rfl rfl
set_option maxRecDepth 20000 in
theorem kJ1_charAt_3b067 : Cond.code yJ1_charAt_3b067 cJ1_charAt_3b067 2 (Option.some .char) ∈ tb := tb_of 729 rfl rfl
set_option maxRecDepth 20000 in
theorem kJ0_checkIndex_df160 : Cond.code yJ0_checkIndex_df160 cJ0_checkIndex_df160 2 (Option.none : Option Jvm.ClassFile.FieldType) ∈ tb := tb_of 732 rfl rfl
set_option maxRecDepth 20000 in
theorem kJ3_checkIndex_8e157 : Cond.code yJ3_checkIndex_8e157 cJ3_checkIndex_8e157 3 (Option.some .int) ∈ tb := tb_of 737 rfl rfl
set_option maxRecDepth 20000 in
theorem kJ2_charAt_3b067 : Cond.code yJ2_charAt_3b067 cJ2_charAt_3b067 2 (Option.some .char) ∈ tb := tb_of 740 rfl rfl
set_option maxRecDepth 20000 in
theorem kJ2_checkIndex_2214a : Cond.code yJ2_checkIndex_2214a cJ2_checkIndex_2214a 2 (Option.none : Option Jvm.ClassFile.FieldType) ∈ tb := tb_of 743 rfl rfl
set_option maxRecDepth 20000 in
theorem kJ2_length_9d52b : Cond.code yJ2_length_9d52b cJ2_length_9d52b 1 (Option.some .int) ∈ tb := tb_of 746 rfl rfl
set_option maxRecDepth 20000 in
theorem kJ2_getChar_3b067 : Cond.code yJ2_getChar_3b067 cJ2_getChar_3b067 2 (Option.some .char) ∈ tb := tb_of 750 rfl rfl
set_option maxRecDepth 20000 in
theorem kX2_someone : Cond.code yX2_someone cX2_someone 7 (Option.none : Option Jvm.ClassFile.FieldType) ∈ tb := tb_of 760 rfl rfl
set_option maxRecDepth 20000 in
theorem kX9_passWord : Cond.code yX9_passWord cX9_passWord 1 (Option.none : Option Jvm.ClassFile.FieldType) ∈ tb := tb_of 764 rfl rfl
set_option maxRecDepth 20000 in
theorem kX9_takeName : Cond.code yX9_takeName cX9_takeName 4 (Option.none : Option Jvm.ClassFile.FieldType) ∈ tb := tb_of 768 rfl rfl
set_option maxRecDepth 20000 in
theorem kX1_named : Cond.code yX1_named cX1_named 5 (Option.some .int) ∈ tb := tb_of 774 rfl rfl
set_option maxRecDepth 20000 in
theorem kX1_isThere : Cond.code yX1_isThere cX1_isThere 2 (Option.some .boolean) ∈ tb := tb_of 778 rfl rfl
set_option maxRecDepth 20000 in
theorem kX9_needWord : Cond.code yX9_needWord cX9_needWord 2 (Option.none : Option Jvm.ClassFile.FieldType) ∈ tb := tb_of 783 rfl rfl
set_option maxRecDepth 20000 in
theorem kX9_takeWord : Cond.code yX9_takeWord cX9_takeWord 3 (Option.some .boolean) ∈ tb := tb_of 787 rfl rfl
set_option maxRecDepth 20000 in
theorem kX9_takeNumber : Cond.code yX9_takeNumber cX9_takeNumber 6 (Option.some .int) ∈ tb := tb_of 791 rfl rfl
set_option maxRecDepth 20000 in
theorem kX2_kinship : Cond.code yX2_kinship cX2_kinship 5 (Option.none : Option Jvm.ClassFile.FieldType) ∈ tb := tb_of 797 rfl rfl
set_option maxRecDepth 20000 in
theorem kX2_asked : Cond.code yX2_asked cX2_asked 5 (Option.some .int) ∈ tb := tb_of 801 rfl rfl
set_option maxRecDepth 20000 in
theorem kX11_sideOf : Cond.code yX11_sideOf cX11_sideOf 1 (Option.some .int) ∈ tb := tb_of 804 rfl rfl
set_option maxRecDepth 20000 in
theorem kX1_areKin : Cond.code yX1_areKin cX1_areKin 3 (Option.some .boolean) ∈ tb := tb_of 808 rfl rfl
set_option maxRecDepth 20000 in
theorem kX11_cell : Cond.code yX11_cell cX11_cell 2 (Option.some .int) ∈ tb := tb_of 811 rfl rfl
set_option maxRecDepth 20000 in
theorem kX2_bearing : Cond.code yX2_bearing cX2_bearing 5 (Option.none : Option Jvm.ClassFile.FieldType) ∈ tb := tb_of 816 rfl rfl
set_option maxRecDepth 20000 in
theorem kX2_formula : Cond.code yX2_formula cX2_formula 4 (Option.none : Option Jvm.ClassFile.FieldType) ∈ tb := tb_of 820 rfl rfl
set_option maxRecDepth 20000 in
theorem kX4_ofChurch : Cond.code yX4_ofChurch cX4_ofChurch 3 (Option.none : Option Jvm.ClassFile.FieldType) ∈ tb := tb_of 826 rfl rfl
set_option maxRecDepth 20000 in
theorem kX4_test : Cond.code yX4_test cX4_test 3 (Option.none : Option Jvm.ClassFile.FieldType) ∈ tb := tb_of 832 rfl rfl
set_option maxRecDepth 20000 in
theorem kX4_both : Cond.code yX4_both cX4_both 3 (Option.none : Option Jvm.ClassFile.FieldType) ∈ tb := tb_of 836 rfl rfl
set_option maxRecDepth 20000 in
theorem kX4_oneFact : Cond.code yX4_oneFact cX4_oneFact 4 (Option.none : Option Jvm.ClassFile.FieldType) ∈ tb := tb_of 840 rfl rfl
set_option maxRecDepth 20000 in
theorem kX4_mayOpen : Cond.code yX4_mayOpen cX4_mayOpen 3 (Option.some .boolean) ∈ tb := tb_of 847 rfl rfl
set_option maxRecDepth 20000 in
theorem kX9_takeSign : Cond.code yX9_takeSign cX9_takeSign 2 (Option.some .boolean) ∈ tb := tb_of 854 rfl rfl
set_option maxRecDepth 20000 in
theorem kX9_needSign : Cond.code yX9_needSign cX9_needSign 2 (Option.none : Option Jvm.ClassFile.FieldType) ∈ tb := tb_of 859 rfl rfl
set_option maxRecDepth 20000 in
theorem kX4_sum : Cond.code yX4_sum cX4_sum 4 (Option.none : Option Jvm.ClassFile.FieldType) ∈ tb := tb_of 865 rfl rfl
set_option maxRecDepth 20000 in
theorem kX4_product : Cond.code yX4_product cX4_product 4 (Option.none : Option Jvm.ClassFile.FieldType) ∈ tb := tb_of 869 rfl rfl
set_option maxRecDepth 20000 in
theorem kX4_oneOf : Cond.code yX4_oneOf cX4_oneOf 4 (Option.none : Option Jvm.ClassFile.FieldType) ∈ tb := tb_of 873 rfl rfl
set_option maxRecDepth 20000 in
theorem kX4_ofTwoSums : Cond.code yX4_ofTwoSums cX4_ofTwoSums 4 (Option.none : Option Jvm.ClassFile.FieldType) ∈ tb := tb_of 881 rfl rfl
set_option maxRecDepth 20000 in
theorem kX4_ofAnother : Cond.code yX4_ofAnother cX4_ofAnother 4 (Option.none : Option Jvm.ClassFile.FieldType) ∈ tb := tb_of 887 rfl rfl
set_option maxRecDepth 20000 in
theorem kX4_comparison : Cond.code yX4_comparison cX4_comparison 1 (Option.some .int) ∈ tb := tb_of 894 rfl rfl
set_option maxRecDepth 20000 in
theorem kX11_takeFault : Cond.code yX11_takeFault cX11_takeFault 1 (Option.none : Option Jvm.ClassFile.FieldType) ∈ tb := tb_of 904 rfl rfl
set_option maxRecDepth 20000 in
theorem kX6_forget : Cond.code yX6_forget cX6_forget 1 (Option.none : Option Jvm.ClassFile.FieldType) ∈ tb := tb_of 908 rfl rfl
set_option maxRecDepth 20000 in
theorem kX11_fault : Cond.code yX11_fault cX11_fault 2 (Option.some .int) ∈ tb := tb_of 912 rfl rfl
set_option maxRecDepth 20000 in
theorem kX11_has : Cond.code yX11_has cX11_has 2 (Option.some .int) ∈ tb := tb_of 916 rfl rfl
set_option maxRecDepth 20000 in
theorem kX8_wedPairs : Cond.code yX8_wedPairs cX8_wedPairs 3 (Option.some .int) ∈ tb := tb_of 920 rfl rfl
set_option maxRecDepth 20000 in
theorem kX6_keptTold : Cond.code yX6_keptTold cX6_keptTold 1 (Option.some .int) ∈ tb := tb_of 924 rfl rfl
set_option maxRecDepth 20000 in
theorem kJ9_min_7cf53 : Cond.code yJ9_min_7cf53 cJ9_min_7cf53 2 (Option.some .int) ∈ tb := tb_of 927 rfl rfl
set_option maxRecDepth 20000 in
theorem kX11_letter : Cond.code yX11_letter cX11_letter 4 (Option.some .int) ∈ tb := tb_of 931 rfl rfl
set_option maxRecDepth 20000 in
theorem kX1_slot : Cond.code yX1_slot cX1_slot 2 (Option.some .int) ∈ tb := tb_of 935 rfl rfl
set_option maxRecDepth 20000 in
theorem kX1_people : Cond.code yX1_people cX1_people 1 (Option.some .int) ∈ tb := tb_of 939 rfl rfl
set_option maxRecDepth 20000 in
theorem kX11_person : Cond.code yX11_person cX11_person 4 (Option.some .int) ∈ tb := tb_of 943 rfl rfl
set_option maxRecDepth 20000 in
theorem kX1_number : Cond.code yX1_number cX1_number 2 (Option.some .int) ∈ tb := tb_of 947 rfl rfl
set_option maxRecDepth 20000 in
theorem kX8_place : Cond.code yX8_place cX8_place 5 (Option.some .int) ∈ tb := tb_of 952 rfl rfl
set_option maxRecDepth 20000 in
theorem kX10_giveHands : Cond.code yX10_giveHands cX10_giveHands 9 (Option.none : Option Jvm.ClassFile.FieldType) ∈ tb := tb_of 957 rfl rfl
set_option maxRecDepth 20000 in
theorem kX10_gatherFree : Cond.code yX10_gatherFree cX10_gatherFree 6 (Option.some .int) ∈ tb := tb_of 962 rfl rfl
set_option maxRecDepth 20000 in
theorem kJ9_max_7cf53 : Cond.code yJ9_max_7cf53 cJ9_max_7cf53 2 (Option.some .int) ∈ tb := tb_of 965 rfl rfl
set_option maxRecDepth 20000 in
theorem kX11_pair : Cond.code yX11_pair cX11_pair 6 (Option.some .int) ∈ tb := tb_of 969 rfl rfl
set_option maxRecDepth 20000 in
theorem kX1_across : Cond.code yX1_across cX1_across 4 (Option.some .int) ∈ tb := tb_of 973 rfl rfl
set_option maxRecDepth 20000 in
theorem kX10_feel : Cond.code yX10_feel cX10_feel 4 (Option.some .int) ∈ tb := tb_of 980 rfl rfl
set_option maxRecDepth 20000 in
theorem kX3_value : Cond.code yX3_value cX3_value 6 (Option.some .int) ∈ tb := tb_of 985 rfl rfl
set_option maxRecDepth 20000 in
theorem kX3_fact : Cond.code yX3_fact cX3_fact 2 (Option.some .int) ∈ tb := tb_of 989 rfl rfl
set_option maxRecDepth 20000 in
theorem kX3_ofTwo : Cond.code yX3_ofTwo cX3_ofTwo 3 (Option.some .int) ∈ tb := tb_of 992 rfl rfl
set_option maxRecDepth 20000 in
theorem kX3_bounded : Cond.code yX3_bounded cX3_bounded 2 (Option.some .int) ∈ tb := tb_of 995 rfl rfl
set_option maxRecDepth 20000 in
theorem kJ9_floorDiv_7cf53 : Cond.code yJ9_floorDiv_7cf53 cJ9_floorDiv_7cf53 3 (Option.some .int) ∈ tb := tb_of 1002 rfl rfl
set_option maxRecDepth 20000 in
theorem kX3_ofOne : Cond.code yX3_ofOne cX3_ofOne 3 (Option.some .int) ∈ tb := tb_of 1006 rfl rfl
set_option maxRecDepth 20000 in
theorem kX11_within : Cond.code yX11_within cX11_within 2 (Option.some .int) ∈ tb := tb_of 1009 rfl rfl
set_option maxRecDepth 20000 in
theorem kX10_letsGo : Cond.code yX10_letsGo cX10_letsGo 1 (Option.some .boolean) ∈ tb := tb_of 1015 rfl rfl
set_option maxRecDepth 20000 in
theorem kX11_kept : Cond.code yX11_kept cX11_kept 4 (Option.some .int) ∈ tb := tb_of 1020 rfl rfl
set_option maxRecDepth 20000 in
theorem kX6_keptCell : Cond.code yX6_keptCell cX6_keptCell 3 (Option.some .int) ∈ tb := tb_of 1024 rfl rfl
set_option maxRecDepth 20000 in
theorem kX11_later : Cond.code yX11_later cX11_later 4 (Option.some .int) ∈ tb := tb_of 1029 rfl rfl
set_option maxRecDepth 20000 in
theorem kX0_canCome : Cond.code yX0_canCome cX0_canCome 5 (Option.some .boolean) ∈ tb := tb_of 1033 rfl rfl
set_option maxRecDepth 20000 in
theorem kX0_roundsLeft : Cond.code yX0_roundsLeft cX0_roundsLeft 3 (Option.some .int) ∈ tb := tb_of 1037 rfl rfl
set_option maxRecDepth 20000 in
theorem kX0_behind : Cond.code yX0_behind cX0_behind 3 (Option.some (.object "ClothWedding$State")) ∈ tb := tb_of 1041 rfl rfl
set_option maxRecDepth 20000 in
theorem kX8_take : Cond.code yX8_take cX8_take 2 (Option.none : Option Jvm.ClassFile.FieldType) ∈ tb := tb_of 1045 rfl rfl
set_option maxRecDepth 20000 in
theorem kX0_goOn : Cond.code yX0_goOn cX0_goOn 3 (Option.none : Option Jvm.ClassFile.FieldType) ∈ tb := tb_of 1049 rfl rfl
set_option maxRecDepth 20000 in
theorem kX10_go : Cond.code yX10_go cX10_go 8 (Option.some .int) ∈ tb := tb_of 1053 rfl rfl
set_option maxRecDepth 20000 in
theorem kX10_learnt : Cond.code yX10_learnt cX10_learnt 1 (Option.some .int) ∈ tb := tb_of 1060 rfl rfl
set_option maxRecDepth 20000 in
theorem kX10_passTime : Cond.code yX10_passTime cX10_passTime 3 (Option.none : Option Jvm.ClassFile.FieldType) ∈ tb := tb_of 1065 rfl rfl
set_option maxRecDepth 20000 in
theorem kX11_when : Cond.code yX11_when cX11_when 3 (Option.some .int) ∈ tb := tb_of 1071 rfl rfl
set_option maxRecDepth 20000 in
theorem kX0_firstWed : Cond.code yX0_firstWed cX0_firstWed 5 (Option.some .int) ∈ tb := tb_of 1075 rfl rfl
set_option maxRecDepth 20000 in
theorem kX11_pairs : Cond.code yX11_pairs cX11_pairs 2 (Option.some .int) ∈ tb := tb_of 1080 rfl rfl
set_option maxRecDepth 20000 in
theorem kX11_match : Cond.code yX11_match cX11_match 4 (Option.some .int) ∈ tb := tb_of 1084 rfl rfl
set_option maxRecDepth 20000 in
theorem kX5_findMatch : Cond.code yX5_findMatch cX5_findMatch 9 (Option.some .int) ∈ tb := tb_of 1088 rfl rfl
set_option maxRecDepth 20000 in
theorem kX5_withRight : Cond.code yX5_withRight cX5_withRight 7 (Option.some .int) ∈ tb := tb_of 1093 rfl rfl
set_option maxRecDepth 20000 in
theorem kX5_chooseFirst : Cond.code yX5_chooseFirst cX5_chooseFirst 8 (Option.none : Option Jvm.ClassFile.FieldType) ∈ tb := tb_of 1100 rfl rfl
set_option maxRecDepth 20000 in
theorem kX11_steady : Cond.code yX11_steady cX11_steady 3 (Option.some .int) ∈ tb := tb_of 1104 rfl rfl
set_option maxRecDepth 20000 in
theorem kX5_findSteady : Cond.code yX5_findSteady cX5_findSteady 7 (Option.none : Option Jvm.ClassFile.FieldType) ∈ tb := tb_of 1108 rfl rfl
set_option maxRecDepth 20000 in
theorem kX5_nextToAsk : Cond.code yX5_nextToAsk cX5_nextToAsk 7 (Option.some .int) ∈ tb := tb_of 1112 rfl rfl
set_option maxRecDepth 20000 in
theorem kX11_rather : Cond.code yX11_rather cX11_rather 4 (Option.some .int) ∈ tb := tb_of 1116 rfl rfl
set_option maxRecDepth 20000 in
theorem kX5_findRather : Cond.code yX5_findRather cX5_findRather 6 (Option.some .int) ∈ tb := tb_of 1120 rfl rfl
set_option maxRecDepth 20000 in
theorem kX5_prefers : Cond.code yX5_prefers cX5_prefers 4 (Option.some .boolean) ∈ tb := tb_of 1123 rfl rfl
set_option maxRecDepth 20000 in
theorem kX11_teach : Cond.code yX11_teach cX11_teach 4 (Option.some .int) ∈ tb := tb_of 1127 rfl rfl
set_option maxRecDepth 20000 in
theorem kX0_lessons : Cond.code yX0_lessons cX0_lessons 7 (Option.some .int) ∈ tb := tb_of 1131 rfl rfl
set_option maxRecDepth 20000 in
theorem kJ6_bitCount_0f7a4 : Cond.code yJ6_bitCount_0f7a4 cJ6_bitCount_0f7a4 1 (Option.some .int) ∈ tb := tb_of 1135 rfl rfl
set_option maxRecDepth 20000 in
theorem kX0_wedIfTaught : Cond.code yX0_wedIfTaught cX0_wedIfTaught 6 (Option.some .boolean) ∈ tb := tb_of 1142 rfl rfl
set_option maxRecDepth 20000 in
theorem kX11_change : Cond.code yX11_change cX11_change 3 (Option.some .int) ∈ tb := tb_of 1146 rfl rfl
set_option maxRecDepth 20000 in
theorem kX0_findChange : Cond.code yX0_findChange cX0_findChange 7 (Option.none : Option Jvm.ClassFile.FieldType) ∈ tb := tb_of 1150 rfl rfl
set_option maxRecDepth 20000 in
theorem kX0_note : Cond.code yX0_note cX0_note 4 (Option.none : Option Jvm.ClassFile.FieldType) ∈ tb := tb_of 1154 rfl rfl
set_option maxRecDepth 20000 in
theorem kX8_exchange : Cond.code yX8_exchange cX8_exchange 5 (Option.none : Option Jvm.ClassFile.FieldType) ∈ tb := tb_of 1159 rfl rfl
set_option maxRecDepth 20000 in
theorem kX11_odds : Cond.code yX11_odds cX11_odds 3 (Option.some .int) ∈ tb := tb_of 1163 rfl rfl
set_option maxRecDepth 20000 in
theorem kX0_oddsOf : Cond.code yX0_oddsOf cX0_oddsOf 7 (Option.some .int) ∈ tb := tb_of 1168 rfl rfl
set_option maxRecDepth 20000 in
theorem kX0_wedNext : Cond.code yX0_wedNext cX0_wedNext 4 (Option.some .int) ∈ tb := tb_of 1174 rfl rfl
set_option maxRecDepth 20000 in
theorem kX11_see : Cond.code yX11_see cX11_see 3 (Option.some .int) ∈ tb := tb_of 1178 rfl rfl
set_option maxRecDepth 20000 in
theorem kX11_tellsSeen : Cond.code yX11_tellsSeen cX11_tellsSeen 3 (Option.some .boolean) ∈ tb := tb_of 1182 rfl rfl
set_option maxRecDepth 20000 in
theorem kX11_sizes : Cond.code yX11_sizes cX11_sizes 3 (Option.some .int) ∈ tb := tb_of 1186 rfl rfl
set_option maxRecDepth 20000 in
theorem kX0_sizesLeft : Cond.code yX0_sizesLeft cX0_sizesLeft 8 (Option.some .int) ∈ tb := tb_of 1190 rfl rfl
set_option maxRecDepth 20000 in
theorem kX0_isAsSeen : Cond.code yX0_isAsSeen cX0_isAsSeen 7 (Option.some .boolean) ∈ tb := tb_of 1195 rfl rfl
set_option maxRecDepth 20000 in
theorem kX11_tells : Cond.code yX11_tells cX11_tells 5 (Option.some .int) ∈ tb := tb_of 1199 rfl rfl
set_option maxRecDepth 20000 in
theorem kX0_findTelling : Cond.code yX0_findTelling cX0_findTelling 8 (Option.some .boolean) ∈ tb := tb_of 1203 rfl rfl
set_option maxRecDepth 20000 in
theorem kX0_lookAhead : Cond.code yX0_lookAhead cX0_lookAhead 8 (Option.none : Option Jvm.ClassFile.FieldType) ∈ tb := tb_of 1207 rfl rfl
set_option maxRecDepth 20000 in
theorem kX0_mostLeft : Cond.code yX0_mostLeft cX0_mostLeft 6 (Option.some .int) ∈ tb := tb_of 1211 rfl rfl
set_option maxRecDepth 20000 in
theorem kX11_rounds : Cond.code yX11_rounds cX11_rounds 4 (Option.some .int) ∈ tb := tb_of 1215 rfl rfl
set_option maxRecDepth 20000 in
theorem kX6_remember : Cond.code yX6_remember cX6_remember 2 (Option.none : Option Jvm.ClassFile.FieldType) ∈ tb := tb_of 1219 rfl rfl
set_option maxRecDepth 20000 in
theorem kX11_actRound : Cond.code yX11_actRound cX11_actRound 7 (Option.some .int) ∈ tb := tb_of 1224 rfl rfl
set_option maxRecDepth 20000 in
theorem kX6_keep : Cond.code yX6_keep cX6_keep 6 (Option.none : Option Jvm.ClassFile.FieldType) ∈ tb := tb_of 1229 rfl rfl
set_option maxRecDepth 20000 in
theorem kX11_chance : Cond.code yX11_chance cX11_chance 5 (Option.some .int) ∈ tb := tb_of 1233 rfl rfl
set_option maxRecDepth 20000 in
theorem kX11_draw : Cond.code yX11_draw cX11_draw 2 (Option.some .int) ∈ tb := tb_of 1237 rfl rfl
set_option maxRecDepth 20000 in
theorem kX11_part : Cond.code yX11_part cX11_part 4 (Option.some .boolean) ∈ tb := tb_of 1245 rfl rfl
set_option maxRecDepth 20000 in
theorem kX11_learn : Cond.code yX11_learn cX11_learn 4 (Option.some .boolean) ∈ tb := tb_of 1249 rfl rfl
set_option maxRecDepth 20000 in
theorem kX11_setBearing : Cond.code yX11_setBearing cX11_setBearing 7 (Option.some .boolean) ∈ tb := tb_of 1253 rfl rfl
set_option maxRecDepth 20000 in
theorem kX11_like : Cond.code yX11_like cX11_like 4 (Option.some .boolean) ∈ tb := tb_of 1257 rfl rfl
set_option maxRecDepth 20000 in
theorem kX11_swap : Cond.code yX11_swap cX11_swap 4 (Option.some .boolean) ∈ tb := tb_of 1261 rfl rfl
set_option maxRecDepth 20000 in
theorem kX11_isPlace : Cond.code yX11_isPlace cX11_isPlace 3 (Option.some .boolean) ∈ tb := tb_of 1265 rfl rfl
set_option maxRecDepth 20000 in
theorem kX11_undo : Cond.code yX11_undo cX11_undo 1 (Option.some .boolean) ∈ tb := tb_of 1270 rfl rfl
set_option maxRecDepth 20000 in
theorem kX6_recall : Cond.code yX6_recall cX6_recall 2 (Option.some .boolean) ∈ tb := tb_of 1274 rfl rfl
set_option maxRecDepth 20000 in
theorem kX11_seed : Cond.code yX11_seed cX11_seed 2 (Option.some .boolean) ∈ tb := tb_of 1278 rfl rfl
set_option maxRecDepth 20000 in
theorem kX11_ask : Cond.code yX11_ask cX11_ask 1 (Option.some .long) ∈ tb := tb_of 1282 rfl rfl
set_option maxRecDepth 20000 in
theorem kX7_read : Cond.code yX7_read cX7_read 1 (Option.none : Option Jvm.ClassFile.FieldType) ∈ tb := tb_of 1286 rfl rfl
set_option maxRecDepth 20000 in
theorem kX4_ofQuestion : Cond.code yX4_ofQuestion cX4_ofQuestion 2 (Option.none : Option Jvm.ClassFile.FieldType) ∈ tb := tb_of 1291 rfl rfl
set_option maxRecDepth 20000 in
theorem kX7_answer : Cond.code yX7_answer cX7_answer 6 (Option.some .long) ∈ tb := tb_of 1306 rfl rfl
set_option maxRecDepth 20000 in
theorem kX7_gatherFacts : Cond.code yX7_gatherFacts cX7_gatherFacts 7 (Option.none : Option Jvm.ClassFile.FieldType) ∈ tb := tb_of 1312 rfl rfl
set_option maxRecDepth 20000 in
theorem kX7_joined : Cond.code yX7_joined cX7_joined 5 (Option.some .long) ∈ tb := tb_of 1321 rfl rfl
set_option maxRecDepth 20000 in
theorem kJ9_max_f86c9 : Cond.code yJ9_max_f86c9 cJ9_max_f86c9 4 (Option.some .long) ∈ tb := tb_of 1324 rfl rfl
set_option maxRecDepth 20000 in
theorem kJ9_min_f86c9 : Cond.code yJ9_min_f86c9 cJ9_min_f86c9 4 (Option.some .long) ∈ tb := tb_of 1327 rfl rfl
set_option maxRecDepth 20000 in
theorem kX11_image : Cond.code yX11_image cX11_image 1 (Option.some .int) ∈ tb := tb_of 1332 rfl rfl
set_option maxRecDepth 20000 in
theorem kX8_write : Cond.code yX8_write cX8_write 8 (Option.some .int) ∈ tb := tb_of 1336 rfl rfl
set_option maxRecDepth 20000 in
theorem kX8_imageLength : Cond.code yX8_imageLength cX8_imageLength 1 (Option.some .int) ∈ tb := tb_of 1339 rfl rfl
set_option maxRecDepth 20000 in
theorem kX8_writeOne : Cond.code yX8_writeOne cX8_writeOne 8 (Option.some .int) ∈ tb := tb_of 1346 rfl rfl
set_option maxRecDepth 20000 in
theorem kX8_checkByte : Cond.code yX8_checkByte cX8_checkByte 4 (Option.some .int) ∈ tb := tb_of 1349 rfl rfl
set_option maxRecDepth 20000 in
theorem kX11_octet : Cond.code yX11_octet cX11_octet 2 (Option.some .int) ∈ tb := tb_of 1353 rfl rfl
set_option maxRecDepth 20000 in
theorem kX11_on : Cond.code yX11_on cX11_on 3 (Option.some .boolean) ∈ tb := tb_of 1357 rfl rfl
set_option maxRecDepth 20000 in
theorem kX8_read : Cond.code yX8_read cX8_read 7 (Option.some .boolean) ∈ tb := tb_of 1362 rfl rfl
set_option maxRecDepth 20000 in
theorem kX8_readOrders : Cond.code yX8_readOrders cX8_readOrders 7 (Option.some .boolean) ∈ tb := tb_of 1366 rfl rfl
set_option maxRecDepth 20000 in
theorem kX8_readOne : Cond.code yX8_readOne cX8_readOne 10 (Option.some .boolean) ∈ tb := tb_of 1370 rfl rfl
set_option maxRecDepth 20000 in
theorem kX8_weddingsHold : Cond.code yX8_weddingsHold cX8_weddingsHold 4 (Option.some .boolean) ∈ tb := tb_of 1375 rfl rfl
set_option maxRecDepth 20000 in
theorem kX11_status : Cond.code yX11_status cX11_status 2 (Option.some .int) ∈ tb := tb_of 1381 rfl rfl
set_option maxRecDepth 20000 in
theorem kX12_init : Cond.code yX12_init cX12_init 1 (Option.none : Option Jvm.ClassFile.FieldType) ∈ tb := tb_of 1386 rfl rfl
set_option maxRecDepth 20000 in
theorem kX12_feed : Cond.code yX12_feed cX12_feed 8 (Option.some .int) ∈ tb := tb_of 1742 rfl rfl
set_option maxRecDepth 20000 in
theorem kX12_end : Cond.code yX12_end cX12_end 2 (Option.some .boolean) ∈ tb := tb_of 1746 rfl rfl
set_option maxRecDepth 20000 in
theorem kX12_church : Cond.code yX12_church cX12_church 2 (Option.some .int) ∈ tb := tb_of 1750 rfl rfl
set_option maxRecDepth 20000 in
theorem kX12_look : Cond.code yX12_look cX12_look 1 (Option.some .int) ∈ tb := tb_of 1754 rfl rfl
set_option maxRecDepth 20000 in
theorem kX12_statementTold : Cond.code yX12_statementTold cX12_statementTold 2 (Option.none : Option Jvm.ClassFile.FieldType) ∈ tb := tb_of 1758 rfl rfl
set_option maxRecDepth 20000 in
theorem kX12_fail : Cond.code yX12_fail cX12_fail 3 (Option.none : Option Jvm.ClassFile.FieldType) ∈ tb := tb_of 1762 rfl rfl
set_option maxRecDepth 20000 in
theorem kX12_takes : Cond.code yX12_takes cX12_takes 2 (Option.some .boolean) ∈ tb := tb_of 1766 rfl rfl
set_option maxRecDepth 20000 in
theorem kX12_isHere : Cond.code yX12_isHere cX12_isHere 4 (Option.some .boolean) ∈ tb := tb_of 1770 rfl rfl
set_option maxRecDepth 20000 in
theorem kX12_isLetter : Cond.code yX12_isLetter cX12_isLetter 1 (Option.some .boolean) ∈ tb := tb_of 1773 rfl rfl
set_option maxRecDepth 20000 in
theorem kX12_oneTold : Cond.code yX12_oneTold cX12_oneTold 9 (Option.none : Option Jvm.ClassFile.FieldType) ∈ tb := tb_of 1777 rfl rfl
set_option maxRecDepth 20000 in
theorem kX12_name : Cond.code yX12_name cX12_name 3 (Option.some .long) ∈ tb := tb_of 1781 rfl rfl
set_option maxRecDepth 20000 in
theorem kX12_isOwnHere : Cond.code yX12_isOwnHere cX12_isOwnHere 2 (Option.some .boolean) ∈ tb := tb_of 1785 rfl rfl
set_option maxRecDepth 20000 in
theorem kX12_asks : Cond.code yX12_asks cX12_asks 2 (Option.none : Option Jvm.ClassFile.FieldType) ∈ tb := tb_of 1791 rfl rfl
set_option maxRecDepth 20000 in
theorem kX12_number : Cond.code yX12_number cX12_number 5 (Option.some .int) ∈ tb := tb_of 1795 rfl rfl
set_option maxRecDepth 20000 in
theorem kX12_isDigit : Cond.code yX12_isDigit cX12_isDigit 1 (Option.some .boolean) ∈ tb := tb_of 1798 rfl rfl
set_option maxRecDepth 20000 in
theorem kX12_isIn : Cond.code yX12_isIn cX12_isIn 6 (Option.some .boolean) ∈ tb := tb_of 1801 rfl rfl
set_option maxRecDepth 20000 in
theorem kX12_kinTold : Cond.code yX12_kinTold cX12_kinTold 4 (Option.none : Option Jvm.ClassFile.FieldType) ∈ tb := tb_of 1805 rfl rfl
set_option maxRecDepth 20000 in
theorem kX12_named : Cond.code yX12_named cX12_named 6 (Option.some .int) ∈ tb := tb_of 1809 rfl rfl
set_option maxRecDepth 20000 in
theorem kX12_feltTold : Cond.code yX12_feltTold cX12_feltTold 5 (Option.none : Option Jvm.ClassFile.FieldType) ∈ tb := tb_of 1813 rfl rfl
set_option maxRecDepth 20000 in
theorem kX12_codesTold : Cond.code yX12_codesTold cX12_codesTold 4 (Option.none : Option Jvm.ClassFile.FieldType) ∈ tb := tb_of 1817 rfl rfl
set_option maxRecDepth 20000 in
theorem kX12_qTest : Cond.code yX12_qTest cX12_qTest 3 (Option.none : Option Jvm.ClassFile.FieldType) ∈ tb := tb_of 1821 rfl rfl
set_option maxRecDepth 20000 in
theorem kX12_qOpens : Cond.code yX12_qOpens cX12_qOpens 3 (Option.none : Option Jvm.ClassFile.FieldType) ∈ tb := tb_of 1825 rfl rfl
set_option maxRecDepth 20000 in
theorem kX12_qFact : Cond.code yX12_qFact cX12_qFact 2 (Option.none : Option Jvm.ClassFile.FieldType) ∈ tb := tb_of 1829 rfl rfl
set_option maxRecDepth 20000 in
theorem kX12_qCode : Cond.code yX12_qCode cX12_qCode 2 (Option.none : Option Jvm.ClassFile.FieldType) ∈ tb := tb_of 1833 rfl rfl
set_option maxRecDepth 20000 in
theorem kX12_qSums : Cond.code yX12_qSums cX12_qSums 3 (Option.none : Option Jvm.ClassFile.FieldType) ∈ tb := tb_of 1837 rfl rfl
set_option maxRecDepth 20000 in
theorem kX12_qPartTold : Cond.code yX12_qPartTold cX12_qPartTold 6 (Option.none : Option Jvm.ClassFile.FieldType) ∈ tb := tb_of 1841 rfl rfl
set_option maxRecDepth 20000 in
theorem kX12_qWordOf : Cond.code yX12_qWordOf cX12_qWordOf 4 (Option.some .int) ∈ tb := tb_of 1845 rfl rfl
set_option maxRecDepth 20000 in
theorem kX12_qWordHere : Cond.code yX12_qWordHere cX12_qWordHere 1 (Option.some .int) ∈ tb := tb_of 1849 rfl rfl
set_option maxRecDepth 20000 in
theorem kX12_isAllowed : Cond.code yX12_isAllowed cX12_isAllowed 2 (Option.some .boolean) ∈ tb := tb_of 1853 rfl rfl
set_option maxRecDepth 20000 in
theorem kX12_asksSign : Cond.code yX12_asksSign cX12_asksSign 2 (Option.none : Option Jvm.ClassFile.FieldType) ∈ tb := tb_of 1860 rfl rfl
set_option maxRecDepth 20000 in
theorem kX12_takesSign : Cond.code yX12_takesSign cX12_takesSign 2 (Option.some .boolean) ∈ tb := tb_of 1864 rfl rfl
set_option maxRecDepth 20000 in
theorem kX12_qAsksWord : Cond.code yX12_qAsksWord cX12_qAsksWord 2 (Option.none : Option Jvm.ClassFile.FieldType) ∈ tb := tb_of 1868 rfl rfl
set_option maxRecDepth 20000 in
theorem kX12_qEndsPart : Cond.code yX12_qEndsPart cX12_qEndsPart 1 (Option.none : Option Jvm.ClassFile.FieldType) ∈ tb := tb_of 1872 rfl rfl
set_option maxRecDepth 20000 in
theorem kX12_qDrops : Cond.code yX12_qDrops cX12_qDrops 1 (Option.none : Option Jvm.ClassFile.FieldType) ∈ tb := tb_of 1876 rfl rfl
set_option maxRecDepth 20000 in
theorem kX12_qGoesOn : Cond.code yX12_qGoesOn cX12_qGoesOn 2 (Option.some .boolean) ∈ tb := tb_of 1880 rfl rfl
set_option maxRecDepth 20000 in
theorem kX12_qBracket : Cond.code yX12_qBracket cX12_qBracket 2 (Option.some .int) ∈ tb := tb_of 1884 rfl rfl
set_option maxRecDepth 20000 in
theorem kX12_qIsBracket : Cond.code yX12_qIsBracket cX12_qIsBracket 1 (Option.some .boolean) ∈ tb := tb_of 1887 rfl rfl
set_option maxRecDepth 20000 in
theorem kX12_qDropsToBracket : Cond.code yX12_qDropsToBracket cX12_qDropsToBracket 1 (Option.none : Option Jvm.ClassFile.FieldType) ∈ tb := tb_of 1891 rfl rfl
set_option maxRecDepth 20000 in
theorem kX12_qIsOn : Cond.code yX12_qIsOn cX12_qIsOn 2 (Option.some .boolean) ∈ tb := tb_of 1895 rfl rfl
set_option maxRecDepth 20000 in
theorem kX12_qDropsNots : Cond.code yX12_qDropsNots cX12_qDropsNots 1 (Option.none : Option Jvm.ClassFile.FieldType) ∈ tb := tb_of 1899 rfl rfl
set_option maxRecDepth 20000 in
theorem kX12_qGoesOnTest : Cond.code yX12_qGoesOnTest cX12_qGoesOnTest 1 (Option.some .boolean) ∈ tb := tb_of 1903 rfl rfl
set_option maxRecDepth 20000 in
theorem kX12_qHasSquare : Cond.code yX12_qHasSquare cX12_qHasSquare 2 (Option.some .boolean) ∈ tb := tb_of 1907 rfl rfl
set_option maxRecDepth 20000 in
theorem kX12_refuses : Cond.code yX12_refuses cX12_refuses 2 (Option.some .int) ∈ tb := tb_of 1911 rfl rfl
set_option maxRecDepth 20000 in
theorem kX12_stands : Cond.code yX12_stands cX12_stands 2 (Option.none : Option Jvm.ClassFile.FieldType) ∈ tb := tb_of 1915 rfl rfl
set_option maxRecDepth 20000 in
theorem kX12_fault : Cond.code yX12_fault cX12_fault 2 (Option.some .int) ∈ tb := tb_of 1919 rfl rfl
set_option maxRecDepth 20000 in
theorem kX12_has : Cond.code yX12_has cX12_has 2 (Option.some .int) ∈ tb := tb_of 1923 rfl rfl
set_option maxRecDepth 20000 in
theorem kX12_roundMany : Cond.code yX12_roundMany cX12_roundMany 1 (Option.some .int) ∈ tb := tb_of 1927 rfl rfl
set_option maxRecDepth 20000 in
theorem kX12_wedMany : Cond.code yX12_wedMany cX12_wedMany 3 (Option.some .int) ∈ tb := tb_of 1931 rfl rfl
set_option maxRecDepth 20000 in
theorem kX12_letter : Cond.code yX12_letter cX12_letter 8 (Option.some .int) ∈ tb := tb_of 1935 rfl rfl
set_option maxRecDepth 20000 in
theorem kX12_isPerson : Cond.code yX12_isPerson cX12_isPerson 3 (Option.some .boolean) ∈ tb := tb_of 1939 rfl rfl
set_option maxRecDepth 20000 in
theorem kX12_peopleMany : Cond.code yX12_peopleMany cX12_peopleMany 1 (Option.some .int) ∈ tb := tb_of 1943 rfl rfl
set_option maxRecDepth 20000 in
theorem kX12_sideMany : Cond.code yX12_sideMany cX12_sideMany 2 (Option.some .int) ∈ tb := tb_of 1947 rfl rfl
set_option maxRecDepth 20000 in
theorem kX12_codeOf : Cond.code yX12_codeOf cX12_codeOf 2 (Option.some .int) ∈ tb := tb_of 1951 rfl rfl
set_option maxRecDepth 20000 in
theorem kX12_person : Cond.code yX12_person cX12_person 3 (Option.some .int) ∈ tb := tb_of 1955 rfl rfl
set_option maxRecDepth 20000 in
theorem kX12_laysHands : Cond.code yX12_laysHands cX12_laysHands 6 (Option.none : Option Jvm.ClassFile.FieldType) ∈ tb := tb_of 1959 rfl rfl
set_option maxRecDepth 20000 in
theorem kX12_laysWaiting : Cond.code yX12_laysWaiting cX12_laysWaiting 5 (Option.some .int) ∈ tb := tb_of 1963 rfl rfl
set_option maxRecDepth 20000 in
theorem kX12_handOf : Cond.code yX12_handOf cX12_handOf 3 (Option.some .int) ∈ tb := tb_of 1967 rfl rfl
set_option maxRecDepth 20000 in
theorem kX12_wedTo : Cond.code yX12_wedTo cX12_wedTo 2 (Option.some .int) ∈ tb := tb_of 1971 rfl rfl
set_option maxRecDepth 20000 in
theorem kX12_toldOf : Cond.code yX12_toldOf cX12_toldOf 2 (Option.some .int) ∈ tb := tb_of 1975 rfl rfl
set_option maxRecDepth 20000 in
theorem kX12_numberOf : Cond.code yX12_numberOf cX12_numberOf 2 (Option.some .int) ∈ tb := tb_of 1979 rfl rfl
set_option maxRecDepth 20000 in
theorem kX12_waitedOf : Cond.code yX12_waitedOf cX12_waitedOf 2 (Option.some .int) ∈ tb := tb_of 1983 rfl rfl
set_option maxRecDepth 20000 in
theorem kX12_placeOf : Cond.code yX12_placeOf cX12_placeOf 4 (Option.some .int) ∈ tb := tb_of 1987 rfl rfl
set_option maxRecDepth 20000 in
theorem kX12_pair : Cond.code yX12_pair cX12_pair 4 (Option.some .int) ∈ tb := tb_of 1991 rfl rfl
set_option maxRecDepth 20000 in
theorem kX12_areTwo : Cond.code yX12_areTwo cX12_areTwo 5 (Option.some .boolean) ∈ tb := tb_of 1995 rfl rfl
set_option maxRecDepth 20000 in
theorem kX12_sideOf : Cond.code yX12_sideOf cX12_sideOf 2 (Option.some .int) ∈ tb := tb_of 1999 rfl rfl
set_option maxRecDepth 20000 in
theorem kX12_likingOf : Cond.code yX12_likingOf cX12_likingOf 3 (Option.some .int) ∈ tb := tb_of 2003 rfl rfl
set_option maxRecDepth 20000 in
theorem kX12_likingAt : Cond.code yX12_likingAt cX12_likingAt 3 (Option.some .int) ∈ tb := tb_of 2007 rfl rfl
set_option maxRecDepth 20000 in
theorem kX12_knowingOf : Cond.code yX12_knowingOf cX12_knowingOf 3 (Option.some .int) ∈ tb := tb_of 2011 rfl rfl
set_option maxRecDepth 20000 in
theorem kX12_knowingAt : Cond.code yX12_knowingAt cX12_knowingAt 3 (Option.some .int) ∈ tb := tb_of 2015 rfl rfl
set_option maxRecDepth 20000 in
theorem kX12_feltBy : Cond.code yX12_feltBy cX12_feltBy 3 (Option.some .int) ∈ tb := tb_of 2019 rfl rfl
set_option maxRecDepth 20000 in
theorem kX12_asksOf : Cond.code yX12_asksOf cX12_asksOf 3 (Option.none : Option Jvm.ClassFile.FieldType) ∈ tb := tb_of 2023 rfl rfl
set_option maxRecDepth 20000 in
theorem kX12_isCoded : Cond.code yX12_isCoded cX12_isCoded 2 (Option.some .boolean) ∈ tb := tb_of 2027 rfl rfl
set_option maxRecDepth 20000 in
theorem kX12_codesTell : Cond.code yX12_codesTell cX12_codesTell 4 (Option.some .long) ∈ tb := tb_of 2031 rfl rfl
set_option maxRecDepth 20000 in
theorem kX12_qPuts : Cond.code yX12_qPuts cX12_qPuts 3 (Option.none : Option Jvm.ClassFile.FieldType) ∈ tb := tb_of 2035 rfl rfl
set_option maxRecDepth 20000 in
theorem kX12_qPartOf : Cond.code yX12_qPartOf cX12_qPartOf 3 (Option.some .long) ∈ tb := tb_of 2039 rfl rfl
set_option maxRecDepth 20000 in
theorem kX12_qJoins : Cond.code yX12_qJoins cX12_qJoins 6 (Option.none : Option Jvm.ClassFile.FieldType) ∈ tb := tb_of 2043 rfl rfl
set_option maxRecDepth 20000 in
theorem kX12_qClip : Cond.code yX12_qClip cX12_qClip 2 (Option.some .long) ∈ tb := tb_of 2046 rfl rfl
set_option maxRecDepth 20000 in
theorem kX12_qFloor : Cond.code yX12_qFloor cX12_qFloor 6 (Option.some .long) ∈ tb := tb_of 2051 rfl rfl
set_option maxRecDepth 20000 in
theorem kX12_clamp : Cond.code yX12_clamp cX12_clamp 3 (Option.some .int) ∈ tb := tb_of 2054 rfl rfl
set_option maxRecDepth 20000 in
theorem kX12_doesLet : Cond.code yX12_doesLet cX12_doesLet 4 (Option.some .boolean) ∈ tb := tb_of 2058 rfl rfl
set_option maxRecDepth 20000 in
theorem kX12_areKin : Cond.code yX12_areKin cX12_areKin 3 (Option.some .boolean) ∈ tb := tb_of 2062 rfl rfl
set_option maxRecDepth 20000 in
theorem kX12_kept : Cond.code yX12_kept cX12_kept 3 (Option.some .int) ∈ tb := tb_of 2066 rfl rfl
set_option maxRecDepth 20000 in
theorem kX12_later : Cond.code yX12_later cX12_later 4 (Option.some .int) ∈ tb := tb_of 2071 rfl rfl
set_option maxRecDepth 20000 in
theorem kX12_isAhead : Cond.code yX12_isAhead cX12_isAhead 4 (Option.some .boolean) ∈ tb := tb_of 2075 rfl rfl
set_option maxRecDepth 20000 in
theorem kX12_putsAside : Cond.code yX12_putsAside cX12_putsAside 2 (Option.none : Option Jvm.ClassFile.FieldType) ∈ tb := tb_of 2079 rfl rfl
set_option maxRecDepth 20000 in
theorem kX12_roundsGo : Cond.code yX12_roundsGo cX12_roundsGo 3 (Option.none : Option Jvm.ClassFile.FieldType) ∈ tb := tb_of 2083 rfl rfl
set_option maxRecDepth 20000 in
theorem kX12_roundGoes : Cond.code yX12_roundGoes cX12_roundGoes 3 (Option.none : Option Jvm.ClassFile.FieldType) ∈ tb := tb_of 2087 rfl rfl
set_option maxRecDepth 20000 in
theorem kX12_learnt : Cond.code yX12_learnt cX12_learnt 4 (Option.some .int) ∈ tb := tb_of 2091 rfl rfl
set_option maxRecDepth 20000 in
theorem kX12_weds : Cond.code yX12_weds cX12_weds 3 (Option.none : Option Jvm.ClassFile.FieldType) ∈ tb := tb_of 2095 rfl rfl
set_option maxRecDepth 20000 in
theorem kX12_isKept : Cond.code yX12_isKept cX12_isKept 4 (Option.none : Option Jvm.ClassFile.FieldType) ∈ tb := tb_of 2099 rfl rfl
set_option maxRecDepth 20000 in
theorem kX12_takesBack : Cond.code yX12_takesBack cX12_takesBack 1 (Option.none : Option Jvm.ClassFile.FieldType) ∈ tb := tb_of 2103 rfl rfl
set_option maxRecDepth 20000 in
theorem kX12_triesAnew : Cond.code yX12_triesAnew cX12_triesAnew 2 (Option.none : Option Jvm.ClassFile.FieldType) ∈ tb := tb_of 2107 rfl rfl
set_option maxRecDepth 20000 in
theorem kX12_when : Cond.code yX12_when cX12_when 4 (Option.some .int) ∈ tb := tb_of 2111 rfl rfl
set_option maxRecDepth 20000 in
theorem kX12_pairs : Cond.code yX12_pairs cX12_pairs 3 (Option.some .int) ∈ tb := tb_of 2115 rfl rfl
set_option maxRecDepth 20000 in
theorem kX12_match : Cond.code yX12_match cX12_match 5 (Option.some .int) ∈ tb := tb_of 2119 rfl rfl
set_option maxRecDepth 20000 in
theorem kX12_laysMatch : Cond.code yX12_laysMatch cX12_laysMatch 5 (Option.none : Option Jvm.ClassFile.FieldType) ∈ tb := tb_of 2123 rfl rfl
set_option maxRecDepth 20000 in
theorem kX12_matchBy : Cond.code yX12_matchBy cX12_matchBy 4 (Option.some .int) ∈ tb := tb_of 2127 rfl rfl
set_option maxRecDepth 20000 in
theorem kX12_steady : Cond.code yX12_steady cX12_steady 3 (Option.some .int) ∈ tb := tb_of 2131 rfl rfl
set_option maxRecDepth 20000 in
theorem kX12_isAsking : Cond.code yX12_isAsking cX12_isAsking 4 (Option.some .boolean) ∈ tb := tb_of 2135 rfl rfl
set_option maxRecDepth 20000 in
theorem kX12_nextFor : Cond.code yX12_nextFor cX12_nextFor 4 (Option.some .int) ∈ tb := tb_of 2139 rfl rfl
set_option maxRecDepth 20000 in
theorem kX12_rather : Cond.code yX12_rather cX12_rather 6 (Option.some .int) ∈ tb := tb_of 2143 rfl rfl
set_option maxRecDepth 20000 in
theorem kX12_isBetter : Cond.code yX12_isBetter cX12_isBetter 3 (Option.some .boolean) ∈ tb := tb_of 2147 rfl rfl
set_option maxRecDepth 20000 in
theorem kX12_teach : Cond.code yX12_teach cX12_teach 8 (Option.some .int) ∈ tb := tb_of 2151 rfl rfl
set_option maxRecDepth 20000 in
theorem kX12_bits : Cond.code yX12_bits cX12_bits 3 (Option.some .int) ∈ tb := tb_of 2154 rfl rfl
set_option maxRecDepth 20000 in
theorem kX12_change : Cond.code yX12_change cX12_change 11 (Option.some .int) ∈ tb := tb_of 2158 rfl rfl
set_option maxRecDepth 20000 in
theorem kX12_exchanges : Cond.code yX12_exchanges cX12_exchanges 6 (Option.none : Option Jvm.ClassFile.FieldType) ∈ tb := tb_of 2162 rfl rfl
set_option maxRecDepth 20000 in
theorem kX12_odds : Cond.code yX12_odds cX12_odds 4 (Option.some .int) ∈ tb := tb_of 2166 rfl rfl
set_option maxRecDepth 20000 in
theorem kX12_see : Cond.code yX12_see cX12_see 4 (Option.some .int) ∈ tb := tb_of 2170 rfl rfl
set_option maxRecDepth 20000 in
theorem kX12_sizes : Cond.code yX12_sizes cX12_sizes 2 (Option.some .int) ∈ tb := tb_of 2174 rfl rfl
set_option maxRecDepth 20000 in
theorem kX12_sizeSet : Cond.code yX12_sizeSet cX12_sizeSet 7 (Option.some .int) ∈ tb := tb_of 2178 rfl rfl
set_option maxRecDepth 20000 in
theorem kX12_wedSet : Cond.code yX12_wedSet cX12_wedSet 3 (Option.some .int) ∈ tb := tb_of 2182 rfl rfl
set_option maxRecDepth 20000 in
theorem kX12_isAsSeen : Cond.code yX12_isAsSeen cX12_isAsSeen 4 (Option.some .boolean) ∈ tb := tb_of 2186 rfl rfl
set_option maxRecDepth 20000 in
theorem kX12_tells : Cond.code yX12_tells cX12_tells 10 (Option.some .int) ∈ tb := tb_of 2190 rfl rfl
set_option maxRecDepth 20000 in
theorem kX12_mostAlike : Cond.code yX12_mostAlike cX12_mostAlike 6 (Option.some .int) ∈ tb := tb_of 2195 rfl rfl
set_option maxRecDepth 20000 in
theorem kX12_undo : Cond.code yX12_undo cX12_undo 2 (Option.some .boolean) ∈ tb := tb_of 2199 rfl rfl
set_option maxRecDepth 20000 in
theorem kX12_rounds : Cond.code yX12_rounds cX12_rounds 2 (Option.some .int) ∈ tb := tb_of 2203 rfl rfl
set_option maxRecDepth 20000 in
theorem kX12_keeps : Cond.code yX12_keeps cX12_keeps 2 (Option.none : Option Jvm.ClassFile.FieldType) ∈ tb := tb_of 2207 rfl rfl
set_option maxRecDepth 20000 in
theorem kX12_seed : Cond.code yX12_seed cX12_seed 2 (Option.some .boolean) ∈ tb := tb_of 2211 rfl rfl
set_option maxRecDepth 20000 in
theorem kX12_isRefused : Cond.code yX12_isRefused cX12_isRefused 2 (Option.some .boolean) ∈ tb := tb_of 2215 rfl rfl
set_option maxRecDepth 20000 in
theorem kX12_chance : Cond.code yX12_chance cX12_chance 5 (Option.some .int) ∈ tb := tb_of 2219 rfl rfl
set_option maxRecDepth 20000 in
theorem kX12_drawOf : Cond.code yX12_drawOf cX12_drawOf 2 (Option.some .int) ∈ tb := tb_of 2223 rfl rfl
set_option maxRecDepth 20000 in
theorem kX12_part : Cond.code yX12_part cX12_part 4 (Option.some .boolean) ∈ tb := tb_of 2231 rfl rfl
set_option maxRecDepth 20000 in
theorem kX12_learn : Cond.code yX12_learn cX12_learn 5 (Option.some .boolean) ∈ tb := tb_of 2235 rfl rfl
set_option maxRecDepth 20000 in
theorem kX12_isChanged : Cond.code yX12_isChanged cX12_isChanged 4 (Option.some .boolean) ∈ tb := tb_of 2240 rfl rfl
set_option maxRecDepth 20000 in
theorem kX12_like : Cond.code yX12_like cX12_like 5 (Option.some .boolean) ∈ tb := tb_of 2244 rfl rfl
set_option maxRecDepth 20000 in
theorem kX12_swap : Cond.code yX12_swap cX12_swap 4 (Option.some .boolean) ∈ tb := tb_of 2248 rfl rfl
set_option maxRecDepth 20000 in
theorem kX12_ask : Cond.code yX12_ask cX12_ask 3 (Option.some .long) ∈ tb := tb_of 2252 rfl rfl
set_option maxRecDepth 20000 in
theorem kX12_qKind : Cond.code yX12_qKind cX12_qKind 2 (Option.some .int) ∈ tb := tb_of 2256 rfl rfl
set_option maxRecDepth 20000 in
theorem kX12_qTold : Cond.code yX12_qTold cX12_qTold 4 (Option.some .long) ∈ tb := tb_of 2262 rfl rfl
set_option maxRecDepth 20000 in
theorem kX12_qOf : Cond.code yX12_qOf cX12_qOf 5 (Option.some .long) ∈ tb := tb_of 2266 rfl rfl
set_option maxRecDepth 20000 in
theorem kX12_qTakes : Cond.code yX12_qTakes cX12_qTakes 6 (Option.none : Option Jvm.ClassFile.FieldType) ∈ tb := tb_of 2270 rfl rfl
set_option maxRecDepth 20000 in
theorem kX12_octet : Cond.code yX12_octet cX12_octet 2 (Option.some .int) ∈ tb := tb_of 2274 rfl rfl
set_option maxRecDepth 20000 in
theorem kX12_status : Cond.code yX12_status cX12_status 2 (Option.some .int) ∈ tb := tb_of 2278 rfl rfl
set_option maxRecDepth 20000 in
theorem kX12_image : Cond.code yX12_image cX12_image 4 (Option.some .int) ∈ tb := tb_of 2282 rfl rfl
set_option maxRecDepth 20000 in
theorem kX12_writesTwo : Cond.code yX12_writesTwo cX12_writesTwo 2 (Option.none : Option Jvm.ClassFile.FieldType) ∈ tb := tb_of 2286 rfl rfl
set_option maxRecDepth 20000 in
theorem kX12_writes : Cond.code yX12_writes cX12_writes 2 (Option.none : Option Jvm.ClassFile.FieldType) ∈ tb := tb_of 2290 rfl rfl
set_option maxRecDepth 20000 in
theorem kX12_checked : Cond.code yX12_checked cX12_checked 4 (Option.some .int) ∈ tb := tb_of 2293 rfl rfl
set_option maxRecDepth 20000 in
theorem kX12_on : Cond.code yX12_on cX12_on 6 (Option.some .boolean) ∈ tb := tb_of 2297 rfl rfl
set_option maxRecDepth 20000 in
theorem kX12_isImage : Cond.code yX12_isImage cX12_isImage 3 (Option.some .boolean) ∈ tb := tb_of 2301 rfl rfl
set_option maxRecDepth 20000 in
theorem kX12_toldAt : Cond.code yX12_toldAt cX12_toldAt 4 (Option.some .int) ∈ tb := tb_of 2305 rfl rfl
set_option maxRecDepth 20000 in
theorem kX12_bytesOf : Cond.code yX12_bytesOf cX12_bytesOf 2 (Option.some .int) ∈ tb := tb_of 2309 rfl rfl
set_option maxRecDepth 20000 in
theorem kX12_twoAt : Cond.code yX12_twoAt cX12_twoAt 2 (Option.some .int) ∈ tb := tb_of 2313 rfl rfl
set_option maxRecDepth 20000 in
theorem kX12_areOrders : Cond.code yX12_areOrders cX12_areOrders 4 (Option.some .boolean) ∈ tb := tb_of 2317 rfl rfl
set_option maxRecDepth 20000 in
theorem kX12_isToldOf : Cond.code yX12_isToldOf cX12_isToldOf 5 (Option.some .boolean) ∈ tb := tb_of 2321 rfl rfl
