/-! THE LAW: words (written by wip/gen/law.py) -/
theorem lk_1 : Cond.initialized RX11 ∈ BW := bw_of (i := 143) (by decide +kernel) (by decide +kernel)
theorem lk_17 : Cond.initialized RX12 ∈ BW := bw_of (i := 159) (by decide +kernel) (by decide +kernel)
theorem lk_488 : Cond.methodLink RL 13 yX11_status ∈ BW := bw_of (i := 630) (by decide +kernel) (by decide +kernel)
theorem lk_489 : Cond.instanceMethod yX11_status ∈ BW := bw_of (i := 631) (by decide +kernel) (by decide +kernel)
theorem lk_490 : Cond.selects RX11 yX11_status yX11_status ∈ BW := bw_of (i := 632) (by decide +kernel) (by decide +kernel)
theorem lk_491 : Cond.code yX11_status cX11_status 1 (some .int) ∈ BW := bw_of (i := 633) (by decide +kernel) (by decide +kernel)
theorem lk_492 : Cond.methodLink RL 18 yX11_top ∈ BW := bw_of (i := 634) (by decide +kernel) (by decide +kernel)
theorem lk_493 : Cond.instanceMethod yX11_top ∈ BW := bw_of (i := 635) (by decide +kernel) (by decide +kernel)
theorem lk_494 : Cond.selects RX11 yX11_top yX11_top ∈ BW := bw_of (i := 636) (by decide +kernel) (by decide +kernel)
theorem lk_495 : Cond.code yX11_top cX11_top 1 (some .long) ∈ BW := bw_of (i := 637) (by decide +kernel) (by decide +kernel)
theorem lk_496 : Cond.methodLink RL 23 yX11_bottom ∈ BW := bw_of (i := 638) (by decide +kernel) (by decide +kernel)
theorem lk_497 : Cond.instanceMethod yX11_bottom ∈ BW := bw_of (i := 639) (by decide +kernel) (by decide +kernel)
theorem lk_498 : Cond.selects RX11 yX11_bottom yX11_bottom ∈ BW := bw_of (i := 640) (by decide +kernel) (by decide +kernel)
theorem lk_499 : Cond.code yX11_bottom cX11_bottom 1 (some .long) ∈ BW := bw_of (i := 641) (by decide +kernel) (by decide +kernel)
theorem lk_500 : Cond.methodLink RL 27 yX11_tray ∈ BW := bw_of (i := 642) (by decide +kernel) (by decide +kernel)
theorem lk_501 : Cond.instanceMethod yX11_tray ∈ BW := bw_of (i := 643) (by decide +kernel) (by decide +kernel)
theorem lk_502 : Cond.selects RX11 yX11_tray yX11_tray ∈ BW := bw_of (i := 644) (by decide +kernel) (by decide +kernel)
theorem lk_503 : Cond.code yX11_tray cX11_tray 4 (some .boolean) ∈ BW := bw_of (i := 645) (by decide +kernel) (by decide +kernel)
theorem lk_523 : Cond.methodLink RL 34 yX11_write ∈ BW := bw_of (i := 665) (by decide +kernel) (by decide +kernel)
theorem lk_524 : Cond.instanceMethod yX11_write ∈ BW := bw_of (i := 666) (by decide +kernel) (by decide +kernel)
theorem lk_525 : Cond.selects RX11 yX11_write yX11_write ∈ BW := bw_of (i := 667) (by decide +kernel) (by decide +kernel)
theorem lk_526 : Cond.code yX11_write cX11_write 6 (some .boolean) ∈ BW := bw_of (i := 668) (by decide +kernel) (by decide +kernel)
theorem lk_548 : Cond.methodLink RL 39 yX11_read ∈ BW := bw_of (i := 690) (by decide +kernel) (by decide +kernel)
theorem lk_549 : Cond.instanceMethod yX11_read ∈ BW := bw_of (i := 691) (by decide +kernel) (by decide +kernel)
theorem lk_550 : Cond.selects RX11 yX11_read yX11_read ∈ BW := bw_of (i := 692) (by decide +kernel) (by decide +kernel)
theorem lk_551 : Cond.code yX11_read cX11_read 4 (some .long) ∈ BW := bw_of (i := 693) (by decide +kernel) (by decide +kernel)
theorem lk_560 : Cond.methodLink RL 44 yX11_pour ∈ BW := bw_of (i := 702) (by decide +kernel) (by decide +kernel)
theorem lk_561 : Cond.instanceMethod yX11_pour ∈ BW := bw_of (i := 703) (by decide +kernel) (by decide +kernel)
theorem lk_562 : Cond.selects RX11 yX11_pour yX11_pour ∈ BW := bw_of (i := 704) (by decide +kernel) (by decide +kernel)
theorem lk_563 : Cond.code yX11_pour cX11_pour 8 (some .boolean) ∈ BW := bw_of (i := 705) (by decide +kernel) (by decide +kernel)
theorem lk_574 : Cond.methodLink RL 49 yX11_feed ∈ BW := bw_of (i := 716) (by decide +kernel) (by decide +kernel)
theorem lk_575 : Cond.instanceMethod yX11_feed ∈ BW := bw_of (i := 717) (by decide +kernel) (by decide +kernel)
theorem lk_576 : Cond.selects RX11 yX11_feed yX11_feed ∈ BW := bw_of (i := 718) (by decide +kernel) (by decide +kernel)
theorem lk_577 : Cond.code yX11_feed cX11_feed 6 (some .int) ∈ BW := bw_of (i := 719) (by decide +kernel) (by decide +kernel)
theorem lk_589 : Cond.methodLink RL 54 yX11_court ∈ BW := bw_of (i := 731) (by decide +kernel) (by decide +kernel)
theorem lk_590 : Cond.instanceMethod yX11_court ∈ BW := bw_of (i := 732) (by decide +kernel) (by decide +kernel)
theorem lk_591 : Cond.selects RX11 yX11_court yX11_court ∈ BW := bw_of (i := 733) (by decide +kernel) (by decide +kernel)
theorem lk_592 : Cond.code yX11_court cX11_court 4 (some .int) ∈ BW := bw_of (i := 734) (by decide +kernel) (by decide +kernel)
theorem lk_759 : Cond.methodLink RL 59 yX11_weeks ∈ BW := bw_of (i := 901) (by decide +kernel) (by decide +kernel)
theorem lk_760 : Cond.instanceMethod yX11_weeks ∈ BW := bw_of (i := 902) (by decide +kernel) (by decide +kernel)
theorem lk_761 : Cond.selects RX11 yX11_weeks yX11_weeks ∈ BW := bw_of (i := 903) (by decide +kernel) (by decide +kernel)
theorem lk_762 : Cond.code yX11_weeks cX11_weeks 3 (some .int) ∈ BW := bw_of (i := 904) (by decide +kernel) (by decide +kernel)
theorem lk_801 : Cond.methodLink RL 63 yX11_fault ∈ BW := bw_of (i := 943) (by decide +kernel) (by decide +kernel)
theorem lk_802 : Cond.instanceMethod yX11_fault ∈ BW := bw_of (i := 944) (by decide +kernel) (by decide +kernel)
theorem lk_803 : Cond.selects RX11 yX11_fault yX11_fault ∈ BW := bw_of (i := 945) (by decide +kernel) (by decide +kernel)
theorem lk_804 : Cond.code yX11_fault cX11_fault 2 (some .int) ∈ BW := bw_of (i := 946) (by decide +kernel) (by decide +kernel)
theorem lk_805 : Cond.methodLink RL 67 yX11_told ∈ BW := bw_of (i := 947) (by decide +kernel) (by decide +kernel)
theorem lk_806 : Cond.instanceMethod yX11_told ∈ BW := bw_of (i := 948) (by decide +kernel) (by decide +kernel)
theorem lk_807 : Cond.selects RX11 yX11_told yX11_told ∈ BW := bw_of (i := 949) (by decide +kernel) (by decide +kernel)
theorem lk_808 : Cond.code yX11_told cX11_told 2 (some .int) ∈ BW := bw_of (i := 950) (by decide +kernel) (by decide +kernel)
theorem lk_826 : Cond.methodLink RL 71 yX11_sense ∈ BW := bw_of (i := 968) (by decide +kernel) (by decide +kernel)
theorem lk_827 : Cond.instanceMethod yX11_sense ∈ BW := bw_of (i := 969) (by decide +kernel) (by decide +kernel)
theorem lk_828 : Cond.selects RX11 yX11_sense yX11_sense ∈ BW := bw_of (i := 970) (by decide +kernel) (by decide +kernel)
theorem lk_829 : Cond.code yX11_sense cX11_sense 2 (some .int) ∈ BW := bw_of (i := 971) (by decide +kernel) (by decide +kernel)
theorem lk_839 : Cond.methodLink RL 75 yX11_rule ∈ BW := bw_of (i := 981) (by decide +kernel) (by decide +kernel)
theorem lk_840 : Cond.instanceMethod yX11_rule ∈ BW := bw_of (i := 982) (by decide +kernel) (by decide +kernel)
theorem lk_841 : Cond.selects RX11 yX11_rule yX11_rule ∈ BW := bw_of (i := 983) (by decide +kernel) (by decide +kernel)
theorem lk_842 : Cond.code yX11_rule cX11_rule 4 (some .int) ∈ BW := bw_of (i := 984) (by decide +kernel) (by decide +kernel)
theorem lk_848 : Cond.methodLink RL 80 yX11_person ∈ BW := bw_of (i := 990) (by decide +kernel) (by decide +kernel)
theorem lk_849 : Cond.instanceMethod yX11_person ∈ BW := bw_of (i := 991) (by decide +kernel) (by decide +kernel)
theorem lk_850 : Cond.selects RX11 yX11_person yX11_person ∈ BW := bw_of (i := 992) (by decide +kernel) (by decide +kernel)
theorem lk_851 : Cond.code yX11_person cX11_person 4 (some .int) ∈ BW := bw_of (i := 993) (by decide +kernel) (by decide +kernel)
theorem lk_853 : Cond.methodLink RL 84 yX11_reader ∈ BW := bw_of (i := 995) (by decide +kernel) (by decide +kernel)
theorem lk_854 : Cond.instanceMethod yX11_reader ∈ BW := bw_of (i := 996) (by decide +kernel) (by decide +kernel)
theorem lk_855 : Cond.selects RX11 yX11_reader yX11_reader ∈ BW := bw_of (i := 997) (by decide +kernel) (by decide +kernel)
theorem lk_856 : Cond.code yX11_reader cX11_reader 3 (some .int) ∈ BW := bw_of (i := 998) (by decide +kernel) (by decide +kernel)
theorem lk_858 : Cond.methodLink RL 88 yX11_word ∈ BW := bw_of (i := 1000) (by decide +kernel) (by decide +kernel)
theorem lk_859 : Cond.instanceMethod yX11_word ∈ BW := bw_of (i := 1001) (by decide +kernel) (by decide +kernel)
theorem lk_860 : Cond.selects RX11 yX11_word yX11_word ∈ BW := bw_of (i := 1002) (by decide +kernel) (by decide +kernel)
theorem lk_861 : Cond.code yX11_word cX11_word 3 (some .int) ∈ BW := bw_of (i := 1003) (by decide +kernel) (by decide +kernel)
theorem lk_862 : Cond.methodLink RL 92 yX11_sit ∈ BW := bw_of (i := 1004) (by decide +kernel) (by decide +kernel)
theorem lk_863 : Cond.instanceMethod yX11_sit ∈ BW := bw_of (i := 1005) (by decide +kernel) (by decide +kernel)
theorem lk_864 : Cond.selects RX11 yX11_sit yX11_sit ∈ BW := bw_of (i := 1006) (by decide +kernel) (by decide +kernel)
theorem lk_865 : Cond.code yX11_sit cX11_sit 2 (some .int) ∈ BW := bw_of (i := 1007) (by decide +kernel) (by decide +kernel)
theorem lk_890 : Cond.methodLink RL 96 yX11_term ∈ BW := bw_of (i := 1032) (by decide +kernel) (by decide +kernel)
theorem lk_891 : Cond.instanceMethod yX11_term ∈ BW := bw_of (i := 1033) (by decide +kernel) (by decide +kernel)
theorem lk_892 : Cond.selects RX11 yX11_term yX11_term ∈ BW := bw_of (i := 1034) (by decide +kernel) (by decide +kernel)
theorem lk_893 : Cond.code yX11_term cX11_term 2 (some .int) ∈ BW := bw_of (i := 1035) (by decide +kernel) (by decide +kernel)
theorem lk_906 : Cond.methodLink RL 100 yX11_meal ∈ BW := bw_of (i := 1048) (by decide +kernel) (by decide +kernel)
theorem lk_907 : Cond.instanceMethod yX11_meal ∈ BW := bw_of (i := 1049) (by decide +kernel) (by decide +kernel)
theorem lk_908 : Cond.selects RX11 yX11_meal yX11_meal ∈ BW := bw_of (i := 1050) (by decide +kernel) (by decide +kernel)
theorem lk_909 : Cond.code yX11_meal cX11_meal 3 (some .int) ∈ BW := bw_of (i := 1051) (by decide +kernel) (by decide +kernel)
theorem lk_914 : Cond.methodLink RL 104 yX11_scent ∈ BW := bw_of (i := 1056) (by decide +kernel) (by decide +kernel)
theorem lk_915 : Cond.instanceMethod yX11_scent ∈ BW := bw_of (i := 1057) (by decide +kernel) (by decide +kernel)
theorem lk_916 : Cond.selects RX11 yX11_scent yX11_scent ∈ BW := bw_of (i := 1058) (by decide +kernel) (by decide +kernel)
theorem lk_917 : Cond.code yX11_scent cX11_scent 4 (some .boolean) ∈ BW := bw_of (i := 1059) (by decide +kernel) (by decide +kernel)
theorem lk_922 : Cond.methodLink RL 109 yX11_night ∈ BW := bw_of (i := 1064) (by decide +kernel) (by decide +kernel)
theorem lk_923 : Cond.instanceMethod yX11_night ∈ BW := bw_of (i := 1065) (by decide +kernel) (by decide +kernel)
theorem lk_924 : Cond.selects RX11 yX11_night yX11_night ∈ BW := bw_of (i := 1066) (by decide +kernel) (by decide +kernel)
theorem lk_925 : Cond.code yX11_night cX11_night 2 (some .int) ∈ BW := bw_of (i := 1067) (by decide +kernel) (by decide +kernel)
theorem lk_930 : Cond.methodLink RL 113 yX11_appeal ∈ BW := bw_of (i := 1072) (by decide +kernel) (by decide +kernel)
theorem lk_931 : Cond.instanceMethod yX11_appeal ∈ BW := bw_of (i := 1073) (by decide +kernel) (by decide +kernel)
theorem lk_932 : Cond.selects RX11 yX11_appeal yX11_appeal ∈ BW := bw_of (i := 1074) (by decide +kernel) (by decide +kernel)
theorem lk_933 : Cond.code yX11_appeal cX11_appeal 4 (some .int) ∈ BW := bw_of (i := 1075) (by decide +kernel) (by decide +kernel)
theorem lk_934 : Cond.methodLink RL 117 yX11_blame ∈ BW := bw_of (i := 1076) (by decide +kernel) (by decide +kernel)
theorem lk_935 : Cond.instanceMethod yX11_blame ∈ BW := bw_of (i := 1077) (by decide +kernel) (by decide +kernel)
theorem lk_936 : Cond.selects RX11 yX11_blame yX11_blame ∈ BW := bw_of (i := 1078) (by decide +kernel) (by decide +kernel)
theorem lk_937 : Cond.code yX11_blame cX11_blame 5 (some .boolean) ∈ BW := bw_of (i := 1079) (by decide +kernel) (by decide +kernel)
theorem lk_938 : Cond.methodLink RL 122 yX11_reread ∈ BW := bw_of (i := 1080) (by decide +kernel) (by decide +kernel)
theorem lk_939 : Cond.instanceMethod yX11_reread ∈ BW := bw_of (i := 1081) (by decide +kernel) (by decide +kernel)
theorem lk_940 : Cond.selects RX11 yX11_reread yX11_reread ∈ BW := bw_of (i := 1082) (by decide +kernel) (by decide +kernel)
theorem lk_941 : Cond.code yX11_reread cX11_reread 3 (some .boolean) ∈ BW := bw_of (i := 1083) (by decide +kernel) (by decide +kernel)
theorem lk_943 : Cond.methodLink RL 127 yX11_enact ∈ BW := bw_of (i := 1085) (by decide +kernel) (by decide +kernel)
theorem lk_944 : Cond.instanceMethod yX11_enact ∈ BW := bw_of (i := 1086) (by decide +kernel) (by decide +kernel)
theorem lk_945 : Cond.selects RX11 yX11_enact yX11_enact ∈ BW := bw_of (i := 1087) (by decide +kernel) (by decide +kernel)
theorem lk_946 : Cond.code yX11_enact cX11_enact 7 (some .int) ∈ BW := bw_of (i := 1088) (by decide +kernel) (by decide +kernel)
theorem lk_950 : Cond.methodLink RL 132 yX11_repeal ∈ BW := bw_of (i := 1092) (by decide +kernel) (by decide +kernel)
theorem lk_951 : Cond.instanceMethod yX11_repeal ∈ BW := bw_of (i := 1093) (by decide +kernel) (by decide +kernel)
theorem lk_952 : Cond.selects RX11 yX11_repeal yX11_repeal ∈ BW := bw_of (i := 1094) (by decide +kernel) (by decide +kernel)
theorem lk_953 : Cond.code yX11_repeal cX11_repeal 2 (some .int) ∈ BW := bw_of (i := 1095) (by decide +kernel) (by decide +kernel)
theorem lk_962 : Cond.methodLink RL 136 yX11_strain ∈ BW := bw_of (i := 1104) (by decide +kernel) (by decide +kernel)
theorem lk_963 : Cond.instanceMethod yX11_strain ∈ BW := bw_of (i := 1105) (by decide +kernel) (by decide +kernel)
theorem lk_964 : Cond.selects RX11 yX11_strain yX11_strain ∈ BW := bw_of (i := 1106) (by decide +kernel) (by decide +kernel)
theorem lk_965 : Cond.code yX11_strain cX11_strain 3 (some .boolean) ∈ BW := bw_of (i := 1107) (by decide +kernel) (by decide +kernel)
theorem lk_966 : Cond.methodLink RL 140 yX11_cue ∈ BW := bw_of (i := 1108) (by decide +kernel) (by decide +kernel)
theorem lk_967 : Cond.instanceMethod yX11_cue ∈ BW := bw_of (i := 1109) (by decide +kernel) (by decide +kernel)
theorem lk_968 : Cond.selects RX11 yX11_cue yX11_cue ∈ BW := bw_of (i := 1110) (by decide +kernel) (by decide +kernel)
theorem lk_969 : Cond.code yX11_cue cX11_cue 2 (some .int) ∈ BW := bw_of (i := 1111) (by decide +kernel) (by decide +kernel)
theorem lk_971 : Cond.instanceMethod yX11_cueAt ∈ BW := bw_of (i := 1113) (by decide +kernel) (by decide +kernel)
theorem lk_972 : Cond.selects RX11 yX11_cueAt yX11_cueAt ∈ BW := bw_of (i := 1114) (by decide +kernel) (by decide +kernel)
theorem lk_973 : Cond.code yX11_cueAt cX11_cueAt 4 (some .int) ∈ BW := bw_of (i := 1115) (by decide +kernel) (by decide +kernel)
theorem lk_975 : Cond.methodLink RL 144 yX11_cueAt ∈ BW := bw_of (i := 1117) (by decide +kernel) (by decide +kernel)
theorem lk_976 : Cond.methodLink RL 148 yX11_bears ∈ BW := bw_of (i := 1118) (by decide +kernel) (by decide +kernel)
theorem lk_977 : Cond.instanceMethod yX11_bears ∈ BW := bw_of (i := 1119) (by decide +kernel) (by decide +kernel)
theorem lk_978 : Cond.selects RX11 yX11_bears yX11_bears ∈ BW := bw_of (i := 1120) (by decide +kernel) (by decide +kernel)
theorem lk_979 : Cond.code yX11_bears cX11_bears 4 (some .int) ∈ BW := bw_of (i := 1121) (by decide +kernel) (by decide +kernel)
theorem lk_981 : Cond.methodLink RL 152 yX11_bearing ∈ BW := bw_of (i := 1123) (by decide +kernel) (by decide +kernel)
theorem lk_982 : Cond.instanceMethod yX11_bearing ∈ BW := bw_of (i := 1124) (by decide +kernel) (by decide +kernel)
theorem lk_983 : Cond.selects RX11 yX11_bearing yX11_bearing ∈ BW := bw_of (i := 1125) (by decide +kernel) (by decide +kernel)
theorem lk_984 : Cond.code yX11_bearing cX11_bearing 5 (some .int) ∈ BW := bw_of (i := 1126) (by decide +kernel) (by decide +kernel)
theorem lk_986 : Cond.methodLink RL 156 yX11_shown ∈ BW := bw_of (i := 1128) (by decide +kernel) (by decide +kernel)
theorem lk_987 : Cond.instanceMethod yX11_shown ∈ BW := bw_of (i := 1129) (by decide +kernel) (by decide +kernel)
theorem lk_988 : Cond.selects RX11 yX11_shown yX11_shown ∈ BW := bw_of (i := 1130) (by decide +kernel) (by decide +kernel)
theorem lk_989 : Cond.code yX11_shown cX11_shown 4 (some .int) ∈ BW := bw_of (i := 1131) (by decide +kernel) (by decide +kernel)
theorem lk_990 : Cond.methodLink RL 160 yX11_freeIn ∈ BW := bw_of (i := 1132) (by decide +kernel) (by decide +kernel)
theorem lk_991 : Cond.instanceMethod yX11_freeIn ∈ BW := bw_of (i := 1133) (by decide +kernel) (by decide +kernel)
theorem lk_992 : Cond.selects RX11 yX11_freeIn yX11_freeIn ∈ BW := bw_of (i := 1134) (by decide +kernel) (by decide +kernel)
theorem lk_993 : Cond.code yX11_freeIn cX11_freeIn 3 (some .int) ∈ BW := bw_of (i := 1135) (by decide +kernel) (by decide +kernel)
theorem lk_1004 : Cond.methodLink RL 164 yX11_judgedIn ∈ BW := bw_of (i := 1146) (by decide +kernel) (by decide +kernel)
theorem lk_1005 : Cond.instanceMethod yX11_judgedIn ∈ BW := bw_of (i := 1147) (by decide +kernel) (by decide +kernel)
theorem lk_1006 : Cond.selects RX11 yX11_judgedIn yX11_judgedIn ∈ BW := bw_of (i := 1148) (by decide +kernel) (by decide +kernel)
theorem lk_1007 : Cond.code yX11_judgedIn cX11_judgedIn 3 (some .int) ∈ BW := bw_of (i := 1149) (by decide +kernel) (by decide +kernel)
theorem lk_1008 : Cond.methodLink RL 168 yX11_fits ∈ BW := bw_of (i := 1150) (by decide +kernel) (by decide +kernel)
theorem lk_1009 : Cond.instanceMethod yX11_fits ∈ BW := bw_of (i := 1151) (by decide +kernel) (by decide +kernel)
theorem lk_1010 : Cond.selects RX11 yX11_fits yX11_fits ∈ BW := bw_of (i := 1152) (by decide +kernel) (by decide +kernel)
theorem lk_1011 : Cond.code yX11_fits cX11_fits 4 (some .int) ∈ BW := bw_of (i := 1153) (by decide +kernel) (by decide +kernel)
theorem lk_1029 : Cond.methodLink RL 172 yX11_sure ∈ BW := bw_of (i := 1171) (by decide +kernel) (by decide +kernel)
theorem lk_1030 : Cond.instanceMethod yX11_sure ∈ BW := bw_of (i := 1172) (by decide +kernel) (by decide +kernel)
theorem lk_1031 : Cond.selects RX11 yX11_sure yX11_sure ∈ BW := bw_of (i := 1173) (by decide +kernel) (by decide +kernel)
theorem lk_1032 : Cond.code yX11_sure cX11_sure 5 (some .int) ∈ BW := bw_of (i := 1174) (by decide +kernel) (by decide +kernel)
theorem lk_1038 : Cond.methodLink RL 176 yX11_odds ∈ BW := bw_of (i := 1180) (by decide +kernel) (by decide +kernel)
theorem lk_1039 : Cond.instanceMethod yX11_odds ∈ BW := bw_of (i := 1181) (by decide +kernel) (by decide +kernel)
theorem lk_1040 : Cond.selects RX11 yX11_odds yX11_odds ∈ BW := bw_of (i := 1182) (by decide +kernel) (by decide +kernel)
theorem lk_1041 : Cond.code yX11_odds cX11_odds 5 (some .boolean) ∈ BW := bw_of (i := 1183) (by decide +kernel) (by decide +kernel)
theorem lk_1050 : Cond.methodLink RL 180 yX11_ask ∈ BW := bw_of (i := 1192) (by decide +kernel) (by decide +kernel)
theorem lk_1051 : Cond.instanceMethod yX11_ask ∈ BW := bw_of (i := 1193) (by decide +kernel) (by decide +kernel)
theorem lk_1052 : Cond.selects RX11 yX11_ask yX11_ask ∈ BW := bw_of (i := 1194) (by decide +kernel) (by decide +kernel)
theorem lk_1053 : Cond.code yX11_ask cX11_ask 6 (some .int) ∈ BW := bw_of (i := 1195) (by decide +kernel) (by decide +kernel)
theorem lk_1058 : Cond.methodLink RL 184 yX11_least ∈ BW := bw_of (i := 1200) (by decide +kernel) (by decide +kernel)
theorem lk_1059 : Cond.instanceMethod yX11_least ∈ BW := bw_of (i := 1201) (by decide +kernel) (by decide +kernel)
theorem lk_1060 : Cond.selects RX11 yX11_least yX11_least ∈ BW := bw_of (i := 1202) (by decide +kernel) (by decide +kernel)
theorem lk_1061 : Cond.code yX11_least cX11_least 4 (some .int) ∈ BW := bw_of (i := 1203) (by decide +kernel) (by decide +kernel)
theorem lk_1066 : Cond.methodLink RL 188 yX11_leastBy ∈ BW := bw_of (i := 1208) (by decide +kernel) (by decide +kernel)
theorem lk_1067 : Cond.instanceMethod yX11_leastBy ∈ BW := bw_of (i := 1209) (by decide +kernel) (by decide +kernel)
theorem lk_1068 : Cond.selects RX11 yX11_leastBy yX11_leastBy ∈ BW := bw_of (i := 1210) (by decide +kernel) (by decide +kernel)
theorem lk_1069 : Cond.code yX11_leastBy cX11_leastBy 5 (some .int) ∈ BW := bw_of (i := 1211) (by decide +kernel) (by decide +kernel)
theorem lk_1070 : Cond.methodLink RL 192 yX11_reach ∈ BW := bw_of (i := 1212) (by decide +kernel) (by decide +kernel)
theorem lk_1071 : Cond.instanceMethod yX11_reach ∈ BW := bw_of (i := 1213) (by decide +kernel) (by decide +kernel)
theorem lk_1072 : Cond.selects RX11 yX11_reach yX11_reach ∈ BW := bw_of (i := 1214) (by decide +kernel) (by decide +kernel)
theorem lk_1073 : Cond.code yX11_reach cX11_reach 2 (some .int) ∈ BW := bw_of (i := 1215) (by decide +kernel) (by decide +kernel)
theorem lk_1088 : Cond.methodLink RL 196 yX11_idle ∈ BW := bw_of (i := 1230) (by decide +kernel) (by decide +kernel)
theorem lk_1089 : Cond.instanceMethod yX11_idle ∈ BW := bw_of (i := 1231) (by decide +kernel) (by decide +kernel)
theorem lk_1090 : Cond.selects RX11 yX11_idle yX11_idle ∈ BW := bw_of (i := 1232) (by decide +kernel) (by decide +kernel)
theorem lk_1091 : Cond.code yX11_idle cX11_idle 3 (some .int) ∈ BW := bw_of (i := 1233) (by decide +kernel) (by decide +kernel)
theorem lk_1092 : Cond.methodLink RL 200 yX11_tells ∈ BW := bw_of (i := 1234) (by decide +kernel) (by decide +kernel)
theorem lk_1093 : Cond.instanceMethod yX11_tells ∈ BW := bw_of (i := 1235) (by decide +kernel) (by decide +kernel)
theorem lk_1094 : Cond.selects RX11 yX11_tells yX11_tells ∈ BW := bw_of (i := 1236) (by decide +kernel) (by decide +kernel)
theorem lk_1095 : Cond.code yX11_tells cX11_tells 5 (some .boolean) ∈ BW := bw_of (i := 1237) (by decide +kernel) (by decide +kernel)
theorem lk_1096 : Cond.methodLink RL 205 yX11_mute ∈ BW := bw_of (i := 1238) (by decide +kernel) (by decide +kernel)
theorem lk_1097 : Cond.instanceMethod yX11_mute ∈ BW := bw_of (i := 1239) (by decide +kernel) (by decide +kernel)
theorem lk_1098 : Cond.selects RX11 yX11_mute yX11_mute ∈ BW := bw_of (i := 1240) (by decide +kernel) (by decide +kernel)
theorem lk_1099 : Cond.code yX11_mute cX11_mute 1 (some .int) ∈ BW := bw_of (i := 1241) (by decide +kernel) (by decide +kernel)
theorem lk_1100 : Cond.methodLink RL 209 yX11_verdict ∈ BW := bw_of (i := 1242) (by decide +kernel) (by decide +kernel)
theorem lk_1101 : Cond.instanceMethod yX11_verdict ∈ BW := bw_of (i := 1243) (by decide +kernel) (by decide +kernel)
theorem lk_1102 : Cond.selects RX11 yX11_verdict yX11_verdict ∈ BW := bw_of (i := 1244) (by decide +kernel) (by decide +kernel)
theorem lk_1103 : Cond.code yX11_verdict cX11_verdict 2 (some .boolean) ∈ BW := bw_of (i := 1245) (by decide +kernel) (by decide +kernel)
theorem lk_1113 : Cond.methodLink RL 213 yX11_sworn ∈ BW := bw_of (i := 1255) (by decide +kernel) (by decide +kernel)
theorem lk_1114 : Cond.instanceMethod yX11_sworn ∈ BW := bw_of (i := 1256) (by decide +kernel) (by decide +kernel)
theorem lk_1115 : Cond.selects RX11 yX11_sworn yX11_sworn ∈ BW := bw_of (i := 1257) (by decide +kernel) (by decide +kernel)
theorem lk_1116 : Cond.code yX11_sworn cX11_sworn 8 (some .int) ∈ BW := bw_of (i := 1258) (by decide +kernel) (by decide +kernel)
theorem lk_1118 : Cond.methodLink RL 217 yX11_power ∈ BW := bw_of (i := 1260) (by decide +kernel) (by decide +kernel)
theorem lk_1119 : Cond.instanceMethod yX11_power ∈ BW := bw_of (i := 1261) (by decide +kernel) (by decide +kernel)
theorem lk_1120 : Cond.selects RX11 yX11_power yX11_power ∈ BW := bw_of (i := 1262) (by decide +kernel) (by decide +kernel)
theorem lk_1121 : Cond.code yX11_power cX11_power 8 (some .boolean) ∈ BW := bw_of (i := 1263) (by decide +kernel) (by decide +kernel)
theorem lk_1125 : Cond.methodLink RL 221 yX11_clash ∈ BW := bw_of (i := 1267) (by decide +kernel) (by decide +kernel)
theorem lk_1126 : Cond.instanceMethod yX11_clash ∈ BW := bw_of (i := 1268) (by decide +kernel) (by decide +kernel)
theorem lk_1127 : Cond.selects RX11 yX11_clash yX11_clash ∈ BW := bw_of (i := 1269) (by decide +kernel) (by decide +kernel)
theorem lk_1128 : Cond.code yX11_clash cX11_clash 4 (some .int) ∈ BW := bw_of (i := 1270) (by decide +kernel) (by decide +kernel)
theorem lk_1133 : Cond.methodLink RL 225 yX11_struck ∈ BW := bw_of (i := 1275) (by decide +kernel) (by decide +kernel)
theorem lk_1134 : Cond.instanceMethod yX11_struck ∈ BW := bw_of (i := 1276) (by decide +kernel) (by decide +kernel)
theorem lk_1135 : Cond.selects RX11 yX11_struck yX11_struck ∈ BW := bw_of (i := 1277) (by decide +kernel) (by decide +kernel)
theorem lk_1136 : Cond.code yX11_struck cX11_struck 1 (some .int) ∈ BW := bw_of (i := 1278) (by decide +kernel) (by decide +kernel)
theorem lk_1149 : Cond.methodLink RL 229 yX11_struckSet ∈ BW := bw_of (i := 1291) (by decide +kernel) (by decide +kernel)
theorem lk_1150 : Cond.instanceMethod yX11_struckSet ∈ BW := bw_of (i := 1292) (by decide +kernel) (by decide +kernel)
theorem lk_1151 : Cond.selects RX11 yX11_struckSet yX11_struckSet ∈ BW := bw_of (i := 1293) (by decide +kernel) (by decide +kernel)
theorem lk_1152 : Cond.code yX11_struckSet cX11_struckSet 1 (some .int) ∈ BW := bw_of (i := 1294) (by decide +kernel) (by decide +kernel)
theorem lk_1153 : Cond.methodLink RL 233 yX11_best ∈ BW := bw_of (i := 1295) (by decide +kernel) (by decide +kernel)
theorem lk_1154 : Cond.instanceMethod yX11_best ∈ BW := bw_of (i := 1296) (by decide +kernel) (by decide +kernel)
theorem lk_1155 : Cond.selects RX11 yX11_best yX11_best ∈ BW := bw_of (i := 1297) (by decide +kernel) (by decide +kernel)
theorem lk_1156 : Cond.code yX11_best cX11_best 1 (some .int) ∈ BW := bw_of (i := 1298) (by decide +kernel) (by decide +kernel)
theorem lk_1188 : Cond.methodLink RL 237 yX11_bestAt ∈ BW := bw_of (i := 1330) (by decide +kernel) (by decide +kernel)
theorem lk_1189 : Cond.instanceMethod yX11_bestAt ∈ BW := bw_of (i := 1331) (by decide +kernel) (by decide +kernel)
theorem lk_1190 : Cond.selects RX11 yX11_bestAt yX11_bestAt ∈ BW := bw_of (i := 1332) (by decide +kernel) (by decide +kernel)
theorem lk_1191 : Cond.code yX11_bestAt cX11_bestAt 2 (some .int) ∈ BW := bw_of (i := 1333) (by decide +kernel) (by decide +kernel)
theorem lk_1192 : Cond.methodLink RL 241 yX11_game ∈ BW := bw_of (i := 1334) (by decide +kernel) (by decide +kernel)
theorem lk_1193 : Cond.instanceMethod yX11_game ∈ BW := bw_of (i := 1335) (by decide +kernel) (by decide +kernel)
theorem lk_1194 : Cond.selects RX11 yX11_game yX11_game ∈ BW := bw_of (i := 1336) (by decide +kernel) (by decide +kernel)
theorem lk_1195 : Cond.code yX11_game cX11_game 2 (some .int) ∈ BW := bw_of (i := 1337) (by decide +kernel) (by decide +kernel)
theorem lk_1218 : Cond.methodLink RL 245 yX11_moveOf ∈ BW := bw_of (i := 1360) (by decide +kernel) (by decide +kernel)
theorem lk_1219 : Cond.instanceMethod yX11_moveOf ∈ BW := bw_of (i := 1361) (by decide +kernel) (by decide +kernel)
theorem lk_1220 : Cond.selects RX11 yX11_moveOf yX11_moveOf ∈ BW := bw_of (i := 1362) (by decide +kernel) (by decide +kernel)
theorem lk_1221 : Cond.code yX11_moveOf cX11_moveOf 3 (some .int) ∈ BW := bw_of (i := 1363) (by decide +kernel) (by decide +kernel)
theorem lk_1222 : Cond.methodLink RL 249 yX11_copyFed ∈ BW := bw_of (i := 1364) (by decide +kernel) (by decide +kernel)
theorem lk_1223 : Cond.instanceMethod yX11_copyFed ∈ BW := bw_of (i := 1365) (by decide +kernel) (by decide +kernel)
theorem lk_1224 : Cond.selects RX11 yX11_copyFed yX11_copyFed ∈ BW := bw_of (i := 1366) (by decide +kernel) (by decide +kernel)
theorem lk_1225 : Cond.code yX11_copyFed cX11_copyFed 5 (some .int) ∈ BW := bw_of (i := 1367) (by decide +kernel) (by decide +kernel)
theorem lk_1226 : Cond.methodLink RL 253 yX11_live ∈ BW := bw_of (i := 1368) (by decide +kernel) (by decide +kernel)
theorem lk_1227 : Cond.instanceMethod yX11_live ∈ BW := bw_of (i := 1369) (by decide +kernel) (by decide +kernel)
theorem lk_1228 : Cond.selects RX11 yX11_live yX11_live ∈ BW := bw_of (i := 1370) (by decide +kernel) (by decide +kernel)
theorem lk_1229 : Cond.code yX11_live cX11_live 5 (some .int) ∈ BW := bw_of (i := 1371) (by decide +kernel) (by decide +kernel)
theorem lk_1289 : Cond.methodLink RL 257 yX11_lived ∈ BW := bw_of (i := 1431) (by decide +kernel) (by decide +kernel)
theorem lk_1290 : Cond.instanceMethod yX11_lived ∈ BW := bw_of (i := 1432) (by decide +kernel) (by decide +kernel)
theorem lk_1291 : Cond.selects RX11 yX11_lived yX11_lived ∈ BW := bw_of (i := 1433) (by decide +kernel) (by decide +kernel)
theorem lk_1292 : Cond.code yX11_lived cX11_lived 2 (some .int) ∈ BW := bw_of (i := 1434) (by decide +kernel) (by decide +kernel)
theorem lk_1293 : Cond.methodLink RL 261 yX11_mean ∈ BW := bw_of (i := 1435) (by decide +kernel) (by decide +kernel)
theorem lk_1294 : Cond.instanceMethod yX11_mean ∈ BW := bw_of (i := 1436) (by decide +kernel) (by decide +kernel)
theorem lk_1295 : Cond.selects RX11 yX11_mean yX11_mean ∈ BW := bw_of (i := 1437) (by decide +kernel) (by decide +kernel)
theorem lk_1296 : Cond.code yX11_mean cX11_mean 6 (some .boolean) ∈ BW := bw_of (i := 1438) (by decide +kernel) (by decide +kernel)
theorem lk_1301 : Cond.methodLink RL 265 yX11_mark ∈ BW := bw_of (i := 1443) (by decide +kernel) (by decide +kernel)
theorem lk_1302 : Cond.instanceMethod yX11_mark ∈ BW := bw_of (i := 1444) (by decide +kernel) (by decide +kernel)
theorem lk_1303 : Cond.selects RX11 yX11_mark yX11_mark ∈ BW := bw_of (i := 1445) (by decide +kernel) (by decide +kernel)
theorem lk_1304 : Cond.code yX11_mark cX11_mark 1 (some .int) ∈ BW := bw_of (i := 1446) (by decide +kernel) (by decide +kernel)
theorem lk_1309 : Cond.methodLink RL 269 yX11_undo ∈ BW := bw_of (i := 1451) (by decide +kernel) (by decide +kernel)
theorem lk_1310 : Cond.instanceMethod yX11_undo ∈ BW := bw_of (i := 1452) (by decide +kernel) (by decide +kernel)
theorem lk_1311 : Cond.selects RX11 yX11_undo yX11_undo ∈ BW := bw_of (i := 1453) (by decide +kernel) (by decide +kernel)
theorem lk_1312 : Cond.code yX11_undo cX11_undo 1 (some .int) ∈ BW := bw_of (i := 1454) (by decide +kernel) (by decide +kernel)
theorem lk_1451 : Cond.methodLink RL 17 yX12_status ∈ BW := bw_of (i := 1593) (by decide +kernel) (by decide +kernel)
theorem lk_1452 : Cond.instanceMethod yX12_status ∈ BW := bw_of (i := 1594) (by decide +kernel) (by decide +kernel)
theorem lk_1453 : Cond.selects RX12 yX12_status yX12_status ∈ BW := bw_of (i := 1595) (by decide +kernel) (by decide +kernel)
theorem lk_1454 : Cond.code yX12_status cX12_status 1 (some .int) ∈ BW := bw_of (i := 1596) (by decide +kernel) (by decide +kernel)
theorem lk_1455 : Cond.methodLink RL 22 yX12_top ∈ BW := bw_of (i := 1597) (by decide +kernel) (by decide +kernel)
theorem lk_1456 : Cond.instanceMethod yX12_top ∈ BW := bw_of (i := 1598) (by decide +kernel) (by decide +kernel)
theorem lk_1457 : Cond.selects RX12 yX12_top yX12_top ∈ BW := bw_of (i := 1599) (by decide +kernel) (by decide +kernel)
theorem lk_1458 : Cond.code yX12_top cX12_top 1 (some .long) ∈ BW := bw_of (i := 1600) (by decide +kernel) (by decide +kernel)
theorem lk_1459 : Cond.methodLink RL 26 yX12_bottom ∈ BW := bw_of (i := 1601) (by decide +kernel) (by decide +kernel)
theorem lk_1460 : Cond.instanceMethod yX12_bottom ∈ BW := bw_of (i := 1602) (by decide +kernel) (by decide +kernel)
theorem lk_1461 : Cond.selects RX12 yX12_bottom yX12_bottom ∈ BW := bw_of (i := 1603) (by decide +kernel) (by decide +kernel)
theorem lk_1462 : Cond.code yX12_bottom cX12_bottom 1 (some .long) ∈ BW := bw_of (i := 1604) (by decide +kernel) (by decide +kernel)
theorem lk_1463 : Cond.methodLink RL 31 yX12_tray ∈ BW := bw_of (i := 1605) (by decide +kernel) (by decide +kernel)
theorem lk_1464 : Cond.instanceMethod yX12_tray ∈ BW := bw_of (i := 1606) (by decide +kernel) (by decide +kernel)
theorem lk_1465 : Cond.selects RX12 yX12_tray yX12_tray ∈ BW := bw_of (i := 1607) (by decide +kernel) (by decide +kernel)
theorem lk_1466 : Cond.code yX12_tray cX12_tray 5 (some .boolean) ∈ BW := bw_of (i := 1608) (by decide +kernel) (by decide +kernel)
theorem lk_1474 : Cond.methodLink RL 38 yX12_write ∈ BW := bw_of (i := 1616) (by decide +kernel) (by decide +kernel)
theorem lk_1475 : Cond.instanceMethod yX12_write ∈ BW := bw_of (i := 1617) (by decide +kernel) (by decide +kernel)
theorem lk_1476 : Cond.selects RX12 yX12_write yX12_write ∈ BW := bw_of (i := 1618) (by decide +kernel) (by decide +kernel)
theorem lk_1477 : Cond.code yX12_write cX12_write 6 (some .boolean) ∈ BW := bw_of (i := 1619) (by decide +kernel) (by decide +kernel)
theorem lk_1485 : Cond.methodLink RL 43 yX12_read ∈ BW := bw_of (i := 1627) (by decide +kernel) (by decide +kernel)
theorem lk_1486 : Cond.instanceMethod yX12_read ∈ BW := bw_of (i := 1628) (by decide +kernel) (by decide +kernel)
theorem lk_1487 : Cond.selects RX12 yX12_read yX12_read ∈ BW := bw_of (i := 1629) (by decide +kernel) (by decide +kernel)
theorem lk_1488 : Cond.code yX12_read cX12_read 3 (some .long) ∈ BW := bw_of (i := 1630) (by decide +kernel) (by decide +kernel)
theorem lk_1490 : Cond.methodLink RL 48 yX12_pour ∈ BW := bw_of (i := 1632) (by decide +kernel) (by decide +kernel)
theorem lk_1491 : Cond.instanceMethod yX12_pour ∈ BW := bw_of (i := 1633) (by decide +kernel) (by decide +kernel)
theorem lk_1492 : Cond.selects RX12 yX12_pour yX12_pour ∈ BW := bw_of (i := 1634) (by decide +kernel) (by decide +kernel)
theorem lk_1493 : Cond.code yX12_pour cX12_pour 8 (some .boolean) ∈ BW := bw_of (i := 1635) (by decide +kernel) (by decide +kernel)
theorem lk_1494 : Cond.methodLink RL 53 yX12_feed ∈ BW := bw_of (i := 1636) (by decide +kernel) (by decide +kernel)
theorem lk_1495 : Cond.instanceMethod yX12_feed ∈ BW := bw_of (i := 1637) (by decide +kernel) (by decide +kernel)
theorem lk_1496 : Cond.selects RX12 yX12_feed yX12_feed ∈ BW := bw_of (i := 1638) (by decide +kernel) (by decide +kernel)
theorem lk_1497 : Cond.code yX12_feed cX12_feed 6 (some .int) ∈ BW := bw_of (i := 1639) (by decide +kernel) (by decide +kernel)
theorem lk_1502 : Cond.methodLink RL 66 yX12_fault ∈ BW := bw_of (i := 1644) (by decide +kernel) (by decide +kernel)
theorem lk_1503 : Cond.instanceMethod yX12_fault ∈ BW := bw_of (i := 1645) (by decide +kernel) (by decide +kernel)
theorem lk_1504 : Cond.selects RX12 yX12_fault yX12_fault ∈ BW := bw_of (i := 1646) (by decide +kernel) (by decide +kernel)
theorem lk_1505 : Cond.code yX12_fault cX12_fault 2 (some .int) ∈ BW := bw_of (i := 1647) (by decide +kernel) (by decide +kernel)
theorem lk_1506 : Cond.methodLink RL 58 yX12_court ∈ BW := bw_of (i := 1648) (by decide +kernel) (by decide +kernel)
theorem lk_1507 : Cond.instanceMethod yX12_court ∈ BW := bw_of (i := 1649) (by decide +kernel) (by decide +kernel)
theorem lk_1508 : Cond.selects RX12 yX12_court yX12_court ∈ BW := bw_of (i := 1650) (by decide +kernel) (by decide +kernel)
theorem lk_1509 : Cond.code yX12_court cX12_court 4 (some .int) ∈ BW := bw_of (i := 1651) (by decide +kernel) (by decide +kernel)
theorem lk_1643 : Cond.methodLink RL 62 yX12_weeks ∈ BW := bw_of (i := 1785) (by decide +kernel) (by decide +kernel)
theorem lk_1644 : Cond.instanceMethod yX12_weeks ∈ BW := bw_of (i := 1786) (by decide +kernel) (by decide +kernel)
theorem lk_1645 : Cond.selects RX12 yX12_weeks yX12_weeks ∈ BW := bw_of (i := 1787) (by decide +kernel) (by decide +kernel)
theorem lk_1646 : Cond.code yX12_weeks cX12_weeks 4 (some .int) ∈ BW := bw_of (i := 1788) (by decide +kernel) (by decide +kernel)
theorem lk_1667 : Cond.methodLink RL 70 yX12_told ∈ BW := bw_of (i := 1809) (by decide +kernel) (by decide +kernel)
theorem lk_1668 : Cond.instanceMethod yX12_told ∈ BW := bw_of (i := 1810) (by decide +kernel) (by decide +kernel)
theorem lk_1669 : Cond.selects RX12 yX12_told yX12_told ∈ BW := bw_of (i := 1811) (by decide +kernel) (by decide +kernel)
theorem lk_1670 : Cond.code yX12_told cX12_told 2 (some .int) ∈ BW := bw_of (i := 1812) (by decide +kernel) (by decide +kernel)
theorem lk_1687 : Cond.methodLink RL 74 yX12_sense ∈ BW := bw_of (i := 1829) (by decide +kernel) (by decide +kernel)
theorem lk_1688 : Cond.instanceMethod yX12_sense ∈ BW := bw_of (i := 1830) (by decide +kernel) (by decide +kernel)
theorem lk_1689 : Cond.selects RX12 yX12_sense yX12_sense ∈ BW := bw_of (i := 1831) (by decide +kernel) (by decide +kernel)
theorem lk_1690 : Cond.code yX12_sense cX12_sense 2 (some .int) ∈ BW := bw_of (i := 1832) (by decide +kernel) (by decide +kernel)
theorem lk_1695 : Cond.methodLink RL 79 yX12_rule ∈ BW := bw_of (i := 1837) (by decide +kernel) (by decide +kernel)
theorem lk_1696 : Cond.instanceMethod yX12_rule ∈ BW := bw_of (i := 1838) (by decide +kernel) (by decide +kernel)
theorem lk_1697 : Cond.selects RX12 yX12_rule yX12_rule ∈ BW := bw_of (i := 1839) (by decide +kernel) (by decide +kernel)
theorem lk_1698 : Cond.code yX12_rule cX12_rule 3 (some .int) ∈ BW := bw_of (i := 1840) (by decide +kernel) (by decide +kernel)
theorem lk_1711 : Cond.methodLink RL 83 yX12_person ∈ BW := bw_of (i := 1853) (by decide +kernel) (by decide +kernel)
theorem lk_1712 : Cond.instanceMethod yX12_person ∈ BW := bw_of (i := 1854) (by decide +kernel) (by decide +kernel)
theorem lk_1713 : Cond.selects RX12 yX12_person yX12_person ∈ BW := bw_of (i := 1855) (by decide +kernel) (by decide +kernel)
theorem lk_1714 : Cond.code yX12_person cX12_person 3 (some .int) ∈ BW := bw_of (i := 1856) (by decide +kernel) (by decide +kernel)
theorem lk_1719 : Cond.methodLink RL 87 yX12_reader ∈ BW := bw_of (i := 1861) (by decide +kernel) (by decide +kernel)
theorem lk_1720 : Cond.instanceMethod yX12_reader ∈ BW := bw_of (i := 1862) (by decide +kernel) (by decide +kernel)
theorem lk_1721 : Cond.selects RX12 yX12_reader yX12_reader ∈ BW := bw_of (i := 1863) (by decide +kernel) (by decide +kernel)
theorem lk_1722 : Cond.code yX12_reader cX12_reader 3 (some .int) ∈ BW := bw_of (i := 1864) (by decide +kernel) (by decide +kernel)
theorem lk_1731 : Cond.methodLink RL 91 yX12_word ∈ BW := bw_of (i := 1873) (by decide +kernel) (by decide +kernel)
theorem lk_1732 : Cond.instanceMethod yX12_word ∈ BW := bw_of (i := 1874) (by decide +kernel) (by decide +kernel)
theorem lk_1733 : Cond.selects RX12 yX12_word yX12_word ∈ BW := bw_of (i := 1875) (by decide +kernel) (by decide +kernel)
theorem lk_1734 : Cond.code yX12_word cX12_word 3 (some .int) ∈ BW := bw_of (i := 1876) (by decide +kernel) (by decide +kernel)
theorem lk_1735 : Cond.methodLink RL 143 yX12_cue ∈ BW := bw_of (i := 1877) (by decide +kernel) (by decide +kernel)
theorem lk_1736 : Cond.instanceMethod yX12_cue ∈ BW := bw_of (i := 1878) (by decide +kernel) (by decide +kernel)
theorem lk_1737 : Cond.selects RX12 yX12_cue yX12_cue ∈ BW := bw_of (i := 1879) (by decide +kernel) (by decide +kernel)
theorem lk_1738 : Cond.code yX12_cue cX12_cue 2 (some .int) ∈ BW := bw_of (i := 1880) (by decide +kernel) (by decide +kernel)
theorem lk_1762 : Cond.methodLink RL 147 yX12_cueAt ∈ BW := bw_of (i := 1904) (by decide +kernel) (by decide +kernel)
theorem lk_1763 : Cond.instanceMethod yX12_cueAt ∈ BW := bw_of (i := 1905) (by decide +kernel) (by decide +kernel)
theorem lk_1764 : Cond.selects RX12 yX12_cueAt yX12_cueAt ∈ BW := bw_of (i := 1906) (by decide +kernel) (by decide +kernel)
theorem lk_1765 : Cond.code yX12_cueAt cX12_cueAt 3 (some .int) ∈ BW := bw_of (i := 1907) (by decide +kernel) (by decide +kernel)
theorem lk_1770 : Cond.methodLink RL 151 yX12_bears ∈ BW := bw_of (i := 1912) (by decide +kernel) (by decide +kernel)
theorem lk_1771 : Cond.instanceMethod yX12_bears ∈ BW := bw_of (i := 1913) (by decide +kernel) (by decide +kernel)
theorem lk_1772 : Cond.selects RX12 yX12_bears yX12_bears ∈ BW := bw_of (i := 1914) (by decide +kernel) (by decide +kernel)
theorem lk_1773 : Cond.code yX12_bears cX12_bears 2 (some .int) ∈ BW := bw_of (i := 1915) (by decide +kernel) (by decide +kernel)
theorem lk_1774 : Cond.methodLink RL 155 yX12_bearing ∈ BW := bw_of (i := 1916) (by decide +kernel) (by decide +kernel)
theorem lk_1775 : Cond.instanceMethod yX12_bearing ∈ BW := bw_of (i := 1917) (by decide +kernel) (by decide +kernel)
theorem lk_1776 : Cond.selects RX12 yX12_bearing yX12_bearing ∈ BW := bw_of (i := 1918) (by decide +kernel) (by decide +kernel)
theorem lk_1777 : Cond.code yX12_bearing cX12_bearing 4 (some .int) ∈ BW := bw_of (i := 1919) (by decide +kernel) (by decide +kernel)
theorem lk_1778 : Cond.methodLink RL 159 yX12_shown ∈ BW := bw_of (i := 1920) (by decide +kernel) (by decide +kernel)
theorem lk_1779 : Cond.instanceMethod yX12_shown ∈ BW := bw_of (i := 1921) (by decide +kernel) (by decide +kernel)
theorem lk_1780 : Cond.selects RX12 yX12_shown yX12_shown ∈ BW := bw_of (i := 1922) (by decide +kernel) (by decide +kernel)
theorem lk_1781 : Cond.code yX12_shown cX12_shown 4 (some .int) ∈ BW := bw_of (i := 1923) (by decide +kernel) (by decide +kernel)
theorem lk_1782 : Cond.methodLink RL 95 yX12_sit ∈ BW := bw_of (i := 1924) (by decide +kernel) (by decide +kernel)
theorem lk_1783 : Cond.instanceMethod yX12_sit ∈ BW := bw_of (i := 1925) (by decide +kernel) (by decide +kernel)
theorem lk_1784 : Cond.selects RX12 yX12_sit yX12_sit ∈ BW := bw_of (i := 1926) (by decide +kernel) (by decide +kernel)
theorem lk_1785 : Cond.code yX12_sit cX12_sit 3 (some .int) ∈ BW := bw_of (i := 1927) (by decide +kernel) (by decide +kernel)
theorem lk_1790 : Cond.methodLink RL 99 yX12_term ∈ BW := bw_of (i := 1932) (by decide +kernel) (by decide +kernel)
theorem lk_1791 : Cond.instanceMethod yX12_term ∈ BW := bw_of (i := 1933) (by decide +kernel) (by decide +kernel)
theorem lk_1792 : Cond.selects RX12 yX12_term yX12_term ∈ BW := bw_of (i := 1934) (by decide +kernel) (by decide +kernel)
theorem lk_1793 : Cond.code yX12_term cX12_term 1 (some .int) ∈ BW := bw_of (i := 1935) (by decide +kernel) (by decide +kernel)
theorem lk_1805 : Cond.methodLink RL 103 yX12_meal ∈ BW := bw_of (i := 1947) (by decide +kernel) (by decide +kernel)
theorem lk_1806 : Cond.instanceMethod yX12_meal ∈ BW := bw_of (i := 1948) (by decide +kernel) (by decide +kernel)
theorem lk_1807 : Cond.selects RX12 yX12_meal yX12_meal ∈ BW := bw_of (i := 1949) (by decide +kernel) (by decide +kernel)
theorem lk_1808 : Cond.code yX12_meal cX12_meal 3 (some .int) ∈ BW := bw_of (i := 1950) (by decide +kernel) (by decide +kernel)
theorem lk_1814 : Cond.methodLink RL 108 yX12_scent ∈ BW := bw_of (i := 1956) (by decide +kernel) (by decide +kernel)
theorem lk_1815 : Cond.instanceMethod yX12_scent ∈ BW := bw_of (i := 1957) (by decide +kernel) (by decide +kernel)
theorem lk_1816 : Cond.selects RX12 yX12_scent yX12_scent ∈ BW := bw_of (i := 1958) (by decide +kernel) (by decide +kernel)
theorem lk_1817 : Cond.code yX12_scent cX12_scent 4 (some .boolean) ∈ BW := bw_of (i := 1959) (by decide +kernel) (by decide +kernel)
theorem lk_1826 : Cond.methodLink RL 112 yX12_night ∈ BW := bw_of (i := 1968) (by decide +kernel) (by decide +kernel)
theorem lk_1827 : Cond.instanceMethod yX12_night ∈ BW := bw_of (i := 1969) (by decide +kernel) (by decide +kernel)
theorem lk_1828 : Cond.selects RX12 yX12_night yX12_night ∈ BW := bw_of (i := 1970) (by decide +kernel) (by decide +kernel)
theorem lk_1829 : Cond.code yX12_night cX12_night 2 (some .int) ∈ BW := bw_of (i := 1971) (by decide +kernel) (by decide +kernel)
theorem lk_1834 : Cond.methodLink RL 116 yX12_appeal ∈ BW := bw_of (i := 1976) (by decide +kernel) (by decide +kernel)
theorem lk_1835 : Cond.instanceMethod yX12_appeal ∈ BW := bw_of (i := 1977) (by decide +kernel) (by decide +kernel)
theorem lk_1836 : Cond.selects RX12 yX12_appeal yX12_appeal ∈ BW := bw_of (i := 1978) (by decide +kernel) (by decide +kernel)
theorem lk_1837 : Cond.code yX12_appeal cX12_appeal 3 (some .int) ∈ BW := bw_of (i := 1979) (by decide +kernel) (by decide +kernel)
theorem lk_1838 : Cond.methodLink RL 121 yX12_blame ∈ BW := bw_of (i := 1980) (by decide +kernel) (by decide +kernel)
theorem lk_1839 : Cond.instanceMethod yX12_blame ∈ BW := bw_of (i := 1981) (by decide +kernel) (by decide +kernel)
theorem lk_1840 : Cond.selects RX12 yX12_blame yX12_blame ∈ BW := bw_of (i := 1982) (by decide +kernel) (by decide +kernel)
theorem lk_1841 : Cond.code yX12_blame cX12_blame 4 (some .boolean) ∈ BW := bw_of (i := 1983) (by decide +kernel) (by decide +kernel)
theorem lk_1842 : Cond.methodLink RL 126 yX12_reread ∈ BW := bw_of (i := 1984) (by decide +kernel) (by decide +kernel)
theorem lk_1843 : Cond.instanceMethod yX12_reread ∈ BW := bw_of (i := 1985) (by decide +kernel) (by decide +kernel)
theorem lk_1844 : Cond.selects RX12 yX12_reread yX12_reread ∈ BW := bw_of (i := 1986) (by decide +kernel) (by decide +kernel)
theorem lk_1845 : Cond.code yX12_reread cX12_reread 3 (some .boolean) ∈ BW := bw_of (i := 1987) (by decide +kernel) (by decide +kernel)
theorem lk_1847 : Cond.methodLink RL 131 yX12_enact ∈ BW := bw_of (i := 1989) (by decide +kernel) (by decide +kernel)
theorem lk_1848 : Cond.instanceMethod yX12_enact ∈ BW := bw_of (i := 1990) (by decide +kernel) (by decide +kernel)
theorem lk_1849 : Cond.selects RX12 yX12_enact yX12_enact ∈ BW := bw_of (i := 1991) (by decide +kernel) (by decide +kernel)
theorem lk_1850 : Cond.code yX12_enact cX12_enact 6 (some .int) ∈ BW := bw_of (i := 1992) (by decide +kernel) (by decide +kernel)
theorem lk_1851 : Cond.methodLink RL 135 yX12_repeal ∈ BW := bw_of (i := 1993) (by decide +kernel) (by decide +kernel)
theorem lk_1852 : Cond.instanceMethod yX12_repeal ∈ BW := bw_of (i := 1994) (by decide +kernel) (by decide +kernel)
theorem lk_1853 : Cond.selects RX12 yX12_repeal yX12_repeal ∈ BW := bw_of (i := 1995) (by decide +kernel) (by decide +kernel)
theorem lk_1854 : Cond.code yX12_repeal cX12_repeal 3 (some .int) ∈ BW := bw_of (i := 1996) (by decide +kernel) (by decide +kernel)
theorem lk_1855 : Cond.methodLink RL 139 yX12_strain ∈ BW := bw_of (i := 1997) (by decide +kernel) (by decide +kernel)
theorem lk_1856 : Cond.instanceMethod yX12_strain ∈ BW := bw_of (i := 1998) (by decide +kernel) (by decide +kernel)
theorem lk_1857 : Cond.selects RX12 yX12_strain yX12_strain ∈ BW := bw_of (i := 1999) (by decide +kernel) (by decide +kernel)
theorem lk_1858 : Cond.code yX12_strain cX12_strain 3 (some .boolean) ∈ BW := bw_of (i := 2000) (by decide +kernel) (by decide +kernel)
theorem lk_1860 : Cond.methodLink RL 163 yX12_freeIn ∈ BW := bw_of (i := 2002) (by decide +kernel) (by decide +kernel)
theorem lk_1861 : Cond.instanceMethod yX12_freeIn ∈ BW := bw_of (i := 2003) (by decide +kernel) (by decide +kernel)
theorem lk_1862 : Cond.selects RX12 yX12_freeIn yX12_freeIn ∈ BW := bw_of (i := 2004) (by decide +kernel) (by decide +kernel)
theorem lk_1863 : Cond.code yX12_freeIn cX12_freeIn 3 (some .int) ∈ BW := bw_of (i := 2005) (by decide +kernel) (by decide +kernel)
theorem lk_1873 : Cond.methodLink RL 167 yX12_judgedIn ∈ BW := bw_of (i := 2015) (by decide +kernel) (by decide +kernel)
theorem lk_1874 : Cond.instanceMethod yX12_judgedIn ∈ BW := bw_of (i := 2016) (by decide +kernel) (by decide +kernel)
theorem lk_1875 : Cond.selects RX12 yX12_judgedIn yX12_judgedIn ∈ BW := bw_of (i := 2017) (by decide +kernel) (by decide +kernel)
theorem lk_1876 : Cond.code yX12_judgedIn cX12_judgedIn 4 (some .int) ∈ BW := bw_of (i := 2018) (by decide +kernel) (by decide +kernel)
theorem lk_1877 : Cond.methodLink RL 171 yX12_fits ∈ BW := bw_of (i := 2019) (by decide +kernel) (by decide +kernel)
theorem lk_1878 : Cond.instanceMethod yX12_fits ∈ BW := bw_of (i := 2020) (by decide +kernel) (by decide +kernel)
theorem lk_1879 : Cond.selects RX12 yX12_fits yX12_fits ∈ BW := bw_of (i := 2021) (by decide +kernel) (by decide +kernel)
theorem lk_1880 : Cond.code yX12_fits cX12_fits 4 (some .int) ∈ BW := bw_of (i := 2022) (by decide +kernel) (by decide +kernel)
theorem lk_1902 : Cond.methodLink RL 175 yX12_sure ∈ BW := bw_of (i := 2044) (by decide +kernel) (by decide +kernel)
theorem lk_1903 : Cond.instanceMethod yX12_sure ∈ BW := bw_of (i := 2045) (by decide +kernel) (by decide +kernel)
theorem lk_1904 : Cond.selects RX12 yX12_sure yX12_sure ∈ BW := bw_of (i := 2046) (by decide +kernel) (by decide +kernel)
theorem lk_1905 : Cond.code yX12_sure cX12_sure 6 (some .int) ∈ BW := bw_of (i := 2047) (by decide +kernel) (by decide +kernel)
theorem lk_1910 : Cond.methodLink RL 179 yX12_odds ∈ BW := bw_of (i := 2052) (by decide +kernel) (by decide +kernel)
theorem lk_1911 : Cond.instanceMethod yX12_odds ∈ BW := bw_of (i := 2053) (by decide +kernel) (by decide +kernel)
theorem lk_1912 : Cond.selects RX12 yX12_odds yX12_odds ∈ BW := bw_of (i := 2054) (by decide +kernel) (by decide +kernel)
theorem lk_1913 : Cond.code yX12_odds cX12_odds 5 (some .boolean) ∈ BW := bw_of (i := 2055) (by decide +kernel) (by decide +kernel)
theorem lk_1918 : Cond.methodLink RL 183 yX12_ask ∈ BW := bw_of (i := 2060) (by decide +kernel) (by decide +kernel)
theorem lk_1919 : Cond.instanceMethod yX12_ask ∈ BW := bw_of (i := 2061) (by decide +kernel) (by decide +kernel)
theorem lk_1920 : Cond.selects RX12 yX12_ask yX12_ask ∈ BW := bw_of (i := 2062) (by decide +kernel) (by decide +kernel)
theorem lk_1921 : Cond.code yX12_ask cX12_ask 9 (some .int) ∈ BW := bw_of (i := 2063) (by decide +kernel) (by decide +kernel)
theorem lk_1928 : Cond.methodLink RL 187 yX12_least ∈ BW := bw_of (i := 2070) (by decide +kernel) (by decide +kernel)
theorem lk_1929 : Cond.instanceMethod yX12_least ∈ BW := bw_of (i := 2071) (by decide +kernel) (by decide +kernel)
theorem lk_1930 : Cond.selects RX12 yX12_least yX12_least ∈ BW := bw_of (i := 2072) (by decide +kernel) (by decide +kernel)
theorem lk_1931 : Cond.code yX12_least cX12_least 3 (some .int) ∈ BW := bw_of (i := 2073) (by decide +kernel) (by decide +kernel)
theorem lk_1936 : Cond.methodLink RL 191 yX12_leastBy ∈ BW := bw_of (i := 2078) (by decide +kernel) (by decide +kernel)
theorem lk_1937 : Cond.instanceMethod yX12_leastBy ∈ BW := bw_of (i := 2079) (by decide +kernel) (by decide +kernel)
theorem lk_1938 : Cond.selects RX12 yX12_leastBy yX12_leastBy ∈ BW := bw_of (i := 2080) (by decide +kernel) (by decide +kernel)
theorem lk_1939 : Cond.code yX12_leastBy cX12_leastBy 4 (some .int) ∈ BW := bw_of (i := 2081) (by decide +kernel) (by decide +kernel)
theorem lk_1940 : Cond.methodLink RL 195 yX12_reach ∈ BW := bw_of (i := 2082) (by decide +kernel) (by decide +kernel)
theorem lk_1941 : Cond.instanceMethod yX12_reach ∈ BW := bw_of (i := 2083) (by decide +kernel) (by decide +kernel)
theorem lk_1942 : Cond.selects RX12 yX12_reach yX12_reach ∈ BW := bw_of (i := 2084) (by decide +kernel) (by decide +kernel)
theorem lk_1943 : Cond.code yX12_reach cX12_reach 2 (some .int) ∈ BW := bw_of (i := 2085) (by decide +kernel) (by decide +kernel)
theorem lk_1948 : Cond.methodLink RL 199 yX12_idle ∈ BW := bw_of (i := 2090) (by decide +kernel) (by decide +kernel)
theorem lk_1949 : Cond.instanceMethod yX12_idle ∈ BW := bw_of (i := 2091) (by decide +kernel) (by decide +kernel)
theorem lk_1950 : Cond.selects RX12 yX12_idle yX12_idle ∈ BW := bw_of (i := 2092) (by decide +kernel) (by decide +kernel)
theorem lk_1951 : Cond.code yX12_idle cX12_idle 3 (some .int) ∈ BW := bw_of (i := 2093) (by decide +kernel) (by decide +kernel)
theorem lk_1952 : Cond.methodLink RL 204 yX12_tells ∈ BW := bw_of (i := 2094) (by decide +kernel) (by decide +kernel)
theorem lk_1953 : Cond.instanceMethod yX12_tells ∈ BW := bw_of (i := 2095) (by decide +kernel) (by decide +kernel)
theorem lk_1954 : Cond.selects RX12 yX12_tells yX12_tells ∈ BW := bw_of (i := 2096) (by decide +kernel) (by decide +kernel)
theorem lk_1955 : Cond.code yX12_tells cX12_tells 5 (some .boolean) ∈ BW := bw_of (i := 2097) (by decide +kernel) (by decide +kernel)
theorem lk_1956 : Cond.methodLink RL 208 yX12_mute ∈ BW := bw_of (i := 2098) (by decide +kernel) (by decide +kernel)
theorem lk_1957 : Cond.instanceMethod yX12_mute ∈ BW := bw_of (i := 2099) (by decide +kernel) (by decide +kernel)
theorem lk_1958 : Cond.selects RX12 yX12_mute yX12_mute ∈ BW := bw_of (i := 2100) (by decide +kernel) (by decide +kernel)
theorem lk_1959 : Cond.code yX12_mute cX12_mute 1 (some .int) ∈ BW := bw_of (i := 2101) (by decide +kernel) (by decide +kernel)
theorem lk_1960 : Cond.methodLink RL 212 yX12_verdict ∈ BW := bw_of (i := 2102) (by decide +kernel) (by decide +kernel)
theorem lk_1961 : Cond.instanceMethod yX12_verdict ∈ BW := bw_of (i := 2103) (by decide +kernel) (by decide +kernel)
theorem lk_1962 : Cond.selects RX12 yX12_verdict yX12_verdict ∈ BW := bw_of (i := 2104) (by decide +kernel) (by decide +kernel)
theorem lk_1963 : Cond.code yX12_verdict cX12_verdict 2 (some .boolean) ∈ BW := bw_of (i := 2105) (by decide +kernel) (by decide +kernel)
theorem lk_1968 : Cond.methodLink RL 216 yX12_sworn ∈ BW := bw_of (i := 2110) (by decide +kernel) (by decide +kernel)
theorem lk_1969 : Cond.instanceMethod yX12_sworn ∈ BW := bw_of (i := 2111) (by decide +kernel) (by decide +kernel)
theorem lk_1970 : Cond.selects RX12 yX12_sworn yX12_sworn ∈ BW := bw_of (i := 2112) (by decide +kernel) (by decide +kernel)
theorem lk_1971 : Cond.code yX12_sworn cX12_sworn 8 (some .int) ∈ BW := bw_of (i := 2113) (by decide +kernel) (by decide +kernel)
theorem lk_1973 : Cond.methodLink RL 220 yX12_power ∈ BW := bw_of (i := 2115) (by decide +kernel) (by decide +kernel)
theorem lk_1974 : Cond.instanceMethod yX12_power ∈ BW := bw_of (i := 2116) (by decide +kernel) (by decide +kernel)
theorem lk_1975 : Cond.selects RX12 yX12_power yX12_power ∈ BW := bw_of (i := 2117) (by decide +kernel) (by decide +kernel)
theorem lk_1976 : Cond.code yX12_power cX12_power 8 (some .boolean) ∈ BW := bw_of (i := 2118) (by decide +kernel) (by decide +kernel)
theorem lk_1980 : Cond.methodLink RL 224 yX12_clash ∈ BW := bw_of (i := 2122) (by decide +kernel) (by decide +kernel)
theorem lk_1981 : Cond.instanceMethod yX12_clash ∈ BW := bw_of (i := 2123) (by decide +kernel) (by decide +kernel)
theorem lk_1982 : Cond.selects RX12 yX12_clash yX12_clash ∈ BW := bw_of (i := 2124) (by decide +kernel) (by decide +kernel)
theorem lk_1983 : Cond.code yX12_clash cX12_clash 1 (some .int) ∈ BW := bw_of (i := 2125) (by decide +kernel) (by decide +kernel)
theorem lk_1996 : Cond.methodLink RL 228 yX12_struck ∈ BW := bw_of (i := 2138) (by decide +kernel) (by decide +kernel)
theorem lk_1997 : Cond.instanceMethod yX12_struck ∈ BW := bw_of (i := 2139) (by decide +kernel) (by decide +kernel)
theorem lk_1998 : Cond.selects RX12 yX12_struck yX12_struck ∈ BW := bw_of (i := 2140) (by decide +kernel) (by decide +kernel)
theorem lk_1999 : Cond.code yX12_struck cX12_struck 1 (some .int) ∈ BW := bw_of (i := 2141) (by decide +kernel) (by decide +kernel)
theorem lk_2008 : Cond.methodLink RL 232 yX12_struckSet ∈ BW := bw_of (i := 2150) (by decide +kernel) (by decide +kernel)
theorem lk_2009 : Cond.instanceMethod yX12_struckSet ∈ BW := bw_of (i := 2151) (by decide +kernel) (by decide +kernel)
theorem lk_2010 : Cond.selects RX12 yX12_struckSet yX12_struckSet ∈ BW := bw_of (i := 2152) (by decide +kernel) (by decide +kernel)
theorem lk_2011 : Cond.code yX12_struckSet cX12_struckSet 1 (some .int) ∈ BW := bw_of (i := 2153) (by decide +kernel) (by decide +kernel)
theorem lk_2012 : Cond.methodLink RL 236 yX12_best ∈ BW := bw_of (i := 2154) (by decide +kernel) (by decide +kernel)
theorem lk_2013 : Cond.instanceMethod yX12_best ∈ BW := bw_of (i := 2155) (by decide +kernel) (by decide +kernel)
theorem lk_2014 : Cond.selects RX12 yX12_best yX12_best ∈ BW := bw_of (i := 2156) (by decide +kernel) (by decide +kernel)
theorem lk_2015 : Cond.code yX12_best cX12_best 1 (some .int) ∈ BW := bw_of (i := 2157) (by decide +kernel) (by decide +kernel)
theorem lk_2020 : Cond.methodLink RL 240 yX12_bestAt ∈ BW := bw_of (i := 2162) (by decide +kernel) (by decide +kernel)
theorem lk_2021 : Cond.instanceMethod yX12_bestAt ∈ BW := bw_of (i := 2163) (by decide +kernel) (by decide +kernel)
theorem lk_2022 : Cond.selects RX12 yX12_bestAt yX12_bestAt ∈ BW := bw_of (i := 2164) (by decide +kernel) (by decide +kernel)
theorem lk_2023 : Cond.code yX12_bestAt cX12_bestAt 7 (some .int) ∈ BW := bw_of (i := 2165) (by decide +kernel) (by decide +kernel)
theorem lk_2024 : Cond.methodLink RL 244 yX12_game ∈ BW := bw_of (i := 2166) (by decide +kernel) (by decide +kernel)
theorem lk_2025 : Cond.instanceMethod yX12_game ∈ BW := bw_of (i := 2167) (by decide +kernel) (by decide +kernel)
theorem lk_2026 : Cond.selects RX12 yX12_game yX12_game ∈ BW := bw_of (i := 2168) (by decide +kernel) (by decide +kernel)
theorem lk_2027 : Cond.code yX12_game cX12_game 2 (some .int) ∈ BW := bw_of (i := 2169) (by decide +kernel) (by decide +kernel)
theorem lk_2052 : Cond.methodLink RL 248 yX12_moveOf ∈ BW := bw_of (i := 2194) (by decide +kernel) (by decide +kernel)
theorem lk_2053 : Cond.instanceMethod yX12_moveOf ∈ BW := bw_of (i := 2195) (by decide +kernel) (by decide +kernel)
theorem lk_2054 : Cond.selects RX12 yX12_moveOf yX12_moveOf ∈ BW := bw_of (i := 2196) (by decide +kernel) (by decide +kernel)
theorem lk_2055 : Cond.code yX12_moveOf cX12_moveOf 4 (some .int) ∈ BW := bw_of (i := 2197) (by decide +kernel) (by decide +kernel)
theorem lk_2056 : Cond.methodLink RL 252 yX12_copyFed ∈ BW := bw_of (i := 2198) (by decide +kernel) (by decide +kernel)
theorem lk_2057 : Cond.instanceMethod yX12_copyFed ∈ BW := bw_of (i := 2199) (by decide +kernel) (by decide +kernel)
theorem lk_2058 : Cond.selects RX12 yX12_copyFed yX12_copyFed ∈ BW := bw_of (i := 2200) (by decide +kernel) (by decide +kernel)
theorem lk_2059 : Cond.code yX12_copyFed cX12_copyFed 3 (some .int) ∈ BW := bw_of (i := 2201) (by decide +kernel) (by decide +kernel)
theorem lk_2060 : Cond.methodLink RL 256 yX12_live ∈ BW := bw_of (i := 2202) (by decide +kernel) (by decide +kernel)
theorem lk_2061 : Cond.instanceMethod yX12_live ∈ BW := bw_of (i := 2203) (by decide +kernel) (by decide +kernel)
theorem lk_2062 : Cond.selects RX12 yX12_live yX12_live ∈ BW := bw_of (i := 2204) (by decide +kernel) (by decide +kernel)
theorem lk_2063 : Cond.code yX12_live cX12_live 3 (some .int) ∈ BW := bw_of (i := 2205) (by decide +kernel) (by decide +kernel)
theorem lk_2098 : Cond.methodLink RL 260 yX12_lived ∈ BW := bw_of (i := 2240) (by decide +kernel) (by decide +kernel)
theorem lk_2099 : Cond.instanceMethod yX12_lived ∈ BW := bw_of (i := 2241) (by decide +kernel) (by decide +kernel)
theorem lk_2100 : Cond.selects RX12 yX12_lived yX12_lived ∈ BW := bw_of (i := 2242) (by decide +kernel) (by decide +kernel)
theorem lk_2101 : Cond.code yX12_lived cX12_lived 2 (some .int) ∈ BW := bw_of (i := 2243) (by decide +kernel) (by decide +kernel)
theorem lk_2102 : Cond.methodLink RL 264 yX12_mean ∈ BW := bw_of (i := 2244) (by decide +kernel) (by decide +kernel)
theorem lk_2103 : Cond.instanceMethod yX12_mean ∈ BW := bw_of (i := 2245) (by decide +kernel) (by decide +kernel)
theorem lk_2104 : Cond.selects RX12 yX12_mean yX12_mean ∈ BW := bw_of (i := 2246) (by decide +kernel) (by decide +kernel)
theorem lk_2105 : Cond.code yX12_mean cX12_mean 7 (some .boolean) ∈ BW := bw_of (i := 2247) (by decide +kernel) (by decide +kernel)
theorem lk_2106 : Cond.methodLink RL 268 yX12_mark ∈ BW := bw_of (i := 2248) (by decide +kernel) (by decide +kernel)
theorem lk_2107 : Cond.instanceMethod yX12_mark ∈ BW := bw_of (i := 2249) (by decide +kernel) (by decide +kernel)
theorem lk_2108 : Cond.selects RX12 yX12_mark yX12_mark ∈ BW := bw_of (i := 2250) (by decide +kernel) (by decide +kernel)
theorem lk_2109 : Cond.code yX12_mark cX12_mark 1 (some .int) ∈ BW := bw_of (i := 2251) (by decide +kernel) (by decide +kernel)
theorem lk_2114 : Cond.methodLink RL 272 yX12_undo ∈ BW := bw_of (i := 2256) (by decide +kernel) (by decide +kernel)
theorem lk_2115 : Cond.instanceMethod yX12_undo ∈ BW := bw_of (i := 2257) (by decide +kernel) (by decide +kernel)
theorem lk_2116 : Cond.selects RX12 yX12_undo yX12_undo ∈ BW := bw_of (i := 2258) (by decide +kernel) (by decide +kernel)
theorem lk_2117 : Cond.code yX12_undo cX12_undo 1 (some .int) ∈ BW := bw_of (i := 2259) (by decide +kernel) (by decide +kernel)
theorem lk_2118 : Cond.constantLong RL 32 (4294967295) ∈ BW := bw_of (i := 2260) (by decide +kernel) (by decide +kernel)
theorem sk_X11_status : SF yX11_status cX11_status 1 (some .int) 0 := ⟨lk_491, lk_1, ⟨by decide +kernel, by decide +kernel⟩, by decide +kernel⟩
theorem sw_X11_status : Cond.instanceMethod yX11_status ∈ BW ∧ Cond.selects RX11 yX11_status yX11_status ∈ BW := ⟨lk_489, lk_490⟩
theorem sk_X12_status : SF yX12_status cX12_status 1 (some .int) 0 := ⟨lk_1454, lk_17, ⟨by decide +kernel, by decide +kernel⟩, by decide +kernel⟩
theorem sw_X12_status : Cond.instanceMethod yX12_status ∈ BW ∧ Cond.selects RX12 yX12_status yX12_status ∈ BW := ⟨lk_1452, lk_1453⟩
theorem sk_X11_top : SF yX11_top cX11_top 1 (some .long) 0 := ⟨lk_495, lk_1, ⟨by decide +kernel, by decide +kernel⟩, by decide +kernel⟩
theorem sw_X11_top : Cond.instanceMethod yX11_top ∈ BW ∧ Cond.selects RX11 yX11_top yX11_top ∈ BW := ⟨lk_493, lk_494⟩
theorem sk_X12_top : SF yX12_top cX12_top 1 (some .long) 0 := ⟨lk_1458, lk_17, ⟨by decide +kernel, by decide +kernel⟩, by decide +kernel⟩
theorem sw_X12_top : Cond.instanceMethod yX12_top ∈ BW ∧ Cond.selects RX12 yX12_top yX12_top ∈ BW := ⟨lk_1456, lk_1457⟩
theorem sk_X11_bottom : SF yX11_bottom cX11_bottom 1 (some .long) 0 := ⟨lk_499, lk_1, ⟨by decide +kernel, by decide +kernel⟩, by decide +kernel⟩
theorem sw_X11_bottom : Cond.instanceMethod yX11_bottom ∈ BW ∧ Cond.selects RX11 yX11_bottom yX11_bottom ∈ BW := ⟨lk_497, lk_498⟩
theorem sk_X12_bottom : SF yX12_bottom cX12_bottom 1 (some .long) 0 := ⟨lk_1462, lk_17, ⟨by decide +kernel, by decide +kernel⟩, by decide +kernel⟩
theorem sw_X12_bottom : Cond.instanceMethod yX12_bottom ∈ BW ∧ Cond.selects RX12 yX12_bottom yX12_bottom ∈ BW := ⟨lk_1460, lk_1461⟩
theorem sk_X11_tray : SF yX11_tray cX11_tray 4 (some .boolean) 3 := ⟨lk_503, lk_1, ⟨by decide +kernel, by decide +kernel⟩, by decide +kernel⟩
theorem sw_X11_tray : Cond.instanceMethod yX11_tray ∈ BW ∧ Cond.selects RX11 yX11_tray yX11_tray ∈ BW := ⟨lk_501, lk_502⟩
theorem sk_X12_tray : SF yX12_tray cX12_tray 5 (some .boolean) 3 := ⟨lk_1466, lk_17, ⟨by decide +kernel, by decide +kernel⟩, by decide +kernel⟩
theorem sw_X12_tray : Cond.instanceMethod yX12_tray ∈ BW ∧ Cond.selects RX12 yX12_tray yX12_tray ∈ BW := ⟨lk_1464, lk_1465⟩
theorem sk_X11_write : SF yX11_write cX11_write 6 (some .boolean) 3 := ⟨lk_526, lk_1, ⟨by decide +kernel, by decide +kernel⟩, by decide +kernel⟩
theorem sw_X11_write : Cond.instanceMethod yX11_write ∈ BW ∧ Cond.selects RX11 yX11_write yX11_write ∈ BW := ⟨lk_524, lk_525⟩
theorem sk_X12_write : SF yX12_write cX12_write 6 (some .boolean) 3 := ⟨lk_1477, lk_17, ⟨by decide +kernel, by decide +kernel⟩, by decide +kernel⟩
theorem sw_X12_write : Cond.instanceMethod yX12_write ∈ BW ∧ Cond.selects RX12 yX12_write yX12_write ∈ BW := ⟨lk_1475, lk_1476⟩
theorem sk_X11_read : SF yX11_read cX11_read 4 (some .long) 2 := ⟨lk_551, lk_1, ⟨by decide +kernel, by decide +kernel⟩, by decide +kernel⟩
theorem sw_X11_read : Cond.instanceMethod yX11_read ∈ BW ∧ Cond.selects RX11 yX11_read yX11_read ∈ BW := ⟨lk_549, lk_550⟩
theorem sk_X12_read : SF yX12_read cX12_read 3 (some .long) 2 := ⟨lk_1488, lk_17, ⟨by decide +kernel, by decide +kernel⟩, by decide +kernel⟩
theorem sw_X12_read : Cond.instanceMethod yX12_read ∈ BW ∧ Cond.selects RX12 yX12_read yX12_read ∈ BW := ⟨lk_1486, lk_1487⟩
theorem sk_X11_pour : SF yX11_pour cX11_pour 8 (some .boolean) 5 := ⟨lk_563, lk_1, ⟨by decide +kernel, by decide +kernel⟩, by decide +kernel⟩
theorem sw_X11_pour : Cond.instanceMethod yX11_pour ∈ BW ∧ Cond.selects RX11 yX11_pour yX11_pour ∈ BW := ⟨lk_561, lk_562⟩
theorem sk_X12_pour : SF yX12_pour cX12_pour 8 (some .boolean) 5 := ⟨lk_1493, lk_17, ⟨by decide +kernel, by decide +kernel⟩, by decide +kernel⟩
theorem sw_X12_pour : Cond.instanceMethod yX12_pour ∈ BW ∧ Cond.selects RX12 yX12_pour yX12_pour ∈ BW := ⟨lk_1491, lk_1492⟩
theorem sk_X11_feed : SF yX11_feed cX11_feed 6 (some .int) 5 := ⟨lk_577, lk_1, ⟨by decide +kernel, by decide +kernel⟩, by decide +kernel⟩
theorem sw_X11_feed : Cond.instanceMethod yX11_feed ∈ BW ∧ Cond.selects RX11 yX11_feed yX11_feed ∈ BW := ⟨lk_575, lk_576⟩
theorem sk_X12_feed : SF yX12_feed cX12_feed 6 (some .int) 5 := ⟨lk_1497, lk_17, ⟨by decide +kernel, by decide +kernel⟩, by decide +kernel⟩
theorem sw_X12_feed : Cond.instanceMethod yX12_feed ∈ BW ∧ Cond.selects RX12 yX12_feed yX12_feed ∈ BW := ⟨lk_1495, lk_1496⟩
theorem sk_X11_court : SF yX11_court cX11_court 4 (some .int) 1 := ⟨lk_592, lk_1, ⟨by decide +kernel, by decide +kernel⟩, by decide +kernel⟩
theorem sw_X11_court : Cond.instanceMethod yX11_court ∈ BW ∧ Cond.selects RX11 yX11_court yX11_court ∈ BW := ⟨lk_590, lk_591⟩
theorem sk_X12_court : SF yX12_court cX12_court 4 (some .int) 1 := ⟨lk_1509, lk_17, ⟨by decide +kernel, by decide +kernel⟩, by decide +kernel⟩
theorem sw_X12_court : Cond.instanceMethod yX12_court ∈ BW ∧ Cond.selects RX12 yX12_court yX12_court ∈ BW := ⟨lk_1507, lk_1508⟩
theorem sk_X11_weeks : SF yX11_weeks cX11_weeks 3 (some .int) 1 := ⟨lk_762, lk_1, ⟨by decide +kernel, by decide +kernel⟩, by decide +kernel⟩
theorem sw_X11_weeks : Cond.instanceMethod yX11_weeks ∈ BW ∧ Cond.selects RX11 yX11_weeks yX11_weeks ∈ BW := ⟨lk_760, lk_761⟩
theorem sk_X12_weeks : SF yX12_weeks cX12_weeks 4 (some .int) 1 := ⟨lk_1646, lk_17, ⟨by decide +kernel, by decide +kernel⟩, by decide +kernel⟩
theorem sw_X12_weeks : Cond.instanceMethod yX12_weeks ∈ BW ∧ Cond.selects RX12 yX12_weeks yX12_weeks ∈ BW := ⟨lk_1644, lk_1645⟩
theorem sk_X11_fault : SF yX11_fault cX11_fault 2 (some .int) 1 := ⟨lk_804, lk_1, ⟨by decide +kernel, by decide +kernel⟩, by decide +kernel⟩
theorem sw_X11_fault : Cond.instanceMethod yX11_fault ∈ BW ∧ Cond.selects RX11 yX11_fault yX11_fault ∈ BW := ⟨lk_802, lk_803⟩
theorem sk_X12_fault : SF yX12_fault cX12_fault 2 (some .int) 1 := ⟨lk_1505, lk_17, ⟨by decide +kernel, by decide +kernel⟩, by decide +kernel⟩
theorem sw_X12_fault : Cond.instanceMethod yX12_fault ∈ BW ∧ Cond.selects RX12 yX12_fault yX12_fault ∈ BW := ⟨lk_1503, lk_1504⟩
theorem sk_X11_told : SF yX11_told cX11_told 2 (some .int) 1 := ⟨lk_808, lk_1, ⟨by decide +kernel, by decide +kernel⟩, by decide +kernel⟩
theorem sw_X11_told : Cond.instanceMethod yX11_told ∈ BW ∧ Cond.selects RX11 yX11_told yX11_told ∈ BW := ⟨lk_806, lk_807⟩
theorem sk_X12_told : SF yX12_told cX12_told 2 (some .int) 1 := ⟨lk_1670, lk_17, ⟨by decide +kernel, by decide +kernel⟩, by decide +kernel⟩
theorem sw_X12_told : Cond.instanceMethod yX12_told ∈ BW ∧ Cond.selects RX12 yX12_told yX12_told ∈ BW := ⟨lk_1668, lk_1669⟩
theorem sk_X11_sense : SF yX11_sense cX11_sense 2 (some .int) 1 := ⟨lk_829, lk_1, ⟨by decide +kernel, by decide +kernel⟩, by decide +kernel⟩
theorem sw_X11_sense : Cond.instanceMethod yX11_sense ∈ BW ∧ Cond.selects RX11 yX11_sense yX11_sense ∈ BW := ⟨lk_827, lk_828⟩
theorem sk_X12_sense : SF yX12_sense cX12_sense 2 (some .int) 1 := ⟨lk_1690, lk_17, ⟨by decide +kernel, by decide +kernel⟩, by decide +kernel⟩
theorem sw_X12_sense : Cond.instanceMethod yX12_sense ∈ BW ∧ Cond.selects RX12 yX12_sense yX12_sense ∈ BW := ⟨lk_1688, lk_1689⟩
theorem sk_X11_rule : SF yX11_rule cX11_rule 4 (some .int) 2 := ⟨lk_842, lk_1, ⟨by decide +kernel, by decide +kernel⟩, by decide +kernel⟩
theorem sw_X11_rule : Cond.instanceMethod yX11_rule ∈ BW ∧ Cond.selects RX11 yX11_rule yX11_rule ∈ BW := ⟨lk_840, lk_841⟩
theorem sk_X12_rule : SF yX12_rule cX12_rule 3 (some .int) 2 := ⟨lk_1698, lk_17, ⟨by decide +kernel, by decide +kernel⟩, by decide +kernel⟩
theorem sw_X12_rule : Cond.instanceMethod yX12_rule ∈ BW ∧ Cond.selects RX12 yX12_rule yX12_rule ∈ BW := ⟨lk_1696, lk_1697⟩
theorem sk_X11_person : SF yX11_person cX11_person 4 (some .int) 2 := ⟨lk_851, lk_1, ⟨by decide +kernel, by decide +kernel⟩, by decide +kernel⟩
theorem sw_X11_person : Cond.instanceMethod yX11_person ∈ BW ∧ Cond.selects RX11 yX11_person yX11_person ∈ BW := ⟨lk_849, lk_850⟩
theorem sk_X12_person : SF yX12_person cX12_person 3 (some .int) 2 := ⟨lk_1714, lk_17, ⟨by decide +kernel, by decide +kernel⟩, by decide +kernel⟩
theorem sw_X12_person : Cond.instanceMethod yX12_person ∈ BW ∧ Cond.selects RX12 yX12_person yX12_person ∈ BW := ⟨lk_1712, lk_1713⟩
theorem sk_X11_reader : SF yX11_reader cX11_reader 3 (some .int) 2 := ⟨lk_856, lk_1, ⟨by decide +kernel, by decide +kernel⟩, by decide +kernel⟩
theorem sw_X11_reader : Cond.instanceMethod yX11_reader ∈ BW ∧ Cond.selects RX11 yX11_reader yX11_reader ∈ BW := ⟨lk_854, lk_855⟩
theorem sk_X12_reader : SF yX12_reader cX12_reader 3 (some .int) 2 := ⟨lk_1722, lk_17, ⟨by decide +kernel, by decide +kernel⟩, by decide +kernel⟩
theorem sw_X12_reader : Cond.instanceMethod yX12_reader ∈ BW ∧ Cond.selects RX12 yX12_reader yX12_reader ∈ BW := ⟨lk_1720, lk_1721⟩
theorem sk_X11_word : SF yX11_word cX11_word 3 (some .int) 2 := ⟨lk_861, lk_1, ⟨by decide +kernel, by decide +kernel⟩, by decide +kernel⟩
theorem sw_X11_word : Cond.instanceMethod yX11_word ∈ BW ∧ Cond.selects RX11 yX11_word yX11_word ∈ BW := ⟨lk_859, lk_860⟩
theorem sk_X12_word : SF yX12_word cX12_word 3 (some .int) 2 := ⟨lk_1734, lk_17, ⟨by decide +kernel, by decide +kernel⟩, by decide +kernel⟩
theorem sw_X12_word : Cond.instanceMethod yX12_word ∈ BW ∧ Cond.selects RX12 yX12_word yX12_word ∈ BW := ⟨lk_1732, lk_1733⟩
theorem sk_X11_sit : SF yX11_sit cX11_sit 2 (some .int) 1 := ⟨lk_865, lk_1, ⟨by decide +kernel, by decide +kernel⟩, by decide +kernel⟩
theorem sw_X11_sit : Cond.instanceMethod yX11_sit ∈ BW ∧ Cond.selects RX11 yX11_sit yX11_sit ∈ BW := ⟨lk_863, lk_864⟩
theorem sk_X12_sit : SF yX12_sit cX12_sit 3 (some .int) 1 := ⟨lk_1785, lk_17, ⟨by decide +kernel, by decide +kernel⟩, by decide +kernel⟩
theorem sw_X12_sit : Cond.instanceMethod yX12_sit ∈ BW ∧ Cond.selects RX12 yX12_sit yX12_sit ∈ BW := ⟨lk_1783, lk_1784⟩
theorem sk_X11_term : SF yX11_term cX11_term 2 (some .int) 0 := ⟨lk_893, lk_1, ⟨by decide +kernel, by decide +kernel⟩, by decide +kernel⟩
theorem sw_X11_term : Cond.instanceMethod yX11_term ∈ BW ∧ Cond.selects RX11 yX11_term yX11_term ∈ BW := ⟨lk_891, lk_892⟩
theorem sk_X12_term : SF yX12_term cX12_term 1 (some .int) 0 := ⟨lk_1793, lk_17, ⟨by decide +kernel, by decide +kernel⟩, by decide +kernel⟩
theorem sw_X12_term : Cond.instanceMethod yX12_term ∈ BW ∧ Cond.selects RX12 yX12_term yX12_term ∈ BW := ⟨lk_1791, lk_1792⟩
theorem sk_X11_meal : SF yX11_meal cX11_meal 3 (some .int) 2 := ⟨lk_909, lk_1, ⟨by decide +kernel, by decide +kernel⟩, by decide +kernel⟩
theorem sw_X11_meal : Cond.instanceMethod yX11_meal ∈ BW ∧ Cond.selects RX11 yX11_meal yX11_meal ∈ BW := ⟨lk_907, lk_908⟩
theorem sk_X12_meal : SF yX12_meal cX12_meal 3 (some .int) 2 := ⟨lk_1808, lk_17, ⟨by decide +kernel, by decide +kernel⟩, by decide +kernel⟩
theorem sw_X12_meal : Cond.instanceMethod yX12_meal ∈ BW ∧ Cond.selects RX12 yX12_meal yX12_meal ∈ BW := ⟨lk_1806, lk_1807⟩
theorem sk_X11_scent : SF yX11_scent cX11_scent 4 (some .boolean) 3 := ⟨lk_917, lk_1, ⟨by decide +kernel, by decide +kernel⟩, by decide +kernel⟩
theorem sw_X11_scent : Cond.instanceMethod yX11_scent ∈ BW ∧ Cond.selects RX11 yX11_scent yX11_scent ∈ BW := ⟨lk_915, lk_916⟩
theorem sk_X12_scent : SF yX12_scent cX12_scent 4 (some .boolean) 3 := ⟨lk_1817, lk_17, ⟨by decide +kernel, by decide +kernel⟩, by decide +kernel⟩
theorem sw_X12_scent : Cond.instanceMethod yX12_scent ∈ BW ∧ Cond.selects RX12 yX12_scent yX12_scent ∈ BW := ⟨lk_1815, lk_1816⟩
theorem sk_X11_night : SF yX11_night cX11_night 2 (some .int) 0 := ⟨lk_925, lk_1, ⟨by decide +kernel, by decide +kernel⟩, by decide +kernel⟩
theorem sw_X11_night : Cond.instanceMethod yX11_night ∈ BW ∧ Cond.selects RX11 yX11_night yX11_night ∈ BW := ⟨lk_923, lk_924⟩
theorem sk_X12_night : SF yX12_night cX12_night 2 (some .int) 0 := ⟨lk_1829, lk_17, ⟨by decide +kernel, by decide +kernel⟩, by decide +kernel⟩
theorem sw_X12_night : Cond.instanceMethod yX12_night ∈ BW ∧ Cond.selects RX12 yX12_night yX12_night ∈ BW := ⟨lk_1827, lk_1828⟩
theorem sk_X11_appeal : SF yX11_appeal cX11_appeal 4 (some .int) 1 := ⟨lk_933, lk_1, ⟨by decide +kernel, by decide +kernel⟩, by decide +kernel⟩
theorem sw_X11_appeal : Cond.instanceMethod yX11_appeal ∈ BW ∧ Cond.selects RX11 yX11_appeal yX11_appeal ∈ BW := ⟨lk_931, lk_932⟩
theorem sk_X12_appeal : SF yX12_appeal cX12_appeal 3 (some .int) 1 := ⟨lk_1837, lk_17, ⟨by decide +kernel, by decide +kernel⟩, by decide +kernel⟩
theorem sw_X12_appeal : Cond.instanceMethod yX12_appeal ∈ BW ∧ Cond.selects RX12 yX12_appeal yX12_appeal ∈ BW := ⟨lk_1835, lk_1836⟩
theorem sk_X11_blame : SF yX11_blame cX11_blame 5 (some .boolean) 2 := ⟨lk_937, lk_1, ⟨by decide +kernel, by decide +kernel⟩, by decide +kernel⟩
theorem sw_X11_blame : Cond.instanceMethod yX11_blame ∈ BW ∧ Cond.selects RX11 yX11_blame yX11_blame ∈ BW := ⟨lk_935, lk_936⟩
theorem sk_X12_blame : SF yX12_blame cX12_blame 4 (some .boolean) 2 := ⟨lk_1841, lk_17, ⟨by decide +kernel, by decide +kernel⟩, by decide +kernel⟩
theorem sw_X12_blame : Cond.instanceMethod yX12_blame ∈ BW ∧ Cond.selects RX12 yX12_blame yX12_blame ∈ BW := ⟨lk_1839, lk_1840⟩
theorem sk_X11_reread : SF yX11_reread cX11_reread 3 (some .boolean) 2 := ⟨lk_941, lk_1, ⟨by decide +kernel, by decide +kernel⟩, by decide +kernel⟩
theorem sw_X11_reread : Cond.instanceMethod yX11_reread ∈ BW ∧ Cond.selects RX11 yX11_reread yX11_reread ∈ BW := ⟨lk_939, lk_940⟩
theorem sk_X12_reread : SF yX12_reread cX12_reread 3 (some .boolean) 2 := ⟨lk_1845, lk_17, ⟨by decide +kernel, by decide +kernel⟩, by decide +kernel⟩
theorem sw_X12_reread : Cond.instanceMethod yX12_reread ∈ BW ∧ Cond.selects RX12 yX12_reread yX12_reread ∈ BW := ⟨lk_1843, lk_1844⟩
theorem sk_X11_enact : SF yX11_enact cX11_enact 7 (some .int) 3 := ⟨lk_946, lk_1, ⟨by decide +kernel, by decide +kernel⟩, by decide +kernel⟩
theorem sw_X11_enact : Cond.instanceMethod yX11_enact ∈ BW ∧ Cond.selects RX11 yX11_enact yX11_enact ∈ BW := ⟨lk_944, lk_945⟩
theorem sk_X12_enact : SF yX12_enact cX12_enact 6 (some .int) 3 := ⟨lk_1850, lk_17, ⟨by decide +kernel, by decide +kernel⟩, by decide +kernel⟩
theorem sw_X12_enact : Cond.instanceMethod yX12_enact ∈ BW ∧ Cond.selects RX12 yX12_enact yX12_enact ∈ BW := ⟨lk_1848, lk_1849⟩
theorem sk_X11_repeal : SF yX11_repeal cX11_repeal 2 (some .int) 1 := ⟨lk_953, lk_1, ⟨by decide +kernel, by decide +kernel⟩, by decide +kernel⟩
theorem sw_X11_repeal : Cond.instanceMethod yX11_repeal ∈ BW ∧ Cond.selects RX11 yX11_repeal yX11_repeal ∈ BW := ⟨lk_951, lk_952⟩
theorem sk_X12_repeal : SF yX12_repeal cX12_repeal 3 (some .int) 1 := ⟨lk_1854, lk_17, ⟨by decide +kernel, by decide +kernel⟩, by decide +kernel⟩
theorem sw_X12_repeal : Cond.instanceMethod yX12_repeal ∈ BW ∧ Cond.selects RX12 yX12_repeal yX12_repeal ∈ BW := ⟨lk_1852, lk_1853⟩
theorem sk_X11_strain : SF yX11_strain cX11_strain 3 (some .boolean) 2 := ⟨lk_965, lk_1, ⟨by decide +kernel, by decide +kernel⟩, by decide +kernel⟩
theorem sw_X11_strain : Cond.instanceMethod yX11_strain ∈ BW ∧ Cond.selects RX11 yX11_strain yX11_strain ∈ BW := ⟨lk_963, lk_964⟩
theorem sk_X12_strain : SF yX12_strain cX12_strain 3 (some .boolean) 2 := ⟨lk_1858, lk_17, ⟨by decide +kernel, by decide +kernel⟩, by decide +kernel⟩
theorem sw_X12_strain : Cond.instanceMethod yX12_strain ∈ BW ∧ Cond.selects RX12 yX12_strain yX12_strain ∈ BW := ⟨lk_1856, lk_1857⟩
theorem sk_X11_cue : SF yX11_cue cX11_cue 2 (some .int) 1 := ⟨lk_969, lk_1, ⟨by decide +kernel, by decide +kernel⟩, by decide +kernel⟩
theorem sw_X11_cue : Cond.instanceMethod yX11_cue ∈ BW ∧ Cond.selects RX11 yX11_cue yX11_cue ∈ BW := ⟨lk_967, lk_968⟩
theorem sk_X12_cue : SF yX12_cue cX12_cue 2 (some .int) 1 := ⟨lk_1738, lk_17, ⟨by decide +kernel, by decide +kernel⟩, by decide +kernel⟩
theorem sw_X12_cue : Cond.instanceMethod yX12_cue ∈ BW ∧ Cond.selects RX12 yX12_cue yX12_cue ∈ BW := ⟨lk_1736, lk_1737⟩
theorem sk_X11_cueAt : SF yX11_cueAt cX11_cueAt 4 (some .int) 2 := ⟨lk_973, lk_1, ⟨by decide +kernel, by decide +kernel⟩, by decide +kernel⟩
theorem sw_X11_cueAt : Cond.instanceMethod yX11_cueAt ∈ BW ∧ Cond.selects RX11 yX11_cueAt yX11_cueAt ∈ BW := ⟨lk_971, lk_972⟩
theorem sk_X12_cueAt : SF yX12_cueAt cX12_cueAt 3 (some .int) 2 := ⟨lk_1765, lk_17, ⟨by decide +kernel, by decide +kernel⟩, by decide +kernel⟩
theorem sw_X12_cueAt : Cond.instanceMethod yX12_cueAt ∈ BW ∧ Cond.selects RX12 yX12_cueAt yX12_cueAt ∈ BW := ⟨lk_1763, lk_1764⟩
theorem sk_X11_bears : SF yX11_bears cX11_bears 4 (some .int) 1 := ⟨lk_979, lk_1, ⟨by decide +kernel, by decide +kernel⟩, by decide +kernel⟩
theorem sw_X11_bears : Cond.instanceMethod yX11_bears ∈ BW ∧ Cond.selects RX11 yX11_bears yX11_bears ∈ BW := ⟨lk_977, lk_978⟩
theorem sk_X12_bears : SF yX12_bears cX12_bears 2 (some .int) 1 := ⟨lk_1773, lk_17, ⟨by decide +kernel, by decide +kernel⟩, by decide +kernel⟩
theorem sw_X12_bears : Cond.instanceMethod yX12_bears ∈ BW ∧ Cond.selects RX12 yX12_bears yX12_bears ∈ BW := ⟨lk_1771, lk_1772⟩
theorem sk_X11_bearing : SF yX11_bearing cX11_bearing 5 (some .int) 1 := ⟨lk_984, lk_1, ⟨by decide +kernel, by decide +kernel⟩, by decide +kernel⟩
theorem sw_X11_bearing : Cond.instanceMethod yX11_bearing ∈ BW ∧ Cond.selects RX11 yX11_bearing yX11_bearing ∈ BW := ⟨lk_982, lk_983⟩
theorem sk_X12_bearing : SF yX12_bearing cX12_bearing 4 (some .int) 1 := ⟨lk_1777, lk_17, ⟨by decide +kernel, by decide +kernel⟩, by decide +kernel⟩
theorem sw_X12_bearing : Cond.instanceMethod yX12_bearing ∈ BW ∧ Cond.selects RX12 yX12_bearing yX12_bearing ∈ BW := ⟨lk_1775, lk_1776⟩
theorem sk_X11_shown : SF yX11_shown cX11_shown 4 (some .int) 1 := ⟨lk_989, lk_1, ⟨by decide +kernel, by decide +kernel⟩, by decide +kernel⟩
theorem sw_X11_shown : Cond.instanceMethod yX11_shown ∈ BW ∧ Cond.selects RX11 yX11_shown yX11_shown ∈ BW := ⟨lk_987, lk_988⟩
theorem sk_X12_shown : SF yX12_shown cX12_shown 4 (some .int) 1 := ⟨lk_1781, lk_17, ⟨by decide +kernel, by decide +kernel⟩, by decide +kernel⟩
theorem sw_X12_shown : Cond.instanceMethod yX12_shown ∈ BW ∧ Cond.selects RX12 yX12_shown yX12_shown ∈ BW := ⟨lk_1779, lk_1780⟩
theorem sk_X11_freeIn : SF yX11_freeIn cX11_freeIn 3 (some .int) 1 := ⟨lk_993, lk_1, ⟨by decide +kernel, by decide +kernel⟩, by decide +kernel⟩
theorem sw_X11_freeIn : Cond.instanceMethod yX11_freeIn ∈ BW ∧ Cond.selects RX11 yX11_freeIn yX11_freeIn ∈ BW := ⟨lk_991, lk_992⟩
theorem sk_X12_freeIn : SF yX12_freeIn cX12_freeIn 3 (some .int) 1 := ⟨lk_1863, lk_17, ⟨by decide +kernel, by decide +kernel⟩, by decide +kernel⟩
theorem sw_X12_freeIn : Cond.instanceMethod yX12_freeIn ∈ BW ∧ Cond.selects RX12 yX12_freeIn yX12_freeIn ∈ BW := ⟨lk_1861, lk_1862⟩
theorem sk_X11_judgedIn : SF yX11_judgedIn cX11_judgedIn 3 (some .int) 1 := ⟨lk_1007, lk_1, ⟨by decide +kernel, by decide +kernel⟩, by decide +kernel⟩
theorem sw_X11_judgedIn : Cond.instanceMethod yX11_judgedIn ∈ BW ∧ Cond.selects RX11 yX11_judgedIn yX11_judgedIn ∈ BW := ⟨lk_1005, lk_1006⟩
theorem sk_X12_judgedIn : SF yX12_judgedIn cX12_judgedIn 4 (some .int) 1 := ⟨lk_1876, lk_17, ⟨by decide +kernel, by decide +kernel⟩, by decide +kernel⟩
theorem sw_X12_judgedIn : Cond.instanceMethod yX12_judgedIn ∈ BW ∧ Cond.selects RX12 yX12_judgedIn yX12_judgedIn ∈ BW := ⟨lk_1874, lk_1875⟩
theorem sk_X11_fits : SF yX11_fits cX11_fits 4 (some .int) 2 := ⟨lk_1011, lk_1, ⟨by decide +kernel, by decide +kernel⟩, by decide +kernel⟩
theorem sw_X11_fits : Cond.instanceMethod yX11_fits ∈ BW ∧ Cond.selects RX11 yX11_fits yX11_fits ∈ BW := ⟨lk_1009, lk_1010⟩
theorem sk_X12_fits : SF yX12_fits cX12_fits 4 (some .int) 2 := ⟨lk_1880, lk_17, ⟨by decide +kernel, by decide +kernel⟩, by decide +kernel⟩
theorem sw_X12_fits : Cond.instanceMethod yX12_fits ∈ BW ∧ Cond.selects RX12 yX12_fits yX12_fits ∈ BW := ⟨lk_1878, lk_1879⟩
theorem sk_X11_sure : SF yX11_sure cX11_sure 5 (some .int) 3 := ⟨lk_1032, lk_1, ⟨by decide +kernel, by decide +kernel⟩, by decide +kernel⟩
theorem sw_X11_sure : Cond.instanceMethod yX11_sure ∈ BW ∧ Cond.selects RX11 yX11_sure yX11_sure ∈ BW := ⟨lk_1030, lk_1031⟩
theorem sk_X12_sure : SF yX12_sure cX12_sure 6 (some .int) 3 := ⟨lk_1905, lk_17, ⟨by decide +kernel, by decide +kernel⟩, by decide +kernel⟩
theorem sw_X12_sure : Cond.instanceMethod yX12_sure ∈ BW ∧ Cond.selects RX12 yX12_sure yX12_sure ∈ BW := ⟨lk_1903, lk_1904⟩
theorem sk_X11_odds : SF yX11_odds cX11_odds 5 (some .boolean) 3 := ⟨lk_1041, lk_1, ⟨by decide +kernel, by decide +kernel⟩, by decide +kernel⟩
theorem sw_X11_odds : Cond.instanceMethod yX11_odds ∈ BW ∧ Cond.selects RX11 yX11_odds yX11_odds ∈ BW := ⟨lk_1039, lk_1040⟩
theorem sk_X12_odds : SF yX12_odds cX12_odds 5 (some .boolean) 3 := ⟨lk_1913, lk_17, ⟨by decide +kernel, by decide +kernel⟩, by decide +kernel⟩
theorem sw_X12_odds : Cond.instanceMethod yX12_odds ∈ BW ∧ Cond.selects RX12 yX12_odds yX12_odds ∈ BW := ⟨lk_1911, lk_1912⟩
theorem sk_X11_ask : SF yX11_ask cX11_ask 6 (some .int) 3 := ⟨lk_1053, lk_1, ⟨by decide +kernel, by decide +kernel⟩, by decide +kernel⟩
theorem sw_X11_ask : Cond.instanceMethod yX11_ask ∈ BW ∧ Cond.selects RX11 yX11_ask yX11_ask ∈ BW := ⟨lk_1051, lk_1052⟩
theorem sk_X12_ask : SF yX12_ask cX12_ask 9 (some .int) 3 := ⟨lk_1921, lk_17, ⟨by decide +kernel, by decide +kernel⟩, by decide +kernel⟩
theorem sw_X12_ask : Cond.instanceMethod yX12_ask ∈ BW ∧ Cond.selects RX12 yX12_ask yX12_ask ∈ BW := ⟨lk_1919, lk_1920⟩
theorem sk_X11_least : SF yX11_least cX11_least 4 (some .int) 2 := ⟨lk_1061, lk_1, ⟨by decide +kernel, by decide +kernel⟩, by decide +kernel⟩
theorem sw_X11_least : Cond.instanceMethod yX11_least ∈ BW ∧ Cond.selects RX11 yX11_least yX11_least ∈ BW := ⟨lk_1059, lk_1060⟩
theorem sk_X12_least : SF yX12_least cX12_least 3 (some .int) 2 := ⟨lk_1931, lk_17, ⟨by decide +kernel, by decide +kernel⟩, by decide +kernel⟩
theorem sw_X12_least : Cond.instanceMethod yX12_least ∈ BW ∧ Cond.selects RX12 yX12_least yX12_least ∈ BW := ⟨lk_1929, lk_1930⟩
theorem sk_X11_leastBy : SF yX11_leastBy cX11_leastBy 5 (some .int) 3 := ⟨lk_1069, lk_1, ⟨by decide +kernel, by decide +kernel⟩, by decide +kernel⟩
theorem sw_X11_leastBy : Cond.instanceMethod yX11_leastBy ∈ BW ∧ Cond.selects RX11 yX11_leastBy yX11_leastBy ∈ BW := ⟨lk_1067, lk_1068⟩
theorem sk_X12_leastBy : SF yX12_leastBy cX12_leastBy 4 (some .int) 3 := ⟨lk_1939, lk_17, ⟨by decide +kernel, by decide +kernel⟩, by decide +kernel⟩
theorem sw_X12_leastBy : Cond.instanceMethod yX12_leastBy ∈ BW ∧ Cond.selects RX12 yX12_leastBy yX12_leastBy ∈ BW := ⟨lk_1937, lk_1938⟩
theorem sk_X11_reach : SF yX11_reach cX11_reach 2 (some .int) 1 := ⟨lk_1073, lk_1, ⟨by decide +kernel, by decide +kernel⟩, by decide +kernel⟩
theorem sw_X11_reach : Cond.instanceMethod yX11_reach ∈ BW ∧ Cond.selects RX11 yX11_reach yX11_reach ∈ BW := ⟨lk_1071, lk_1072⟩
theorem sk_X12_reach : SF yX12_reach cX12_reach 2 (some .int) 1 := ⟨lk_1943, lk_17, ⟨by decide +kernel, by decide +kernel⟩, by decide +kernel⟩
theorem sw_X12_reach : Cond.instanceMethod yX12_reach ∈ BW ∧ Cond.selects RX12 yX12_reach yX12_reach ∈ BW := ⟨lk_1941, lk_1942⟩
theorem sk_X11_idle : SF yX11_idle cX11_idle 3 (some .int) 0 := ⟨lk_1091, lk_1, ⟨by decide +kernel, by decide +kernel⟩, by decide +kernel⟩
theorem sw_X11_idle : Cond.instanceMethod yX11_idle ∈ BW ∧ Cond.selects RX11 yX11_idle yX11_idle ∈ BW := ⟨lk_1089, lk_1090⟩
theorem sk_X12_idle : SF yX12_idle cX12_idle 3 (some .int) 0 := ⟨lk_1951, lk_17, ⟨by decide +kernel, by decide +kernel⟩, by decide +kernel⟩
theorem sw_X12_idle : Cond.instanceMethod yX12_idle ∈ BW ∧ Cond.selects RX12 yX12_idle yX12_idle ∈ BW := ⟨lk_1949, lk_1950⟩
theorem sk_X11_tells : SF yX11_tells cX11_tells 5 (some .boolean) 1 := ⟨lk_1095, lk_1, ⟨by decide +kernel, by decide +kernel⟩, by decide +kernel⟩
theorem sw_X11_tells : Cond.instanceMethod yX11_tells ∈ BW ∧ Cond.selects RX11 yX11_tells yX11_tells ∈ BW := ⟨lk_1093, lk_1094⟩
theorem sk_X12_tells : SF yX12_tells cX12_tells 5 (some .boolean) 1 := ⟨lk_1955, lk_17, ⟨by decide +kernel, by decide +kernel⟩, by decide +kernel⟩
theorem sw_X12_tells : Cond.instanceMethod yX12_tells ∈ BW ∧ Cond.selects RX12 yX12_tells yX12_tells ∈ BW := ⟨lk_1953, lk_1954⟩
theorem sk_X11_mute : SF yX11_mute cX11_mute 1 (some .int) 0 := ⟨lk_1099, lk_1, ⟨by decide +kernel, by decide +kernel⟩, by decide +kernel⟩
theorem sw_X11_mute : Cond.instanceMethod yX11_mute ∈ BW ∧ Cond.selects RX11 yX11_mute yX11_mute ∈ BW := ⟨lk_1097, lk_1098⟩
theorem sk_X12_mute : SF yX12_mute cX12_mute 1 (some .int) 0 := ⟨lk_1959, lk_17, ⟨by decide +kernel, by decide +kernel⟩, by decide +kernel⟩
theorem sw_X12_mute : Cond.instanceMethod yX12_mute ∈ BW ∧ Cond.selects RX12 yX12_mute yX12_mute ∈ BW := ⟨lk_1957, lk_1958⟩
theorem sk_X11_verdict : SF yX11_verdict cX11_verdict 2 (some .boolean) 1 := ⟨lk_1103, lk_1, ⟨by decide +kernel, by decide +kernel⟩, by decide +kernel⟩
theorem sw_X11_verdict : Cond.instanceMethod yX11_verdict ∈ BW ∧ Cond.selects RX11 yX11_verdict yX11_verdict ∈ BW := ⟨lk_1101, lk_1102⟩
theorem sk_X12_verdict : SF yX12_verdict cX12_verdict 2 (some .boolean) 1 := ⟨lk_1963, lk_17, ⟨by decide +kernel, by decide +kernel⟩, by decide +kernel⟩
theorem sw_X12_verdict : Cond.instanceMethod yX12_verdict ∈ BW ∧ Cond.selects RX12 yX12_verdict yX12_verdict ∈ BW := ⟨lk_1961, lk_1962⟩
theorem sk_X11_sworn : SF yX11_sworn cX11_sworn 8 (some .int) 1 := ⟨lk_1116, lk_1, ⟨by decide +kernel, by decide +kernel⟩, by decide +kernel⟩
theorem sw_X11_sworn : Cond.instanceMethod yX11_sworn ∈ BW ∧ Cond.selects RX11 yX11_sworn yX11_sworn ∈ BW := ⟨lk_1114, lk_1115⟩
theorem sk_X12_sworn : SF yX12_sworn cX12_sworn 8 (some .int) 1 := ⟨lk_1971, lk_17, ⟨by decide +kernel, by decide +kernel⟩, by decide +kernel⟩
theorem sw_X12_sworn : Cond.instanceMethod yX12_sworn ∈ BW ∧ Cond.selects RX12 yX12_sworn yX12_sworn ∈ BW := ⟨lk_1969, lk_1970⟩
theorem sk_X11_power : SF yX11_power cX11_power 8 (some .boolean) 1 := ⟨lk_1121, lk_1, ⟨by decide +kernel, by decide +kernel⟩, by decide +kernel⟩
theorem sw_X11_power : Cond.instanceMethod yX11_power ∈ BW ∧ Cond.selects RX11 yX11_power yX11_power ∈ BW := ⟨lk_1119, lk_1120⟩
theorem sk_X12_power : SF yX12_power cX12_power 8 (some .boolean) 1 := ⟨lk_1976, lk_17, ⟨by decide +kernel, by decide +kernel⟩, by decide +kernel⟩
theorem sw_X12_power : Cond.instanceMethod yX12_power ∈ BW ∧ Cond.selects RX12 yX12_power yX12_power ∈ BW := ⟨lk_1974, lk_1975⟩
theorem sk_X11_clash : SF yX11_clash cX11_clash 4 (some .int) 0 := ⟨lk_1128, lk_1, ⟨by decide +kernel, by decide +kernel⟩, by decide +kernel⟩
theorem sw_X11_clash : Cond.instanceMethod yX11_clash ∈ BW ∧ Cond.selects RX11 yX11_clash yX11_clash ∈ BW := ⟨lk_1126, lk_1127⟩
theorem sk_X12_clash : SF yX12_clash cX12_clash 1 (some .int) 0 := ⟨lk_1983, lk_17, ⟨by decide +kernel, by decide +kernel⟩, by decide +kernel⟩
theorem sw_X12_clash : Cond.instanceMethod yX12_clash ∈ BW ∧ Cond.selects RX12 yX12_clash yX12_clash ∈ BW := ⟨lk_1981, lk_1982⟩
theorem sk_X11_struck : SF yX11_struck cX11_struck 1 (some .int) 0 := ⟨lk_1136, lk_1, ⟨by decide +kernel, by decide +kernel⟩, by decide +kernel⟩
theorem sw_X11_struck : Cond.instanceMethod yX11_struck ∈ BW ∧ Cond.selects RX11 yX11_struck yX11_struck ∈ BW := ⟨lk_1134, lk_1135⟩
theorem sk_X12_struck : SF yX12_struck cX12_struck 1 (some .int) 0 := ⟨lk_1999, lk_17, ⟨by decide +kernel, by decide +kernel⟩, by decide +kernel⟩
theorem sw_X12_struck : Cond.instanceMethod yX12_struck ∈ BW ∧ Cond.selects RX12 yX12_struck yX12_struck ∈ BW := ⟨lk_1997, lk_1998⟩
theorem sk_X11_struckSet : SF yX11_struckSet cX11_struckSet 1 (some .int) 0 := ⟨lk_1152, lk_1, ⟨by decide +kernel, by decide +kernel⟩, by decide +kernel⟩
theorem sw_X11_struckSet : Cond.instanceMethod yX11_struckSet ∈ BW ∧ Cond.selects RX11 yX11_struckSet yX11_struckSet ∈ BW := ⟨lk_1150, lk_1151⟩
theorem sk_X12_struckSet : SF yX12_struckSet cX12_struckSet 1 (some .int) 0 := ⟨lk_2011, lk_17, ⟨by decide +kernel, by decide +kernel⟩, by decide +kernel⟩
theorem sw_X12_struckSet : Cond.instanceMethod yX12_struckSet ∈ BW ∧ Cond.selects RX12 yX12_struckSet yX12_struckSet ∈ BW := ⟨lk_2009, lk_2010⟩
theorem sk_X11_best : SF yX11_best cX11_best 1 (some .int) 0 := ⟨lk_1156, lk_1, ⟨by decide +kernel, by decide +kernel⟩, by decide +kernel⟩
theorem sw_X11_best : Cond.instanceMethod yX11_best ∈ BW ∧ Cond.selects RX11 yX11_best yX11_best ∈ BW := ⟨lk_1154, lk_1155⟩
theorem sk_X12_best : SF yX12_best cX12_best 1 (some .int) 0 := ⟨lk_2015, lk_17, ⟨by decide +kernel, by decide +kernel⟩, by decide +kernel⟩
theorem sw_X12_best : Cond.instanceMethod yX12_best ∈ BW ∧ Cond.selects RX12 yX12_best yX12_best ∈ BW := ⟨lk_2013, lk_2014⟩
theorem sk_X11_bestAt : SF yX11_bestAt cX11_bestAt 2 (some .int) 1 := ⟨lk_1191, lk_1, ⟨by decide +kernel, by decide +kernel⟩, by decide +kernel⟩
theorem sw_X11_bestAt : Cond.instanceMethod yX11_bestAt ∈ BW ∧ Cond.selects RX11 yX11_bestAt yX11_bestAt ∈ BW := ⟨lk_1189, lk_1190⟩
theorem sk_X12_bestAt : SF yX12_bestAt cX12_bestAt 7 (some .int) 1 := ⟨lk_2023, lk_17, ⟨by decide +kernel, by decide +kernel⟩, by decide +kernel⟩
theorem sw_X12_bestAt : Cond.instanceMethod yX12_bestAt ∈ BW ∧ Cond.selects RX12 yX12_bestAt yX12_bestAt ∈ BW := ⟨lk_2021, lk_2022⟩
theorem sk_X11_game : SF yX11_game cX11_game 2 (some .int) 1 := ⟨lk_1195, lk_1, ⟨by decide +kernel, by decide +kernel⟩, by decide +kernel⟩
theorem sw_X11_game : Cond.instanceMethod yX11_game ∈ BW ∧ Cond.selects RX11 yX11_game yX11_game ∈ BW := ⟨lk_1193, lk_1194⟩
theorem sk_X12_game : SF yX12_game cX12_game 2 (some .int) 1 := ⟨lk_2027, lk_17, ⟨by decide +kernel, by decide +kernel⟩, by decide +kernel⟩
theorem sw_X12_game : Cond.instanceMethod yX12_game ∈ BW ∧ Cond.selects RX12 yX12_game yX12_game ∈ BW := ⟨lk_2025, lk_2026⟩
theorem sk_X11_moveOf : SF yX11_moveOf cX11_moveOf 3 (some .int) 2 := ⟨lk_1221, lk_1, ⟨by decide +kernel, by decide +kernel⟩, by decide +kernel⟩
theorem sw_X11_moveOf : Cond.instanceMethod yX11_moveOf ∈ BW ∧ Cond.selects RX11 yX11_moveOf yX11_moveOf ∈ BW := ⟨lk_1219, lk_1220⟩
theorem sk_X12_moveOf : SF yX12_moveOf cX12_moveOf 4 (some .int) 2 := ⟨lk_2055, lk_17, ⟨by decide +kernel, by decide +kernel⟩, by decide +kernel⟩
theorem sw_X12_moveOf : Cond.instanceMethod yX12_moveOf ∈ BW ∧ Cond.selects RX12 yX12_moveOf yX12_moveOf ∈ BW := ⟨lk_2053, lk_2054⟩
theorem sk_X11_copyFed : SF yX11_copyFed cX11_copyFed 5 (some .int) 1 := ⟨lk_1225, lk_1, ⟨by decide +kernel, by decide +kernel⟩, by decide +kernel⟩
theorem sw_X11_copyFed : Cond.instanceMethod yX11_copyFed ∈ BW ∧ Cond.selects RX11 yX11_copyFed yX11_copyFed ∈ BW := ⟨lk_1223, lk_1224⟩
theorem sk_X12_copyFed : SF yX12_copyFed cX12_copyFed 3 (some .int) 1 := ⟨lk_2059, lk_17, ⟨by decide +kernel, by decide +kernel⟩, by decide +kernel⟩
theorem sw_X12_copyFed : Cond.instanceMethod yX12_copyFed ∈ BW ∧ Cond.selects RX12 yX12_copyFed yX12_copyFed ∈ BW := ⟨lk_2057, lk_2058⟩
theorem sk_X11_live : SF yX11_live cX11_live 5 (some .int) 1 := ⟨lk_1229, lk_1, ⟨by decide +kernel, by decide +kernel⟩, by decide +kernel⟩
theorem sw_X11_live : Cond.instanceMethod yX11_live ∈ BW ∧ Cond.selects RX11 yX11_live yX11_live ∈ BW := ⟨lk_1227, lk_1228⟩
theorem sk_X12_live : SF yX12_live cX12_live 3 (some .int) 1 := ⟨lk_2063, lk_17, ⟨by decide +kernel, by decide +kernel⟩, by decide +kernel⟩
theorem sw_X12_live : Cond.instanceMethod yX12_live ∈ BW ∧ Cond.selects RX12 yX12_live yX12_live ∈ BW := ⟨lk_2061, lk_2062⟩
theorem sk_X11_lived : SF yX11_lived cX11_lived 2 (some .int) 1 := ⟨lk_1292, lk_1, ⟨by decide +kernel, by decide +kernel⟩, by decide +kernel⟩
theorem sw_X11_lived : Cond.instanceMethod yX11_lived ∈ BW ∧ Cond.selects RX11 yX11_lived yX11_lived ∈ BW := ⟨lk_1290, lk_1291⟩
theorem sk_X12_lived : SF yX12_lived cX12_lived 2 (some .int) 1 := ⟨lk_2101, lk_17, ⟨by decide +kernel, by decide +kernel⟩, by decide +kernel⟩
theorem sw_X12_lived : Cond.instanceMethod yX12_lived ∈ BW ∧ Cond.selects RX12 yX12_lived yX12_lived ∈ BW := ⟨lk_2099, lk_2100⟩
theorem sk_X11_mean : SF yX11_mean cX11_mean 6 (some .boolean) 2 := ⟨lk_1296, lk_1, ⟨by decide +kernel, by decide +kernel⟩, by decide +kernel⟩
theorem sw_X11_mean : Cond.instanceMethod yX11_mean ∈ BW ∧ Cond.selects RX11 yX11_mean yX11_mean ∈ BW := ⟨lk_1294, lk_1295⟩
theorem sk_X12_mean : SF yX12_mean cX12_mean 7 (some .boolean) 2 := ⟨lk_2105, lk_17, ⟨by decide +kernel, by decide +kernel⟩, by decide +kernel⟩
theorem sw_X12_mean : Cond.instanceMethod yX12_mean ∈ BW ∧ Cond.selects RX12 yX12_mean yX12_mean ∈ BW := ⟨lk_2103, lk_2104⟩
theorem sk_X11_mark : SF yX11_mark cX11_mark 1 (some .int) 0 := ⟨lk_1304, lk_1, ⟨by decide +kernel, by decide +kernel⟩, by decide +kernel⟩
theorem sw_X11_mark : Cond.instanceMethod yX11_mark ∈ BW ∧ Cond.selects RX11 yX11_mark yX11_mark ∈ BW := ⟨lk_1302, lk_1303⟩
theorem sk_X12_mark : SF yX12_mark cX12_mark 1 (some .int) 0 := ⟨lk_2109, lk_17, ⟨by decide +kernel, by decide +kernel⟩, by decide +kernel⟩
theorem sw_X12_mark : Cond.instanceMethod yX12_mark ∈ BW ∧ Cond.selects RX12 yX12_mark yX12_mark ∈ BW := ⟨lk_2107, lk_2108⟩
theorem sk_X11_undo : SF yX11_undo cX11_undo 1 (some .int) 0 := ⟨lk_1312, lk_1, ⟨by decide +kernel, by decide +kernel⟩, by decide +kernel⟩
theorem sw_X11_undo : Cond.instanceMethod yX11_undo ∈ BW ∧ Cond.selects RX11 yX11_undo yX11_undo ∈ BW := ⟨lk_1310, lk_1311⟩
theorem sk_X12_undo : SF yX12_undo cX12_undo 1 (some .int) 0 := ⟨lk_2117, lk_17, ⟨by decide +kernel, by decide +kernel⟩, by decide +kernel⟩
theorem sw_X12_undo : Cond.instanceMethod yX12_undo ∈ BW ∧ Cond.selects RX12 yX12_undo yX12_undo ∈ BW := ⟨lk_2115, lk_2116⟩
