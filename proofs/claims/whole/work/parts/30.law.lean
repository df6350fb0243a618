theorem ms_X7_put : jx_MV yX7_put cX7_put 6 (some .int) 5 := ⟨jx_mT 311 (by decide +kernel) (by decide +kernel), jx_mT 70 (by decide +kernel) (by decide +kernel), jx_mT 309 (by decide +kernel) (by decide +kernel), jx_mT 310 (by decide +kernel) (by decide +kernel), by decide +kernel⟩
theorem lk_L_13 : Cond.methodLink RL 13 yX7_put ∈ jx_T := jx_mT 308 (by decide +kernel) (by decide +kernel)
theorem ms_X8_put : jx_MV yX8_put cX8_put 6 (some .int) 5 := ⟨jx_mT 865 (by decide +kernel) (by decide +kernel), jx_mT 78 (by decide +kernel) (by decide +kernel), jx_mT 863 (by decide +kernel) (by decide +kernel), jx_mT 864 (by decide +kernel) (by decide +kernel), by decide +kernel⟩
theorem lk_L_17 : Cond.methodLink RL 17 yX8_put ∈ jx_T := jx_mT 862 (by decide +kernel) (by decide +kernel)
theorem ms_X7_take : jx_MV yX7_take cX7_take 2 (some .int) 1 := ⟨jx_mT 524 (by decide +kernel) (by decide +kernel), jx_mT 70 (by decide +kernel) (by decide +kernel), jx_mT 522 (by decide +kernel) (by decide +kernel), jx_mT 523 (by decide +kernel) (by decide +kernel), by decide +kernel⟩
theorem lk_L_18 : Cond.methodLink RL 18 yX7_take ∈ jx_T := jx_mT 521 (by decide +kernel) (by decide +kernel)
theorem ms_X8_take : jx_MV yX8_take cX8_take 2 (some .int) 1 := ⟨jx_mT 1000 (by decide +kernel) (by decide +kernel), jx_mT 78 (by decide +kernel) (by decide +kernel), jx_mT 998 (by decide +kernel) (by decide +kernel), jx_mT 999 (by decide +kernel) (by decide +kernel), by decide +kernel⟩
theorem lk_L_22 : Cond.methodLink RL 22 yX8_take ∈ jx_T := jx_mT 997 (by decide +kernel) (by decide +kernel)
theorem ms_X7_boxOf : jx_MV yX7_boxOf cX7_boxOf 4 (some .int) 2 := ⟨jx_mT 551 (by decide +kernel) (by decide +kernel), jx_mT 70 (by decide +kernel) (by decide +kernel), jx_mT 549 (by decide +kernel) (by decide +kernel), jx_mT 550 (by decide +kernel) (by decide +kernel), by decide +kernel⟩
theorem lk_L_23 : Cond.methodLink RL 23 yX7_boxOf ∈ jx_T := jx_mT 548 (by decide +kernel) (by decide +kernel)
theorem ms_X8_boxOf : jx_MV yX8_boxOf cX8_boxOf 4 (some .int) 2 := ⟨jx_mT 1012 (by decide +kernel) (by decide +kernel), jx_mT 78 (by decide +kernel) (by decide +kernel), jx_mT 1010 (by decide +kernel) (by decide +kernel), jx_mT 1011 (by decide +kernel) (by decide +kernel), by decide +kernel⟩
theorem lk_L_27 : Cond.methodLink RL 27 yX8_boxOf ∈ jx_T := jx_mT 1009 (by decide +kernel) (by decide +kernel)
theorem ms_X7_nodeOf : jx_MV yX7_nodeOf cX7_nodeOf 6 (some .int) 3 := ⟨jx_mT 564 (by decide +kernel) (by decide +kernel), jx_mT 70 (by decide +kernel) (by decide +kernel), jx_mT 562 (by decide +kernel) (by decide +kernel), jx_mT 563 (by decide +kernel) (by decide +kernel), by decide +kernel⟩
theorem lk_L_28 : Cond.methodLink RL 28 yX7_nodeOf ∈ jx_T := jx_mT 561 (by decide +kernel) (by decide +kernel)
theorem ms_X8_nodeOf : jx_MV yX8_nodeOf cX8_nodeOf 8 (some .int) 3 := ⟨jx_mT 1025 (by decide +kernel) (by decide +kernel), jx_mT 78 (by decide +kernel) (by decide +kernel), jx_mT 1023 (by decide +kernel) (by decide +kernel), jx_mT 1024 (by decide +kernel) (by decide +kernel), by decide +kernel⟩
theorem lk_L_32 : Cond.methodLink RL 32 yX8_nodeOf ∈ jx_T := jx_mT 1022 (by decide +kernel) (by decide +kernel)
theorem ms_X7_overlaps : jx_MV yX7_overlaps cX7_overlaps 2 (some .int) 1 := ⟨jx_mT 578 (by decide +kernel) (by decide +kernel), jx_mT 70 (by decide +kernel) (by decide +kernel), jx_mT 576 (by decide +kernel) (by decide +kernel), jx_mT 577 (by decide +kernel) (by decide +kernel), by decide +kernel⟩
theorem lk_L_33 : Cond.methodLink RL 33 yX7_overlaps ∈ jx_T := jx_mT 575 (by decide +kernel) (by decide +kernel)
theorem ms_X8_overlaps : jx_MV yX8_overlaps cX8_overlaps 2 (some .int) 1 := ⟨jx_mT 1029 (by decide +kernel) (by decide +kernel), jx_mT 78 (by decide +kernel) (by decide +kernel), jx_mT 1027 (by decide +kernel) (by decide +kernel), jx_mT 1028 (by decide +kernel) (by decide +kernel), by decide +kernel⟩
theorem lk_L_36 : Cond.methodLink RL 36 yX8_overlaps ∈ jx_T := jx_mT 1026 (by decide +kernel) (by decide +kernel)
theorem ms_X7_overlap : jx_MV yX7_overlap cX7_overlap 3 (some .int) 2 := ⟨jx_mT 591 (by decide +kernel) (by decide +kernel), jx_mT 70 (by decide +kernel) (by decide +kernel), jx_mT 589 (by decide +kernel) (by decide +kernel), jx_mT 590 (by decide +kernel) (by decide +kernel), by decide +kernel⟩
theorem lk_L_37 : Cond.methodLink RL 37 yX7_overlap ∈ jx_T := jx_mT 588 (by decide +kernel) (by decide +kernel)
theorem ms_X8_overlap : jx_MV yX8_overlap cX8_overlap 3 (some .int) 2 := ⟨jx_mT 1037 (by decide +kernel) (by decide +kernel), jx_mT 78 (by decide +kernel) (by decide +kernel), jx_mT 1035 (by decide +kernel) (by decide +kernel), jx_mT 1036 (by decide +kernel) (by decide +kernel), by decide +kernel⟩
theorem lk_L_40 : Cond.methodLink RL 40 yX8_overlap ∈ jx_T := jx_mT 1034 (by decide +kernel) (by decide +kernel)
theorem ms_X7_court : jx_MV yX7_court cX7_court 3 (some .int) 2 := ⟨jx_mT 596 (by decide +kernel) (by decide +kernel), jx_mT 70 (by decide +kernel) (by decide +kernel), jx_mT 594 (by decide +kernel) (by decide +kernel), jx_mT 595 (by decide +kernel) (by decide +kernel), by decide +kernel⟩
theorem lk_L_41 : Cond.methodLink RL 41 yX7_court ∈ jx_T := jx_mT 593 (by decide +kernel) (by decide +kernel)
theorem ms_X8_court_ : jx_MV yX8_court_ cX8_court_ 3 (some .int) 2 := ⟨jx_mT 1041 (by decide +kernel) (by decide +kernel), jx_mT 78 (by decide +kernel) (by decide +kernel), jx_mT 1039 (by decide +kernel) (by decide +kernel), jx_mT 1040 (by decide +kernel) (by decide +kernel), by decide +kernel⟩
theorem lk_L_44 : Cond.methodLink RL 44 yX8_court_ ∈ jx_T := jx_mT 1038 (by decide +kernel) (by decide +kernel)
theorem ms_X7_window : jx_MV yX7_window cX7_window 7 (some .int) 5 := ⟨jx_mT 608 (by decide +kernel) (by decide +kernel), jx_mT 70 (by decide +kernel) (by decide +kernel), jx_mT 606 (by decide +kernel) (by decide +kernel), jx_mT 607 (by decide +kernel) (by decide +kernel), by decide +kernel⟩
theorem lk_L_45 : Cond.methodLink RL 45 yX7_window ∈ jx_T := jx_mT 605 (by decide +kernel) (by decide +kernel)
theorem ms_X8_window : jx_MV yX8_window cX8_window 9 (some .int) 5 := ⟨jx_mT 1045 (by decide +kernel) (by decide +kernel), jx_mT 78 (by decide +kernel) (by decide +kernel), jx_mT 1043 (by decide +kernel) (by decide +kernel), jx_mT 1044 (by decide +kernel) (by decide +kernel), by decide +kernel⟩
theorem lk_L_48 : Cond.methodLink RL 48 yX8_window ∈ jx_T := jx_mT 1042 (by decide +kernel) (by decide +kernel)
theorem ms_X7_nearest : jx_MV yX7_nearest cX7_nearest 7 (some .int) 4 := ⟨jx_mT 622 (by decide +kernel) (by decide +kernel), jx_mT 70 (by decide +kernel) (by decide +kernel), jx_mT 620 (by decide +kernel) (by decide +kernel), jx_mT 621 (by decide +kernel) (by decide +kernel), by decide +kernel⟩
theorem lk_L_49 : Cond.methodLink RL 49 yX7_nearest ∈ jx_T := jx_mT 619 (by decide +kernel) (by decide +kernel)
theorem ms_X8_nearest : jx_MV yX8_nearest cX8_nearest 10 (some .int) 4 := ⟨jx_mT 1053 (by decide +kernel) (by decide +kernel), jx_mT 78 (by decide +kernel) (by decide +kernel), jx_mT 1051 (by decide +kernel) (by decide +kernel), jx_mT 1052 (by decide +kernel) (by decide +kernel), by decide +kernel⟩
theorem lk_L_53 : Cond.methodLink RL 53 yX8_nearest ∈ jx_T := jx_mT 1050 (by decide +kernel) (by decide +kernel)
theorem ms_X7_would : jx_MV yX7_would cX7_would 9 (some .int) 5 := ⟨jx_mT 644 (by decide +kernel) (by decide +kernel), jx_mT 70 (by decide +kernel) (by decide +kernel), jx_mT 642 (by decide +kernel) (by decide +kernel), jx_mT 643 (by decide +kernel) (by decide +kernel), by decide +kernel⟩
theorem lk_L_54 : Cond.methodLink RL 54 yX7_would ∈ jx_T := jx_mT 641 (by decide +kernel) (by decide +kernel)
theorem ms_X8_would : jx_MV yX8_would cX8_would 12 (some .int) 5 := ⟨jx_mT 1061 (by decide +kernel) (by decide +kernel), jx_mT 78 (by decide +kernel) (by decide +kernel), jx_mT 1059 (by decide +kernel) (by decide +kernel), jx_mT 1060 (by decide +kernel) (by decide +kernel), by decide +kernel⟩
theorem lk_L_57 : Cond.methodLink RL 57 yX8_would ∈ jx_T := jx_mT 1058 (by decide +kernel) (by decide +kernel)
theorem ms_X7_wouldTake : jx_MV yX7_wouldTake cX7_wouldTake 3 (some .int) 2 := ⟨jx_mT 655 (by decide +kernel) (by decide +kernel), jx_mT 70 (by decide +kernel) (by decide +kernel), jx_mT 653 (by decide +kernel) (by decide +kernel), jx_mT 654 (by decide +kernel) (by decide +kernel), by decide +kernel⟩
theorem lk_L_58 : Cond.methodLink RL 58 yX7_wouldTake ∈ jx_T := jx_mT 652 (by decide +kernel) (by decide +kernel)
theorem ms_X8_wouldTake : jx_MV yX8_wouldTake cX8_wouldTake 6 (some .int) 2 := ⟨jx_mT 1069 (by decide +kernel) (by decide +kernel), jx_mT 78 (by decide +kernel) (by decide +kernel), jx_mT 1067 (by decide +kernel) (by decide +kernel), jx_mT 1068 (by decide +kernel) (by decide +kernel), by decide +kernel⟩
theorem lk_L_61 : Cond.methodLink RL 61 yX8_wouldTake ∈ jx_T := jx_mT 1066 (by decide +kernel) (by decide +kernel)
theorem ms_X7_count : jx_MV yX7_count cX7_count 2 (some .int) 1 := ⟨jx_mT 659 (by decide +kernel) (by decide +kernel), jx_mT 70 (by decide +kernel) (by decide +kernel), jx_mT 657 (by decide +kernel) (by decide +kernel), jx_mT 658 (by decide +kernel) (by decide +kernel), by decide +kernel⟩
theorem lk_L_62 : Cond.methodLink RL 62 yX7_count ∈ jx_T := jx_mT 656 (by decide +kernel) (by decide +kernel)
theorem ms_X8_count : jx_MV yX8_count cX8_count 2 (some .int) 1 := ⟨jx_mT 1073 (by decide +kernel) (by decide +kernel), jx_mT 78 (by decide +kernel) (by decide +kernel), jx_mT 1071 (by decide +kernel) (by decide +kernel), jx_mT 1072 (by decide +kernel) (by decide +kernel), by decide +kernel⟩
theorem lk_L_65 : Cond.methodLink RL 65 yX8_count ∈ jx_T := jx_mT 1070 (by decide +kernel) (by decide +kernel)
theorem ms_X7_undo : jx_MV yX7_undo cX7_undo 1 (some .int) 0 := ⟨jx_mT 686 (by decide +kernel) (by decide +kernel), jx_mT 70 (by decide +kernel) (by decide +kernel), jx_mT 684 (by decide +kernel) (by decide +kernel), jx_mT 685 (by decide +kernel) (by decide +kernel), by decide +kernel⟩
theorem lk_L_66 : Cond.methodLink RL 66 yX7_undo ∈ jx_T := jx_mT 683 (by decide +kernel) (by decide +kernel)
theorem ms_X8_undo : jx_MV yX8_undo cX8_undo 2 (some .int) 0 := ⟨jx_mT 860 (by decide +kernel) (by decide +kernel), jx_mT 78 (by decide +kernel) (by decide +kernel), jx_mT 858 (by decide +kernel) (by decide +kernel), jx_mT 859 (by decide +kernel) (by decide +kernel), by decide +kernel⟩
theorem lk_L_70 : Cond.methodLink RL 70 yX8_undo ∈ jx_T := jx_mT 857 (by decide +kernel) (by decide +kernel)
theorem ms_X7_type : jx_MV yX7_type cX7_type 2 (some .int) 1 := ⟨jx_mT 694 (by decide +kernel) (by decide +kernel), jx_mT 70 (by decide +kernel) (by decide +kernel), jx_mT 692 (by decide +kernel) (by decide +kernel), jx_mT 693 (by decide +kernel) (by decide +kernel), by decide +kernel⟩
theorem lk_L_71 : Cond.methodLink RL 71 yX7_type ∈ jx_T := jx_mT 691 (by decide +kernel) (by decide +kernel)
theorem ms_X8_type : jx_MV yX8_type cX8_type 2 (some .int) 1 := ⟨jx_mT 1089 (by decide +kernel) (by decide +kernel), jx_mT 78 (by decide +kernel) (by decide +kernel), jx_mT 1087 (by decide +kernel) (by decide +kernel), jx_mT 1088 (by decide +kernel) (by decide +kernel), by decide +kernel⟩
theorem lk_L_74 : Cond.methodLink RL 74 yX8_type ∈ jx_T := jx_mT 1086 (by decide +kernel) (by decide +kernel)
theorem ms_X7_clearText : jx_MV yX7_clearText cX7_clearText 2 (some .int) 0 := ⟨jx_mT 704 (by decide +kernel) (by decide +kernel), jx_mT 70 (by decide +kernel) (by decide +kernel), jx_mT 702 (by decide +kernel) (by decide +kernel), jx_mT 703 (by decide +kernel) (by decide +kernel), by decide +kernel⟩
theorem lk_L_75 : Cond.methodLink RL 75 yX7_clearText ∈ jx_T := jx_mT 701 (by decide +kernel) (by decide +kernel)
theorem ms_X8_clearText : jx_MV yX8_clearText cX8_clearText 2 (some .int) 0 := ⟨jx_mT 1094 (by decide +kernel) (by decide +kernel), jx_mT 78 (by decide +kernel) (by decide +kernel), jx_mT 1092 (by decide +kernel) (by decide +kernel), jx_mT 1093 (by decide +kernel) (by decide +kernel), by decide +kernel⟩
theorem lk_L_78 : Cond.methodLink RL 78 yX8_clearText ∈ jx_T := jx_mT 1091 (by decide +kernel) (by decide +kernel)
theorem ms_X7_fault : jx_MV yX7_fault cX7_fault 2 (some .int) 1 := ⟨jx_mT 708 (by decide +kernel) (by decide +kernel), jx_mT 70 (by decide +kernel) (by decide +kernel), jx_mT 706 (by decide +kernel) (by decide +kernel), jx_mT 707 (by decide +kernel) (by decide +kernel), by decide +kernel⟩
theorem lk_L_79 : Cond.methodLink RL 79 yX7_fault ∈ jx_T := jx_mT 705 (by decide +kernel) (by decide +kernel)
theorem ms_X8_fault : jx_MV yX8_fault cX8_fault 2 (some .int) 1 := ⟨jx_mT 1098 (by decide +kernel) (by decide +kernel), jx_mT 78 (by decide +kernel) (by decide +kernel), jx_mT 1096 (by decide +kernel) (by decide +kernel), jx_mT 1097 (by decide +kernel) (by decide +kernel), by decide +kernel⟩
theorem lk_L_82 : Cond.methodLink RL 82 yX8_fault ∈ jx_T := jx_mT 1095 (by decide +kernel) (by decide +kernel)
theorem ms_X7_play : jx_MV yX7_play cX7_play 3 (some .int) 0 := ⟨jx_mT 745 (by decide +kernel) (by decide +kernel), jx_mT 70 (by decide +kernel) (by decide +kernel), jx_mT 743 (by decide +kernel) (by decide +kernel), jx_mT 744 (by decide +kernel) (by decide +kernel), by decide +kernel⟩
theorem lk_L_83 : Cond.methodLink RL 83 yX7_play ∈ jx_T := jx_mT 742 (by decide +kernel) (by decide +kernel)
theorem ms_X8_play : jx_MV yX8_play cX8_play 1 (some .int) 0 := ⟨jx_mT 1122 (by decide +kernel) (by decide +kernel), jx_mT 78 (by decide +kernel) (by decide +kernel), jx_mT 1120 (by decide +kernel) (by decide +kernel), jx_mT 1121 (by decide +kernel) (by decide +kernel), by decide +kernel⟩
theorem lk_L_86 : Cond.methodLink RL 86 yX8_play ∈ jx_T := jx_mT 1119 (by decide +kernel) (by decide +kernel)
theorem ne_L_7 : jx_NE RL 7 5 [.null, .null, .null, .null, .null, .null, .null, .null, .null] := ⟨RX7, TX7, 9, tyX7, rfl, jx_inX7, tyX7_ok, jx_mT 83 (by decide +kernel) (by decide +kernel), jx_mT 84 (by decide +kernel) (by decide +kernel), jx_mT 70 (by decide +kernel) (by decide +kernel), rfl, by decide +kernel⟩
theorem ne_L_10 : jx_NE RL 10 6 [.null, .null, .null, .null, .int (jx_i 0), .int (jx_i 0), .int (jx_i 0), .null, .null, .null, .null, .null, .null, .int (jx_i 0), .int (jx_i 0), .null, .null, .int (jx_i 0), .null, .null, .int (jx_i 0), .null, .null, .null, .null, .null, .null, .int (jx_i 0), .int (jx_i 0), .null, .int (jx_i 0), .int (jx_i 0), .int (jx_i 0), .int (jx_i 0)] := ⟨RX8, TX8, 34, tyX8, rfl, jx_inX8, tyX8_ok, jx_mT 748 (by decide +kernel) (by decide +kernel), jx_mT 749 (by decide +kernel) (by decide +kernel), jx_mT 78 (by decide +kernel) (by decide +kernel), rfl, by decide +kernel⟩
theorem lo_L_9 : Cond.methodLink RL 9 yX7_init ∈ jx_T := jx_mT 85 (by decide +kernel) (by decide +kernel)
theorem lo_L_12 : Cond.methodLink RL 12 yX8_init ∈ jx_T := jx_mT 750 (by decide +kernel) (by decide +kernel)
theorem mi_X7 : jx_MI yX7_init cX7_init 1 0 := ⟨jx_mT 87 (by decide +kernel) (by decide +kernel), jx_mT 70 (by decide +kernel) (by decide +kernel), jx_mT 86 (by decide +kernel) (by decide +kernel), rfl, by decide +kernel⟩
theorem mi_X8 : jx_MI yX8_init cX8_init 2 0 := ⟨jx_mT 752 (by decide +kernel) (by decide +kernel), jx_mT 78 (by decide +kernel) (by decide +kernel), jx_mT 751 (by decide +kernel) (by decide +kernel), rfl, by decide +kernel⟩
abbrev jx_RT : Type := jx_St → jx_St → jx_St → jx_St → jx_St → jx_St → jx_St → jx_St → jx_St → jx_St → jx_St → jx_St → jx_St → jx_St → Prop
def st_put (RR : jx_RT) : Prop := ∀ (sB sT sS sC sU sV sW sH sH0 sH1 sH2 sH3 sO sM : jx_St) (a1 : Int) (a2 : Int) (a3 : Int) (a4 : Int) (a5 : Int), RR sB sT sS sC sU sV sW sH sH0 sH1 sH2 sH3 sO sM → jx_R a1 → jx_R a2 → jx_R a3 → jx_R a4 → jx_R a5 → wp_B_put (fun r tC tS tT tH tH0 tH1 tH2 tH3 => wp_M_put (fun r2 tM => r = r2 ∧ RR sB tT tS tC sU sV sW tH tH0 tH1 tH2 tH3 sO tM) sM a1 a2 a3 a4 a5) sB sC sS sT sH sH0 sH1 sH2 sH3 a1 a2 a3 a4 a5
def st_take (RR : jx_RT) : Prop := ∀ (sB sT sS sC sU sV sW sH sH0 sH1 sH2 sH3 sO sM : jx_St) (a1 : Int), RR sB sT sS sC sU sV sW sH sH0 sH1 sH2 sH3 sO sM → jx_R a1 → wp_B_take (fun r tC tS tT tH tH0 tH1 tH2 tH3 => wp_M_take (fun r2 tM => r = r2 ∧ RR sB tT tS tC sU sV sW tH tH0 tH1 tH2 tH3 sO tM) sM a1) sB sC sS sT sH sH0 sH1 sH2 sH3 a1
def st_boxOf (RR : jx_RT) : Prop := ∀ (sB sT sS sC sU sV sW sH sH0 sH1 sH2 sH3 sO sM : jx_St) (a1 : Int) (a2 : Int), RR sB sT sS sC sU sV sW sH sH0 sH1 sH2 sH3 sO sM → jx_R a1 → jx_R a2 → wp_B_boxOf (fun r tS => wp_M_boxOf (fun r2 tM => r = r2 ∧ RR sB sT tS sC sU sV sW sH sH0 sH1 sH2 sH3 sO tM) sM a1 a2) sB sS sT a1 a2
def st_nodeOf (RR : jx_RT) : Prop := ∀ (sB sT sS sC sU sV sW sH sH0 sH1 sH2 sH3 sO sM : jx_St) (a1 : Int) (a2 : Int) (a3 : Int), RR sB sT sS sC sU sV sW sH sH0 sH1 sH2 sH3 sO sM → jx_R a1 → jx_R a2 → jx_R a3 → wp_B_nodeOf (fun r tS => wp_M_nodeOf (fun r2 tM => r = r2 ∧ RR sB sT tS sC sU sV sW sH sH0 sH1 sH2 sH3 sO tM) sM a1 a2 a3) sB sS sT a1 a2 a3
def st_overlaps (RR : jx_RT) : Prop := ∀ (sB sT sS sC sU sV sW sH sH0 sH1 sH2 sH3 sO sM : jx_St) (a1 : Int), RR sB sT sS sC sU sV sW sH sH0 sH1 sH2 sH3 sO sM → jx_R a1 → wp_B_overlaps (fun r tS => wp_M_overlaps (fun r2 tM => r = r2 ∧ RR sB sT tS sC sU sV sW sH sH0 sH1 sH2 sH3 sO tM) sM a1) sB sS sT a1
def st_overlap (RR : jx_RT) : Prop := ∀ (sB sT sS sC sU sV sW sH sH0 sH1 sH2 sH3 sO sM : jx_St) (a1 : Int) (a2 : Int), RR sB sT sS sC sU sV sW sH sH0 sH1 sH2 sH3 sO sM → jx_R a1 → jx_R a2 → wp_B_overlap (fun r => wp_M_overlap (fun r2 tM => r = r2 ∧ RR sB sT sS sC sU sV sW sH sH0 sH1 sH2 sH3 sO tM) sM a1 a2) sB sT a1 a2
def st_court (RR : jx_RT) : Prop := ∀ (sB sT sS sC sU sV sW sH sH0 sH1 sH2 sH3 sO sM : jx_St) (a1 : Int) (a2 : Int), RR sB sT sS sC sU sV sW sH sH0 sH1 sH2 sH3 sO sM → jx_R a1 → jx_R a2 → wp_B_court (fun r => wp_M_court_ (fun r2 => r = r2 ∧ RR sB sT sS sC sU sV sW sH sH0 sH1 sH2 sH3 sO sM) sM a1 a2) sB sC a1 a2
def st_window (RR : jx_RT) : Prop := ∀ (sB sT sS sC sU sV sW sH sH0 sH1 sH2 sH3 sO sM : jx_St) (a1 : Int) (a2 : Int) (a3 : Int) (a4 : Int) (a5 : Int), RR sB sT sS sC sU sV sW sH sH0 sH1 sH2 sH3 sO sM → jx_R a1 → jx_R a2 → jx_R a3 → jx_R a4 → jx_R a5 → wp_B_window (fun r tS => wp_M_window (fun r2 tM => r = r2 ∧ RR sB sT tS sC sU sV sW sH sH0 sH1 sH2 sH3 sO tM) sM a1 a2 a3 a4 a5) sB sS sT a1 a2 a3 a4 a5
def st_nearest (RR : jx_RT) : Prop := ∀ (sB sT sS sC sU sV sW sH sH0 sH1 sH2 sH3 sO sM : jx_St) (a1 : Int) (a2 : Int) (a3 : Int) (a4 : Int), RR sB sT sS sC sU sV sW sH sH0 sH1 sH2 sH3 sO sM → jx_R a1 → jx_R a2 → jx_R a3 → jx_R a4 → wp_B_nearest (fun r tB tS => wp_M_nearest (fun r2 tM => r = r2 ∧ RR tB sT tS sC sU sV sW sH sH0 sH1 sH2 sH3 sO tM) sM a1 a2 a3 a4) sB sS sT a1 a2 a3 a4
def st_would (RR : jx_RT) : Prop := ∀ (sB sT sS sC sU sV sW sH sH0 sH1 sH2 sH3 sO sM : jx_St) (a1 : Int) (a2 : Int) (a3 : Int) (a4 : Int) (a5 : Int), RR sB sT sS sC sU sV sW sH sH0 sH1 sH2 sH3 sO sM → jx_R a1 → jx_R a2 → jx_R a3 → jx_R a4 → jx_R a5 → wp_B_would (fun r tS tW tV tU => wp_M_would (fun r2 tM => r = r2 ∧ RR sB sT tS sC tU tV tW sH sH0 sH1 sH2 sH3 sO tM) sM a1 a2 a3 a4 a5) sB sS sT sW sV sU a1 a2 a3 a4 a5
def st_wouldTake (RR : jx_RT) : Prop := ∀ (sB sT sS sC sU sV sW sH sH0 sH1 sH2 sH3 sO sM : jx_St) (a1 : Int) (a2 : Int), RR sB sT sS sC sU sV sW sH sH0 sH1 sH2 sH3 sO sM → jx_R a1 → jx_R a2 → wp_B_wouldTake (fun r tW tV tU => wp_M_wouldTake (fun r2 tM => r = r2 ∧ RR sB sT sS sC tU tV tW sH sH0 sH1 sH2 sH3 sO tM) sM a1 a2) sB sT sW sV sU a1 a2
def st_count (RR : jx_RT) : Prop := ∀ (sB sT sS sC sU sV sW sH sH0 sH1 sH2 sH3 sO sM : jx_St) (a1 : Int), RR sB sT sS sC sU sV sW sH sH0 sH1 sH2 sH3 sO sM → jx_R a1 → wp_B_count (fun r tS => wp_M_count (fun r2 tM => r = r2 ∧ RR sB sT tS sC sU sV sW sH sH0 sH1 sH2 sH3 sO tM) sM a1) sB sC sS sT sH sO a1
def st_undo (RR : jx_RT) : Prop := ∀ (sB sT sS sC sU sV sW sH sH0 sH1 sH2 sH3 sO sM : jx_St), RR sB sT sS sC sU sV sW sH sH0 sH1 sH2 sH3 sO sM → wp_B_undo (fun r tT tH => wp_M_undo (fun r2 tM => r = r2 ∧ RR sB tT sS sC sU sV sW tH sH0 sH1 sH2 sH3 sO tM) sM) sB sT sH sH0 sH1 sH2 sH3
def st_type (RR : jx_RT) : Prop := ∀ (sB sT sS sC sU sV sW sH sH0 sH1 sH2 sH3 sO sM : jx_St) (a1 : Int), RR sB sT sS sC sU sV sW sH sH0 sH1 sH2 sH3 sO sM → jx_R a1 → wp_B_type (fun r tO => wp_M_type (fun r2 tM => r = r2 ∧ RR sB sT sS sC sU sV sW sH sH0 sH1 sH2 sH3 tO tM) sM a1) sB sO a1
def st_clearText (RR : jx_RT) : Prop := ∀ (sB sT sS sC sU sV sW sH sH0 sH1 sH2 sH3 sO sM : jx_St), RR sB sT sS sC sU sV sW sH sH0 sH1 sH2 sH3 sO sM → wp_B_clearText (fun r tO => wp_M_clearText (fun r2 tM => r = r2 ∧ RR sB sT sS sC sU sV sW sH sH0 sH1 sH2 sH3 tO tM) sM) sB sO
def st_fault (RR : jx_RT) : Prop := ∀ (sB sT sS sC sU sV sW sH sH0 sH1 sH2 sH3 sO sM : jx_St) (a1 : Int), RR sB sT sS sC sU sV sW sH sH0 sH1 sH2 sH3 sO sM → jx_R a1 → wp_B_fault (fun r tO => wp_M_fault (fun r2 tM => r = r2 ∧ RR sB sT sS sC sU sV sW sH sH0 sH1 sH2 sH3 tO tM) sM a1) sB sT sO a1
def st_play (RR : jx_RT) : Prop := ∀ (sB sT sS sC sU sV sW sH sH0 sH1 sH2 sH3 sO sM : jx_St), RR sB sT sS sC sU sV sW sH sH0 sH1 sH2 sH3 sO sM → wp_B_play (fun r tC tS tT tH tH0 tH1 tH2 tH3 tO => wp_M_play (fun r2 tM => r = r2 ∧ RR sB tT tS tC sU sV sW tH tH0 tH1 tH2 tH3 tO tM) sM) sB sC sS sT sH sH0 sH1 sH2 sH3 sO
def jx_sv (xs : Nat → Int32) (i : Int) : Int := (xs i.toNat).toInt
theorem jx_svR (xs : Nat → Int32) (i : Int) : jx_R (jx_sv xs i) := jx_Rt _
section JX12
variable {p : Program} {l : Launch} {e : Env} {R : Room} {s : State} {m : MethodId} {args : Array Value} {below : List Frame} {meth : Method} {c : Code} {H : Heap} {locs : List Loc} {cells slots : Nat} {Q : State → Prop}
variable {cc : ByteArray} {own : String} {nL pc : Nat} {ls : Array Slot} {rest : List Value} {A : Nat → Prop} {H0 : Heap}
theorem jx_sld (C : jx_C p s m args c cc own nL) {b L : Nat} {xs : Nat → Int32} (hX : va_X b L xs s H0) (hbl : b < H0.size) (hbA : ¬ A b) (hS : va_S A H0 H locs) (hL : L ≤ 3072) {i : Int} (hB : jx_B i L) (hdg : decode cc pc = .ok (.iaload, 1)) (kk : W p l e R s m args below meth c H locs cells slots Q (F0 m (pc + 1) ls (.int (jx_i (jx_sv xs i)) :: rest))) : W p l e R s m args below meth c H locs cells slots Q (F0 m pc ls (.int (jx_i i) :: .ref b :: rest)) := by
  have hn : L ≤ 2147483647 := by omega
  refine va_sld C.1 C.2.1 hX hbl hbA hS (hB.vp hn) hdg ?_
  rw [jx_nat (hB.R hn), ← jx_ofToInt (xs i.toNat)]
  exact kk
theorem jx_ceqS (C : jx_C p s m args c cc own nL) {a b : Int} {off : Int} {tgt : Nat} (hab : a = b) (hdg : decode cc pc = .ok (.if_icmp .eq off, 3)) (ht : (pc : Int) + off = (tgt : Int)) (kt : W p l e R s m args below meth c H locs cells slots Q (F0 m tgt ls rest)) : W p l e R s m args below meth c H locs cells slots Q (F0 m pc ls (.int (jx_i b) :: .int (jx_i a) :: rest)) :=
  lv_icmp_eq C.1 C.2.1 hdg ht (fun _ => kt) (fun h => absurd (by rw [hab]) h)
theorem jx_slen (C : jx_C p s m args c cc own nL) {b L : Nat} {xs : Nat → Int32} (hX : va_X b L xs s H0) (hbl : b < H0.size) (hbA : ¬ A b) (hS : va_S A H0 H locs) (hdg : decode cc pc = .ok (.arraylength, 1)) (kk : W p l e R s m args below meth c H locs cells slots Q (F0 m (pc + 1) ls (.int (jx_i (L : Int)) :: rest))) : W p l e R s m args below meth c H locs cells slots Q (F0 m pc ls (.ref b :: rest)) := va_slen C.1 C.2.1 hX hbl hbA hS hdg kk
end JX12
theorem jx_T_of {args : Array Value} {s : State} (hts : ∀ w ∈ lw_tbl, w.before args s = true) : ∀ w ∈ jx_T, w.before args s = true := fun w hw => hts w (List.mem_filter.mp hw).1
theorem jx_ws_snoc {cI cT : ClassId} {cs ds : List jx_Cp} : jx_ws cI cT cs ++ jx_ws cI cT ds = jx_ws cI cT (cs ++ ds) := (List.flatMap_append).symm
set_option maxRecDepth 100000 in
set_option maxHeartbeats 40000000 in
theorem law_loop {p : Program} {l : Launch} {e : Env} {s : State} {m : MethodId} {below : List Frame} {meth : Method} {c : Code} {D : va_G} {cI cT : ClassId} {b L : Nat} {xs : Nat → Int32} (hL : L ≤ 3072) (C0 : lw_At p s m meth c b L xs) (hK : jx_K D cI cT s) (RR : jx_RT) (h_put : st_put RR) (h_take : st_take RR) (h_boxOf : st_boxOf RR) (h_nodeOf : st_nodeOf RR) (h_overlaps : st_overlaps RR) (h_overlap : st_overlap RR) (h_court : st_court RR) (h_window : st_window RR) (h_nearest : st_nearest RR) (h_would : st_would RR) (h_wouldTake : st_wouldTake RR) (h_count : st_count RR) (h_undo : st_undo RR) (h_type : st_type RR) (h_clearText : st_clearText RR) (h_fault : st_fault RR) (h_play : st_play RR) (aB aT aS aC aU aV aW aH : Nat → Nat) (hT : Nat → Nat → Nat) (aO aM : Nat → Nat) :
    ∀ (n : Nat) (l3 : Int) (sB sT sS sC sU sV sW sH sH0 sH1 sH2 sH3 sO sM : jx_St), 0 ≤ l3 → l3 ≤ (L : Int) + 6 → (L : Int) + 7 ≤ l3 + (n : Int) → RR sB sT sS sC sU sV sW sH sH0 sH1 sH2 sH3 sO sM → ∀ (H : Heap) (locs : List Loc), va_P D vwCl (jx_ws cI cT [(cp_B aB (aT 0) (aS 0) (aC 0) (aU 0) (aV 0) (aW 0) (aH 0) (aO 0), sB), (cp_T aT, sT), (cp_S aS (aT 0), sS), (cp_C aC (aT 0) (aS 0), sC), (cp_T aU, sU), (cp_S aV (aU 0), sV), (cp_C aW (aU 0) (aV 0), sW), (cp_H aH (fun j => hT j 0), sH), (cp_T (hT 0), sH0), (cp_T (hT 1), sH1), (cp_T (hT 2), sH2), (cp_T (hT 3), sH3), (cp_O aO, sO), (cp_M aM, sM)]) H → va_D (fun q : Nat => s.heap.size ≤ q) (jx_ws cI cT [(cp_B aB (aT 0) (aS 0) (aC 0) (aU 0) (aV 0) (aW 0) (aH 0) (aO 0), sB), (cp_T aT, sT), (cp_S aS (aT 0), sS), (cp_C aC (aT 0) (aS 0), sC), (cp_T aU, sU), (cp_S aV (aU 0), sV), (cp_C aW (aU 0) (aV 0), sW), (cp_H aH (fun j => hT j 0), sH), (cp_T (hT 0), sH0), (cp_T (hT 1), sH1), (cp_T (hT 2), sH2), (cp_T (hT 3), sH3), (cp_O aO, sO), (cp_M aM, sM)]) → va_S (fun q : Nat => s.heap.size ≤ q) s.heap H locs → ∀ ls : Array Slot, lv_has ls 4 [(0, .ref b), (1, .ref (aB 0)), (2, .ref (aM 0)), (3, .int (jx_i l3))] → W p l e room_1 s m #[Value.ref b] below meth c H locs 97 6280 (lw_Z below #[Value.ref b] s) (F0 m 18 ls []) := by
  obtain ⟨hx, hb, hr, hml, hown, hts, hX, hbl, hlocks, hgv⟩ := C0
  have C : jx_C p s m #[Value.ref b] c code RL 4 := ⟨hx, hb, hml, hown, jx_T_of hts⟩
  obtain ⟨A, hAe⟩ : ∃ A : Nat → Prop, A = (fun q : Nat => s.heap.size ≤ q) := ⟨_, rfl⟩
  rw [← hAe]
  have hA : ∀ q : Nat, s.heap.size ≤ q → A q := fun q h => by rw [hAe]; exact h
  have hbA : ¬ A b := by rw [hAe]; exact Nat.not_le.mpr hbl
  have hcl : 97 ≤ room_1.cells ∧ 6280 ≤ room_1.slots := ⟨Nat.le_of_ble_eq_true rfl, Nat.le_of_ble_eq_true rfl⟩
  intro n
  induction n with
  | zero =>
    intro l3 sB sT sS sC sU sV sW sH sH0 sH1 sH2 sH3 sO sM h1 h2 h3
    exact absurd h3 (by omega)
  | succ n ih =>
    intro l3 sB sT sS sC sU sV sW sH sH0 sH1 sH2 sH3 sO sM hl0 hl1 hl2 hRR H locs hP hD hS ls hl
    have hlR : jx_R l3 := ⟨by omega, by omega⟩
    refine lv_iload_n hx hb dL_law_18 rfl (lv_at hl 3 rfl) ?_
    refine lv_aload_n hx hb dL_law_19 rfl (lv_at hl 0 rfl) ?_
    refine jx_slen C hX hbl hbA hS dL_law_20 ?_
    refine jx_bipush C dL_law_21 (by decide) ?_
    refine jx_isub C dL_law_23 ?_
    refine jx_cgt C hlR ⟨by omega, by omega⟩ (tgt := 693) dL_law_24 (by decide) (fun _ => ?_) (fun hle => ?_)
    · refine lv_iconst (v := 1) hx hb dL_law_693 (by decide) ?_
      refine va_forget (fun q hq => by have := hS.2.2 q hq; rw [hAe] at this; exact this) ?_
      refine W.widen (k := 600000) (n := 7302250) (Nat.le_of_ble_eq_true rfl) (Nat.le_of_ble_eq_true rfl) ?_
      exact lw_ret hx hb hr hlocks dL_law_694
    · refine lv_aload_n hx hb dL_law_27 rfl (lv_at hl 0 rfl) ?_
      refine lv_iload_n hx hb dL_law_28 rfl (lv_at hl 3 rfl) ?_
      refine jx_sld C hX hbl hbA hS hL ⟨by omega, by omega⟩ dL_law_29 ?_
      refine jx_bipush C dL_law_30 (by decide) ?_
      refine jx_iand C dL_law_32 ?_
      have Lj : ∀ (sB sT sS sC sU sV sW sH sH0 sH1 sH2 sH3 sO sM : jx_St), RR sB sT sS sC sU sV sW sH sH0 sH1 sH2 sH3 sO sM → ∀ (H : Heap) (locs : List Loc), va_P D vwCl (jx_ws cI cT [(cp_B aB (aT 0) (aS 0) (aC 0) (aU 0) (aV 0) (aW 0) (aH 0) (aO 0), sB), (cp_T aT, sT), (cp_S aS (aT 0), sS), (cp_C aC (aT 0) (aS 0), sC), (cp_T aU, sU), (cp_S aV (aU 0), sV), (cp_C aW (aU 0) (aV 0), sW), (cp_H aH (fun j => hT j 0), sH), (cp_T (hT 0), sH0), (cp_T (hT 1), sH1), (cp_T (hT 2), sH2), (cp_T (hT 3), sH3), (cp_O aO, sO), (cp_M aM, sM)]) H → va_D A (jx_ws cI cT [(cp_B aB (aT 0) (aS 0) (aC 0) (aU 0) (aV 0) (aW 0) (aH 0) (aO 0), sB), (cp_T aT, sT), (cp_S aS (aT 0), sS), (cp_C aC (aT 0) (aS 0), sC), (cp_T aU, sU), (cp_S aV (aU 0), sV), (cp_C aW (aU 0) (aV 0), sW), (cp_H aH (fun j => hT j 0), sH), (cp_T (hT 0), sH0), (cp_T (hT 1), sH1), (cp_T (hT 2), sH2), (cp_T (hT 3), sH3), (cp_O aO, sO), (cp_M aM, sM)]) → va_S A s.heap H locs → ∀ ls : Array Slot, lv_has ls 4 [(0, .ref b), (1, .ref (aB 0)), (2, .ref (aM 0)), (3, .int (jx_i l3))] → W p l e room_1 s m #[Value.ref b] below meth c H locs 97 6280 (lw_Z below #[Value.ref b] s) (F0 m 687 ls []) := by
        intro sB sT sS sC sU sV sW sH sH0 sH1 sH2 sH3 sO sM hRR H locs hP hD hS ls hl
        refine jx_iinc C (lv' := [(3, .int (jx_i (l3 + 6))), (0, .ref b), (1, .ref (aB 0)), (2, .ref (aM 0))]) dL_law_687 hl (k := 3) rfl (by decide) rfl (fun ls hl => ?_)
        refine lv_goto (tgt := 18) hx hb dL_law_690 (by decide) ?_
        exact ih (l3 + 6) sB sT sS sC sU sV sW sH sH0 sH1 sH2 sH3 sO sM (by omega) (by omega) (by omega) hRR H locs hP hD hS ls (lv_sub hl [1, 2, 3, 0] rfl)
      obtain ⟨k, hk⟩ : ∃ k, k = jx_and (jx_sv xs l3) 31 := ⟨_, rfl⟩
      rw [← hk]
      have hkR : jx_R k := by rw [hk]; exact jx_Rt _
      rcases (show k = 0 ∨ k = 1 ∨ k = 2 ∨ k = 3 ∨ k = 4 ∨ k = 5 ∨ k = 6 ∨ k = 7 ∨ k = 8 ∨ k = 9 ∨ k = 10 ∨ k = 11 ∨ k = 12 ∨ k = 13 ∨ k = 14 ∨ k = 15 ∨ k = 16 ∨ (k < 0 ∨ 16 < k) by omega) with hc | hc | hc | hc | hc | hc | hc | hc | hc | hc | hc | hc | hc | hc | hc | hc | hc | hc
      · refine jx_tswIn (tgt := 116) C hc (jx_inR (by decide) (by decide)) dL_law_33 (by decide) (by decide) rfl (by decide) ?_
        have h := h_put sB sT sS sC sU sV sW sH sH0 sH1 sH2 sH3 sO sM (jx_sv xs (l3 + 1)) (jx_sv xs (l3 + 2)) (jx_sv xs (l3 + 3)) (jx_sv xs (l3 + 4)) (jx_sv xs (l3 + 5)) hRR (jx_svR xs _) (jx_svR xs _) (jx_svR xs _) (jx_svR xs _) (jx_svR xs _)
        refine lv_aload_n hx hb dL_law_116 rfl (lv_at hl 1 rfl) ?_
        refine lv_aload_n hx hb dL_law_117 rfl (lv_at hl 0 rfl) ?_
        refine lv_iload_n hx hb dL_law_118 rfl (lv_at hl 3 rfl) ?_
        refine jx_iconst C dL_law_119 ?_
        refine jx_iadd C dL_law_120 ?_
        refine jx_sld C hX hbl hbA hS hL ⟨by omega, by omega⟩ dL_law_121 ?_
        refine lv_aload_n hx hb dL_law_122 rfl (lv_at hl 0 rfl) ?_
        refine lv_iload_n hx hb dL_law_123 rfl (lv_at hl 3 rfl) ?_
        refine jx_iconst C dL_law_124 ?_
        refine jx_iadd C dL_law_125 ?_
        refine jx_sld C hX hbl hbA hS hL ⟨by omega, by omega⟩ dL_law_126 ?_
        refine lv_aload_n hx hb dL_law_127 rfl (lv_at hl 0 rfl) ?_
        refine lv_iload_n hx hb dL_law_128 rfl (lv_at hl 3 rfl) ?_
        refine jx_iconst C dL_law_129 ?_
        refine jx_iadd C dL_law_130 ?_
        refine jx_sld C hX hbl hbA hS hL ⟨by omega, by omega⟩ dL_law_131 ?_
        refine lv_aload_n hx hb dL_law_132 rfl (lv_at hl 0 rfl) ?_
        refine lv_iload_n hx hb dL_law_133 rfl (lv_at hl 3 rfl) ?_
        refine jx_iconst C dL_law_134 ?_
        refine jx_iadd C dL_law_135 ?_
        refine jx_sld C hX hbl hbA hS hL ⟨by omega, by omega⟩ dL_law_136 ?_
        refine lv_aload_n hx hb dL_law_137 rfl (lv_at hl 0 rfl) ?_
        refine lv_iload_n hx hb dL_law_138 rfl (lv_at hl 3 rfl) ?_
        refine jx_iconst C dL_law_139 ?_
        refine jx_iadd C dL_law_140 ?_
        refine jx_sld C hX hbl hbA hS hL ⟨by omega, by omega⟩ dL_law_141 ?_
        refine jx_callVI C hK hP hD hS hA (ct_B_put l D cI cT aB aC aS aT aW aV aU aH hT aO _ sB sC sS sT sH sH0 sH1 sH2 sH3 (jx_sv xs (l3 + 1)) (jx_sv xs (l3 + 2)) (jx_sv xs (l3 + 3)) (jx_sv xs (l3 + 4)) (jx_sv xs (l3 + 5)) h) ms_X7_put lk_L_13 [0, 3, 2, 1, 7, 8, 9, 10, 11] rfl rfl (fun _ => rfl) (cs' := (fun u => [(cp_B aB (aT 0) (aS 0) (aC 0) (aU 0) (aV 0) (aW 0) (aH 0) (aO 0), sB), (cp_T aT, u.2.2.1), (cp_S aS (aT 0), u.2.1), (cp_C aC (aT 0) (aS 0), u.1), (cp_T aU, sU), (cp_S aV (aU 0), sV), (cp_C aW (aU 0) (aV 0), sW), (cp_H aH (fun j => hT j 0), u.2.2.2.1), (cp_T (hT 0), u.2.2.2.2.1), (cp_T (hT 1), u.2.2.2.2.2.1), (cp_T (hT 2), u.2.2.2.2.2.2.1), (cp_T (hT 3), u.2.2.2.2.2.2.2), (cp_O aO, sO), (cp_M aM, sM)])) (fun _ => rfl) (fun _ => rfl) 0 0 rfl rfl rfl rfl rfl hl.1 rfl rfl dL_law_142 hcl (fun r142 u H locs h hP hD hS => ?_)
        obtain ⟨tC, tS, tT, tH, tH0, tH1, tH2, tH3⟩ := u
        dsimp only at h
        have hP : va_P D vwCl (jx_ws cI cT [(cp_B aB (aT 0) (aS 0) (aC 0) (aU 0) (aV 0) (aW 0) (aH 0) (aO 0), sB), (cp_T aT, tT), (cp_S aS (aT 0), tS), (cp_C aC (aT 0) (aS 0), tC), (cp_T aU, sU), (cp_S aV (aU 0), sV), (cp_C aW (aU 0) (aV 0), sW), (cp_H aH (fun j => hT j 0), tH), (cp_T (hT 0), tH0), (cp_T (hT 1), tH1), (cp_T (hT 2), tH2), (cp_T (hT 3), tH3), (cp_O aO, sO), (cp_M aM, sM)]) H := hP
        have hD : va_D A (jx_ws cI cT [(cp_B aB (aT 0) (aS 0) (aC 0) (aU 0) (aV 0) (aW 0) (aH 0) (aO 0), sB), (cp_T aT, tT), (cp_S aS (aT 0), tS), (cp_C aC (aT 0) (aS 0), tC), (cp_T aU, sU), (cp_S aV (aU 0), sV), (cp_C aW (aU 0) (aV 0), sW), (cp_H aH (fun j => hT j 0), tH), (cp_T (hT 0), tH0), (cp_T (hT 1), tH1), (cp_T (hT 2), tH2), (cp_T (hT 3), tH3), (cp_O aO, sO), (cp_M aM, sM)]) := hD
        refine lv_aload_n hx hb dL_law_145 rfl (lv_at hl 2 rfl) ?_
        refine lv_aload_n hx hb dL_law_146 rfl (lv_at hl 0 rfl) ?_
        refine lv_iload_n hx hb dL_law_147 rfl (lv_at hl 3 rfl) ?_
        refine jx_iconst C dL_law_148 ?_
        refine jx_iadd C dL_law_149 ?_
        refine jx_sld C hX hbl hbA hS hL ⟨by omega, by omega⟩ dL_law_150 ?_
        refine lv_aload_n hx hb dL_law_151 rfl (lv_at hl 0 rfl) ?_
        refine lv_iload_n hx hb dL_law_152 rfl (lv_at hl 3 rfl) ?_
        refine jx_iconst C dL_law_153 ?_
        refine jx_iadd C dL_law_154 ?_
        refine jx_sld C hX hbl hbA hS hL ⟨by omega, by omega⟩ dL_law_155 ?_
        refine lv_aload_n hx hb dL_law_156 rfl (lv_at hl 0 rfl) ?_
        refine lv_iload_n hx hb dL_law_157 rfl (lv_at hl 3 rfl) ?_
        refine jx_iconst C dL_law_158 ?_
        refine jx_iadd C dL_law_159 ?_
        refine jx_sld C hX hbl hbA hS hL ⟨by omega, by omega⟩ dL_law_160 ?_
        refine lv_aload_n hx hb dL_law_161 rfl (lv_at hl 0 rfl) ?_
        refine lv_iload_n hx hb dL_law_162 rfl (lv_at hl 3 rfl) ?_
        refine jx_iconst C dL_law_163 ?_
        refine jx_iadd C dL_law_164 ?_
        refine jx_sld C hX hbl hbA hS hL ⟨by omega, by omega⟩ dL_law_165 ?_
        refine lv_aload_n hx hb dL_law_166 rfl (lv_at hl 0 rfl) ?_
        refine lv_iload_n hx hb dL_law_167 rfl (lv_at hl 3 rfl) ?_
        refine jx_iconst C dL_law_168 ?_
        refine jx_iadd C dL_law_169 ?_
        refine jx_sld C hX hbl hbA hS hL ⟨by omega, by omega⟩ dL_law_170 ?_
        refine jx_callVI C hK hP hD hS hA (ct_M_put l D cI cT aM _ sM (jx_sv xs (l3 + 1)) (jx_sv xs (l3 + 2)) (jx_sv xs (l3 + 3)) (jx_sv xs (l3 + 4)) (jx_sv xs (l3 + 5)) h) ms_X8_put lk_L_17 [13] rfl rfl (fun _ => rfl) (cs' := (fun u => [(cp_B aB (aT 0) (aS 0) (aC 0) (aU 0) (aV 0) (aW 0) (aH 0) (aO 0), sB), (cp_T aT, tT), (cp_S aS (aT 0), tS), (cp_C aC (aT 0) (aS 0), tC), (cp_T aU, sU), (cp_S aV (aU 0), sV), (cp_C aW (aU 0) (aV 0), sW), (cp_H aH (fun j => hT j 0), tH), (cp_T (hT 0), tH0), (cp_T (hT 1), tH1), (cp_T (hT 2), tH2), (cp_T (hT 3), tH3), (cp_O aO, sO), (cp_M aM, u)])) (fun _ => rfl) (fun _ => rfl) 13 0 rfl rfl rfl rfl rfl hl.1 rfl rfl dL_law_171 hcl (fun r171 tM H locs h hP hD hS => ?_)
        have hP : va_P D vwCl (jx_ws cI cT [(cp_B aB (aT 0) (aS 0) (aC 0) (aU 0) (aV 0) (aW 0) (aH 0) (aO 0), sB), (cp_T aT, tT), (cp_S aS (aT 0), tS), (cp_C aC (aT 0) (aS 0), tC), (cp_T aU, sU), (cp_S aV (aU 0), sV), (cp_C aW (aU 0) (aV 0), sW), (cp_H aH (fun j => hT j 0), tH), (cp_T (hT 0), tH0), (cp_T (hT 1), tH1), (cp_T (hT 2), tH2), (cp_T (hT 3), tH3), (cp_O aO, sO), (cp_M aM, tM)]) H := hP
        have hD : va_D A (jx_ws cI cT [(cp_B aB (aT 0) (aS 0) (aC 0) (aU 0) (aV 0) (aW 0) (aH 0) (aO 0), sB), (cp_T aT, tT), (cp_S aS (aT 0), tS), (cp_C aC (aT 0) (aS 0), tC), (cp_T aU, sU), (cp_S aV (aU 0), sV), (cp_C aW (aU 0) (aV 0), sW), (cp_H aH (fun j => hT j 0), tH), (cp_T (hT 0), tH0), (cp_T (hT 1), tH1), (cp_T (hT 2), tH2), (cp_T (hT 3), tH3), (cp_O aO, sO), (cp_M aM, tM)]) := hD
        refine jx_ceqS C h.1 (tgt := 687) dL_law_174 (by decide) ?_
        exact Lj sB tT tS tC sU sV sW tH tH0 tH1 tH2 tH3 sO tM h.2 H locs hP hD hS ls hl
      · refine jx_tswIn (tgt := 179) C hc (jx_inR (by decide) (by decide)) dL_law_33 (by decide) (by decide) rfl (by decide) ?_
        have h := h_take sB sT sS sC sU sV sW sH sH0 sH1 sH2 sH3 sO sM (jx_sv xs (l3 + 1)) hRR (jx_svR xs _)
        refine lv_aload_n hx hb dL_law_179 rfl (lv_at hl 1 rfl) ?_
        refine lv_aload_n hx hb dL_law_180 rfl (lv_at hl 0 rfl) ?_
        refine lv_iload_n hx hb dL_law_181 rfl (lv_at hl 3 rfl) ?_
        refine jx_iconst C dL_law_182 ?_
        refine jx_iadd C dL_law_183 ?_
        refine jx_sld C hX hbl hbA hS hL ⟨by omega, by omega⟩ dL_law_184 ?_
        refine jx_callVI C hK hP hD hS hA (ct_B_take l D cI cT aB aC aS aT aW aV aU aH hT aO _ sB sC sS sT sH sH0 sH1 sH2 sH3 (jx_sv xs (l3 + 1)) h) ms_X7_take lk_L_18 [0, 3, 2, 1, 7, 8, 9, 10, 11] rfl rfl (fun _ => rfl) (cs' := (fun u => [(cp_B aB (aT 0) (aS 0) (aC 0) (aU 0) (aV 0) (aW 0) (aH 0) (aO 0), sB), (cp_T aT, u.2.2.1), (cp_S aS (aT 0), u.2.1), (cp_C aC (aT 0) (aS 0), u.1), (cp_T aU, sU), (cp_S aV (aU 0), sV), (cp_C aW (aU 0) (aV 0), sW), (cp_H aH (fun j => hT j 0), u.2.2.2.1), (cp_T (hT 0), u.2.2.2.2.1), (cp_T (hT 1), u.2.2.2.2.2.1), (cp_T (hT 2), u.2.2.2.2.2.2.1), (cp_T (hT 3), u.2.2.2.2.2.2.2), (cp_O aO, sO), (cp_M aM, sM)])) (fun _ => rfl) (fun _ => rfl) 0 0 rfl rfl rfl rfl rfl hl.1 rfl rfl dL_law_185 hcl (fun r185 u H locs h hP hD hS => ?_)
        obtain ⟨tC, tS, tT, tH, tH0, tH1, tH2, tH3⟩ := u
        dsimp only at h
        have hP : va_P D vwCl (jx_ws cI cT [(cp_B aB (aT 0) (aS 0) (aC 0) (aU 0) (aV 0) (aW 0) (aH 0) (aO 0), sB), (cp_T aT, tT), (cp_S aS (aT 0), tS), (cp_C aC (aT 0) (aS 0), tC), (cp_T aU, sU), (cp_S aV (aU 0), sV), (cp_C aW (aU 0) (aV 0), sW), (cp_H aH (fun j => hT j 0), tH), (cp_T (hT 0), tH0), (cp_T (hT 1), tH1), (cp_T (hT 2), tH2), (cp_T (hT 3), tH3), (cp_O aO, sO), (cp_M aM, sM)]) H := hP
        have hD : va_D A (jx_ws cI cT [(cp_B aB (aT 0) (aS 0) (aC 0) (aU 0) (aV 0) (aW 0) (aH 0) (aO 0), sB), (cp_T aT, tT), (cp_S aS (aT 0), tS), (cp_C aC (aT 0) (aS 0), tC), (cp_T aU, sU), (cp_S aV (aU 0), sV), (cp_C aW (aU 0) (aV 0), sW), (cp_H aH (fun j => hT j 0), tH), (cp_T (hT 0), tH0), (cp_T (hT 1), tH1), (cp_T (hT 2), tH2), (cp_T (hT 3), tH3), (cp_O aO, sO), (cp_M aM, sM)]) := hD
        refine lv_aload_n hx hb dL_law_188 rfl (lv_at hl 2 rfl) ?_
        refine lv_aload_n hx hb dL_law_189 rfl (lv_at hl 0 rfl) ?_
        refine lv_iload_n hx hb dL_law_190 rfl (lv_at hl 3 rfl) ?_
        refine jx_iconst C dL_law_191 ?_
        refine jx_iadd C dL_law_192 ?_
        refine jx_sld C hX hbl hbA hS hL ⟨by omega, by omega⟩ dL_law_193 ?_
        refine jx_callVI C hK hP hD hS hA (ct_M_take l D cI cT aM _ sM (jx_sv xs (l3 + 1)) h) ms_X8_take lk_L_22 [13] rfl rfl (fun _ => rfl) (cs' := (fun u => [(cp_B aB (aT 0) (aS 0) (aC 0) (aU 0) (aV 0) (aW 0) (aH 0) (aO 0), sB), (cp_T aT, tT), (cp_S aS (aT 0), tS), (cp_C aC (aT 0) (aS 0), tC), (cp_T aU, sU), (cp_S aV (aU 0), sV), (cp_C aW (aU 0) (aV 0), sW), (cp_H aH (fun j => hT j 0), tH), (cp_T (hT 0), tH0), (cp_T (hT 1), tH1), (cp_T (hT 2), tH2), (cp_T (hT 3), tH3), (cp_O aO, sO), (cp_M aM, u)])) (fun _ => rfl) (fun _ => rfl) 13 0 rfl rfl rfl rfl rfl hl.1 rfl rfl dL_law_194 hcl (fun r194 tM H locs h hP hD hS => ?_)
        have hP : va_P D vwCl (jx_ws cI cT [(cp_B aB (aT 0) (aS 0) (aC 0) (aU 0) (aV 0) (aW 0) (aH 0) (aO 0), sB), (cp_T aT, tT), (cp_S aS (aT 0), tS), (cp_C aC (aT 0) (aS 0), tC), (cp_T aU, sU), (cp_S aV (aU 0), sV), (cp_C aW (aU 0) (aV 0), sW), (cp_H aH (fun j => hT j 0), tH), (cp_T (hT 0), tH0), (cp_T (hT 1), tH1), (cp_T (hT 2), tH2), (cp_T (hT 3), tH3), (cp_O aO, sO), (cp_M aM, tM)]) H := hP
        have hD : va_D A (jx_ws cI cT [(cp_B aB (aT 0) (aS 0) (aC 0) (aU 0) (aV 0) (aW 0) (aH 0) (aO 0), sB), (cp_T aT, tT), (cp_S aS (aT 0), tS), (cp_C aC (aT 0) (aS 0), tC), (cp_T aU, sU), (cp_S aV (aU 0), sV), (cp_C aW (aU 0) (aV 0), sW), (cp_H aH (fun j => hT j 0), tH), (cp_T (hT 0), tH0), (cp_T (hT 1), tH1), (cp_T (hT 2), tH2), (cp_T (hT 3), tH3), (cp_O aO, sO), (cp_M aM, tM)]) := hD
        refine jx_ceqS C h.1 (tgt := 687) dL_law_197 (by decide) ?_
        exact Lj sB tT tS tC sU sV sW tH tH0 tH1 tH2 tH3 sO tM h.2 H locs hP hD hS ls hl
      · refine jx_tswIn (tgt := 202) C hc (jx_inR (by decide) (by decide)) dL_law_33 (by decide) (by decide) rfl (by decide) ?_
        have h := h_boxOf sB sT sS sC sU sV sW sH sH0 sH1 sH2 sH3 sO sM (jx_sv xs (l3 + 1)) (jx_sv xs (l3 + 2)) hRR (jx_svR xs _) (jx_svR xs _)
        refine lv_aload_n hx hb dL_law_202 rfl (lv_at hl 1 rfl) ?_
        refine lv_aload_n hx hb dL_law_203 rfl (lv_at hl 0 rfl) ?_
        refine lv_iload_n hx hb dL_law_204 rfl (lv_at hl 3 rfl) ?_
        refine jx_iconst C dL_law_205 ?_
        refine jx_iadd C dL_law_206 ?_
        refine jx_sld C hX hbl hbA hS hL ⟨by omega, by omega⟩ dL_law_207 ?_
        refine lv_aload_n hx hb dL_law_208 rfl (lv_at hl 0 rfl) ?_
        refine lv_iload_n hx hb dL_law_209 rfl (lv_at hl 3 rfl) ?_
        refine jx_iconst C dL_law_210 ?_
        refine jx_iadd C dL_law_211 ?_
        refine jx_sld C hX hbl hbA hS hL ⟨by omega, by omega⟩ dL_law_212 ?_
        refine jx_callVI C hK hP hD hS hA (ct_B_boxOf l D cI cT aB aC aS aT aW aV aU aH hT aO _ sB sS sT (jx_sv xs (l3 + 1)) (jx_sv xs (l3 + 2)) h) ms_X7_boxOf lk_L_23 [0, 2, 1] rfl rfl (fun _ => rfl) (cs' := (fun u => [(cp_B aB (aT 0) (aS 0) (aC 0) (aU 0) (aV 0) (aW 0) (aH 0) (aO 0), sB), (cp_T aT, sT), (cp_S aS (aT 0), u), (cp_C aC (aT 0) (aS 0), sC), (cp_T aU, sU), (cp_S aV (aU 0), sV), (cp_C aW (aU 0) (aV 0), sW), (cp_H aH (fun j => hT j 0), sH), (cp_T (hT 0), sH0), (cp_T (hT 1), sH1), (cp_T (hT 2), sH2), (cp_T (hT 3), sH3), (cp_O aO, sO), (cp_M aM, sM)])) (fun _ => rfl) (fun _ => rfl) 0 0 rfl rfl rfl rfl rfl hl.1 rfl rfl dL_law_213 hcl (fun r213 tS H locs h hP hD hS => ?_)
        have hP : va_P D vwCl (jx_ws cI cT [(cp_B aB (aT 0) (aS 0) (aC 0) (aU 0) (aV 0) (aW 0) (aH 0) (aO 0), sB), (cp_T aT, sT), (cp_S aS (aT 0), tS), (cp_C aC (aT 0) (aS 0), sC), (cp_T aU, sU), (cp_S aV (aU 0), sV), (cp_C aW (aU 0) (aV 0), sW), (cp_H aH (fun j => hT j 0), sH), (cp_T (hT 0), sH0), (cp_T (hT 1), sH1), (cp_T (hT 2), sH2), (cp_T (hT 3), sH3), (cp_O aO, sO), (cp_M aM, sM)]) H := hP
        have hD : va_D A (jx_ws cI cT [(cp_B aB (aT 0) (aS 0) (aC 0) (aU 0) (aV 0) (aW 0) (aH 0) (aO 0), sB), (cp_T aT, sT), (cp_S aS (aT 0), tS), (cp_C aC (aT 0) (aS 0), sC), (cp_T aU, sU), (cp_S aV (aU 0), sV), (cp_C aW (aU 0) (aV 0), sW), (cp_H aH (fun j => hT j 0), sH), (cp_T (hT 0), sH0), (cp_T (hT 1), sH1), (cp_T (hT 2), sH2), (cp_T (hT 3), sH3), (cp_O aO, sO), (cp_M aM, sM)]) := hD
        refine lv_aload_n hx hb dL_law_216 rfl (lv_at hl 2 rfl) ?_
        refine lv_aload_n hx hb dL_law_217 rfl (lv_at hl 0 rfl) ?_
        refine lv_iload_n hx hb dL_law_218 rfl (lv_at hl 3 rfl) ?_
        refine jx_iconst C dL_law_219 ?_
        refine jx_iadd C dL_law_220 ?_
        refine jx_sld C hX hbl hbA hS hL ⟨by omega, by omega⟩ dL_law_221 ?_
        refine lv_aload_n hx hb dL_law_222 rfl (lv_at hl 0 rfl) ?_
        refine lv_iload_n hx hb dL_law_223 rfl (lv_at hl 3 rfl) ?_
        refine jx_iconst C dL_law_224 ?_
        refine jx_iadd C dL_law_225 ?_
        refine jx_sld C hX hbl hbA hS hL ⟨by omega, by omega⟩ dL_law_226 ?_
        refine jx_callVI C hK hP hD hS hA (ct_M_boxOf l D cI cT aM _ sM (jx_sv xs (l3 + 1)) (jx_sv xs (l3 + 2)) h) ms_X8_boxOf lk_L_27 [13] rfl rfl (fun _ => rfl) (cs' := (fun u => [(cp_B aB (aT 0) (aS 0) (aC 0) (aU 0) (aV 0) (aW 0) (aH 0) (aO 0), sB), (cp_T aT, sT), (cp_S aS (aT 0), tS), (cp_C aC (aT 0) (aS 0), sC), (cp_T aU, sU), (cp_S aV (aU 0), sV), (cp_C aW (aU 0) (aV 0), sW), (cp_H aH (fun j => hT j 0), sH), (cp_T (hT 0), sH0), (cp_T (hT 1), sH1), (cp_T (hT 2), sH2), (cp_T (hT 3), sH3), (cp_O aO, sO), (cp_M aM, u)])) (fun _ => rfl) (fun _ => rfl) 13 0 rfl rfl rfl rfl rfl hl.1 rfl rfl dL_law_227 hcl (fun r227 tM H locs h hP hD hS => ?_)
        have hP : va_P D vwCl (jx_ws cI cT [(cp_B aB (aT 0) (aS 0) (aC 0) (aU 0) (aV 0) (aW 0) (aH 0) (aO 0), sB), (cp_T aT, sT), (cp_S aS (aT 0), tS), (cp_C aC (aT 0) (aS 0), sC), (cp_T aU, sU), (cp_S aV (aU 0), sV), (cp_C aW (aU 0) (aV 0), sW), (cp_H aH (fun j => hT j 0), sH), (cp_T (hT 0), sH0), (cp_T (hT 1), sH1), (cp_T (hT 2), sH2), (cp_T (hT 3), sH3), (cp_O aO, sO), (cp_M aM, tM)]) H := hP
        have hD : va_D A (jx_ws cI cT [(cp_B aB (aT 0) (aS 0) (aC 0) (aU 0) (aV 0) (aW 0) (aH 0) (aO 0), sB), (cp_T aT, sT), (cp_S aS (aT 0), tS), (cp_C aC (aT 0) (aS 0), sC), (cp_T aU, sU), (cp_S aV (aU 0), sV), (cp_C aW (aU 0) (aV 0), sW), (cp_H aH (fun j => hT j 0), sH), (cp_T (hT 0), sH0), (cp_T (hT 1), sH1), (cp_T (hT 2), sH2), (cp_T (hT 3), sH3), (cp_O aO, sO), (cp_M aM, tM)]) := hD
        refine jx_ceqS C h.1 (tgt := 687) dL_law_230 (by decide) ?_
        exact Lj sB sT tS sC sU sV sW sH sH0 sH1 sH2 sH3 sO tM h.2 H locs hP hD hS ls hl
      · refine jx_tswIn (tgt := 235) C hc (jx_inR (by decide) (by decide)) dL_law_33 (by decide) (by decide) rfl (by decide) ?_
        have h := h_nodeOf sB sT sS sC sU sV sW sH sH0 sH1 sH2 sH3 sO sM (jx_sv xs (l3 + 1)) (jx_sv xs (l3 + 2)) (jx_sv xs (l3 + 3)) hRR (jx_svR xs _) (jx_svR xs _) (jx_svR xs _)
        refine lv_aload_n hx hb dL_law_235 rfl (lv_at hl 1 rfl) ?_
        refine lv_aload_n hx hb dL_law_236 rfl (lv_at hl 0 rfl) ?_
        refine lv_iload_n hx hb dL_law_237 rfl (lv_at hl 3 rfl) ?_
        refine jx_iconst C dL_law_238 ?_
        refine jx_iadd C dL_law_239 ?_
        refine jx_sld C hX hbl hbA hS hL ⟨by omega, by omega⟩ dL_law_240 ?_
        refine lv_aload_n hx hb dL_law_241 rfl (lv_at hl 0 rfl) ?_
        refine lv_iload_n hx hb dL_law_242 rfl (lv_at hl 3 rfl) ?_
        refine jx_iconst C dL_law_243 ?_
        refine jx_iadd C dL_law_244 ?_
        refine jx_sld C hX hbl hbA hS hL ⟨by omega, by omega⟩ dL_law_245 ?_
        refine lv_aload_n hx hb dL_law_246 rfl (lv_at hl 0 rfl) ?_
        refine lv_iload_n hx hb dL_law_247 rfl (lv_at hl 3 rfl) ?_
        refine jx_iconst C dL_law_248 ?_
        refine jx_iadd C dL_law_249 ?_
        refine jx_sld C hX hbl hbA hS hL ⟨by omega, by omega⟩ dL_law_250 ?_
        refine jx_callVI C hK hP hD hS hA (ct_B_nodeOf l D cI cT aB aC aS aT aW aV aU aH hT aO _ sB sS sT (jx_sv xs (l3 + 1)) (jx_sv xs (l3 + 2)) (jx_sv xs (l3 + 3)) h) ms_X7_nodeOf lk_L_28 [0, 2, 1] rfl rfl (fun _ => rfl) (cs' := (fun u => [(cp_B aB (aT 0) (aS 0) (aC 0) (aU 0) (aV 0) (aW 0) (aH 0) (aO 0), sB), (cp_T aT, sT), (cp_S aS (aT 0), u), (cp_C aC (aT 0) (aS 0), sC), (cp_T aU, sU), (cp_S aV (aU 0), sV), (cp_C aW (aU 0) (aV 0), sW), (cp_H aH (fun j => hT j 0), sH), (cp_T (hT 0), sH0), (cp_T (hT 1), sH1), (cp_T (hT 2), sH2), (cp_T (hT 3), sH3), (cp_O aO, sO), (cp_M aM, sM)])) (fun _ => rfl) (fun _ => rfl) 0 0 rfl rfl rfl rfl rfl hl.1 rfl rfl dL_law_251 hcl (fun r251 tS H locs h hP hD hS => ?_)
        have hP : va_P D vwCl (jx_ws cI cT [(cp_B aB (aT 0) (aS 0) (aC 0) (aU 0) (aV 0) (aW 0) (aH 0) (aO 0), sB), (cp_T aT, sT), (cp_S aS (aT 0), tS), (cp_C aC (aT 0) (aS 0), sC), (cp_T aU, sU), (cp_S aV (aU 0), sV), (cp_C aW (aU 0) (aV 0), sW), (cp_H aH (fun j => hT j 0), sH), (cp_T (hT 0), sH0), (cp_T (hT 1), sH1), (cp_T (hT 2), sH2), (cp_T (hT 3), sH3), (cp_O aO, sO), (cp_M aM, sM)]) H := hP
        have hD : va_D A (jx_ws cI cT [(cp_B aB (aT 0) (aS 0) (aC 0) (aU 0) (aV 0) (aW 0) (aH 0) (aO 0), sB), (cp_T aT, sT), (cp_S aS (aT 0), tS), (cp_C aC (aT 0) (aS 0), sC), (cp_T aU, sU), (cp_S aV (aU 0), sV), (cp_C aW (aU 0) (aV 0), sW), (cp_H aH (fun j => hT j 0), sH), (cp_T (hT 0), sH0), (cp_T (hT 1), sH1), (cp_T (hT 2), sH2), (cp_T (hT 3), sH3), (cp_O aO, sO), (cp_M aM, sM)]) := hD
        refine lv_aload_n hx hb dL_law_254 rfl (lv_at hl 2 rfl) ?_
        refine lv_aload_n hx hb dL_law_255 rfl (lv_at hl 0 rfl) ?_
        refine lv_iload_n hx hb dL_law_256 rfl (lv_at hl 3 rfl) ?_
        refine jx_iconst C dL_law_257 ?_
        refine jx_iadd C dL_law_258 ?_
        refine jx_sld C hX hbl hbA hS hL ⟨by omega, by omega⟩ dL_law_259 ?_
        refine lv_aload_n hx hb dL_law_260 rfl (lv_at hl 0 rfl) ?_
        refine lv_iload_n hx hb dL_law_261 rfl (lv_at hl 3 rfl) ?_
        refine jx_iconst C dL_law_262 ?_
        refine jx_iadd C dL_law_263 ?_
        refine jx_sld C hX hbl hbA hS hL ⟨by omega, by omega⟩ dL_law_264 ?_
        refine lv_aload_n hx hb dL_law_265 rfl (lv_at hl 0 rfl) ?_
        refine lv_iload_n hx hb dL_law_266 rfl (lv_at hl 3 rfl) ?_
        refine jx_iconst C dL_law_267 ?_
        refine jx_iadd C dL_law_268 ?_
        refine jx_sld C hX hbl hbA hS hL ⟨by omega, by omega⟩ dL_law_269 ?_
        refine jx_callVI C hK hP hD hS hA (ct_M_nodeOf l D cI cT aM _ sM (jx_sv xs (l3 + 1)) (jx_sv xs (l3 + 2)) (jx_sv xs (l3 + 3)) h) ms_X8_nodeOf lk_L_32 [13] rfl rfl (fun _ => rfl) (cs' := (fun u => [(cp_B aB (aT 0) (aS 0) (aC 0) (aU 0) (aV 0) (aW 0) (aH 0) (aO 0), sB), (cp_T aT, sT), (cp_S aS (aT 0), tS), (cp_C aC (aT 0) (aS 0), sC), (cp_T aU, sU), (cp_S aV (aU 0), sV), (cp_C aW (aU 0) (aV 0), sW), (cp_H aH (fun j => hT j 0), sH), (cp_T (hT 0), sH0), (cp_T (hT 1), sH1), (cp_T (hT 2), sH2), (cp_T (hT 3), sH3), (cp_O aO, sO), (cp_M aM, u)])) (fun _ => rfl) (fun _ => rfl) 13 0 rfl rfl rfl rfl rfl hl.1 rfl rfl dL_law_270 hcl (fun r270 tM H locs h hP hD hS => ?_)
        have hP : va_P D vwCl (jx_ws cI cT [(cp_B aB (aT 0) (aS 0) (aC 0) (aU 0) (aV 0) (aW 0) (aH 0) (aO 0), sB), (cp_T aT, sT), (cp_S aS (aT 0), tS), (cp_C aC (aT 0) (aS 0), sC), (cp_T aU, sU), (cp_S aV (aU 0), sV), (cp_C aW (aU 0) (aV 0), sW), (cp_H aH (fun j => hT j 0), sH), (cp_T (hT 0), sH0), (cp_T (hT 1), sH1), (cp_T (hT 2), sH2), (cp_T (hT 3), sH3), (cp_O aO, sO), (cp_M aM, tM)]) H := hP
        have hD : va_D A (jx_ws cI cT [(cp_B aB (aT 0) (aS 0) (aC 0) (aU 0) (aV 0) (aW 0) (aH 0) (aO 0), sB), (cp_T aT, sT), (cp_S aS (aT 0), tS), (cp_C aC (aT 0) (aS 0), sC), (cp_T aU, sU), (cp_S aV (aU 0), sV), (cp_C aW (aU 0) (aV 0), sW), (cp_H aH (fun j => hT j 0), sH), (cp_T (hT 0), sH0), (cp_T (hT 1), sH1), (cp_T (hT 2), sH2), (cp_T (hT 3), sH3), (cp_O aO, sO), (cp_M aM, tM)]) := hD
        refine jx_ceqS C h.1 (tgt := 687) dL_law_273 (by decide) ?_
        exact Lj sB sT tS sC sU sV sW sH sH0 sH1 sH2 sH3 sO tM h.2 H locs hP hD hS ls hl
      · refine jx_tswIn (tgt := 278) C hc (jx_inR (by decide) (by decide)) dL_law_33 (by decide) (by decide) rfl (by decide) ?_
        have h := h_overlaps sB sT sS sC sU sV sW sH sH0 sH1 sH2 sH3 sO sM (jx_sv xs (l3 + 1)) hRR (jx_svR xs _)
        refine lv_aload_n hx hb dL_law_278 rfl (lv_at hl 1 rfl) ?_
        refine lv_aload_n hx hb dL_law_279 rfl (lv_at hl 0 rfl) ?_
        refine lv_iload_n hx hb dL_law_280 rfl (lv_at hl 3 rfl) ?_
        refine jx_iconst C dL_law_281 ?_
        refine jx_iadd C dL_law_282 ?_
        refine jx_sld C hX hbl hbA hS hL ⟨by omega, by omega⟩ dL_law_283 ?_
        refine jx_callVI C hK hP hD hS hA (ct_B_overlaps l D cI cT aB aC aS aT aW aV aU aH hT aO _ sB sS sT (jx_sv xs (l3 + 1)) h) ms_X7_overlaps lk_L_33 [0, 2, 1] rfl rfl (fun _ => rfl) (cs' := (fun u => [(cp_B aB (aT 0) (aS 0) (aC 0) (aU 0) (aV 0) (aW 0) (aH 0) (aO 0), sB), (cp_T aT, sT), (cp_S aS (aT 0), u), (cp_C aC (aT 0) (aS 0), sC), (cp_T aU, sU), (cp_S aV (aU 0), sV), (cp_C aW (aU 0) (aV 0), sW), (cp_H aH (fun j => hT j 0), sH), (cp_T (hT 0), sH0), (cp_T (hT 1), sH1), (cp_T (hT 2), sH2), (cp_T (hT 3), sH3), (cp_O aO, sO), (cp_M aM, sM)])) (fun _ => rfl) (fun _ => rfl) 0 0 rfl rfl rfl rfl rfl hl.1 rfl rfl dL_law_284 hcl (fun r284 tS H locs h hP hD hS => ?_)
        have hP : va_P D vwCl (jx_ws cI cT [(cp_B aB (aT 0) (aS 0) (aC 0) (aU 0) (aV 0) (aW 0) (aH 0) (aO 0), sB), (cp_T aT, sT), (cp_S aS (aT 0), tS), (cp_C aC (aT 0) (aS 0), sC), (cp_T aU, sU), (cp_S aV (aU 0), sV), (cp_C aW (aU 0) (aV 0), sW), (cp_H aH (fun j => hT j 0), sH), (cp_T (hT 0), sH0), (cp_T (hT 1), sH1), (cp_T (hT 2), sH2), (cp_T (hT 3), sH3), (cp_O aO, sO), (cp_M aM, sM)]) H := hP
        have hD : va_D A (jx_ws cI cT [(cp_B aB (aT 0) (aS 0) (aC 0) (aU 0) (aV 0) (aW 0) (aH 0) (aO 0), sB), (cp_T aT, sT), (cp_S aS (aT 0), tS), (cp_C aC (aT 0) (aS 0), sC), (cp_T aU, sU), (cp_S aV (aU 0), sV), (cp_C aW (aU 0) (aV 0), sW), (cp_H aH (fun j => hT j 0), sH), (cp_T (hT 0), sH0), (cp_T (hT 1), sH1), (cp_T (hT 2), sH2), (cp_T (hT 3), sH3), (cp_O aO, sO), (cp_M aM, sM)]) := hD
        refine lv_aload_n hx hb dL_law_287 rfl (lv_at hl 2 rfl) ?_
        refine lv_aload_n hx hb dL_law_288 rfl (lv_at hl 0 rfl) ?_
        refine lv_iload_n hx hb dL_law_289 rfl (lv_at hl 3 rfl) ?_
        refine jx_iconst C dL_law_290 ?_
        refine jx_iadd C dL_law_291 ?_
        refine jx_sld C hX hbl hbA hS hL ⟨by omega, by omega⟩ dL_law_292 ?_
        refine jx_callVI C hK hP hD hS hA (ct_M_overlaps l D cI cT aM _ sM (jx_sv xs (l3 + 1)) h) ms_X8_overlaps lk_L_36 [13] rfl rfl (fun _ => rfl) (cs' := (fun u => [(cp_B aB (aT 0) (aS 0) (aC 0) (aU 0) (aV 0) (aW 0) (aH 0) (aO 0), sB), (cp_T aT, sT), (cp_S aS (aT 0), tS), (cp_C aC (aT 0) (aS 0), sC), (cp_T aU, sU), (cp_S aV (aU 0), sV), (cp_C aW (aU 0) (aV 0), sW), (cp_H aH (fun j => hT j 0), sH), (cp_T (hT 0), sH0), (cp_T (hT 1), sH1), (cp_T (hT 2), sH2), (cp_T (hT 3), sH3), (cp_O aO, sO), (cp_M aM, u)])) (fun _ => rfl) (fun _ => rfl) 13 0 rfl rfl rfl rfl rfl hl.1 rfl rfl dL_law_293 hcl (fun r293 tM H locs h hP hD hS => ?_)
        have hP : va_P D vwCl (jx_ws cI cT [(cp_B aB (aT 0) (aS 0) (aC 0) (aU 0) (aV 0) (aW 0) (aH 0) (aO 0), sB), (cp_T aT, sT), (cp_S aS (aT 0), tS), (cp_C aC (aT 0) (aS 0), sC), (cp_T aU, sU), (cp_S aV (aU 0), sV), (cp_C aW (aU 0) (aV 0), sW), (cp_H aH (fun j => hT j 0), sH), (cp_T (hT 0), sH0), (cp_T (hT 1), sH1), (cp_T (hT 2), sH2), (cp_T (hT 3), sH3), (cp_O aO, sO), (cp_M aM, tM)]) H := hP
        have hD : va_D A (jx_ws cI cT [(cp_B aB (aT 0) (aS 0) (aC 0) (aU 0) (aV 0) (aW 0) (aH 0) (aO 0), sB), (cp_T aT, sT), (cp_S aS (aT 0), tS), (cp_C aC (aT 0) (aS 0), sC), (cp_T aU, sU), (cp_S aV (aU 0), sV), (cp_C aW (aU 0) (aV 0), sW), (cp_H aH (fun j => hT j 0), sH), (cp_T (hT 0), sH0), (cp_T (hT 1), sH1), (cp_T (hT 2), sH2), (cp_T (hT 3), sH3), (cp_O aO, sO), (cp_M aM, tM)]) := hD
        refine jx_ceqS C h.1 (tgt := 687) dL_law_296 (by decide) ?_
        exact Lj sB sT tS sC sU sV sW sH sH0 sH1 sH2 sH3 sO tM h.2 H locs hP hD hS ls hl
      · refine jx_tswIn (tgt := 301) C hc (jx_inR (by decide) (by decide)) dL_law_33 (by decide) (by decide) rfl (by decide) ?_
        have h := h_overlap sB sT sS sC sU sV sW sH sH0 sH1 sH2 sH3 sO sM (jx_sv xs (l3 + 1)) (jx_sv xs (l3 + 2)) hRR (jx_svR xs _) (jx_svR xs _)
        refine lv_aload_n hx hb dL_law_301 rfl (lv_at hl 1 rfl) ?_
        refine lv_aload_n hx hb dL_law_302 rfl (lv_at hl 0 rfl) ?_
        refine lv_iload_n hx hb dL_law_303 rfl (lv_at hl 3 rfl) ?_
        refine jx_iconst C dL_law_304 ?_
        refine jx_iadd C dL_law_305 ?_
        refine jx_sld C hX hbl hbA hS hL ⟨by omega, by omega⟩ dL_law_306 ?_
        refine lv_aload_n hx hb dL_law_307 rfl (lv_at hl 0 rfl) ?_
        refine lv_iload_n hx hb dL_law_308 rfl (lv_at hl 3 rfl) ?_
        refine jx_iconst C dL_law_309 ?_
        refine jx_iadd C dL_law_310 ?_
        refine jx_sld C hX hbl hbA hS hL ⟨by omega, by omega⟩ dL_law_311 ?_
        refine jx_callVI C hK hP hD hS hA (ct_B_overlap l D cI cT aB aC aS aT aW aV aU aH hT aO _ sB sT (jx_sv xs (l3 + 1)) (jx_sv xs (l3 + 2)) h) ms_X7_overlap lk_L_37 [0, 1] rfl rfl (fun _ => rfl) (cs' := (fun _ => [(cp_B aB (aT 0) (aS 0) (aC 0) (aU 0) (aV 0) (aW 0) (aH 0) (aO 0), sB), (cp_T aT, sT), (cp_S aS (aT 0), sS), (cp_C aC (aT 0) (aS 0), sC), (cp_T aU, sU), (cp_S aV (aU 0), sV), (cp_C aW (aU 0) (aV 0), sW), (cp_H aH (fun j => hT j 0), sH), (cp_T (hT 0), sH0), (cp_T (hT 1), sH1), (cp_T (hT 2), sH2), (cp_T (hT 3), sH3), (cp_O aO, sO), (cp_M aM, sM)])) (fun _ => rfl) (fun _ => rfl) 0 0 rfl rfl rfl rfl rfl hl.1 rfl rfl dL_law_312 hcl (fun r312 _ H locs h hP hD hS => ?_)
        have hP : va_P D vwCl (jx_ws cI cT [(cp_B aB (aT 0) (aS 0) (aC 0) (aU 0) (aV 0) (aW 0) (aH 0) (aO 0), sB), (cp_T aT, sT), (cp_S aS (aT 0), sS), (cp_C aC (aT 0) (aS 0), sC), (cp_T aU, sU), (cp_S aV (aU 0), sV), (cp_C aW (aU 0) (aV 0), sW), (cp_H aH (fun j => hT j 0), sH), (cp_T (hT 0), sH0), (cp_T (hT 1), sH1), (cp_T (hT 2), sH2), (cp_T (hT 3), sH3), (cp_O aO, sO), (cp_M aM, sM)]) H := hP
        have hD : va_D A (jx_ws cI cT [(cp_B aB (aT 0) (aS 0) (aC 0) (aU 0) (aV 0) (aW 0) (aH 0) (aO 0), sB), (cp_T aT, sT), (cp_S aS (aT 0), sS), (cp_C aC (aT 0) (aS 0), sC), (cp_T aU, sU), (cp_S aV (aU 0), sV), (cp_C aW (aU 0) (aV 0), sW), (cp_H aH (fun j => hT j 0), sH), (cp_T (hT 0), sH0), (cp_T (hT 1), sH1), (cp_T (hT 2), sH2), (cp_T (hT 3), sH3), (cp_O aO, sO), (cp_M aM, sM)]) := hD
        refine lv_aload_n hx hb dL_law_315 rfl (lv_at hl 2 rfl) ?_
        refine lv_aload_n hx hb dL_law_316 rfl (lv_at hl 0 rfl) ?_
        refine lv_iload_n hx hb dL_law_317 rfl (lv_at hl 3 rfl) ?_
        refine jx_iconst C dL_law_318 ?_
        refine jx_iadd C dL_law_319 ?_
        refine jx_sld C hX hbl hbA hS hL ⟨by omega, by omega⟩ dL_law_320 ?_
        refine lv_aload_n hx hb dL_law_321 rfl (lv_at hl 0 rfl) ?_
        refine lv_iload_n hx hb dL_law_322 rfl (lv_at hl 3 rfl) ?_
        refine jx_iconst C dL_law_323 ?_
        refine jx_iadd C dL_law_324 ?_
        refine jx_sld C hX hbl hbA hS hL ⟨by omega, by omega⟩ dL_law_325 ?_
        refine jx_callVI C hK hP hD hS hA (ct_M_overlap l D cI cT aM _ sM (jx_sv xs (l3 + 1)) (jx_sv xs (l3 + 2)) h) ms_X8_overlap lk_L_40 [13] rfl rfl (fun _ => rfl) (cs' := (fun u => [(cp_B aB (aT 0) (aS 0) (aC 0) (aU 0) (aV 0) (aW 0) (aH 0) (aO 0), sB), (cp_T aT, sT), (cp_S aS (aT 0), sS), (cp_C aC (aT 0) (aS 0), sC), (cp_T aU, sU), (cp_S aV (aU 0), sV), (cp_C aW (aU 0) (aV 0), sW), (cp_H aH (fun j => hT j 0), sH), (cp_T (hT 0), sH0), (cp_T (hT 1), sH1), (cp_T (hT 2), sH2), (cp_T (hT 3), sH3), (cp_O aO, sO), (cp_M aM, u)])) (fun _ => rfl) (fun _ => rfl) 13 0 rfl rfl rfl rfl rfl hl.1 rfl rfl dL_law_326 hcl (fun r326 tM H locs h hP hD hS => ?_)
        have hP : va_P D vwCl (jx_ws cI cT [(cp_B aB (aT 0) (aS 0) (aC 0) (aU 0) (aV 0) (aW 0) (aH 0) (aO 0), sB), (cp_T aT, sT), (cp_S aS (aT 0), sS), (cp_C aC (aT 0) (aS 0), sC), (cp_T aU, sU), (cp_S aV (aU 0), sV), (cp_C aW (aU 0) (aV 0), sW), (cp_H aH (fun j => hT j 0), sH), (cp_T (hT 0), sH0), (cp_T (hT 1), sH1), (cp_T (hT 2), sH2), (cp_T (hT 3), sH3), (cp_O aO, sO), (cp_M aM, tM)]) H := hP
        have hD : va_D A (jx_ws cI cT [(cp_B aB (aT 0) (aS 0) (aC 0) (aU 0) (aV 0) (aW 0) (aH 0) (aO 0), sB), (cp_T aT, sT), (cp_S aS (aT 0), sS), (cp_C aC (aT 0) (aS 0), sC), (cp_T aU, sU), (cp_S aV (aU 0), sV), (cp_C aW (aU 0) (aV 0), sW), (cp_H aH (fun j => hT j 0), sH), (cp_T (hT 0), sH0), (cp_T (hT 1), sH1), (cp_T (hT 2), sH2), (cp_T (hT 3), sH3), (cp_O aO, sO), (cp_M aM, tM)]) := hD
        refine jx_ceqS C h.1 (tgt := 687) dL_law_329 (by decide) ?_
        exact Lj sB sT sS sC sU sV sW sH sH0 sH1 sH2 sH3 sO tM h.2 H locs hP hD hS ls hl
      · refine jx_tswIn (tgt := 334) C hc (jx_inR (by decide) (by decide)) dL_law_33 (by decide) (by decide) rfl (by decide) ?_
        have h := h_court sB sT sS sC sU sV sW sH sH0 sH1 sH2 sH3 sO sM (jx_sv xs (l3 + 1)) (jx_sv xs (l3 + 2)) hRR (jx_svR xs _) (jx_svR xs _)
        refine lv_aload_n hx hb dL_law_334 rfl (lv_at hl 1 rfl) ?_
        refine lv_aload_n hx hb dL_law_335 rfl (lv_at hl 0 rfl) ?_
        refine lv_iload_n hx hb dL_law_336 rfl (lv_at hl 3 rfl) ?_
        refine jx_iconst C dL_law_337 ?_
        refine jx_iadd C dL_law_338 ?_
        refine jx_sld C hX hbl hbA hS hL ⟨by omega, by omega⟩ dL_law_339 ?_
        refine lv_aload_n hx hb dL_law_340 rfl (lv_at hl 0 rfl) ?_
        refine lv_iload_n hx hb dL_law_341 rfl (lv_at hl 3 rfl) ?_
        refine jx_iconst C dL_law_342 ?_
        refine jx_iadd C dL_law_343 ?_
        refine jx_sld C hX hbl hbA hS hL ⟨by omega, by omega⟩ dL_law_344 ?_
        refine jx_callVI C hK hP hD hS hA (ct_B_court l D cI cT aB aC aS aT aW aV aU aH hT aO _ sB sC (jx_sv xs (l3 + 1)) (jx_sv xs (l3 + 2)) h) ms_X7_court lk_L_41 [0, 3] rfl rfl (fun _ => rfl) (cs' := (fun _ => [(cp_B aB (aT 0) (aS 0) (aC 0) (aU 0) (aV 0) (aW 0) (aH 0) (aO 0), sB), (cp_T aT, sT), (cp_S aS (aT 0), sS), (cp_C aC (aT 0) (aS 0), sC), (cp_T aU, sU), (cp_S aV (aU 0), sV), (cp_C aW (aU 0) (aV 0), sW), (cp_H aH (fun j => hT j 0), sH), (cp_T (hT 0), sH0), (cp_T (hT 1), sH1), (cp_T (hT 2), sH2), (cp_T (hT 3), sH3), (cp_O aO, sO), (cp_M aM, sM)])) (fun _ => rfl) (fun _ => rfl) 0 0 rfl rfl rfl rfl rfl hl.1 rfl rfl dL_law_345 hcl (fun r345 _ H locs h hP hD hS => ?_)
        have hP : va_P D vwCl (jx_ws cI cT [(cp_B aB (aT 0) (aS 0) (aC 0) (aU 0) (aV 0) (aW 0) (aH 0) (aO 0), sB), (cp_T aT, sT), (cp_S aS (aT 0), sS), (cp_C aC (aT 0) (aS 0), sC), (cp_T aU, sU), (cp_S aV (aU 0), sV), (cp_C aW (aU 0) (aV 0), sW), (cp_H aH (fun j => hT j 0), sH), (cp_T (hT 0), sH0), (cp_T (hT 1), sH1), (cp_T (hT 2), sH2), (cp_T (hT 3), sH3), (cp_O aO, sO), (cp_M aM, sM)]) H := hP
        have hD : va_D A (jx_ws cI cT [(cp_B aB (aT 0) (aS 0) (aC 0) (aU 0) (aV 0) (aW 0) (aH 0) (aO 0), sB), (cp_T aT, sT), (cp_S aS (aT 0), sS), (cp_C aC (aT 0) (aS 0), sC), (cp_T aU, sU), (cp_S aV (aU 0), sV), (cp_C aW (aU 0) (aV 0), sW), (cp_H aH (fun j => hT j 0), sH), (cp_T (hT 0), sH0), (cp_T (hT 1), sH1), (cp_T (hT 2), sH2), (cp_T (hT 3), sH3), (cp_O aO, sO), (cp_M aM, sM)]) := hD
        refine lv_aload_n hx hb dL_law_348 rfl (lv_at hl 2 rfl) ?_
        refine lv_aload_n hx hb dL_law_349 rfl (lv_at hl 0 rfl) ?_
        refine lv_iload_n hx hb dL_law_350 rfl (lv_at hl 3 rfl) ?_
        refine jx_iconst C dL_law_351 ?_
        refine jx_iadd C dL_law_352 ?_
        refine jx_sld C hX hbl hbA hS hL ⟨by omega, by omega⟩ dL_law_353 ?_
        refine lv_aload_n hx hb dL_law_354 rfl (lv_at hl 0 rfl) ?_
        refine lv_iload_n hx hb dL_law_355 rfl (lv_at hl 3 rfl) ?_
        refine jx_iconst C dL_law_356 ?_
        refine jx_iadd C dL_law_357 ?_
        refine jx_sld C hX hbl hbA hS hL ⟨by omega, by omega⟩ dL_law_358 ?_
        refine jx_callVI C hK hP hD hS hA (ct_M_court_ l D cI cT aM _ sM (jx_sv xs (l3 + 1)) (jx_sv xs (l3 + 2)) h) ms_X8_court_ lk_L_44 [13] rfl rfl (fun _ => rfl) (cs' := (fun _ => [(cp_B aB (aT 0) (aS 0) (aC 0) (aU 0) (aV 0) (aW 0) (aH 0) (aO 0), sB), (cp_T aT, sT), (cp_S aS (aT 0), sS), (cp_C aC (aT 0) (aS 0), sC), (cp_T aU, sU), (cp_S aV (aU 0), sV), (cp_C aW (aU 0) (aV 0), sW), (cp_H aH (fun j => hT j 0), sH), (cp_T (hT 0), sH0), (cp_T (hT 1), sH1), (cp_T (hT 2), sH2), (cp_T (hT 3), sH3), (cp_O aO, sO), (cp_M aM, sM)])) (fun _ => rfl) (fun _ => rfl) 13 0 rfl rfl rfl rfl rfl hl.1 rfl rfl dL_law_359 hcl (fun r359 _ H locs h hP hD hS => ?_)
        have hP : va_P D vwCl (jx_ws cI cT [(cp_B aB (aT 0) (aS 0) (aC 0) (aU 0) (aV 0) (aW 0) (aH 0) (aO 0), sB), (cp_T aT, sT), (cp_S aS (aT 0), sS), (cp_C aC (aT 0) (aS 0), sC), (cp_T aU, sU), (cp_S aV (aU 0), sV), (cp_C aW (aU 0) (aV 0), sW), (cp_H aH (fun j => hT j 0), sH), (cp_T (hT 0), sH0), (cp_T (hT 1), sH1), (cp_T (hT 2), sH2), (cp_T (hT 3), sH3), (cp_O aO, sO), (cp_M aM, sM)]) H := hP
        have hD : va_D A (jx_ws cI cT [(cp_B aB (aT 0) (aS 0) (aC 0) (aU 0) (aV 0) (aW 0) (aH 0) (aO 0), sB), (cp_T aT, sT), (cp_S aS (aT 0), sS), (cp_C aC (aT 0) (aS 0), sC), (cp_T aU, sU), (cp_S aV (aU 0), sV), (cp_C aW (aU 0) (aV 0), sW), (cp_H aH (fun j => hT j 0), sH), (cp_T (hT 0), sH0), (cp_T (hT 1), sH1), (cp_T (hT 2), sH2), (cp_T (hT 3), sH3), (cp_O aO, sO), (cp_M aM, sM)]) := hD
        refine jx_ceqS C h.1 (tgt := 687) dL_law_362 (by decide) ?_
        exact Lj sB sT sS sC sU sV sW sH sH0 sH1 sH2 sH3 sO sM h.2 H locs hP hD hS ls hl
      · refine jx_tswIn (tgt := 367) C hc (jx_inR (by decide) (by decide)) dL_law_33 (by decide) (by decide) rfl (by decide) ?_
        have h := h_window sB sT sS sC sU sV sW sH sH0 sH1 sH2 sH3 sO sM (jx_sv xs (l3 + 1)) (jx_sv xs (l3 + 2)) (jx_sv xs (l3 + 3)) (jx_sv xs (l3 + 4)) (jx_sv xs (l3 + 5)) hRR (jx_svR xs _) (jx_svR xs _) (jx_svR xs _) (jx_svR xs _) (jx_svR xs _)
        refine lv_aload_n hx hb dL_law_367 rfl (lv_at hl 1 rfl) ?_
        refine lv_aload_n hx hb dL_law_368 rfl (lv_at hl 0 rfl) ?_
        refine lv_iload_n hx hb dL_law_369 rfl (lv_at hl 3 rfl) ?_
        refine jx_iconst C dL_law_370 ?_
        refine jx_iadd C dL_law_371 ?_
        refine jx_sld C hX hbl hbA hS hL ⟨by omega, by omega⟩ dL_law_372 ?_
        refine lv_aload_n hx hb dL_law_373 rfl (lv_at hl 0 rfl) ?_
        refine lv_iload_n hx hb dL_law_374 rfl (lv_at hl 3 rfl) ?_
        refine jx_iconst C dL_law_375 ?_
        refine jx_iadd C dL_law_376 ?_
        refine jx_sld C hX hbl hbA hS hL ⟨by omega, by omega⟩ dL_law_377 ?_
        refine lv_aload_n hx hb dL_law_378 rfl (lv_at hl 0 rfl) ?_
        refine lv_iload_n hx hb dL_law_379 rfl (lv_at hl 3 rfl) ?_
        refine jx_iconst C dL_law_380 ?_
        refine jx_iadd C dL_law_381 ?_
        refine jx_sld C hX hbl hbA hS hL ⟨by omega, by omega⟩ dL_law_382 ?_
        refine lv_aload_n hx hb dL_law_383 rfl (lv_at hl 0 rfl) ?_
        refine lv_iload_n hx hb dL_law_384 rfl (lv_at hl 3 rfl) ?_
        refine jx_iconst C dL_law_385 ?_
        refine jx_iadd C dL_law_386 ?_
        refine jx_sld C hX hbl hbA hS hL ⟨by omega, by omega⟩ dL_law_387 ?_
        refine lv_aload_n hx hb dL_law_388 rfl (lv_at hl 0 rfl) ?_
        refine lv_iload_n hx hb dL_law_389 rfl (lv_at hl 3 rfl) ?_
        refine jx_iconst C dL_law_390 ?_
        refine jx_iadd C dL_law_391 ?_
        refine jx_sld C hX hbl hbA hS hL ⟨by omega, by omega⟩ dL_law_392 ?_
        refine jx_callVI C hK hP hD hS hA (ct_B_window l D cI cT aB aC aS aT aW aV aU aH hT aO _ sB sS sT (jx_sv xs (l3 + 1)) (jx_sv xs (l3 + 2)) (jx_sv xs (l3 + 3)) (jx_sv xs (l3 + 4)) (jx_sv xs (l3 + 5)) h) ms_X7_window lk_L_45 [0, 2, 1] rfl rfl (fun _ => rfl) (cs' := (fun u => [(cp_B aB (aT 0) (aS 0) (aC 0) (aU 0) (aV 0) (aW 0) (aH 0) (aO 0), sB), (cp_T aT, sT), (cp_S aS (aT 0), u), (cp_C aC (aT 0) (aS 0), sC), (cp_T aU, sU), (cp_S aV (aU 0), sV), (cp_C aW (aU 0) (aV 0), sW), (cp_H aH (fun j => hT j 0), sH), (cp_T (hT 0), sH0), (cp_T (hT 1), sH1), (cp_T (hT 2), sH2), (cp_T (hT 3), sH3), (cp_O aO, sO), (cp_M aM, sM)])) (fun _ => rfl) (fun _ => rfl) 0 0 rfl rfl rfl rfl rfl hl.1 rfl rfl dL_law_393 hcl (fun r393 tS H locs h hP hD hS => ?_)
        have hP : va_P D vwCl (jx_ws cI cT [(cp_B aB (aT 0) (aS 0) (aC 0) (aU 0) (aV 0) (aW 0) (aH 0) (aO 0), sB), (cp_T aT, sT), (cp_S aS (aT 0), tS), (cp_C aC (aT 0) (aS 0), sC), (cp_T aU, sU), (cp_S aV (aU 0), sV), (cp_C aW (aU 0) (aV 0), sW), (cp_H aH (fun j => hT j 0), sH), (cp_T (hT 0), sH0), (cp_T (hT 1), sH1), (cp_T (hT 2), sH2), (cp_T (hT 3), sH3), (cp_O aO, sO), (cp_M aM, sM)]) H := hP
        have hD : va_D A (jx_ws cI cT [(cp_B aB (aT 0) (aS 0) (aC 0) (aU 0) (aV 0) (aW 0) (aH 0) (aO 0), sB), (cp_T aT, sT), (cp_S aS (aT 0), tS), (cp_C aC (aT 0) (aS 0), sC), (cp_T aU, sU), (cp_S aV (aU 0), sV), (cp_C aW (aU 0) (aV 0), sW), (cp_H aH (fun j => hT j 0), sH), (cp_T (hT 0), sH0), (cp_T (hT 1), sH1), (cp_T (hT 2), sH2), (cp_T (hT 3), sH3), (cp_O aO, sO), (cp_M aM, sM)]) := hD
        refine lv_aload_n hx hb dL_law_396 rfl (lv_at hl 2 rfl) ?_
        refine lv_aload_n hx hb dL_law_397 rfl (lv_at hl 0 rfl) ?_
        refine lv_iload_n hx hb dL_law_398 rfl (lv_at hl 3 rfl) ?_
        refine jx_iconst C dL_law_399 ?_
        refine jx_iadd C dL_law_400 ?_
        refine jx_sld C hX hbl hbA hS hL ⟨by omega, by omega⟩ dL_law_401 ?_
        refine lv_aload_n hx hb dL_law_402 rfl (lv_at hl 0 rfl) ?_
        refine lv_iload_n hx hb dL_law_403 rfl (lv_at hl 3 rfl) ?_
        refine jx_iconst C dL_law_404 ?_
        refine jx_iadd C dL_law_405 ?_
        refine jx_sld C hX hbl hbA hS hL ⟨by omega, by omega⟩ dL_law_406 ?_
        refine lv_aload_n hx hb dL_law_407 rfl (lv_at hl 0 rfl) ?_
        refine lv_iload_n hx hb dL_law_408 rfl (lv_at hl 3 rfl) ?_
        refine jx_iconst C dL_law_409 ?_
        refine jx_iadd C dL_law_410 ?_
        refine jx_sld C hX hbl hbA hS hL ⟨by omega, by omega⟩ dL_law_411 ?_
        refine lv_aload_n hx hb dL_law_412 rfl (lv_at hl 0 rfl) ?_
        refine lv_iload_n hx hb dL_law_413 rfl (lv_at hl 3 rfl) ?_
        refine jx_iconst C dL_law_414 ?_
        refine jx_iadd C dL_law_415 ?_
        refine jx_sld C hX hbl hbA hS hL ⟨by omega, by omega⟩ dL_law_416 ?_
        refine lv_aload_n hx hb dL_law_417 rfl (lv_at hl 0 rfl) ?_
        refine lv_iload_n hx hb dL_law_418 rfl (lv_at hl 3 rfl) ?_
        refine jx_iconst C dL_law_419 ?_
        refine jx_iadd C dL_law_420 ?_
        refine jx_sld C hX hbl hbA hS hL ⟨by omega, by omega⟩ dL_law_421 ?_
        refine jx_callVI C hK hP hD hS hA (ct_M_window l D cI cT aM _ sM (jx_sv xs (l3 + 1)) (jx_sv xs (l3 + 2)) (jx_sv xs (l3 + 3)) (jx_sv xs (l3 + 4)) (jx_sv xs (l3 + 5)) h) ms_X8_window lk_L_48 [13] rfl rfl (fun _ => rfl) (cs' := (fun u => [(cp_B aB (aT 0) (aS 0) (aC 0) (aU 0) (aV 0) (aW 0) (aH 0) (aO 0), sB), (cp_T aT, sT), (cp_S aS (aT 0), tS), (cp_C aC (aT 0) (aS 0), sC), (cp_T aU, sU), (cp_S aV (aU 0), sV), (cp_C aW (aU 0) (aV 0), sW), (cp_H aH (fun j => hT j 0), sH), (cp_T (hT 0), sH0), (cp_T (hT 1), sH1), (cp_T (hT 2), sH2), (cp_T (hT 3), sH3), (cp_O aO, sO), (cp_M aM, u)])) (fun _ => rfl) (fun _ => rfl) 13 0 rfl rfl rfl rfl rfl hl.1 rfl rfl dL_law_422 hcl (fun r422 tM H locs h hP hD hS => ?_)
        have hP : va_P D vwCl (jx_ws cI cT [(cp_B aB (aT 0) (aS 0) (aC 0) (aU 0) (aV 0) (aW 0) (aH 0) (aO 0), sB), (cp_T aT, sT), (cp_S aS (aT 0), tS), (cp_C aC (aT 0) (aS 0), sC), (cp_T aU, sU), (cp_S aV (aU 0), sV), (cp_C aW (aU 0) (aV 0), sW), (cp_H aH (fun j => hT j 0), sH), (cp_T (hT 0), sH0), (cp_T (hT 1), sH1), (cp_T (hT 2), sH2), (cp_T (hT 3), sH3), (cp_O aO, sO), (cp_M aM, tM)]) H := hP
        have hD : va_D A (jx_ws cI cT [(cp_B aB (aT 0) (aS 0) (aC 0) (aU 0) (aV 0) (aW 0) (aH 0) (aO 0), sB), (cp_T aT, sT), (cp_S aS (aT 0), tS), (cp_C aC (aT 0) (aS 0), sC), (cp_T aU, sU), (cp_S aV (aU 0), sV), (cp_C aW (aU 0) (aV 0), sW), (cp_H aH (fun j => hT j 0), sH), (cp_T (hT 0), sH0), (cp_T (hT 1), sH1), (cp_T (hT 2), sH2), (cp_T (hT 3), sH3), (cp_O aO, sO), (cp_M aM, tM)]) := hD
        refine jx_ceqS C h.1 (tgt := 687) dL_law_425 (by decide) ?_
        exact Lj sB sT tS sC sU sV sW sH sH0 sH1 sH2 sH3 sO tM h.2 H locs hP hD hS ls hl
      · refine jx_tswIn (tgt := 430) C hc (jx_inR (by decide) (by decide)) dL_law_33 (by decide) (by decide) rfl (by decide) ?_
        have h := h_nearest sB sT sS sC sU sV sW sH sH0 sH1 sH2 sH3 sO sM (jx_sv xs (l3 + 1)) (jx_sv xs (l3 + 2)) (jx_sv xs (l3 + 3)) (jx_sv xs (l3 + 4)) hRR (jx_svR xs _) (jx_svR xs _) (jx_svR xs _) (jx_svR xs _)
        refine lv_aload_n hx hb dL_law_430 rfl (lv_at hl 1 rfl) ?_
        refine lv_aload_n hx hb dL_law_431 rfl (lv_at hl 0 rfl) ?_
        refine lv_iload_n hx hb dL_law_432 rfl (lv_at hl 3 rfl) ?_
        refine jx_iconst C dL_law_433 ?_
        refine jx_iadd C dL_law_434 ?_
        refine jx_sld C hX hbl hbA hS hL ⟨by omega, by omega⟩ dL_law_435 ?_
        refine lv_aload_n hx hb dL_law_436 rfl (lv_at hl 0 rfl) ?_
        refine lv_iload_n hx hb dL_law_437 rfl (lv_at hl 3 rfl) ?_
        refine jx_iconst C dL_law_438 ?_
        refine jx_iadd C dL_law_439 ?_
        refine jx_sld C hX hbl hbA hS hL ⟨by omega, by omega⟩ dL_law_440 ?_
        refine lv_aload_n hx hb dL_law_441 rfl (lv_at hl 0 rfl) ?_
        refine lv_iload_n hx hb dL_law_442 rfl (lv_at hl 3 rfl) ?_
        refine jx_iconst C dL_law_443 ?_
        refine jx_iadd C dL_law_444 ?_
        refine jx_sld C hX hbl hbA hS hL ⟨by omega, by omega⟩ dL_law_445 ?_
        refine lv_aload_n hx hb dL_law_446 rfl (lv_at hl 0 rfl) ?_
        refine lv_iload_n hx hb dL_law_447 rfl (lv_at hl 3 rfl) ?_
        refine jx_iconst C dL_law_448 ?_
        refine jx_iadd C dL_law_449 ?_
        refine jx_sld C hX hbl hbA hS hL ⟨by omega, by omega⟩ dL_law_450 ?_
        refine jx_callVI C hK hP hD hS hA (ct_B_nearest l D cI cT aB aC aS aT aW aV aU aH hT aO _ sB sS sT (jx_sv xs (l3 + 1)) (jx_sv xs (l3 + 2)) (jx_sv xs (l3 + 3)) (jx_sv xs (l3 + 4)) h) ms_X7_nearest lk_L_49 [0, 2, 1] rfl rfl (fun _ => rfl) (cs' := (fun u => [(cp_B aB (aT 0) (aS 0) (aC 0) (aU 0) (aV 0) (aW 0) (aH 0) (aO 0), u.1), (cp_T aT, sT), (cp_S aS (aT 0), u.2), (cp_C aC (aT 0) (aS 0), sC), (cp_T aU, sU), (cp_S aV (aU 0), sV), (cp_C aW (aU 0) (aV 0), sW), (cp_H aH (fun j => hT j 0), sH), (cp_T (hT 0), sH0), (cp_T (hT 1), sH1), (cp_T (hT 2), sH2), (cp_T (hT 3), sH3), (cp_O aO, sO), (cp_M aM, sM)])) (fun _ => rfl) (fun _ => rfl) 0 0 rfl rfl rfl rfl rfl hl.1 rfl rfl dL_law_451 hcl (fun r451 u H locs h hP hD hS => ?_)
        obtain ⟨tB, tS⟩ := u
        dsimp only at h
        have hP : va_P D vwCl (jx_ws cI cT [(cp_B aB (aT 0) (aS 0) (aC 0) (aU 0) (aV 0) (aW 0) (aH 0) (aO 0), tB), (cp_T aT, sT), (cp_S aS (aT 0), tS), (cp_C aC (aT 0) (aS 0), sC), (cp_T aU, sU), (cp_S aV (aU 0), sV), (cp_C aW (aU 0) (aV 0), sW), (cp_H aH (fun j => hT j 0), sH), (cp_T (hT 0), sH0), (cp_T (hT 1), sH1), (cp_T (hT 2), sH2), (cp_T (hT 3), sH3), (cp_O aO, sO), (cp_M aM, sM)]) H := hP
        have hD : va_D A (jx_ws cI cT [(cp_B aB (aT 0) (aS 0) (aC 0) (aU 0) (aV 0) (aW 0) (aH 0) (aO 0), tB), (cp_T aT, sT), (cp_S aS (aT 0), tS), (cp_C aC (aT 0) (aS 0), sC), (cp_T aU, sU), (cp_S aV (aU 0), sV), (cp_C aW (aU 0) (aV 0), sW), (cp_H aH (fun j => hT j 0), sH), (cp_T (hT 0), sH0), (cp_T (hT 1), sH1), (cp_T (hT 2), sH2), (cp_T (hT 3), sH3), (cp_O aO, sO), (cp_M aM, sM)]) := hD
        refine lv_aload_n hx hb dL_law_454 rfl (lv_at hl 2 rfl) ?_
        refine lv_aload_n hx hb dL_law_455 rfl (lv_at hl 0 rfl) ?_
        refine lv_iload_n hx hb dL_law_456 rfl (lv_at hl 3 rfl) ?_
        refine jx_iconst C dL_law_457 ?_
        refine jx_iadd C dL_law_458 ?_
        refine jx_sld C hX hbl hbA hS hL ⟨by omega, by omega⟩ dL_law_459 ?_
        refine lv_aload_n hx hb dL_law_460 rfl (lv_at hl 0 rfl) ?_
        refine lv_iload_n hx hb dL_law_461 rfl (lv_at hl 3 rfl) ?_
        refine jx_iconst C dL_law_462 ?_
        refine jx_iadd C dL_law_463 ?_
        refine jx_sld C hX hbl hbA hS hL ⟨by omega, by omega⟩ dL_law_464 ?_
        refine lv_aload_n hx hb dL_law_465 rfl (lv_at hl 0 rfl) ?_
        refine lv_iload_n hx hb dL_law_466 rfl (lv_at hl 3 rfl) ?_
        refine jx_iconst C dL_law_467 ?_
        refine jx_iadd C dL_law_468 ?_
        refine jx_sld C hX hbl hbA hS hL ⟨by omega, by omega⟩ dL_law_469 ?_
        refine lv_aload_n hx hb dL_law_470 rfl (lv_at hl 0 rfl) ?_
        refine lv_iload_n hx hb dL_law_471 rfl (lv_at hl 3 rfl) ?_
        refine jx_iconst C dL_law_472 ?_
        refine jx_iadd C dL_law_473 ?_
        refine jx_sld C hX hbl hbA hS hL ⟨by omega, by omega⟩ dL_law_474 ?_
        refine jx_callVI C hK hP hD hS hA (ct_M_nearest l D cI cT aM _ sM (jx_sv xs (l3 + 1)) (jx_sv xs (l3 + 2)) (jx_sv xs (l3 + 3)) (jx_sv xs (l3 + 4)) h) ms_X8_nearest lk_L_53 [13] rfl rfl (fun _ => rfl) (cs' := (fun u => [(cp_B aB (aT 0) (aS 0) (aC 0) (aU 0) (aV 0) (aW 0) (aH 0) (aO 0), tB), (cp_T aT, sT), (cp_S aS (aT 0), tS), (cp_C aC (aT 0) (aS 0), sC), (cp_T aU, sU), (cp_S aV (aU 0), sV), (cp_C aW (aU 0) (aV 0), sW), (cp_H aH (fun j => hT j 0), sH), (cp_T (hT 0), sH0), (cp_T (hT 1), sH1), (cp_T (hT 2), sH2), (cp_T (hT 3), sH3), (cp_O aO, sO), (cp_M aM, u)])) (fun _ => rfl) (fun _ => rfl) 13 0 rfl rfl rfl rfl rfl hl.1 rfl rfl dL_law_475 hcl (fun r475 tM H locs h hP hD hS => ?_)
        have hP : va_P D vwCl (jx_ws cI cT [(cp_B aB (aT 0) (aS 0) (aC 0) (aU 0) (aV 0) (aW 0) (aH 0) (aO 0), tB), (cp_T aT, sT), (cp_S aS (aT 0), tS), (cp_C aC (aT 0) (aS 0), sC), (cp_T aU, sU), (cp_S aV (aU 0), sV), (cp_C aW (aU 0) (aV 0), sW), (cp_H aH (fun j => hT j 0), sH), (cp_T (hT 0), sH0), (cp_T (hT 1), sH1), (cp_T (hT 2), sH2), (cp_T (hT 3), sH3), (cp_O aO, sO), (cp_M aM, tM)]) H := hP
        have hD : va_D A (jx_ws cI cT [(cp_B aB (aT 0) (aS 0) (aC 0) (aU 0) (aV 0) (aW 0) (aH 0) (aO 0), tB), (cp_T aT, sT), (cp_S aS (aT 0), tS), (cp_C aC (aT 0) (aS 0), sC), (cp_T aU, sU), (cp_S aV (aU 0), sV), (cp_C aW (aU 0) (aV 0), sW), (cp_H aH (fun j => hT j 0), sH), (cp_T (hT 0), sH0), (cp_T (hT 1), sH1), (cp_T (hT 2), sH2), (cp_T (hT 3), sH3), (cp_O aO, sO), (cp_M aM, tM)]) := hD
        refine jx_ceqS C h.1 (tgt := 687) dL_law_478 (by decide) ?_
        exact Lj tB sT tS sC sU sV sW sH sH0 sH1 sH2 sH3 sO tM h.2 H locs hP hD hS ls hl
      · refine jx_tswIn (tgt := 483) C hc (jx_inR (by decide) (by decide)) dL_law_33 (by decide) (by decide) rfl (by decide) ?_
        have h := h_would sB sT sS sC sU sV sW sH sH0 sH1 sH2 sH3 sO sM (jx_sv xs (l3 + 1)) (jx_sv xs (l3 + 2)) (jx_sv xs (l3 + 3)) (jx_sv xs (l3 + 4)) (jx_sv xs (l3 + 5)) hRR (jx_svR xs _) (jx_svR xs _) (jx_svR xs _) (jx_svR xs _) (jx_svR xs _)
        refine lv_aload_n hx hb dL_law_483 rfl (lv_at hl 1 rfl) ?_
        refine lv_aload_n hx hb dL_law_484 rfl (lv_at hl 0 rfl) ?_
        refine lv_iload_n hx hb dL_law_485 rfl (lv_at hl 3 rfl) ?_
        refine jx_iconst C dL_law_486 ?_
        refine jx_iadd C dL_law_487 ?_
        refine jx_sld C hX hbl hbA hS hL ⟨by omega, by omega⟩ dL_law_488 ?_
        refine lv_aload_n hx hb dL_law_489 rfl (lv_at hl 0 rfl) ?_
        refine lv_iload_n hx hb dL_law_490 rfl (lv_at hl 3 rfl) ?_
        refine jx_iconst C dL_law_491 ?_
        refine jx_iadd C dL_law_492 ?_
        refine jx_sld C hX hbl hbA hS hL ⟨by omega, by omega⟩ dL_law_493 ?_
        refine lv_aload_n hx hb dL_law_494 rfl (lv_at hl 0 rfl) ?_
        refine lv_iload_n hx hb dL_law_495 rfl (lv_at hl 3 rfl) ?_
        refine jx_iconst C dL_law_496 ?_
        refine jx_iadd C dL_law_497 ?_
        refine jx_sld C hX hbl hbA hS hL ⟨by omega, by omega⟩ dL_law_498 ?_
        refine lv_aload_n hx hb dL_law_499 rfl (lv_at hl 0 rfl) ?_
        refine lv_iload_n hx hb dL_law_500 rfl (lv_at hl 3 rfl) ?_
        refine jx_iconst C dL_law_501 ?_
        refine jx_iadd C dL_law_502 ?_
        refine jx_sld C hX hbl hbA hS hL ⟨by omega, by omega⟩ dL_law_503 ?_
        refine lv_aload_n hx hb dL_law_504 rfl (lv_at hl 0 rfl) ?_
        refine lv_iload_n hx hb dL_law_505 rfl (lv_at hl 3 rfl) ?_
        refine jx_iconst C dL_law_506 ?_
        refine jx_iadd C dL_law_507 ?_
        refine jx_sld C hX hbl hbA hS hL ⟨by omega, by omega⟩ dL_law_508 ?_
        refine jx_callVI C hK hP hD hS hA (ct_B_would l D cI cT aB aC aS aT aW aV aU aH hT aO _ sB sS sT sW sV sU (jx_sv xs (l3 + 1)) (jx_sv xs (l3 + 2)) (jx_sv xs (l3 + 3)) (jx_sv xs (l3 + 4)) (jx_sv xs (l3 + 5)) h) ms_X7_would lk_L_54 [0, 2, 1, 6, 5, 4] rfl rfl (fun _ => rfl) (cs' := (fun u => [(cp_B aB (aT 0) (aS 0) (aC 0) (aU 0) (aV 0) (aW 0) (aH 0) (aO 0), sB), (cp_T aT, sT), (cp_S aS (aT 0), u.1), (cp_C aC (aT 0) (aS 0), sC), (cp_T aU, u.2.2.2), (cp_S aV (aU 0), u.2.2.1), (cp_C aW (aU 0) (aV 0), u.2.1), (cp_H aH (fun j => hT j 0), sH), (cp_T (hT 0), sH0), (cp_T (hT 1), sH1), (cp_T (hT 2), sH2), (cp_T (hT 3), sH3), (cp_O aO, sO), (cp_M aM, sM)])) (fun _ => rfl) (fun _ => rfl) 0 0 rfl rfl rfl rfl rfl hl.1 rfl rfl dL_law_509 hcl (fun r509 u H locs h hP hD hS => ?_)
        obtain ⟨tS, tW, tV, tU⟩ := u
        dsimp only at h
        have hP : va_P D vwCl (jx_ws cI cT [(cp_B aB (aT 0) (aS 0) (aC 0) (aU 0) (aV 0) (aW 0) (aH 0) (aO 0), sB), (cp_T aT, sT), (cp_S aS (aT 0), tS), (cp_C aC (aT 0) (aS 0), sC), (cp_T aU, tU), (cp_S aV (aU 0), tV), (cp_C aW (aU 0) (aV 0), tW), (cp_H aH (fun j => hT j 0), sH), (cp_T (hT 0), sH0), (cp_T (hT 1), sH1), (cp_T (hT 2), sH2), (cp_T (hT 3), sH3), (cp_O aO, sO), (cp_M aM, sM)]) H := hP
        have hD : va_D A (jx_ws cI cT [(cp_B aB (aT 0) (aS 0) (aC 0) (aU 0) (aV 0) (aW 0) (aH 0) (aO 0), sB), (cp_T aT, sT), (cp_S aS (aT 0), tS), (cp_C aC (aT 0) (aS 0), sC), (cp_T aU, tU), (cp_S aV (aU 0), tV), (cp_C aW (aU 0) (aV 0), tW), (cp_H aH (fun j => hT j 0), sH), (cp_T (hT 0), sH0), (cp_T (hT 1), sH1), (cp_T (hT 2), sH2), (cp_T (hT 3), sH3), (cp_O aO, sO), (cp_M aM, sM)]) := hD
        refine lv_aload_n hx hb dL_law_512 rfl (lv_at hl 2 rfl) ?_
        refine lv_aload_n hx hb dL_law_513 rfl (lv_at hl 0 rfl) ?_
        refine lv_iload_n hx hb dL_law_514 rfl (lv_at hl 3 rfl) ?_
        refine jx_iconst C dL_law_515 ?_
        refine jx_iadd C dL_law_516 ?_
        refine jx_sld C hX hbl hbA hS hL ⟨by omega, by omega⟩ dL_law_517 ?_
        refine lv_aload_n hx hb dL_law_518 rfl (lv_at hl 0 rfl) ?_
        refine lv_iload_n hx hb dL_law_519 rfl (lv_at hl 3 rfl) ?_
        refine jx_iconst C dL_law_520 ?_
        refine jx_iadd C dL_law_521 ?_
        refine jx_sld C hX hbl hbA hS hL ⟨by omega, by omega⟩ dL_law_522 ?_
        refine lv_aload_n hx hb dL_law_523 rfl (lv_at hl 0 rfl) ?_
        refine lv_iload_n hx hb dL_law_524 rfl (lv_at hl 3 rfl) ?_
        refine jx_iconst C dL_law_525 ?_
        refine jx_iadd C dL_law_526 ?_
        refine jx_sld C hX hbl hbA hS hL ⟨by omega, by omega⟩ dL_law_527 ?_
        refine lv_aload_n hx hb dL_law_528 rfl (lv_at hl 0 rfl) ?_
        refine lv_iload_n hx hb dL_law_529 rfl (lv_at hl 3 rfl) ?_
        refine jx_iconst C dL_law_530 ?_
        refine jx_iadd C dL_law_531 ?_
        refine jx_sld C hX hbl hbA hS hL ⟨by omega, by omega⟩ dL_law_532 ?_
        refine lv_aload_n hx hb dL_law_533 rfl (lv_at hl 0 rfl) ?_
        refine lv_iload_n hx hb dL_law_534 rfl (lv_at hl 3 rfl) ?_
        refine jx_iconst C dL_law_535 ?_
        refine jx_iadd C dL_law_536 ?_
        refine jx_sld C hX hbl hbA hS hL ⟨by omega, by omega⟩ dL_law_537 ?_
        refine jx_callVI C hK hP hD hS hA (ct_M_would l D cI cT aM _ sM (jx_sv xs (l3 + 1)) (jx_sv xs (l3 + 2)) (jx_sv xs (l3 + 3)) (jx_sv xs (l3 + 4)) (jx_sv xs (l3 + 5)) h) ms_X8_would lk_L_57 [13] rfl rfl (fun _ => rfl) (cs' := (fun u => [(cp_B aB (aT 0) (aS 0) (aC 0) (aU 0) (aV 0) (aW 0) (aH 0) (aO 0), sB), (cp_T aT, sT), (cp_S aS (aT 0), tS), (cp_C aC (aT 0) (aS 0), sC), (cp_T aU, tU), (cp_S aV (aU 0), tV), (cp_C aW (aU 0) (aV 0), tW), (cp_H aH (fun j => hT j 0), sH), (cp_T (hT 0), sH0), (cp_T (hT 1), sH1), (cp_T (hT 2), sH2), (cp_T (hT 3), sH3), (cp_O aO, sO), (cp_M aM, u)])) (fun _ => rfl) (fun _ => rfl) 13 0 rfl rfl rfl rfl rfl hl.1 rfl rfl dL_law_538 hcl (fun r538 tM H locs h hP hD hS => ?_)
        have hP : va_P D vwCl (jx_ws cI cT [(cp_B aB (aT 0) (aS 0) (aC 0) (aU 0) (aV 0) (aW 0) (aH 0) (aO 0), sB), (cp_T aT, sT), (cp_S aS (aT 0), tS), (cp_C aC (aT 0) (aS 0), sC), (cp_T aU, tU), (cp_S aV (aU 0), tV), (cp_C aW (aU 0) (aV 0), tW), (cp_H aH (fun j => hT j 0), sH), (cp_T (hT 0), sH0), (cp_T (hT 1), sH1), (cp_T (hT 2), sH2), (cp_T (hT 3), sH3), (cp_O aO, sO), (cp_M aM, tM)]) H := hP
        have hD : va_D A (jx_ws cI cT [(cp_B aB (aT 0) (aS 0) (aC 0) (aU 0) (aV 0) (aW 0) (aH 0) (aO 0), sB), (cp_T aT, sT), (cp_S aS (aT 0), tS), (cp_C aC (aT 0) (aS 0), sC), (cp_T aU, tU), (cp_S aV (aU 0), tV), (cp_C aW (aU 0) (aV 0), tW), (cp_H aH (fun j => hT j 0), sH), (cp_T (hT 0), sH0), (cp_T (hT 1), sH1), (cp_T (hT 2), sH2), (cp_T (hT 3), sH3), (cp_O aO, sO), (cp_M aM, tM)]) := hD
        refine jx_ceqS C h.1 (tgt := 687) dL_law_541 (by decide) ?_
        exact Lj sB sT tS sC tU tV tW sH sH0 sH1 sH2 sH3 sO tM h.2 H locs hP hD hS ls hl
      · refine jx_tswIn (tgt := 546) C hc (jx_inR (by decide) (by decide)) dL_law_33 (by decide) (by decide) rfl (by decide) ?_
        have h := h_wouldTake sB sT sS sC sU sV sW sH sH0 sH1 sH2 sH3 sO sM (jx_sv xs (l3 + 1)) (jx_sv xs (l3 + 2)) hRR (jx_svR xs _) (jx_svR xs _)
        refine lv_aload_n hx hb dL_law_546 rfl (lv_at hl 1 rfl) ?_
        refine lv_aload_n hx hb dL_law_547 rfl (lv_at hl 0 rfl) ?_
        refine lv_iload_n hx hb dL_law_548 rfl (lv_at hl 3 rfl) ?_
        refine jx_iconst C dL_law_549 ?_
        refine jx_iadd C dL_law_550 ?_
        refine jx_sld C hX hbl hbA hS hL ⟨by omega, by omega⟩ dL_law_551 ?_
        refine lv_aload_n hx hb dL_law_552 rfl (lv_at hl 0 rfl) ?_
        refine lv_iload_n hx hb dL_law_553 rfl (lv_at hl 3 rfl) ?_
        refine jx_iconst C dL_law_554 ?_
        refine jx_iadd C dL_law_555 ?_
        refine jx_sld C hX hbl hbA hS hL ⟨by omega, by omega⟩ dL_law_556 ?_
        refine jx_callVI C hK hP hD hS hA (ct_B_wouldTake l D cI cT aB aC aS aT aW aV aU aH hT aO _ sB sT sW sV sU (jx_sv xs (l3 + 1)) (jx_sv xs (l3 + 2)) h) ms_X7_wouldTake lk_L_58 [0, 1, 6, 5, 4] rfl rfl (fun _ => rfl) (cs' := (fun u => [(cp_B aB (aT 0) (aS 0) (aC 0) (aU 0) (aV 0) (aW 0) (aH 0) (aO 0), sB), (cp_T aT, sT), (cp_S aS (aT 0), sS), (cp_C aC (aT 0) (aS 0), sC), (cp_T aU, u.2.2), (cp_S aV (aU 0), u.2.1), (cp_C aW (aU 0) (aV 0), u.1), (cp_H aH (fun j => hT j 0), sH), (cp_T (hT 0), sH0), (cp_T (hT 1), sH1), (cp_T (hT 2), sH2), (cp_T (hT 3), sH3), (cp_O aO, sO), (cp_M aM, sM)])) (fun _ => rfl) (fun _ => rfl) 0 0 rfl rfl rfl rfl rfl hl.1 rfl rfl dL_law_557 hcl (fun r557 u H locs h hP hD hS => ?_)
        obtain ⟨tW, tV, tU⟩ := u
        dsimp only at h
        have hP : va_P D vwCl (jx_ws cI cT [(cp_B aB (aT 0) (aS 0) (aC 0) (aU 0) (aV 0) (aW 0) (aH 0) (aO 0), sB), (cp_T aT, sT), (cp_S aS (aT 0), sS), (cp_C aC (aT 0) (aS 0), sC), (cp_T aU, tU), (cp_S aV (aU 0), tV), (cp_C aW (aU 0) (aV 0), tW), (cp_H aH (fun j => hT j 0), sH), (cp_T (hT 0), sH0), (cp_T (hT 1), sH1), (cp_T (hT 2), sH2), (cp_T (hT 3), sH3), (cp_O aO, sO), (cp_M aM, sM)]) H := hP
        have hD : va_D A (jx_ws cI cT [(cp_B aB (aT 0) (aS 0) (aC 0) (aU 0) (aV 0) (aW 0) (aH 0) (aO 0), sB), (cp_T aT, sT), (cp_S aS (aT 0), sS), (cp_C aC (aT 0) (aS 0), sC), (cp_T aU, tU), (cp_S aV (aU 0), tV), (cp_C aW (aU 0) (aV 0), tW), (cp_H aH (fun j => hT j 0), sH), (cp_T (hT 0), sH0), (cp_T (hT 1), sH1), (cp_T (hT 2), sH2), (cp_T (hT 3), sH3), (cp_O aO, sO), (cp_M aM, sM)]) := hD
        refine lv_aload_n hx hb dL_law_560 rfl (lv_at hl 2 rfl) ?_
        refine lv_aload_n hx hb dL_law_561 rfl (lv_at hl 0 rfl) ?_
        refine lv_iload_n hx hb dL_law_562 rfl (lv_at hl 3 rfl) ?_
        refine jx_iconst C dL_law_563 ?_
        refine jx_iadd C dL_law_564 ?_
        refine jx_sld C hX hbl hbA hS hL ⟨by omega, by omega⟩ dL_law_565 ?_
        refine lv_aload_n hx hb dL_law_566 rfl (lv_at hl 0 rfl) ?_
        refine lv_iload_n hx hb dL_law_567 rfl (lv_at hl 3 rfl) ?_
        refine jx_iconst C dL_law_568 ?_
        refine jx_iadd C dL_law_569 ?_
        refine jx_sld C hX hbl hbA hS hL ⟨by omega, by omega⟩ dL_law_570 ?_
        refine jx_callVI C hK hP hD hS hA (ct_M_wouldTake l D cI cT aM _ sM (jx_sv xs (l3 + 1)) (jx_sv xs (l3 + 2)) h) ms_X8_wouldTake lk_L_61 [13] rfl rfl (fun _ => rfl) (cs' := (fun u => [(cp_B aB (aT 0) (aS 0) (aC 0) (aU 0) (aV 0) (aW 0) (aH 0) (aO 0), sB), (cp_T aT, sT), (cp_S aS (aT 0), sS), (cp_C aC (aT 0) (aS 0), sC), (cp_T aU, tU), (cp_S aV (aU 0), tV), (cp_C aW (aU 0) (aV 0), tW), (cp_H aH (fun j => hT j 0), sH), (cp_T (hT 0), sH0), (cp_T (hT 1), sH1), (cp_T (hT 2), sH2), (cp_T (hT 3), sH3), (cp_O aO, sO), (cp_M aM, u)])) (fun _ => rfl) (fun _ => rfl) 13 0 rfl rfl rfl rfl rfl hl.1 rfl rfl dL_law_571 hcl (fun r571 tM H locs h hP hD hS => ?_)
        have hP : va_P D vwCl (jx_ws cI cT [(cp_B aB (aT 0) (aS 0) (aC 0) (aU 0) (aV 0) (aW 0) (aH 0) (aO 0), sB), (cp_T aT, sT), (cp_S aS (aT 0), sS), (cp_C aC (aT 0) (aS 0), sC), (cp_T aU, tU), (cp_S aV (aU 0), tV), (cp_C aW (aU 0) (aV 0), tW), (cp_H aH (fun j => hT j 0), sH), (cp_T (hT 0), sH0), (cp_T (hT 1), sH1), (cp_T (hT 2), sH2), (cp_T (hT 3), sH3), (cp_O aO, sO), (cp_M aM, tM)]) H := hP
        have hD : va_D A (jx_ws cI cT [(cp_B aB (aT 0) (aS 0) (aC 0) (aU 0) (aV 0) (aW 0) (aH 0) (aO 0), sB), (cp_T aT, sT), (cp_S aS (aT 0), sS), (cp_C aC (aT 0) (aS 0), sC), (cp_T aU, tU), (cp_S aV (aU 0), tV), (cp_C aW (aU 0) (aV 0), tW), (cp_H aH (fun j => hT j 0), sH), (cp_T (hT 0), sH0), (cp_T (hT 1), sH1), (cp_T (hT 2), sH2), (cp_T (hT 3), sH3), (cp_O aO, sO), (cp_M aM, tM)]) := hD
        refine jx_ceqS C h.1 (tgt := 687) dL_law_574 (by decide) ?_
        exact Lj sB sT sS sC tU tV tW sH sH0 sH1 sH2 sH3 sO tM h.2 H locs hP hD hS ls hl
      · refine jx_tswIn (tgt := 579) C hc (jx_inR (by decide) (by decide)) dL_law_33 (by decide) (by decide) rfl (by decide) ?_
        have h := h_count sB sT sS sC sU sV sW sH sH0 sH1 sH2 sH3 sO sM (jx_sv xs (l3 + 1)) hRR (jx_svR xs _)
        refine lv_aload_n hx hb dL_law_579 rfl (lv_at hl 1 rfl) ?_
        refine lv_aload_n hx hb dL_law_580 rfl (lv_at hl 0 rfl) ?_
        refine lv_iload_n hx hb dL_law_581 rfl (lv_at hl 3 rfl) ?_
        refine jx_iconst C dL_law_582 ?_
        refine jx_iadd C dL_law_583 ?_
        refine jx_sld C hX hbl hbA hS hL ⟨by omega, by omega⟩ dL_law_584 ?_
        refine jx_callVI C hK hP hD hS hA (ct_B_count l D cI cT aB aC aS aT aW aV aU aH hT aO _ sB sC sS sT sH sO (jx_sv xs (l3 + 1)) h) ms_X7_count lk_L_62 [0, 3, 2, 1, 7, 12] rfl rfl (fun _ => rfl) (cs' := (fun u => [(cp_B aB (aT 0) (aS 0) (aC 0) (aU 0) (aV 0) (aW 0) (aH 0) (aO 0), sB), (cp_T aT, sT), (cp_S aS (aT 0), u), (cp_C aC (aT 0) (aS 0), sC), (cp_T aU, sU), (cp_S aV (aU 0), sV), (cp_C aW (aU 0) (aV 0), sW), (cp_H aH (fun j => hT j 0), sH), (cp_T (hT 0), sH0), (cp_T (hT 1), sH1), (cp_T (hT 2), sH2), (cp_T (hT 3), sH3), (cp_O aO, sO), (cp_M aM, sM)])) (fun _ => rfl) (fun _ => rfl) 0 0 rfl rfl rfl rfl rfl hl.1 rfl rfl dL_law_585 hcl (fun r585 tS H locs h hP hD hS => ?_)
        have hP : va_P D vwCl (jx_ws cI cT [(cp_B aB (aT 0) (aS 0) (aC 0) (aU 0) (aV 0) (aW 0) (aH 0) (aO 0), sB), (cp_T aT, sT), (cp_S aS (aT 0), tS), (cp_C aC (aT 0) (aS 0), sC), (cp_T aU, sU), (cp_S aV (aU 0), sV), (cp_C aW (aU 0) (aV 0), sW), (cp_H aH (fun j => hT j 0), sH), (cp_T (hT 0), sH0), (cp_T (hT 1), sH1), (cp_T (hT 2), sH2), (cp_T (hT 3), sH3), (cp_O aO, sO), (cp_M aM, sM)]) H := hP
        have hD : va_D A (jx_ws cI cT [(cp_B aB (aT 0) (aS 0) (aC 0) (aU 0) (aV 0) (aW 0) (aH 0) (aO 0), sB), (cp_T aT, sT), (cp_S aS (aT 0), tS), (cp_C aC (aT 0) (aS 0), sC), (cp_T aU, sU), (cp_S aV (aU 0), sV), (cp_C aW (aU 0) (aV 0), sW), (cp_H aH (fun j => hT j 0), sH), (cp_T (hT 0), sH0), (cp_T (hT 1), sH1), (cp_T (hT 2), sH2), (cp_T (hT 3), sH3), (cp_O aO, sO), (cp_M aM, sM)]) := hD
        refine lv_aload_n hx hb dL_law_588 rfl (lv_at hl 2 rfl) ?_
        refine lv_aload_n hx hb dL_law_589 rfl (lv_at hl 0 rfl) ?_
        refine lv_iload_n hx hb dL_law_590 rfl (lv_at hl 3 rfl) ?_
        refine jx_iconst C dL_law_591 ?_
        refine jx_iadd C dL_law_592 ?_
        refine jx_sld C hX hbl hbA hS hL ⟨by omega, by omega⟩ dL_law_593 ?_
        refine jx_callVI C hK hP hD hS hA (ct_M_count l D cI cT aM _ sM (jx_sv xs (l3 + 1)) h) ms_X8_count lk_L_65 [13] rfl rfl (fun _ => rfl) (cs' := (fun u => [(cp_B aB (aT 0) (aS 0) (aC 0) (aU 0) (aV 0) (aW 0) (aH 0) (aO 0), sB), (cp_T aT, sT), (cp_S aS (aT 0), tS), (cp_C aC (aT 0) (aS 0), sC), (cp_T aU, sU), (cp_S aV (aU 0), sV), (cp_C aW (aU 0) (aV 0), sW), (cp_H aH (fun j => hT j 0), sH), (cp_T (hT 0), sH0), (cp_T (hT 1), sH1), (cp_T (hT 2), sH2), (cp_T (hT 3), sH3), (cp_O aO, sO), (cp_M aM, u)])) (fun _ => rfl) (fun _ => rfl) 13 0 rfl rfl rfl rfl rfl hl.1 rfl rfl dL_law_594 hcl (fun r594 tM H locs h hP hD hS => ?_)
        have hP : va_P D vwCl (jx_ws cI cT [(cp_B aB (aT 0) (aS 0) (aC 0) (aU 0) (aV 0) (aW 0) (aH 0) (aO 0), sB), (cp_T aT, sT), (cp_S aS (aT 0), tS), (cp_C aC (aT 0) (aS 0), sC), (cp_T aU, sU), (cp_S aV (aU 0), sV), (cp_C aW (aU 0) (aV 0), sW), (cp_H aH (fun j => hT j 0), sH), (cp_T (hT 0), sH0), (cp_T (hT 1), sH1), (cp_T (hT 2), sH2), (cp_T (hT 3), sH3), (cp_O aO, sO), (cp_M aM, tM)]) H := hP
        have hD : va_D A (jx_ws cI cT [(cp_B aB (aT 0) (aS 0) (aC 0) (aU 0) (aV 0) (aW 0) (aH 0) (aO 0), sB), (cp_T aT, sT), (cp_S aS (aT 0), tS), (cp_C aC (aT 0) (aS 0), sC), (cp_T aU, sU), (cp_S aV (aU 0), sV), (cp_C aW (aU 0) (aV 0), sW), (cp_H aH (fun j => hT j 0), sH), (cp_T (hT 0), sH0), (cp_T (hT 1), sH1), (cp_T (hT 2), sH2), (cp_T (hT 3), sH3), (cp_O aO, sO), (cp_M aM, tM)]) := hD
        refine jx_ceqS C h.1 (tgt := 687) dL_law_597 (by decide) ?_
        exact Lj sB sT tS sC sU sV sW sH sH0 sH1 sH2 sH3 sO tM h.2 H locs hP hD hS ls hl
      · refine jx_tswIn (tgt := 602) C hc (jx_inR (by decide) (by decide)) dL_law_33 (by decide) (by decide) rfl (by decide) ?_
        have h := h_undo sB sT sS sC sU sV sW sH sH0 sH1 sH2 sH3 sO sM  hRR
        refine lv_aload_n hx hb dL_law_602 rfl (lv_at hl 1 rfl) ?_
        refine jx_callVI C hK hP hD hS hA (ct_B_undo l D cI cT aB aC aS aT aW aV aU aH hT aO _ sB sT sH sH0 sH1 sH2 sH3  h) ms_X7_undo lk_L_66 [0, 1, 7, 8, 9, 10, 11] rfl rfl (fun _ => rfl) (cs' := (fun u => [(cp_B aB (aT 0) (aS 0) (aC 0) (aU 0) (aV 0) (aW 0) (aH 0) (aO 0), sB), (cp_T aT, u.1), (cp_S aS (aT 0), sS), (cp_C aC (aT 0) (aS 0), sC), (cp_T aU, sU), (cp_S aV (aU 0), sV), (cp_C aW (aU 0) (aV 0), sW), (cp_H aH (fun j => hT j 0), u.2), (cp_T (hT 0), sH0), (cp_T (hT 1), sH1), (cp_T (hT 2), sH2), (cp_T (hT 3), sH3), (cp_O aO, sO), (cp_M aM, sM)])) (fun _ => rfl) (fun _ => rfl) 0 0 rfl rfl rfl rfl rfl hl.1 rfl rfl dL_law_603 hcl (fun r603 u H locs h hP hD hS => ?_)
        obtain ⟨tT, tH⟩ := u
        dsimp only at h
        have hP : va_P D vwCl (jx_ws cI cT [(cp_B aB (aT 0) (aS 0) (aC 0) (aU 0) (aV 0) (aW 0) (aH 0) (aO 0), sB), (cp_T aT, tT), (cp_S aS (aT 0), sS), (cp_C aC (aT 0) (aS 0), sC), (cp_T aU, sU), (cp_S aV (aU 0), sV), (cp_C aW (aU 0) (aV 0), sW), (cp_H aH (fun j => hT j 0), tH), (cp_T (hT 0), sH0), (cp_T (hT 1), sH1), (cp_T (hT 2), sH2), (cp_T (hT 3), sH3), (cp_O aO, sO), (cp_M aM, sM)]) H := hP
        have hD : va_D A (jx_ws cI cT [(cp_B aB (aT 0) (aS 0) (aC 0) (aU 0) (aV 0) (aW 0) (aH 0) (aO 0), sB), (cp_T aT, tT), (cp_S aS (aT 0), sS), (cp_C aC (aT 0) (aS 0), sC), (cp_T aU, sU), (cp_S aV (aU 0), sV), (cp_C aW (aU 0) (aV 0), sW), (cp_H aH (fun j => hT j 0), tH), (cp_T (hT 0), sH0), (cp_T (hT 1), sH1), (cp_T (hT 2), sH2), (cp_T (hT 3), sH3), (cp_O aO, sO), (cp_M aM, sM)]) := hD
        refine lv_aload_n hx hb dL_law_606 rfl (lv_at hl 2 rfl) ?_
        refine jx_callVI C hK hP hD hS hA (ct_M_undo l D cI cT aM _ sM  h) ms_X8_undo lk_L_70 [13] rfl rfl (fun _ => rfl) (cs' := (fun u => [(cp_B aB (aT 0) (aS 0) (aC 0) (aU 0) (aV 0) (aW 0) (aH 0) (aO 0), sB), (cp_T aT, tT), (cp_S aS (aT 0), sS), (cp_C aC (aT 0) (aS 0), sC), (cp_T aU, sU), (cp_S aV (aU 0), sV), (cp_C aW (aU 0) (aV 0), sW), (cp_H aH (fun j => hT j 0), tH), (cp_T (hT 0), sH0), (cp_T (hT 1), sH1), (cp_T (hT 2), sH2), (cp_T (hT 3), sH3), (cp_O aO, sO), (cp_M aM, u)])) (fun _ => rfl) (fun _ => rfl) 13 0 rfl rfl rfl rfl rfl hl.1 rfl rfl dL_law_607 hcl (fun r607 tM H locs h hP hD hS => ?_)
        have hP : va_P D vwCl (jx_ws cI cT [(cp_B aB (aT 0) (aS 0) (aC 0) (aU 0) (aV 0) (aW 0) (aH 0) (aO 0), sB), (cp_T aT, tT), (cp_S aS (aT 0), sS), (cp_C aC (aT 0) (aS 0), sC), (cp_T aU, sU), (cp_S aV (aU 0), sV), (cp_C aW (aU 0) (aV 0), sW), (cp_H aH (fun j => hT j 0), tH), (cp_T (hT 0), sH0), (cp_T (hT 1), sH1), (cp_T (hT 2), sH2), (cp_T (hT 3), sH3), (cp_O aO, sO), (cp_M aM, tM)]) H := hP
        have hD : va_D A (jx_ws cI cT [(cp_B aB (aT 0) (aS 0) (aC 0) (aU 0) (aV 0) (aW 0) (aH 0) (aO 0), sB), (cp_T aT, tT), (cp_S aS (aT 0), sS), (cp_C aC (aT 0) (aS 0), sC), (cp_T aU, sU), (cp_S aV (aU 0), sV), (cp_C aW (aU 0) (aV 0), sW), (cp_H aH (fun j => hT j 0), tH), (cp_T (hT 0), sH0), (cp_T (hT 1), sH1), (cp_T (hT 2), sH2), (cp_T (hT 3), sH3), (cp_O aO, sO), (cp_M aM, tM)]) := hD
        refine jx_ceqS C h.1 (tgt := 687) dL_law_610 (by decide) ?_
        exact Lj sB tT sS sC sU sV sW tH sH0 sH1 sH2 sH3 sO tM h.2 H locs hP hD hS ls hl
      · refine jx_tswIn (tgt := 615) C hc (jx_inR (by decide) (by decide)) dL_law_33 (by decide) (by decide) rfl (by decide) ?_
        have h := h_type sB sT sS sC sU sV sW sH sH0 sH1 sH2 sH3 sO sM (jx_sv xs (l3 + 1)) hRR (jx_svR xs _)
        refine lv_aload_n hx hb dL_law_615 rfl (lv_at hl 1 rfl) ?_
        refine lv_aload_n hx hb dL_law_616 rfl (lv_at hl 0 rfl) ?_
        refine lv_iload_n hx hb dL_law_617 rfl (lv_at hl 3 rfl) ?_
        refine jx_iconst C dL_law_618 ?_
        refine jx_iadd C dL_law_619 ?_
        refine jx_sld C hX hbl hbA hS hL ⟨by omega, by omega⟩ dL_law_620 ?_
        refine jx_callVI C hK hP hD hS hA (ct_B_type l D cI cT aB aC aS aT aW aV aU aH hT aO _ sB sO (jx_sv xs (l3 + 1)) h) ms_X7_type lk_L_71 [0, 12] rfl rfl (fun _ => rfl) (cs' := (fun u => [(cp_B aB (aT 0) (aS 0) (aC 0) (aU 0) (aV 0) (aW 0) (aH 0) (aO 0), sB), (cp_T aT, sT), (cp_S aS (aT 0), sS), (cp_C aC (aT 0) (aS 0), sC), (cp_T aU, sU), (cp_S aV (aU 0), sV), (cp_C aW (aU 0) (aV 0), sW), (cp_H aH (fun j => hT j 0), sH), (cp_T (hT 0), sH0), (cp_T (hT 1), sH1), (cp_T (hT 2), sH2), (cp_T (hT 3), sH3), (cp_O aO, u), (cp_M aM, sM)])) (fun _ => rfl) (fun _ => rfl) 0 0 rfl rfl rfl rfl rfl hl.1 rfl rfl dL_law_621 hcl (fun r621 tO H locs h hP hD hS => ?_)
        have hP : va_P D vwCl (jx_ws cI cT [(cp_B aB (aT 0) (aS 0) (aC 0) (aU 0) (aV 0) (aW 0) (aH 0) (aO 0), sB), (cp_T aT, sT), (cp_S aS (aT 0), sS), (cp_C aC (aT 0) (aS 0), sC), (cp_T aU, sU), (cp_S aV (aU 0), sV), (cp_C aW (aU 0) (aV 0), sW), (cp_H aH (fun j => hT j 0), sH), (cp_T (hT 0), sH0), (cp_T (hT 1), sH1), (cp_T (hT 2), sH2), (cp_T (hT 3), sH3), (cp_O aO, tO), (cp_M aM, sM)]) H := hP
        have hD : va_D A (jx_ws cI cT [(cp_B aB (aT 0) (aS 0) (aC 0) (aU 0) (aV 0) (aW 0) (aH 0) (aO 0), sB), (cp_T aT, sT), (cp_S aS (aT 0), sS), (cp_C aC (aT 0) (aS 0), sC), (cp_T aU, sU), (cp_S aV (aU 0), sV), (cp_C aW (aU 0) (aV 0), sW), (cp_H aH (fun j => hT j 0), sH), (cp_T (hT 0), sH0), (cp_T (hT 1), sH1), (cp_T (hT 2), sH2), (cp_T (hT 3), sH3), (cp_O aO, tO), (cp_M aM, sM)]) := hD
        refine lv_aload_n hx hb dL_law_624 rfl (lv_at hl 2 rfl) ?_
        refine lv_aload_n hx hb dL_law_625 rfl (lv_at hl 0 rfl) ?_
        refine lv_iload_n hx hb dL_law_626 rfl (lv_at hl 3 rfl) ?_
        refine jx_iconst C dL_law_627 ?_
        refine jx_iadd C dL_law_628 ?_
        refine jx_sld C hX hbl hbA hS hL ⟨by omega, by omega⟩ dL_law_629 ?_
        refine jx_callVI C hK hP hD hS hA (ct_M_type l D cI cT aM _ sM (jx_sv xs (l3 + 1)) h) ms_X8_type lk_L_74 [13] rfl rfl (fun _ => rfl) (cs' := (fun u => [(cp_B aB (aT 0) (aS 0) (aC 0) (aU 0) (aV 0) (aW 0) (aH 0) (aO 0), sB), (cp_T aT, sT), (cp_S aS (aT 0), sS), (cp_C aC (aT 0) (aS 0), sC), (cp_T aU, sU), (cp_S aV (aU 0), sV), (cp_C aW (aU 0) (aV 0), sW), (cp_H aH (fun j => hT j 0), sH), (cp_T (hT 0), sH0), (cp_T (hT 1), sH1), (cp_T (hT 2), sH2), (cp_T (hT 3), sH3), (cp_O aO, tO), (cp_M aM, u)])) (fun _ => rfl) (fun _ => rfl) 13 0 rfl rfl rfl rfl rfl hl.1 rfl rfl dL_law_630 hcl (fun r630 tM H locs h hP hD hS => ?_)
        have hP : va_P D vwCl (jx_ws cI cT [(cp_B aB (aT 0) (aS 0) (aC 0) (aU 0) (aV 0) (aW 0) (aH 0) (aO 0), sB), (cp_T aT, sT), (cp_S aS (aT 0), sS), (cp_C aC (aT 0) (aS 0), sC), (cp_T aU, sU), (cp_S aV (aU 0), sV), (cp_C aW (aU 0) (aV 0), sW), (cp_H aH (fun j => hT j 0), sH), (cp_T (hT 0), sH0), (cp_T (hT 1), sH1), (cp_T (hT 2), sH2), (cp_T (hT 3), sH3), (cp_O aO, tO), (cp_M aM, tM)]) H := hP
        have hD : va_D A (jx_ws cI cT [(cp_B aB (aT 0) (aS 0) (aC 0) (aU 0) (aV 0) (aW 0) (aH 0) (aO 0), sB), (cp_T aT, sT), (cp_S aS (aT 0), sS), (cp_C aC (aT 0) (aS 0), sC), (cp_T aU, sU), (cp_S aV (aU 0), sV), (cp_C aW (aU 0) (aV 0), sW), (cp_H aH (fun j => hT j 0), sH), (cp_T (hT 0), sH0), (cp_T (hT 1), sH1), (cp_T (hT 2), sH2), (cp_T (hT 3), sH3), (cp_O aO, tO), (cp_M aM, tM)]) := hD
        refine jx_ceqS C h.1 (tgt := 687) dL_law_633 (by decide) ?_
        exact Lj sB sT sS sC sU sV sW sH sH0 sH1 sH2 sH3 tO tM h.2 H locs hP hD hS ls hl
      · refine jx_tswIn (tgt := 638) C hc (jx_inR (by decide) (by decide)) dL_law_33 (by decide) (by decide) rfl (by decide) ?_
        have h := h_clearText sB sT sS sC sU sV sW sH sH0 sH1 sH2 sH3 sO sM  hRR
        refine lv_aload_n hx hb dL_law_638 rfl (lv_at hl 1 rfl) ?_
        refine jx_callVI C hK hP hD hS hA (ct_B_clearText l D cI cT aB aC aS aT aW aV aU aH hT aO _ sB sO  h) ms_X7_clearText lk_L_75 [0, 12] rfl rfl (fun _ => rfl) (cs' := (fun u => [(cp_B aB (aT 0) (aS 0) (aC 0) (aU 0) (aV 0) (aW 0) (aH 0) (aO 0), sB), (cp_T aT, sT), (cp_S aS (aT 0), sS), (cp_C aC (aT 0) (aS 0), sC), (cp_T aU, sU), (cp_S aV (aU 0), sV), (cp_C aW (aU 0) (aV 0), sW), (cp_H aH (fun j => hT j 0), sH), (cp_T (hT 0), sH0), (cp_T (hT 1), sH1), (cp_T (hT 2), sH2), (cp_T (hT 3), sH3), (cp_O aO, u), (cp_M aM, sM)])) (fun _ => rfl) (fun _ => rfl) 0 0 rfl rfl rfl rfl rfl hl.1 rfl rfl dL_law_639 hcl (fun r639 tO H locs h hP hD hS => ?_)
        have hP : va_P D vwCl (jx_ws cI cT [(cp_B aB (aT 0) (aS 0) (aC 0) (aU 0) (aV 0) (aW 0) (aH 0) (aO 0), sB), (cp_T aT, sT), (cp_S aS (aT 0), sS), (cp_C aC (aT 0) (aS 0), sC), (cp_T aU, sU), (cp_S aV (aU 0), sV), (cp_C aW (aU 0) (aV 0), sW), (cp_H aH (fun j => hT j 0), sH), (cp_T (hT 0), sH0), (cp_T (hT 1), sH1), (cp_T (hT 2), sH2), (cp_T (hT 3), sH3), (cp_O aO, tO), (cp_M aM, sM)]) H := hP
        have hD : va_D A (jx_ws cI cT [(cp_B aB (aT 0) (aS 0) (aC 0) (aU 0) (aV 0) (aW 0) (aH 0) (aO 0), sB), (cp_T aT, sT), (cp_S aS (aT 0), sS), (cp_C aC (aT 0) (aS 0), sC), (cp_T aU, sU), (cp_S aV (aU 0), sV), (cp_C aW (aU 0) (aV 0), sW), (cp_H aH (fun j => hT j 0), sH), (cp_T (hT 0), sH0), (cp_T (hT 1), sH1), (cp_T (hT 2), sH2), (cp_T (hT 3), sH3), (cp_O aO, tO), (cp_M aM, sM)]) := hD
        refine lv_aload_n hx hb dL_law_642 rfl (lv_at hl 2 rfl) ?_
        refine jx_callVI C hK hP hD hS hA (ct_M_clearText l D cI cT aM _ sM  h) ms_X8_clearText lk_L_78 [13] rfl rfl (fun _ => rfl) (cs' := (fun u => [(cp_B aB (aT 0) (aS 0) (aC 0) (aU 0) (aV 0) (aW 0) (aH 0) (aO 0), sB), (cp_T aT, sT), (cp_S aS (aT 0), sS), (cp_C aC (aT 0) (aS 0), sC), (cp_T aU, sU), (cp_S aV (aU 0), sV), (cp_C aW (aU 0) (aV 0), sW), (cp_H aH (fun j => hT j 0), sH), (cp_T (hT 0), sH0), (cp_T (hT 1), sH1), (cp_T (hT 2), sH2), (cp_T (hT 3), sH3), (cp_O aO, tO), (cp_M aM, u)])) (fun _ => rfl) (fun _ => rfl) 13 0 rfl rfl rfl rfl rfl hl.1 rfl rfl dL_law_643 hcl (fun r643 tM H locs h hP hD hS => ?_)
        have hP : va_P D vwCl (jx_ws cI cT [(cp_B aB (aT 0) (aS 0) (aC 0) (aU 0) (aV 0) (aW 0) (aH 0) (aO 0), sB), (cp_T aT, sT), (cp_S aS (aT 0), sS), (cp_C aC (aT 0) (aS 0), sC), (cp_T aU, sU), (cp_S aV (aU 0), sV), (cp_C aW (aU 0) (aV 0), sW), (cp_H aH (fun j => hT j 0), sH), (cp_T (hT 0), sH0), (cp_T (hT 1), sH1), (cp_T (hT 2), sH2), (cp_T (hT 3), sH3), (cp_O aO, tO), (cp_M aM, tM)]) H := hP
        have hD : va_D A (jx_ws cI cT [(cp_B aB (aT 0) (aS 0) (aC 0) (aU 0) (aV 0) (aW 0) (aH 0) (aO 0), sB), (cp_T aT, sT), (cp_S aS (aT 0), sS), (cp_C aC (aT 0) (aS 0), sC), (cp_T aU, sU), (cp_S aV (aU 0), sV), (cp_C aW (aU 0) (aV 0), sW), (cp_H aH (fun j => hT j 0), sH), (cp_T (hT 0), sH0), (cp_T (hT 1), sH1), (cp_T (hT 2), sH2), (cp_T (hT 3), sH3), (cp_O aO, tO), (cp_M aM, tM)]) := hD
        refine jx_ceqS C h.1 (tgt := 687) dL_law_646 (by decide) ?_
        exact Lj sB sT sS sC sU sV sW sH sH0 sH1 sH2 sH3 tO tM h.2 H locs hP hD hS ls hl
      · refine jx_tswIn (tgt := 651) C hc (jx_inR (by decide) (by decide)) dL_law_33 (by decide) (by decide) rfl (by decide) ?_
        have h := h_fault sB sT sS sC sU sV sW sH sH0 sH1 sH2 sH3 sO sM (jx_sv xs (l3 + 1)) hRR (jx_svR xs _)
        refine lv_aload_n hx hb dL_law_651 rfl (lv_at hl 1 rfl) ?_
        refine lv_aload_n hx hb dL_law_652 rfl (lv_at hl 0 rfl) ?_
        refine lv_iload_n hx hb dL_law_653 rfl (lv_at hl 3 rfl) ?_
        refine jx_iconst C dL_law_654 ?_
        refine jx_iadd C dL_law_655 ?_
        refine jx_sld C hX hbl hbA hS hL ⟨by omega, by omega⟩ dL_law_656 ?_
        refine jx_callVI C hK hP hD hS hA (ct_B_fault l D cI cT aB aC aS aT aW aV aU aH hT aO _ sB sT sO (jx_sv xs (l3 + 1)) h) ms_X7_fault lk_L_79 [0, 1, 12] rfl rfl (fun _ => rfl) (cs' := (fun u => [(cp_B aB (aT 0) (aS 0) (aC 0) (aU 0) (aV 0) (aW 0) (aH 0) (aO 0), sB), (cp_T aT, sT), (cp_S aS (aT 0), sS), (cp_C aC (aT 0) (aS 0), sC), (cp_T aU, sU), (cp_S aV (aU 0), sV), (cp_C aW (aU 0) (aV 0), sW), (cp_H aH (fun j => hT j 0), sH), (cp_T (hT 0), sH0), (cp_T (hT 1), sH1), (cp_T (hT 2), sH2), (cp_T (hT 3), sH3), (cp_O aO, u), (cp_M aM, sM)])) (fun _ => rfl) (fun _ => rfl) 0 0 rfl rfl rfl rfl rfl hl.1 rfl rfl dL_law_657 hcl (fun r657 tO H locs h hP hD hS => ?_)
        have hP : va_P D vwCl (jx_ws cI cT [(cp_B aB (aT 0) (aS 0) (aC 0) (aU 0) (aV 0) (aW 0) (aH 0) (aO 0), sB), (cp_T aT, sT), (cp_S aS (aT 0), sS), (cp_C aC (aT 0) (aS 0), sC), (cp_T aU, sU), (cp_S aV (aU 0), sV), (cp_C aW (aU 0) (aV 0), sW), (cp_H aH (fun j => hT j 0), sH), (cp_T (hT 0), sH0), (cp_T (hT 1), sH1), (cp_T (hT 2), sH2), (cp_T (hT 3), sH3), (cp_O aO, tO), (cp_M aM, sM)]) H := hP
        have hD : va_D A (jx_ws cI cT [(cp_B aB (aT 0) (aS 0) (aC 0) (aU 0) (aV 0) (aW 0) (aH 0) (aO 0), sB), (cp_T aT, sT), (cp_S aS (aT 0), sS), (cp_C aC (aT 0) (aS 0), sC), (cp_T aU, sU), (cp_S aV (aU 0), sV), (cp_C aW (aU 0) (aV 0), sW), (cp_H aH (fun j => hT j 0), sH), (cp_T (hT 0), sH0), (cp_T (hT 1), sH1), (cp_T (hT 2), sH2), (cp_T (hT 3), sH3), (cp_O aO, tO), (cp_M aM, sM)]) := hD
        refine lv_aload_n hx hb dL_law_660 rfl (lv_at hl 2 rfl) ?_
        refine lv_aload_n hx hb dL_law_661 rfl (lv_at hl 0 rfl) ?_
        refine lv_iload_n hx hb dL_law_662 rfl (lv_at hl 3 rfl) ?_
        refine jx_iconst C dL_law_663 ?_
        refine jx_iadd C dL_law_664 ?_
        refine jx_sld C hX hbl hbA hS hL ⟨by omega, by omega⟩ dL_law_665 ?_
        refine jx_callVI C hK hP hD hS hA (ct_M_fault l D cI cT aM _ sM (jx_sv xs (l3 + 1)) h) ms_X8_fault lk_L_82 [13] rfl rfl (fun _ => rfl) (cs' := (fun u => [(cp_B aB (aT 0) (aS 0) (aC 0) (aU 0) (aV 0) (aW 0) (aH 0) (aO 0), sB), (cp_T aT, sT), (cp_S aS (aT 0), sS), (cp_C aC (aT 0) (aS 0), sC), (cp_T aU, sU), (cp_S aV (aU 0), sV), (cp_C aW (aU 0) (aV 0), sW), (cp_H aH (fun j => hT j 0), sH), (cp_T (hT 0), sH0), (cp_T (hT 1), sH1), (cp_T (hT 2), sH2), (cp_T (hT 3), sH3), (cp_O aO, tO), (cp_M aM, u)])) (fun _ => rfl) (fun _ => rfl) 13 0 rfl rfl rfl rfl rfl hl.1 rfl rfl dL_law_666 hcl (fun r666 tM H locs h hP hD hS => ?_)
        have hP : va_P D vwCl (jx_ws cI cT [(cp_B aB (aT 0) (aS 0) (aC 0) (aU 0) (aV 0) (aW 0) (aH 0) (aO 0), sB), (cp_T aT, sT), (cp_S aS (aT 0), sS), (cp_C aC (aT 0) (aS 0), sC), (cp_T aU, sU), (cp_S aV (aU 0), sV), (cp_C aW (aU 0) (aV 0), sW), (cp_H aH (fun j => hT j 0), sH), (cp_T (hT 0), sH0), (cp_T (hT 1), sH1), (cp_T (hT 2), sH2), (cp_T (hT 3), sH3), (cp_O aO, tO), (cp_M aM, tM)]) H := hP
        have hD : va_D A (jx_ws cI cT [(cp_B aB (aT 0) (aS 0) (aC 0) (aU 0) (aV 0) (aW 0) (aH 0) (aO 0), sB), (cp_T aT, sT), (cp_S aS (aT 0), sS), (cp_C aC (aT 0) (aS 0), sC), (cp_T aU, sU), (cp_S aV (aU 0), sV), (cp_C aW (aU 0) (aV 0), sW), (cp_H aH (fun j => hT j 0), sH), (cp_T (hT 0), sH0), (cp_T (hT 1), sH1), (cp_T (hT 2), sH2), (cp_T (hT 3), sH3), (cp_O aO, tO), (cp_M aM, tM)]) := hD
        refine jx_ceqS C h.1 (tgt := 687) dL_law_669 (by decide) ?_
        exact Lj sB sT sS sC sU sV sW sH sH0 sH1 sH2 sH3 tO tM h.2 H locs hP hD hS ls hl
      · refine jx_tswIn (tgt := 674) C hc (jx_inR (by decide) (by decide)) dL_law_33 (by decide) (by decide) rfl (by decide) ?_
        have h := h_play sB sT sS sC sU sV sW sH sH0 sH1 sH2 sH3 sO sM  hRR
        refine lv_aload_n hx hb dL_law_674 rfl (lv_at hl 1 rfl) ?_
        refine jx_callVI C hK hP hD hS hA (ct_B_play l D cI cT aB aC aS aT aW aV aU aH hT aO _ sB sC sS sT sH sH0 sH1 sH2 sH3 sO  h) ms_X7_play lk_L_83 [0, 3, 2, 1, 7, 8, 9, 10, 11, 12] rfl rfl (fun _ => rfl) (cs' := (fun u => [(cp_B aB (aT 0) (aS 0) (aC 0) (aU 0) (aV 0) (aW 0) (aH 0) (aO 0), sB), (cp_T aT, u.2.2.1), (cp_S aS (aT 0), u.2.1), (cp_C aC (aT 0) (aS 0), u.1), (cp_T aU, sU), (cp_S aV (aU 0), sV), (cp_C aW (aU 0) (aV 0), sW), (cp_H aH (fun j => hT j 0), u.2.2.2.1), (cp_T (hT 0), u.2.2.2.2.1), (cp_T (hT 1), u.2.2.2.2.2.1), (cp_T (hT 2), u.2.2.2.2.2.2.1), (cp_T (hT 3), u.2.2.2.2.2.2.2.1), (cp_O aO, u.2.2.2.2.2.2.2.2), (cp_M aM, sM)])) (fun _ => rfl) (fun _ => rfl) 0 0 rfl rfl rfl rfl rfl hl.1 rfl rfl dL_law_675 hcl (fun r675 u H locs h hP hD hS => ?_)
        obtain ⟨tC, tS, tT, tH, tH0, tH1, tH2, tH3, tO⟩ := u
        dsimp only at h
        have hP : va_P D vwCl (jx_ws cI cT [(cp_B aB (aT 0) (aS 0) (aC 0) (aU 0) (aV 0) (aW 0) (aH 0) (aO 0), sB), (cp_T aT, tT), (cp_S aS (aT 0), tS), (cp_C aC (aT 0) (aS 0), tC), (cp_T aU, sU), (cp_S aV (aU 0), sV), (cp_C aW (aU 0) (aV 0), sW), (cp_H aH (fun j => hT j 0), tH), (cp_T (hT 0), tH0), (cp_T (hT 1), tH1), (cp_T (hT 2), tH2), (cp_T (hT 3), tH3), (cp_O aO, tO), (cp_M aM, sM)]) H := hP
        have hD : va_D A (jx_ws cI cT [(cp_B aB (aT 0) (aS 0) (aC 0) (aU 0) (aV 0) (aW 0) (aH 0) (aO 0), sB), (cp_T aT, tT), (cp_S aS (aT 0), tS), (cp_C aC (aT 0) (aS 0), tC), (cp_T aU, sU), (cp_S aV (aU 0), sV), (cp_C aW (aU 0) (aV 0), sW), (cp_H aH (fun j => hT j 0), tH), (cp_T (hT 0), tH0), (cp_T (hT 1), tH1), (cp_T (hT 2), tH2), (cp_T (hT 3), tH3), (cp_O aO, tO), (cp_M aM, sM)]) := hD
        refine lv_aload_n hx hb dL_law_678 rfl (lv_at hl 2 rfl) ?_
        refine jx_callVI C hK hP hD hS hA (ct_M_play l D cI cT aM _ sM  h) ms_X8_play lk_L_86 [13] rfl rfl (fun _ => rfl) (cs' := (fun u => [(cp_B aB (aT 0) (aS 0) (aC 0) (aU 0) (aV 0) (aW 0) (aH 0) (aO 0), sB), (cp_T aT, tT), (cp_S aS (aT 0), tS), (cp_C aC (aT 0) (aS 0), tC), (cp_T aU, sU), (cp_S aV (aU 0), sV), (cp_C aW (aU 0) (aV 0), sW), (cp_H aH (fun j => hT j 0), tH), (cp_T (hT 0), tH0), (cp_T (hT 1), tH1), (cp_T (hT 2), tH2), (cp_T (hT 3), tH3), (cp_O aO, tO), (cp_M aM, u)])) (fun _ => rfl) (fun _ => rfl) 13 0 rfl rfl rfl rfl rfl hl.1 rfl rfl dL_law_679 hcl (fun r679 tM H locs h hP hD hS => ?_)
        have hP : va_P D vwCl (jx_ws cI cT [(cp_B aB (aT 0) (aS 0) (aC 0) (aU 0) (aV 0) (aW 0) (aH 0) (aO 0), sB), (cp_T aT, tT), (cp_S aS (aT 0), tS), (cp_C aC (aT 0) (aS 0), tC), (cp_T aU, sU), (cp_S aV (aU 0), sV), (cp_C aW (aU 0) (aV 0), sW), (cp_H aH (fun j => hT j 0), tH), (cp_T (hT 0), tH0), (cp_T (hT 1), tH1), (cp_T (hT 2), tH2), (cp_T (hT 3), tH3), (cp_O aO, tO), (cp_M aM, tM)]) H := hP
        have hD : va_D A (jx_ws cI cT [(cp_B aB (aT 0) (aS 0) (aC 0) (aU 0) (aV 0) (aW 0) (aH 0) (aO 0), sB), (cp_T aT, tT), (cp_S aS (aT 0), tS), (cp_C aC (aT 0) (aS 0), tC), (cp_T aU, sU), (cp_S aV (aU 0), sV), (cp_C aW (aU 0) (aV 0), sW), (cp_H aH (fun j => hT j 0), tH), (cp_T (hT 0), tH0), (cp_T (hT 1), tH1), (cp_T (hT 2), tH2), (cp_T (hT 3), tH3), (cp_O aO, tO), (cp_M aM, tM)]) := hD
        refine jx_ceqS C h.1 (tgt := 687) dL_law_682 (by decide) ?_
        exact Lj sB tT tS tC sU sV sW tH tH0 tH1 tH2 tH3 tO tM h.2 H locs hP hD hS ls hl
      · refine jx_tswOut (tgt := 687) C hkR dL_law_33 hc (by decide) ?_
        exact Lj sB sT sS sC sU sV sW sH sH0 sH1 sH2 sH3 sO sM hRR H locs hP hD hS ls hl
theorem jx_NW_on {w : Cond} (h : w ∈ jx_NW) : w.onTables = true := by
  have h2 := (List.mem_filter.mp h).2
  cases w <;> first | rfl | (simp [jx_isN] at h2)
set_option maxRecDepth 100000 in
set_option maxHeartbeats 40000000 in
theorem law_core {p : Program} {e : Env} {s : State} {m : MethodId} {below : List Frame} {meth : Method} {c : Code} (l : Launch) {b L : Nat} {xs : Nat → Int32} (hL : L ≤ 3072) (C0 : lw_At p s m meth c b L xs) (RR : jx_RT) (PT PM : jx_St → Prop) (hPT : ∀ sT : jx_St, sT = (fun _ _ => 0) → wp_T_init PT sT) (hPM : ∀ sM : jx_St, sM = (fun _ _ => 0) → wp_M_init PM sM) (h0 : ∀ sT sU sH0 sH1 sH2 sH3 sM : jx_St, PT sT → PT sU → PT sH0 → PT sH1 → PT sH2 → PT sH3 → PM sM → RR (fun _ _ => 0) sT (fun _ _ => 0) (fun _ _ => 0) sU (fun _ _ => 0) (fun _ _ => 0) (fun _ _ => 0) sH0 sH1 sH2 sH3 (fun _ _ => 0) sM) (h_put : st_put RR) (h_take : st_take RR) (h_boxOf : st_boxOf RR) (h_nodeOf : st_nodeOf RR) (h_overlaps : st_overlaps RR) (h_overlap : st_overlap RR) (h_court : st_court RR) (h_window : st_window RR) (h_nearest : st_nearest RR) (h_would : st_would RR) (h_wouldTake : st_wouldTake RR) (h_count : st_count RR) (h_undo : st_undo RR) (h_type : st_type RR) (h_clearText : st_clearText RR) (h_fault : st_fault RR) (h_play : st_play RR) : W p l e room_1 s m #[Value.ref b] below meth c s.heap [] 0 0 (lw_Z below #[Value.ref b] s) (entryFrame m ([Value.ref b] : List Value).toArray 4) := by
  obtain ⟨hx, hb, hr, hml, hown, hts, hX, hbl, hlocks, hgv⟩ := id C0
  have C : jx_C p s m #[Value.ref b] c code RL 4 := ⟨hx, hb, hml, hown, jx_T_of hts⟩
  obtain ⟨A, hAe⟩ : ∃ A : Nat → Prop, A = (fun q : Nat => s.heap.size ≤ q) := ⟨_, rfl⟩
  have hA : ∀ q : Nat, s.heap.size ≤ q → A q := fun q h => by rw [hAe]; exact h
  obtain ⟨c0, i0, hk0⟩ := u_known (C := RX1) (T := TX1) (N := 12) (n := 12) hts inX1 (hts (.instantiable RX1 12) (List.mem_of_getElem? (i := 176) (by decide +kernel)))
  obtain ⟨c1, i1, hk1⟩ := u_known (C := RX2) (T := TX2) (N := 3) (n := 3) hts inX2 (hts (.instantiable RX2 3) (List.mem_of_getElem? (i := 220) (by decide +kernel)))
  obtain ⟨c2, i2, hk2⟩ := u_known (C := RX3) (T := TX3) (N := 9) (n := 9) hts inX3 (hts (.instantiable RX3 9) (List.mem_of_getElem? (i := 240) (by decide +kernel)))
  obtain ⟨c3, i3, hk3⟩ := u_known (C := RX5) (T := TX5) (N := 3) (n := 3) hts inX5 (hts (.instantiable RX5 3) (List.mem_of_getElem? (i := 160) (by decide +kernel)))
  obtain ⟨c4, i4, hk4⟩ := u_known (C := RX6) (T := TX6) (N := 11) (n := 11) hts inX6 (hts (.instantiable RX6 11) (List.mem_of_getElem? (i := 92) (by decide +kernel)))
  obtain ⟨c5, i5, hk5⟩ := u_known (C := RX7) (T := TX7) (N := 9) (n := 9) hts inX7 (hts (.instantiable RX7 9) (List.mem_of_getElem? (i := 84) (by decide +kernel)))
  obtain ⟨c6, i6, hk6⟩ := u_known (C := RX8) (T := TX8) (N := 34) (n := 34) hts inX8 (hts (.instantiable RX8 34) (List.mem_of_getElem? (i := 749) (by decide +kernel)))
  obtain ⟨dC, dI, hKc⟩ : ∃ (dC : Nat → ClassId) (dI : Nat → Nat → Nat), ∀ (k : Nat) (q : vw_C), vwCl[k]? = some q → u_Kn s q.1 q.2.1 q.2.2 (dC k) (dI k) := by
    refine ⟨fun k => if k = 0 then c0 else if k = 1 then c1 else if k = 2 then c2 else if k = 3 then c3 else if k = 4 then c4 else if k = 5 then c5 else c6, fun k => if k = 0 then i0 else if k = 1 then i1 else if k = 2 then i2 else if k = 3 then i3 else if k = 4 then i4 else if k = 5 then i5 else i6, ?_⟩
    intro k q hq
    match k, hq with
    | 0, hq => cases hq; exact hk0
    | 1, hq => cases hq; exact hk1
    | 2, hq => cases hq; exact hk2
    | 3, hq => cases hq; exact hk3
    | 4, hq => cases hq; exact hk4
    | 5, hq => cases hq; exact hk5
    | 6, hq => cases hq; exact hk6
    | k + 7, hq => simp [vwCl] at hq
  have hac : (Cond.arrayClass .int).before #[Value.ref b] s = true := hts _ (List.mem_of_getElem? (i := 158) (by decide +kernel))
  have hao : (Cond.arrayOver (.object "BoxCourt$Tree")).before #[Value.ref b] s = true := hts _ (List.mem_of_getElem? (i := 226) (by decide +kernel))
  obtain ⟨cI, kI, comp, f1, f2, f3⟩ := Cond.arrayClass_spec hac
  obtain ⟨compT, cT, kT, g1, g2, g3, g4, g5⟩ := Cond.arrayOver_spec hao
  have hK : jx_K (dC, dI) cI cT s := by
    refine ⟨⟨hKc, fun k q hq => ?_⟩, fun w hw => va_Nw.of (jx_NW_on hw) (hts w (List.mem_filter.mp hw).1), va_AO.of hao⟩
    match k, hq with
    | 0, hq => cases hq; exact ⟨fun n z => ⟨fun k h => (by cases h), kI, f2, comp, f3⟩, f1⟩
    | 1, hq => cases hq; exact ⟨fun n z => ⟨fun k h => (by cases h), kT, g3, compT, g4⟩, kT, compT, g3, g4, g1, g5⟩
    | k + 2, hq => simp [jx_ty] at hq
  have hS : va_S A s.heap s.heap [] := va_S.rf
  have hP : va_P (dC, dI) vwCl [] s.heap := fun k q h => by simp at h
  have hD : va_D A [] := ⟨fun i j p q h => by simp at h, fun k q h => by simp at h⟩
  generalize (dC, dI) = D at hK hP
  have hl := lv_entry ([.ref b]) (n := 4) (Nat.le_of_ble_eq_true rfl)
  rw [lg_entry_eq]
  generalize (lg_sl ([.ref b]) ++ List.replicate (4 - (lg_sl ([.ref b])).length) Slot.unset).toArray = ls at hl ⊢
  have hl : lv_has ls 4 [(0, .ref b)] := hl
  refine jx_newB C hK hP hD hS hA ne_L_7 rfl rfl dL_law_0 (fun q1 H hP hD hS => ?_)
  refine lv_dup hx hb dL_law_3 rfl ?_
  refine jx_callB (ws := []) C hK hP hD hS hA (ct_B_init l D cI cT q1 PT hPT) mi_X7 lo_L_9 rfl rfl hl.1 rfl rfl dL_law_4 (fun u H locs hu hP hD hS => ?_)
  obtain ⟨aB, aT, aS, aC, aU, aV, aW, aH, hT, aO, sT, sU, sH0, sH1, sH2, sH3, rfl, haB, qT, qU, q0, q1_, q2, q3⟩ := hu
  have hP : va_P D vwCl (jx_ws cI cT [(cp_B aB (aT 0) (aS 0) (aC 0) (aU 0) (aV 0) (aW 0) (aH 0) (aO 0), (fun _ _ => 0)), (cp_T aT, sT), (cp_S aS (aT 0), (fun _ _ => 0)), (cp_C aC (aT 0) (aS 0), (fun _ _ => 0)), (cp_T aU, sU), (cp_S aV (aU 0), (fun _ _ => 0)), (cp_C aW (aU 0) (aV 0), (fun _ _ => 0)), (cp_H aH (fun j => hT j 0), (fun _ _ => 0)), (cp_T (hT 0), sH0), (cp_T (hT 1), sH1), (cp_T (hT 2), sH2), (cp_T (hT 3), sH3), (cp_O aO, (fun _ _ => 0))]) H := hP
  have hD : va_D A (jx_ws cI cT [(cp_B aB (aT 0) (aS 0) (aC 0) (aU 0) (aV 0) (aW 0) (aH 0) (aO 0), (fun _ _ => 0)), (cp_T aT, sT), (cp_S aS (aT 0), (fun _ _ => 0)), (cp_C aC (aT 0) (aS 0), (fun _ _ => 0)), (cp_T aU, sU), (cp_S aV (aU 0), (fun _ _ => 0)), (cp_C aW (aU 0) (aV 0), (fun _ _ => 0)), (cp_H aH (fun j => hT j 0), (fun _ _ => 0)), (cp_T (hT 0), sH0), (cp_T (hT 1), sH1), (cp_T (hT 2), sH2), (cp_T (hT 3), sH3), (cp_O aO, (fun _ _ => 0))]) := hD
  rw [← haB]
  refine lv_astore_n (lv' := [(1, .ref (aB 0)), (0, .ref b)]) hx hb dL_law_7 rfl hl (by decide) rfl (fun ls hl => ?_)
  refine jx_newB C hK hP hD hS hA ne_L_10 rfl rfl dL_law_8 (fun q4 H hP hD hS => ?_)
  refine lv_dup hx hb dL_law_11 rfl ?_
  refine jx_callB (ws := jx_ws cI cT [(cp_B aB (aT 0) (aS 0) (aC 0) (aU 0) (aV 0) (aW 0) (aH 0) (aO 0), (fun _ _ => 0)), (cp_T aT, sT), (cp_S aS (aT 0), (fun _ _ => 0)), (cp_C aC (aT 0) (aS 0), (fun _ _ => 0)), (cp_T aU, sU), (cp_S aV (aU 0), (fun _ _ => 0)), (cp_C aW (aU 0) (aV 0), (fun _ _ => 0)), (cp_H aH (fun j => hT j 0), (fun _ _ => 0)), (cp_T (hT 0), sH0), (cp_T (hT 1), sH1), (cp_T (hT 2), sH2), (cp_T (hT 3), sH3), (cp_O aO, (fun _ _ => 0))]) C hK hP hD hS hA (ct_M_init l D cI cT q4 PM hPM) mi_X8 lo_L_12 rfl rfl hl.1 rfl rfl dL_law_12 (fun u H locs hu hP hD hS => ?_)
  obtain ⟨aM, sM, rfl, haM, qM⟩ := hu
  rw [← haM]
  rw [jx_ws_snoc] at hP hD
  have hP : va_P D vwCl (jx_ws cI cT [(cp_B aB (aT 0) (aS 0) (aC 0) (aU 0) (aV 0) (aW 0) (aH 0) (aO 0), (fun _ _ => 0)), (cp_T aT, sT), (cp_S aS (aT 0), (fun _ _ => 0)), (cp_C aC (aT 0) (aS 0), (fun _ _ => 0)), (cp_T aU, sU), (cp_S aV (aU 0), (fun _ _ => 0)), (cp_C aW (aU 0) (aV 0), (fun _ _ => 0)), (cp_H aH (fun j => hT j 0), (fun _ _ => 0)), (cp_T (hT 0), sH0), (cp_T (hT 1), sH1), (cp_T (hT 2), sH2), (cp_T (hT 3), sH3), (cp_O aO, (fun _ _ => 0)), (cp_M aM, sM)]) H := hP
  have hD : va_D A (jx_ws cI cT [(cp_B aB (aT 0) (aS 0) (aC 0) (aU 0) (aV 0) (aW 0) (aH 0) (aO 0), (fun _ _ => 0)), (cp_T aT, sT), (cp_S aS (aT 0), (fun _ _ => 0)), (cp_C aC (aT 0) (aS 0), (fun _ _ => 0)), (cp_T aU, sU), (cp_S aV (aU 0), (fun _ _ => 0)), (cp_C aW (aU 0) (aV 0), (fun _ _ => 0)), (cp_H aH (fun j => hT j 0), (fun _ _ => 0)), (cp_T (hT 0), sH0), (cp_T (hT 1), sH1), (cp_T (hT 2), sH2), (cp_T (hT 3), sH3), (cp_O aO, (fun _ _ => 0)), (cp_M aM, sM)]) := hD
  refine lv_astore_n (lv' := [(2, .ref (aM 0)), (1, .ref (aB 0)), (0, .ref b)]) hx hb dL_law_15 rfl hl (by decide) rfl (fun ls hl => ?_)
  refine jx_iconst C dL_law_16 ?_
  refine lv_istore_n (lv' := [(3, .int (jx_i 0)), (2, .ref (aM 0)), (1, .ref (aB 0)), (0, .ref b)]) hx hb dL_law_17 rfl hl (by decide) rfl (fun ls hl => ?_)
  refine W.widen (k := 97) (n := 6280) (Nat.le_of_ble_eq_true rfl) (Nat.le_of_ble_eq_true rfl) ?_
  rw [hAe] at hD hS
  exact law_loop hL C0 hK RR h_put h_take h_boxOf h_nodeOf h_overlaps h_overlap h_court h_window h_nearest h_would h_wouldTake h_count h_undo h_type h_clearText h_fault h_play aB aT aS aC aU aV aW aH hT aO aM (L + 7) 0 (fun _ _ => 0) sT (fun _ _ => 0) (fun _ _ => 0) sU (fun _ _ => 0) (fun _ _ => 0) (fun _ _ => 0) sH0 sH1 sH2 sH3 (fun _ _ => 0) sM (by omega) (by omega) (by omega) (h0 sT sU sH0 sH1 sH2 sH3 sM qT qU q0 q1_ q2 q3 qM) H locs hP hD hS ls (lv_sub hl [3, 2, 1, 0] rfl)
