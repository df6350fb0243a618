theorem kc_L_8 : Cond.constant RL 8 (jx_i (2147483647)) ∈ jx_T := jx_mT 648 (by decide +kernel) (by decide +kernel)
theorem ms_X7_count : jx_MV yX7_count cX7_count 2 (some .int) 1 := ⟨jx_mT 551 (by decide +kernel) (by decide +kernel), jx_mT 26 (by decide +kernel) (by decide +kernel), jx_mT 549 (by decide +kernel) (by decide +kernel), jx_mT 550 (by decide +kernel) (by decide +kernel), by decide +kernel⟩
theorem lk_L_13 : Cond.methodLink RL 13 yX7_count ∈ jx_T := jx_mT 548 (by decide +kernel) (by decide +kernel)
theorem ms_X7_type : jx_MV yX7_type cX7_type 2 (some .int) 1 := ⟨jx_mT 587 (by decide +kernel) (by decide +kernel), jx_mT 26 (by decide +kernel) (by decide +kernel), jx_mT 585 (by decide +kernel) (by decide +kernel), jx_mT 586 (by decide +kernel) (by decide +kernel), by decide +kernel⟩
theorem lk_L_64 : Cond.methodLink RL 64 yX7_type ∈ jx_T := jx_mT 584 (by decide +kernel) (by decide +kernel)
theorem kcl_L_9 : Cond.constantLong RL 9 (7) ∈ jx_T := jx_mT 655 (by decide +kernel) (by decide +kernel)
theorem kcl_L_11 : Cond.constantLong RL 11 (31) ∈ jx_T := jx_mT 656 (by decide +kernel) (by decide +kernel)
theorem ms_X7_boxOf : jx_MV yX7_boxOf cX7_boxOf 4 (some .int) 2 := ⟨jx_mT 506 (by decide +kernel) (by decide +kernel), jx_mT 26 (by decide +kernel) (by decide +kernel), jx_mT 504 (by decide +kernel) (by decide +kernel), jx_mT 505 (by decide +kernel) (by decide +kernel), by decide +kernel⟩
theorem lk_L_19 : Cond.methodLink RL 19 yX7_boxOf ∈ jx_T := jx_mT 503 (by decide +kernel) (by decide +kernel)
theorem ms_X7_nodeOf : jx_MV yX7_nodeOf cX7_nodeOf 6 (some .int) 3 := ⟨jx_mT 519 (by decide +kernel) (by decide +kernel), jx_mT 26 (by decide +kernel) (by decide +kernel), jx_mT 517 (by decide +kernel) (by decide +kernel), jx_mT 518 (by decide +kernel) (by decide +kernel), by decide +kernel⟩
theorem lk_L_23 : Cond.methodLink RL 23 yX7_nodeOf ∈ jx_T := jx_mT 516 (by decide +kernel) (by decide +kernel)
theorem ms_X7_overlaps : jx_MV yX7_overlaps cX7_overlaps 2 (some .int) 1 := ⟨jx_mT 660 (by decide +kernel) (by decide +kernel), jx_mT 26 (by decide +kernel) (by decide +kernel), jx_mT 658 (by decide +kernel) (by decide +kernel), jx_mT 659 (by decide +kernel) (by decide +kernel), by decide +kernel⟩
theorem lk_L_27 : Cond.methodLink RL 27 yX7_overlaps ∈ jx_T := jx_mT 657 (by decide +kernel) (by decide +kernel)
set_option maxRecDepth 1000000 in
theorem ms_L_print : jx_MS yL_print cL_print 6 (some .long) 1 := ⟨jx_mT 654 rfl (by decide +kernel), jx_mT 25 (by decide +kernel) (by decide +kernel), jx_mT 653 (by decide +kernel) (by decide +kernel), by decide +kernel⟩
theorem lk_L_30 : Cond.methodLink RL 30 yL_print ∈ jx_T := jx_mT 652 (by decide +kernel) (by decide +kernel)
theorem ms_X7_put : jx_MV yX7_put cX7_put 6 (some .int) 5 := ⟨jx_mT 266 (by decide +kernel) (by decide +kernel), jx_mT 26 (by decide +kernel) (by decide +kernel), jx_mT 264 (by decide +kernel) (by decide +kernel), jx_mT 265 (by decide +kernel) (by decide +kernel), by decide +kernel⟩
theorem lk_L_36 : Cond.methodLink RL 36 yX7_put ∈ jx_T := jx_mT 263 (by decide +kernel) (by decide +kernel)
theorem kc_L_40 : Cond.constant RL 40 (jx_i (-1000001)) ∈ jx_T := jx_mT 669 (by decide +kernel) (by decide +kernel)
theorem kc_L_44 : Cond.constant RL 44 (jx_i (-1000004)) ∈ jx_T := jx_mT 670 (by decide +kernel) (by decide +kernel)
theorem kc_L_70 : Cond.constant RL 70 (jx_i (-1000002)) ∈ jx_T := jx_mT 724 (by decide +kernel) (by decide +kernel)
theorem ms_X7_take : jx_MV yX7_take cX7_take 2 (some .int) 1 := ⟨jx_mT 479 (by decide +kernel) (by decide +kernel), jx_mT 26 (by decide +kernel) (by decide +kernel), jx_mT 477 (by decide +kernel) (by decide +kernel), jx_mT 478 (by decide +kernel) (by decide +kernel), by decide +kernel⟩
theorem lk_L_41 : Cond.methodLink RL 41 yX7_take ∈ jx_T := jx_mT 476 (by decide +kernel) (by decide +kernel)
theorem ms_X7_wouldTake : jx_MV yX7_wouldTake cX7_wouldTake 3 (some .int) 2 := ⟨jx_mT 723 (by decide +kernel) (by decide +kernel), jx_mT 26 (by decide +kernel) (by decide +kernel), jx_mT 721 (by decide +kernel) (by decide +kernel), jx_mT 722 (by decide +kernel) (by decide +kernel), by decide +kernel⟩
theorem lk_L_61 : Cond.methodLink RL 61 yX7_wouldTake ∈ jx_T := jx_mT 720 (by decide +kernel) (by decide +kernel)
theorem ms_X7_overlap : jx_MV yX7_overlap cX7_overlap 3 (some .int) 2 := ⟨jx_mT 674 (by decide +kernel) (by decide +kernel), jx_mT 26 (by decide +kernel) (by decide +kernel), jx_mT 672 (by decide +kernel) (by decide +kernel), jx_mT 673 (by decide +kernel) (by decide +kernel), by decide +kernel⟩
theorem lk_L_45 : Cond.methodLink RL 45 yX7_overlap ∈ jx_T := jx_mT 671 (by decide +kernel) (by decide +kernel)
theorem ms_X7_window : jx_MV yX7_window cX7_window 7 (some .int) 5 := ⟨jx_mT 533 (by decide +kernel) (by decide +kernel), jx_mT 26 (by decide +kernel) (by decide +kernel), jx_mT 531 (by decide +kernel) (by decide +kernel), jx_mT 532 (by decide +kernel) (by decide +kernel), by decide +kernel⟩
theorem lk_L_51 : Cond.methodLink RL 51 yX7_window ∈ jx_T := jx_mT 530 (by decide +kernel) (by decide +kernel)
theorem ms_X7_nearest : jx_MV yX7_nearest cX7_nearest 7 (some .int) 4 := ⟨jx_mT 691 (by decide +kernel) (by decide +kernel), jx_mT 26 (by decide +kernel) (by decide +kernel), jx_mT 689 (by decide +kernel) (by decide +kernel), jx_mT 690 (by decide +kernel) (by decide +kernel), by decide +kernel⟩
theorem lk_L_54 : Cond.methodLink RL 54 yX7_nearest ∈ jx_T := jx_mT 688 (by decide +kernel) (by decide +kernel)
theorem ms_X7_would : jx_MV yX7_would cX7_would 9 (some .int) 5 := ⟨jx_mT 713 (by decide +kernel) (by decide +kernel), jx_mT 26 (by decide +kernel) (by decide +kernel), jx_mT 711 (by decide +kernel) (by decide +kernel), jx_mT 712 (by decide +kernel) (by decide +kernel), by decide +kernel⟩
theorem lk_L_58 : Cond.methodLink RL 58 yX7_would ∈ jx_T := jx_mT 710 (by decide +kernel) (by decide +kernel)
theorem ms_X7_fault : jx_MV yX7_fault cX7_fault 2 (some .int) 1 := ⟨jx_mT 601 (by decide +kernel) (by decide +kernel), jx_mT 26 (by decide +kernel) (by decide +kernel), jx_mT 599 (by decide +kernel) (by decide +kernel), jx_mT 600 (by decide +kernel) (by decide +kernel), by decide +kernel⟩
theorem lk_L_67 : Cond.methodLink RL 67 yX7_fault ∈ jx_T := jx_mT 598 (by decide +kernel) (by decide +kernel)
theorem ms_X7_court : jx_MV yX7_court cX7_court 3 (some .int) 2 := ⟨jx_mT 679 (by decide +kernel) (by decide +kernel), jx_mT 26 (by decide +kernel) (by decide +kernel), jx_mT 677 (by decide +kernel) (by decide +kernel), jx_mT 678 (by decide +kernel) (by decide +kernel), by decide +kernel⟩
theorem lk_L_48 : Cond.methodLink RL 48 yX7_court ∈ jx_T := jx_mT 676 (by decide +kernel) (by decide +kernel)
set_option maxRecDepth 1000000 in
theorem ms_L_lesser : jx_MS yL_lesser cL_lesser 2 (some .int) 2 := ⟨jx_mT 651 rfl (by decide +kernel), jx_mT 25 (by decide +kernel) (by decide +kernel), jx_mT 650 (by decide +kernel) (by decide +kernel), by decide +kernel⟩
theorem lk_L_71 : Cond.methodLink RL 71 yL_lesser ∈ jx_T := jx_mT 649 (by decide +kernel) (by decide +kernel)
set_option maxRecDepth 1000000 in
theorem ms_L_greater : jx_MS yL_greater cL_greater 2 (some .int) 2 := ⟨jx_mT 730 rfl (by decide +kernel), jx_mT 25 (by decide +kernel) (by decide +kernel), jx_mT 729 (by decide +kernel) (by decide +kernel), by decide +kernel⟩
theorem lk_L_74 : Cond.methodLink RL 74 yL_greater ∈ jx_T := jx_mT 728 (by decide +kernel) (by decide +kernel)
set_option maxRecDepth 1000000 in
theorem ms_L_isTree : jx_MS yL_isTree cL_isTree 18 (some .boolean) 1 := ⟨jx_mT 727 rfl (by decide +kernel), jx_mT 25 (by decide +kernel) (by decide +kernel), jx_mT 726 (by decide +kernel) (by decide +kernel), by decide +kernel⟩
theorem lk_L_77 : Cond.methodLink RL 77 yL_isTree ∈ jx_T := jx_mT 725 (by decide +kernel) (by decide +kernel)
theorem ms_X7_undo : jx_MV yX7_undo cX7_undo 1 (some .int) 0 := ⟨jx_mT 579 (by decide +kernel) (by decide +kernel), jx_mT 26 (by decide +kernel) (by decide +kernel), jx_mT 577 (by decide +kernel) (by decide +kernel), jx_mT 578 (by decide +kernel) (by decide +kernel), by decide +kernel⟩
theorem lk_L_81 : Cond.methodLink RL 81 yX7_undo ∈ jx_T := jx_mT 576 (by decide +kernel) (by decide +kernel)
