def cp_T (a : Nat → Nat) : List (Nat × jx_Sh) := [(a 0, .inr (.inl (4, [.inl (a 1), .inl (a 2), .inl (a 3), .inl (a 4), .inl (a 5), .inl (a 6), .inl (a 7), .inr 7, .inr 8, .inr 9, .inr 10]))), (a 1, .inl (0, 31)), (a 2, .inl (1, 31)), (a 3, .inl (2, 32)), (a 4, .inl (3, 32)), (a 5, .inl (4, 32)), (a 6, .inl (5, 32)), (a 7, .inl (6, 160))]
def cp_S (a : Nat → Nat) (t : Nat) : List (Nat × jx_Sh) := [(a 0, .inr (.inl (3, [.inl t, .inl (a 1), .inr 2]))), (a 1, .inl (1, 32))]
def cp_C (a : Nat → Nat) (t : Nat) (s : Nat) : List (Nat × jx_Sh) := [(a 0, .inr (.inl (0, [.inl t, .inl s, .inl (a 1), .inl (a 2), .inr 4, .inr 5, .inl (a 3), .inl (a 4), .inr 8, .inl (a 5), .inl (a 6), .inl (a 7)]))), (a 1, .inl (2, 64)), (a 2, .inl (3, 64)), (a 3, .inl (6, 64)), (a 4, .inl (7, 64)), (a 5, .inl (9, 8)), (a 6, .inl (10, 5)), (a 7, .inl (11, 5))]
def cp_H (a : Nat → Nat) (h : Nat → Nat) : List (Nat × jx_Sh) := [(a 0, .inr (.inl (1, [.inl (a 1), .inr 1, .inr 2]))), (a 1, .inr (.inr [h 0, h 1, h 2, h 3]))]
def cp_O (a : Nat → Nat) : List (Nat × jx_Sh) := [(a 0, .inr (.inl (2, [.inl (a 1), .inr 1, .inl (a 2), .inr 3, .inr 4, .inr 5, .inr 6, .inr 7, .inr 8]))), (a 1, .inl (0, 60)), (a 2, .inl (2, 5))]
def cp_B (a : Nat → Nat) (t : Nat) (s : Nat) (c : Nat) (u : Nat) (v : Nat) (w : Nat) (h : Nat) (o : Nat) : List (Nat × jx_Sh) := [(a 0, .inr (.inl (5, [.inl t, .inl s, .inl c, .inl u, .inl v, .inl w, .inl h, .inl o, .inl (a 1)]))), (a 1, .inl (8, 31))]
def cp_M (a : Nat → Nat) : List (Nat × jx_Sh) := [(a 0, .inr (.inl (6, [.inl (a 1), .inl (a 2), .inl (a 3), .inl (a 4), .inr 4, .inr 5, .inr 6, .inl (a 5), .inl (a 6), .inl (a 7), .inl (a 8), .inl (a 9), .inl (a 10), .inr 13, .inr 14, .inl (a 11), .inl (a 12), .inr 17, .inl (a 13), .inl (a 14), .inr 20, .inl (a 15), .inl (a 16), .inl (a 17), .inl (a 18), .inl (a 19), .inl (a 20), .inr 27, .inr 28, .inl (a 21), .inr 30, .inr 31, .inr 32, .inr 33]))), (a 1, .inl (0, 439)), (a 2, .inl (1, 439)), (a 3, .inl (2, 1756)), (a 4, .inl (3, 60)), (a 5, .inl (7, 160)), (a 6, .inl (8, 40)), (a 7, .inl (9, 4)), (a 8, .inl (10, 4)), (a 9, .inl (11, 24)), (a 10, .inl (12, 24)), (a 11, .inl (15, 48)), (a 12, .inl (16, 48)), (a 13, .inl (18, 48)), (a 14, .inl (19, 48)), (a 15, .inl (21, 5)), (a 16, .inl (22, 5)), (a 17, .inl (23, 40)), (a 18, .inl (24, 40)), (a 19, .inl (25, 40)), (a 20, .inl (26, 40)), (a 21, .inl (29, 5))]
def wp_Box_side (Q : Int → Prop) (l0 : Int) (l1 : Int) : Prop :=
  Q (jx_and (jx_shr l0 (7 * l1)) 127)
def wp_Box_apart (Q : Int → Prop) (l0 : Int) (l1 : Int) : Prop :=
  wp_Box_side (fun r2 => wp_Box_side (fun r7 => wp_Box_side (fun r13 => wp_Box_side (fun r19 => wp_Box_side (fun r26 => wp_Box_side (fun r31 => wp_Box_side (fun r37 => wp_Box_side (fun r43 => Q (((((r2 + r7) - r13) - r19) * (((r2 + r7) - r13) - r19)) + ((((r26 + r31) - r37) - r43) * (((r26 + r31) - r37) - r43))))  l1 3)  l1 1)  l0 3)  l0 1)  l1 2)  l1 0)  l0 2)  l0 0
def wp_Box_area (Q : Int → Prop) (l0 : Int) : Prop :=
  jx_R l0 ∧ ((l0 = (-1) → Q 0) ∧ (¬ l0 = (-1) → wp_Box_side (fun r11 => wp_Box_side (fun r16 => wp_Box_side (fun r22 => wp_Box_side (fun r27 => Q ((r11 - r16) * (r22 - r27)))  l0 1)  l0 3)  l0 0)  l0 2))
def wp_Box_of (Q : Int → Prop) (l0 : Int) (l1 : Int) (l2 : Int) (l3 : Int) : Prop :=
  Q (jx_or (jx_or (jx_or l0 (jx_shl l1 7)) (jx_shl l2 14)) (jx_shl l3 21))
def wp_Box_around_10 (Q : Int → Prop) (l0 : Int) (l1 : Int) : Prop :=
  jx_R l0 ∧ ((l0 = (-1) → Q l1) ∧ (¬ l0 = (-1) → Q l0))
def wp_Box_around (Q : Int → Prop) (l0 : Int) (l1 : Int) : Prop :=
  jx_R l0 ∧ ((l0 = (-1) → wp_Box_around_10 Q l0 l1) ∧ (¬ l0 = (-1) → jx_R l1 ∧ ((l1 = (-1) → wp_Box_around_10 Q l0 l1) ∧ (¬ l1 = (-1) → wp_Box_side (fun r23 => wp_Box_side (fun r28 => jx_R r23 ∧ jx_R r28 ∧ (wp_Box_side (fun r36 => wp_Box_side (fun r41 => jx_R r36 ∧ jx_R r41 ∧ (wp_Box_side (fun r49 => wp_Box_side (fun r54 => jx_R r49 ∧ jx_R r54 ∧ (wp_Box_side (fun r62 => wp_Box_side (fun r67 => jx_R r62 ∧ jx_R r67 ∧ (wp_Box_of (fun r73 => Q r73)  (min r23 r28) (min r36 r41) (max r49 r54) (max r62 r67)))  l1 3)  l0 3))  l1 2)  l0 2))  l1 1)  l0 1))  l1 0)  l0 0))))
def wp_Box_touch (Q : Int → Prop) (l0 : Int) (l1 : Int) : Prop :=
  jx_R l0 ∧ ((l0 = (-1) → Q 0) ∧ (¬ l0 = (-1) → jx_R l1 ∧ ((l1 = (-1) → Q 0) ∧ (¬ l1 = (-1) → wp_Box_side (fun r12 => wp_Box_side (fun r17 => jx_R r12 ∧ jx_R r17 ∧ ((r12 ≤ r17 → wp_Box_side (fun r25 => wp_Box_side (fun r30 => jx_R r25 ∧ jx_R r30 ∧ ((r25 ≤ r30 → wp_Box_side (fun r38 => wp_Box_side (fun r43 => jx_R r38 ∧ jx_R r43 ∧ ((r38 ≤ r43 → wp_Box_side (fun r51 => wp_Box_side (fun r56 => jx_R r51 ∧ jx_R r56 ∧ ((r51 ≤ r56 → Q 1) ∧ (¬ r51 ≤ r56 → Q 0)))  l0 3)  l1 1) ∧ (¬ r38 ≤ r43 → Q 0)))  l1 3)  l0 1) ∧ (¬ r25 ≤ r30 → Q 0)))  l0 2)  l1 0) ∧ (¬ r12 ≤ r17 → Q 0)))  l1 2)  l0 0))))
def wp_Box_common (Q : Int → Prop) (l0 : Int) (l1 : Int) : Prop :=
  wp_Box_touch (fun r2 => jx_R r2 ∧ ((r2 = 0 → Q 0) ∧ (¬ r2 = 0 → wp_Box_side (fun r12 => wp_Box_side (fun r17 => jx_R r12 ∧ jx_R r17 ∧ (wp_Box_side (fun r25 => wp_Box_side (fun r30 => jx_R r25 ∧ jx_R r30 ∧ (wp_Box_side (fun r40 => wp_Box_side (fun r45 => jx_R r40 ∧ jx_R r45 ∧ (wp_Box_side (fun r53 => wp_Box_side (fun r58 => jx_R r53 ∧ jx_R r58 ∧ (Q (((min r12 r17) - (max r25 r30)) * ((min r40 r45) - (max r53 r58)))))  l1 1)  l0 1))  l1 3)  l0 3))  l1 0)  l0 0))  l1 2)  l0 2)))  l0 l1
def wp_Box_distance (Q : Int → Prop) (l0 : Int) (l1 : Int) (l2 : Int) : Prop :=
  wp_Box_side (fun r3 => wp_Box_side (fun r11 => jx_R (r3 - l1) ∧ jx_R (l1 - r11) ∧ (jx_R (max (r3 - l1) (l1 - r11)) ∧ (wp_Box_side (fun r25 => wp_Box_side (fun r33 => jx_R (r25 - l2) ∧ jx_R (l2 - r33) ∧ (jx_R (max (r25 - l2) (l2 - r33)) ∧ (Q (((max 0 (max (r3 - l1) (l1 - r11))) * (max 0 (max (r3 - l1) (l1 - r11)))) + ((max 0 (max (r25 - l2) (l2 - r33))) * (max 0 (max (r25 - l2) (l2 - r33))))))))  l0 3)  l0 1)))  l0 2)  l0 0
def wp_Box_key (Q : Int → Prop) (l0 : Int) (l1 : Int) : Prop :=
  wp_Box_side (fun r2 => wp_Box_side (fun r12 => Q (jx_or (jx_shl r2 7) r12))  l0 (l1 + 2))  l0 l1
def wp_T_levelOf (Q : Int → Prop) (sT : jx_St) (l1 : Int) : Prop :=
  jx_R l1 ∧ (Q (jx_at 32 (sT 2) l1))
def wp_T_thingAt (Q : Int → Prop) (sT : jx_St) (l1 : Int) (l2 : Int) : Prop :=
  jx_R l2 ∧ ((l2 < 0 → Q (-1)) ∧ (¬ l2 < 0 → jx_R l2 ∧ ((l2 < 5 → jx_R ((l1 * 5) + l2) ∧ (Q (jx_at 160 (sT 6) ((l1 * 5) + l2)))) ∧ (¬ l2 < 5 → Q (-1)))))
def wp_T_hull_15 (Q : Int → Prop) (sT : jx_St) (l1 : Int) (l2 : Int) : Prop :=
  jx_R l1 ∧ (Q (jx_at 32 (sT 4) l1))
def wp_T_hull_15_1 (Q : Int → Prop) (sT : jx_St) (l1 : Int) (l2 : Int) : Prop :=
  jx_R l1 ∧ (Q (jx_at 31 (sT 0) l1))
def wp_T_hull (Q : Int → Prop) (sT : jx_St) (l1 : Int) (l2 : Int) : Prop :=
  jx_R l2 ∧ ((l2 = 0 → wp_T_hull_15_1 Q sT l1 l2) ∧ (¬ l2 = 0 → wp_T_hull_15 Q sT l1 l2))
def wp_C_arrange_46 (Q : jx_St → Prop) (sT : jx_St) (l1 : Int) (l2 : Int) (K121 : jx_St × Int → Prop) (l3 : Int) (l4 : Int) (l5 : Int) (l6 : Int) (B46 : jx_St × Int → Prop) (sC : jx_St) (l7 : Int) : Prop :=
  jx_R l7 ∧ ((l7 ≤ 0 → K121 (sC, l7)) ∧ (¬ l7 ≤ 0 → jx_R (l7 - 1) ∧ (wp_Box_key (fun r63 => wp_Box_key (fun r69 => jx_R r63 ∧ jx_R r69 ∧ ((r63 ≤ r69 → K121 (sC, l7)) ∧ (¬ r63 ≤ r69 → jx_R (l7 - 1) ∧ (jx_R l7 ∧ (jx_R (l7 - 1) ∧ (jx_R l7 ∧ (B46 ((jx_se 5 (jx_se 5 sC 10 l7 (jx_at 5 (sC 10) (l7 - 1))) 11 l7 (jx_at 5 ((jx_se 5 sC 10 l7 (jx_at 5 (sC 10) (l7 - 1))) 11) (l7 - 1))), (l7 + (-1))))))))))  l6 l2)  (jx_at 5 (sC 11) (l7 - 1)) l2)))
def wp_C_arrange_121 (Q : jx_St → Prop) (sT : jx_St) (l1 : Int) (l2 : Int) (B12 : jx_St × Int → Prop) (sC : jx_St) (l3 : Int) (l4 : Int) (l5 : Int) (l6 : Int) (l7 : Int) : Prop :=
  jx_R l7 ∧ (jx_R l7 ∧ (B12 ((jx_se 5 (jx_se 5 sC 10 l7 l5) 11 l7 l6), (l4 + 1))))
def wp_C_arrange_12 (Q : jx_St → Prop) (sT : jx_St) (l1 : Int) (l2 : Int) (l3 : Int) (B12 : jx_St × Int → Prop) (sC : jx_St) (l4 : Int) : Prop :=
  jx_R l4 ∧ ((l4 < 5 → wp_T_thingAt (fun r25 => wp_T_hull (fun r37 => jx_lp (fun B46v v46 => wp_C_arrange_46 Q sT l1 l2 (fun w46 => wp_C_arrange_121 Q sT l1 l2 B12 w46.1 l3 l4 r25 r37 w46.2) l3 l4 r25 r37 B46v v46.1 v46.2) (sC, l4)) sT r25 l3) sT l1 l4) ∧ (¬ l4 < 5 → Q sC))
def wp_C_arrange (Q : jx_St → Prop) (sC : jx_St) (sT : jx_St) (l1 : Int) (l2 : Int) : Prop :=
  wp_T_levelOf (fun r5 => jx_lp (fun B12v v12 => wp_C_arrange_12 Q sT l1 l2 r5 B12v v12.1 v12.2) (sC, 0)) sT l1
def wp_C_await (Q : jx_St → Prop) (sC : jx_St) (l1 : Int) (l2 : Int) : Prop :=
  jx_R (sC 4 0) ∧ (((sC 4 0) < 64 → jx_R (sC 4 0) ∧ (jx_R ((jx_se 64 sC 2 (sC 4 0) l1) 4 0) ∧ (Q (jx_su (jx_se 64 (jx_se 64 sC 2 (sC 4 0) l1) 3 ((jx_se 64 sC 2 (sC 4 0) l1) 4 0) l2) 4 0 (((jx_se 64 (jx_se 64 sC 2 (sC 4 0) l1) 3 ((jx_se 64 sC 2 (sC 4 0) l1) 4 0) l2) 4 0) + 1))))) ∧ (¬ (sC 4 0) < 64 → Q sC))
def wp_C_axisOf (Q : Int → Prop) (l0 : Int) : Prop :=
  Q (jx_shr l0 1)
def wp_C_cutOf (Q : Int → Prop) (l0 : Int) : Prop :=
  Q (2 + (jx_and l0 1))
def wp_C_hullOfPart_5 (Q : Int → Prop) (sC : jx_St) (l1 : Int) (l2 : Int) (B5 : Int × Int → Prop) (l3 : Int) (l4 : Int) : Prop :=
  jx_R l4 ∧ jx_R l2 ∧ ((l4 < l2 → jx_R l4 ∧ (wp_Box_around (fun r21 => B5 (r21, (l4 + 1)))  l3 (jx_at 5 (sC 11) l4))) ∧ (¬ l4 < l2 → Q l3))
def wp_C_hullOfPart (Q : Int → Prop) (sC : jx_St) (l1 : Int) (l2 : Int) : Prop :=
  jx_lp (fun B5v v5 => wp_C_hullOfPart_5 Q sC l1 l2 B5v v5.1 v5.2) ((-1), l1)
def wp_C_bestWay_106 (Q : Int → jx_St → Prop) (sT : jx_St) (l1 : Int) (B10 : jx_St × Int × Int × Int × Int → Prop) (sC : jx_St) (l2 : Int) (l3 : Int) (l4 : Int) (l5 : Int) : Prop :=
  B10 (sC, l2, l3, l4, (l5 + 1))
def wp_C_bestWay_96 (Q : Int → jx_St → Prop) (sT : jx_St) (l1 : Int) (B10 : jx_St × Int × Int × Int × Int → Prop) (sC : jx_St) (l5 : Int) (l8 : Int) (l9 : Int) : Prop :=
  wp_C_bestWay_106 Q sT l1 B10 sC l5 l8 l9 l5
def wp_C_bestWay_10 (Q : Int → jx_St → Prop) (sT : jx_St) (l1 : Int) (B10 : jx_St × Int × Int × Int × Int → Prop) (sC : jx_St) (l2 : Int) (l3 : Int) (l4 : Int) (l5 : Int) : Prop :=
  jx_R l5 ∧ ((l5 < 4 → wp_C_axisOf (fun r20 => wp_C_arrange (fun sC_23 => wp_C_cutOf (fun r30 => wp_C_hullOfPart (fun r33 => wp_C_cutOf (fun r41 => wp_C_hullOfPart (fun r45 => wp_Box_common (fun r54 => wp_Box_area (fun r61 => wp_Box_area (fun r66 => jx_R l2 ∧ ((l2 = (-1) → wp_C_bestWay_96 Q sT l1 B10 sC_23 l5 r54 (r61 + r66)) ∧ (¬ l2 = (-1) → jx_R r54 ∧ jx_R l3 ∧ ((r54 < l3 → wp_C_bestWay_96 Q sT l1 B10 sC_23 l5 r54 (r61 + r66)) ∧ (¬ r54 < l3 → jx_R r54 ∧ jx_R l3 ∧ ((r54 = l3 → jx_R (r61 + r66) ∧ jx_R l4 ∧ (((r61 + r66) < l4 → wp_C_bestWay_96 Q sT l1 B10 sC_23 l5 r54 (r61 + r66)) ∧ (¬ (r61 + r66) < l4 → wp_C_bestWay_106 Q sT l1 B10 sC_23 l2 l3 l4 l5))) ∧ (¬ r54 = l3 → wp_C_bestWay_106 Q sT l1 B10 sC_23 l2 l3 l4 l5)))))))  r45)  r33)  r33 r45) sC_23 r41 5)  l5) sC_23 0 r30)  l5) sC sT l1 r20)  l5) ∧ (¬ l5 < 4 → Q l2 sC))
def wp_C_bestWay (Q : Int → jx_St → Prop) (sC : jx_St) (sT : jx_St) (l1 : Int) : Prop :=
  jx_lp (fun B10v v10 => wp_C_bestWay_10 Q sT l1 B10v v10.1 v10.2.1 v10.2.2.1 v10.2.2.2.1 v10.2.2.2.2) (sC, (-1), 0, 0, 0)
def wp_T_setBox (Q : jx_St → Prop) (sT : jx_St) (l1 : Int) (l2 : Int) : Prop :=
  jx_R l1 ∧ (Q (jx_se 31 sT 0 l1 l2))
def wp_T_sizeOf (Q : Int → Prop) (sT : jx_St) (l1 : Int) : Prop :=
  jx_R l1 ∧ (Q (jx_at 32 (sT 3) l1))
def wp_T_leastGreater_99 (Q : Int → Prop) (sT : jx_St) (l1 : Int) (l2 : Int) (B11 : Int × Int × Int × Int → Prop) (l3 : Int) (l4 : Int) (l5 : Int) (l6 : Int) : Prop :=
  B11 (l3, l4, l5, (l6 + 1))
def wp_T_leastGreater_88 (Q : Int → Prop) (sT : jx_St) (l1 : Int) (l2 : Int) (B11 : Int × Int × Int × Int → Prop) (l6 : Int) (l7 : Int) (l9 : Int) (l10 : Int) : Prop :=
  wp_T_leastGreater_99 Q sT l1 l2 B11 l7 l10 l9 l6
def wp_T_leastGreater_11 (Q : Int → Prop) (sT : jx_St) (l1 : Int) (l2 : Int) (B11 : Int × Int × Int × Int → Prop) (l3 : Int) (l4 : Int) (l5 : Int) (l6 : Int) : Prop :=
  wp_T_sizeOf (fun r15 => jx_R l6 ∧ jx_R r15 ∧ ((l6 < r15 → wp_T_thingAt (fun r25 => jx_R r25 ∧ (wp_Box_area (fun r43 => wp_Box_around (fun r51 => wp_Box_area (fun r54 => jx_R l3 ∧ ((l3 = (-1) → wp_T_leastGreater_88 Q sT l1 l2 B11 l6 r25 r43 (r54 - r43)) ∧ (¬ l3 = (-1) → jx_R (r54 - r43) ∧ jx_R l4 ∧ (((r54 - r43) < l4 → wp_T_leastGreater_88 Q sT l1 l2 B11 l6 r25 r43 (r54 - r43)) ∧ (¬ (r54 - r43) < l4 → jx_R (r54 - r43) ∧ jx_R l4 ∧ (((r54 - r43) = l4 → jx_R r43 ∧ jx_R l5 ∧ ((r43 < l5 → wp_T_leastGreater_88 Q sT l1 l2 B11 l6 r25 r43 (r54 - r43)) ∧ (¬ r43 < l5 → wp_T_leastGreater_99 Q sT l1 l2 B11 l3 l4 l5 l6))) ∧ (¬ (r54 - r43) = l4 → wp_T_leastGreater_99 Q sT l1 l2 B11 l3 l4 l5 l6)))))))  r51)  (jx_at 32 (sT 4) r25) l2)  (jx_at 32 (sT 4) r25))) sT l1 l6) ∧ (¬ l6 < r15 → Q l3))) sT l1
def wp_T_leastGreater (Q : Int → Prop) (sT : jx_St) (l1 : Int) (l2 : Int) : Prop :=
  jx_lp (fun B11v v11 => wp_T_leastGreater_11 Q sT l1 l2 B11v v11.1 v11.2.1 v11.2.2.1 v11.2.2.2) ((-1), 0, 0, 0)
def wp_T_nodeFor_8 (Q : Int → Prop) (sT : jx_St) (l1 : Int) (l2 : Int) (B8 : Int × Int → Prop) (l3 : Int) (l4 : Int) : Prop :=
  jx_R l4 ∧ ((l4 < 8 → wp_T_levelOf (fun r17 => jx_R r17 ∧ jx_R l2 ∧ ((r17 ≤ l2 → Q l3) ∧ (¬ r17 ≤ l2 → wp_T_leastGreater (fun r27 => B8 (r27, (l4 + 1))) sT l3 l1))) sT l3) ∧ (¬ l4 < 8 → Q l3))
def wp_T_nodeFor (Q : Int → Prop) (sT : jx_St) (l1 : Int) (l2 : Int) : Prop :=
  jx_lp (fun B8v v8 => wp_T_nodeFor_8 Q sT l1 l2 B8v v8.1 v8.2) ((sT 7 0), 0)
def wp_T_add_38 (Q : jx_St → Prop) (l1 : Int) (l2 : Int) (l3 : Int) (K76 : jx_St → Prop) (l4 : Int) (l5 : Int) (B38 : jx_St × Int → Prop) (sT : jx_St) (l6 : Int) : Prop :=
  jx_R l6 ∧ jx_R l2 ∧ ((l6 ≤ l2 → K76 sT) ∧ (¬ l6 ≤ l2 → jx_R ((l5 + l6) - 1) ∧ (jx_R (l5 + l6) ∧ (B38 ((jx_se 160 sT 6 (l5 + l6) (jx_at 160 (sT 6) ((l5 + l6) - 1))), (l6 + (-1)))))))
def wp_T_add_119 (Q : jx_St → Prop) (l1 : Int) (l2 : Int) (l3 : Int) (sT : jx_St) : Prop :=
  jx_R l3 ∧ (Q (jx_se 32 sT 5 l3 l1))
def wp_T_add_119_1 (Q : jx_St → Prop) (l1 : Int) (l2 : Int) (l3 : Int) (sT : jx_St) : Prop :=
  jx_R l3 ∧ (Q (jx_se 31 sT 1 l3 l1))
def wp_T_add_76 (Q : jx_St → Prop) (l1 : Int) (l2 : Int) (l3 : Int) (sT : jx_St) (l4 : Int) (l5 : Int) : Prop :=
  jx_R (l5 + l2) ∧ (jx_R l1 ∧ (wp_T_levelOf (fun r102 => jx_R r102 ∧ ((r102 = 0 → wp_T_add_119_1 Q l1 l2 l3 (jx_se 32 (jx_se 160 sT 6 (l5 + l2) l3) 3 l1 (l4 + 1))) ∧ (¬ r102 = 0 → wp_T_add_119 Q l1 l2 l3 (jx_se 32 (jx_se 160 sT 6 (l5 + l2) l3) 3 l1 (l4 + 1))))) (jx_se 32 (jx_se 160 sT 6 (l5 + l2) l3) 3 l1 (l4 + 1)) l1))
def wp_T_add (Q : jx_St → Prop) (sT : jx_St) (l1 : Int) (l2 : Int) (l3 : Int) : Prop :=
  wp_T_sizeOf (fun r2 => jx_R r2 ∧ ((r2 < 0 → Q sT) ∧ (¬ r2 < 0 → jx_R r2 ∧ ((r2 < 5 → jx_R l2 ∧ ((l2 < 0 → Q sT) ∧ (¬ l2 < 0 → jx_R l2 ∧ jx_R r2 ∧ ((l2 ≤ r2 → jx_lp (fun B38v v38 => wp_T_add_38 Q l1 l2 l3 (fun w38 => wp_T_add_76 Q l1 l2 l3 w38 r2 (l1 * 5)) r2 (l1 * 5) B38v v38.1 v38.2) (sT, r2)) ∧ (¬ l2 ≤ r2 → Q sT))))) ∧ (¬ r2 < 5 → Q sT))))) sT l1
def wp_T_aboveOf (Q : Int → Prop) (sT : jx_St) (l1 : Int) : Prop :=
  jx_R l1 ∧ (Q (jx_at 32 (sT 5) l1))
def wp_T_refresh_28 (Q : jx_St → Prop) (l1 : Int) (K64 : Int → Prop) (sT : jx_St) (l2 : Int) (l3 : Int) (l4 : Int) (B28 : Int × Int → Prop) (l5 : Int) (l6 : Int) : Prop :=
  wp_T_sizeOf (fun r32 => jx_R l6 ∧ jx_R r32 ∧ ((l6 < r32 → wp_T_thingAt (fun r45 => wp_T_hull (fun r50 => wp_Box_around (fun r53 => B28 (r53, (l6 + 1)))  l5 r50) sT r45 l4) sT l2 l6) ∧ (¬ l6 < r32 → K64 l5))) sT l2
def wp_T_refresh_64 (Q : jx_St → Prop) (l1 : Int) (B4 : jx_St × Int × Int → Prop) (sT : jx_St) (l2 : Int) (l3 : Int) (l5 : Int) : Prop :=
  jx_R l2 ∧ (wp_T_aboveOf (fun r76 => B4 ((jx_se 32 sT 4 l2 l5), r76, (l3 + 1))) (jx_se 32 sT 4 l2 l5) l2)
def wp_T_refresh_4 (Q : jx_St → Prop) (l1 : Int) (B4 : jx_St × Int × Int → Prop) (sT : jx_St) (l2 : Int) (l3 : Int) : Prop :=
  jx_R l3 ∧ ((l3 < 8 → jx_R l2 ∧ ((l2 = (-1) → Q sT) ∧ (¬ l2 = (-1) → wp_T_levelOf (fun r17 => jx_lp (fun B28v v28 => wp_T_refresh_28 Q l1 (fun w28 => wp_T_refresh_64 Q l1 B4 sT l2 l3 w28) sT l2 l3 r17 B28v v28.1 v28.2) ((-1), 0)) sT l2))) ∧ (¬ l3 < 8 → Q sT))
def wp_T_refresh (Q : jx_St → Prop) (sT : jx_St) (l1 : Int) : Prop :=
  jx_lp (fun B4v v4 => wp_T_refresh_4 Q l1 B4v v4.1 v4.2.1 v4.2.2) (sT, l1, 0)
def wp_C_courtIsDue (Q : Int → Prop) (sC : jx_St) (sT : jx_St) (l1 : Int) : Prop :=
  jx_R l1 ∧ jx_R (sT 7 0) ∧ ((l1 = (sT 7 0) → Q 0) ∧ (¬ l1 = (sT 7 0) → wp_T_levelOf (fun r20 => jx_R (jx_and (jx_shr (sC 5 0) r20) 1) ∧ (((jx_and (jx_shr (sC 5 0) r20) 1) = 0 → Q 1) ∧ (¬ (jx_and (jx_shr (sC 5 0) r20) 1) = 0 → Q 0))) sT l1))
def wp_T_newNode_2 (Q : Int → jx_St → Prop) (l1 : Int) (K17 : Int → Prop) (sT : jx_St) (B2 : Int → Prop) (l2 : Int) : Prop :=
  jx_R l2 ∧ ((l2 < 32 → wp_T_levelOf (fun r10 => jx_R r10 ∧ ((r10 = (-1) → K17 l2) ∧ (¬ r10 = (-1) → B2 (l2 + 1)))) sT l2) ∧ (¬ l2 < 32 → Q (-1) sT))
def wp_T_newNode_17 (Q : Int → jx_St → Prop) (l1 : Int) (sT : jx_St) (l2 : Int) : Prop :=
  jx_R l2 ∧ (Q l2 (jx_se 32 sT 2 l2 l1))
def wp_T_newNode (Q : Int → jx_St → Prop) (sT : jx_St) (l1 : Int) : Prop :=
  jx_lp (fun B2v v2 => wp_T_newNode_2 Q l1 (fun w2 => wp_T_newNode_17 Q l1 sT w2) sT B2v v2) 0
def wp_T_remove_53 (Q : jx_St → Prop) (l1 : Int) (l2 : Int) (K93 : jx_St → Prop) (l3 : Int) (l4 : Int) (B53 : jx_St × Int → Prop) (sT : jx_St) (l5 : Int) : Prop :=
  jx_R l5 ∧ jx_R (l3 - 1) ∧ ((l5 < (l3 - 1) → jx_R ((l4 + l5) + 1) ∧ (jx_R (l4 + l5) ∧ (B53 ((jx_se 160 sT 6 (l4 + l5) (jx_at 160 (sT 6) ((l4 + l5) + 1))), (l5 + 1))))) ∧ (¬ l5 < (l3 - 1) → K93 sT))
def wp_T_remove_93 (Q : jx_St → Prop) (l1 : Int) (l2 : Int) (sT : jx_St) (l3 : Int) (l4 : Int) : Prop :=
  jx_R ((l4 + l3) - 1) ∧ (jx_R l1 ∧ (Q (jx_se 32 (jx_se 160 sT 6 ((l4 + l3) - 1) (-1)) 3 l1 (l3 - 1))))
def wp_T_remove_40 (Q : jx_St → Prop) (l1 : Int) (l2 : Int) (sT : jx_St) (l3 : Int) (l4 : Int) : Prop :=
  wp_T_thingAt (fun r43 => jx_R r43 ∧ (jx_lp (fun B53v v53 => wp_T_remove_53 Q l1 l2 (fun w53 => wp_T_remove_93 Q l1 l2 w53 l3 l4) l3 l4 B53v v53.1 v53.2) ((jx_se 32 sT 5 r43 (-1)), l2))) sT l1 l2
def wp_T_remove_40_1 (Q : jx_St → Prop) (l1 : Int) (l2 : Int) (sT : jx_St) (l3 : Int) (l4 : Int) : Prop :=
  wp_T_thingAt (fun r43 => jx_R r43 ∧ (jx_lp (fun B53v v53 => wp_T_remove_53 Q l1 l2 (fun w53 => wp_T_remove_93 Q l1 l2 w53 l3 l4) l3 l4 B53v v53.1 v53.2) ((jx_se 31 sT 1 r43 (-1)), l2))) sT l1 l2
def wp_T_remove (Q : jx_St → Prop) (sT : jx_St) (l1 : Int) (l2 : Int) : Prop :=
  wp_T_sizeOf (fun r2 => jx_R l2 ∧ ((l2 < 0 → Q sT) ∧ (¬ l2 < 0 → jx_R l2 ∧ jx_R r2 ∧ ((l2 < r2 → wp_T_levelOf (fun r23 => jx_R r23 ∧ ((r23 = 0 → wp_T_remove_40_1 Q l1 l2 sT r2 (l1 * 5)) ∧ (¬ r23 = 0 → wp_T_remove_40 Q l1 l2 sT r2 (l1 * 5)))) sT l1) ∧ (¬ l2 < r2 → Q sT))))) sT l1
def wp_T_clearRow_8 (Q : jx_St → Prop) (l1 : Int) (B8 : jx_St × Int → Prop) (sT : jx_St) (l2 : Int) : Prop :=
  jx_R l2 ∧ ((l2 < 0 → Q sT) ∧ (¬ l2 < 0 → wp_T_remove (fun sT_15 => B8 (sT_15, (l2 + (-1)))) sT l1 l2))
def wp_T_clearRow (Q : jx_St → Prop) (sT : jx_St) (l1 : Int) : Prop :=
  wp_T_sizeOf (fun r2 => jx_lp (fun B8v v8 => wp_T_clearRow_8 Q l1 B8v v8.1 v8.2) (sT, (r2 - 1))) sT l1
def wp_T_placeIn_2 (Q : Int → Prop) (sT : jx_St) (l1 : Int) (l2 : Int) (B2 : Int → Prop) (l3 : Int) : Prop :=
  wp_T_sizeOf (fun r5 => jx_R l3 ∧ jx_R r5 ∧ ((l3 < r5 → wp_T_thingAt (fun r14 => jx_R r14 ∧ jx_R l2 ∧ ((r14 = l2 → Q l3) ∧ (¬ r14 = l2 → B2 (l3 + 1)))) sT l1 l3) ∧ (¬ l3 < r5 → Q (-1)))) sT l1
def wp_T_placeIn (Q : Int → Prop) (sT : jx_St) (l1 : Int) (l2 : Int) : Prop :=
  jx_lp (fun B2v v2 => wp_T_placeIn_2 Q sT l1 l2 B2v v2) 0
def wp_T_raiseRoot (Q : jx_St → Prop) (sT : jx_St) : Prop :=
  wp_T_levelOf (fun r9 => wp_T_newNode (fun r14 sT_14 => wp_T_add (fun sT_27 => Q sT_27) (jx_su sT_14 7 0 r14) ((jx_su sT_14 7 0 r14) 7 0) 0 (sT 7 0)) sT (r9 + 1)) sT (sT 7 0)
def wp_C_split_66 (Q : Int → jx_St → jx_St → Prop) (l1 : Int) (B48 : jx_St × Int → Prop) (K101 : jx_St → Prop) (sC : jx_St) (sT : jx_St) (l3 : Int) (l4 : Int) (l5 : Int) (t0 : Int) : Prop :=
  wp_T_sizeOf (fun r80 => jx_R l5 ∧ (wp_T_add (fun sT_92 => B48 (sT_92, (l5 + 1))) sT t0 r80 (jx_at 5 (sC 10) l5))) sT t0
def wp_C_split_48 (Q : Int → jx_St → jx_St → Prop) (l1 : Int) (K101 : jx_St → Prop) (sC : jx_St) (l3 : Int) (l4 : Int) (B48 : jx_St × Int → Prop) (sT : jx_St) (l5 : Int) : Prop :=
  jx_R l5 ∧ ((l5 < 5 → jx_R l5 ∧ jx_R l3 ∧ ((l5 < l3 → wp_C_split_66 Q l1 B48 K101 sC sT l3 l4 l5 l1) ∧ (¬ l5 < l3 → wp_C_split_66 Q l1 B48 K101 sC sT l3 l4 l5 l4))) ∧ (¬ l5 < 5 → K101 sT))
def wp_C_split_119 (Q : Int → jx_St → jx_St → Prop) (l1 : Int) (sC : jx_St) (sT : jx_St) (l4 : Int) : Prop :=
  wp_T_aboveOf (fun r124 => wp_T_placeIn (fun r142 => wp_T_add (fun sT_149 => wp_T_refresh (fun sT_157 => wp_T_refresh (fun sT_166 => Q r124 sC (jx_su sT_166 9 0 ((sT_166 9 0) + 1))) sT_157 l4) sT_149 l1) sT r124 (r142 + 1) l4) sT r124 l1) sT l1
def wp_C_split_101 (Q : Int → jx_St → jx_St → Prop) (l1 : Int) (sC : jx_St) (sT : jx_St) (l4 : Int) : Prop :=
  jx_R l1 ∧ jx_R (sT 7 0) ∧ ((l1 = (sT 7 0) → wp_T_raiseRoot (fun sT_116 => wp_C_split_119 Q l1 sC sT_116 l4) sT ) ∧ (¬ l1 = (sT 7 0) → wp_C_split_119 Q l1 sC sT l4))
def wp_C_split (Q : Int → jx_St → jx_St → Prop) (sC : jx_St) (sT : jx_St) (l1 : Int) : Prop :=
  wp_C_bestWay (fun r2 sC_2 => wp_C_cutOf (fun r7 => wp_C_axisOf (fun r14 => wp_C_arrange (fun sC_17 => wp_T_levelOf (fun r29 => wp_T_newNode (fun r32 sT_32 => wp_T_clearRow (fun sT_42 => jx_lp (fun B48v v48 => wp_C_split_48 Q l1 (fun w48 => wp_C_split_101 Q l1 sC_17 w48 r32) sC_17 r7 r32 B48v v48.1 v48.2) (sT_42, 0)) sT_32 l1) sT r29) sT l1) sC_2 sT l1 r14)  r2)  r2) sC sT l1
def wp_C_farthest_90 (Q : Int → Prop) (sC : jx_St) (sT : jx_St) (l1 : Int) (l2 : Int) (B31 : Int × Int × Int → Prop) (l3 : Int) (l4 : Int) (l5 : Int) (l6 : Int) (l7 : Int) : Prop :=
  B31 (l5, l6, (l7 + 1))
def wp_C_farthest_31 (Q : Int → Prop) (sC : jx_St) (sT : jx_St) (l1 : Int) (l2 : Int) (l3 : Int) (l4 : Int) (B31 : Int × Int × Int → Prop) (l5 : Int) (l6 : Int) (l7 : Int) : Prop :=
  wp_T_sizeOf (fun r38 => jx_R l7 ∧ jx_R r38 ∧ ((l7 < r38 → wp_T_thingAt (fun r55 => wp_T_hull (fun r59 => wp_Box_apart (fun r64 => jx_R l7 ∧ jx_R l2 ∧ ((l7 = l2 → wp_C_farthest_90 Q sC sT l1 l2 B31 l3 l4 l5 l6 l7) ∧ (¬ l7 = l2 → jx_R r64 ∧ jx_R l6 ∧ ((r64 < l6 → wp_C_farthest_90 Q sC sT l1 l2 B31 l3 l4 l5 l6 l7) ∧ (¬ r64 < l6 → wp_C_farthest_90 Q sC sT l1 l2 B31 l3 l4 l7 r64 l7)))))  r59 l4) sT r55 l3) sT l1 l7) ∧ (¬ l7 < r38 → Q l5))) sT l1
def wp_C_farthest (Q : Int → Prop) (sC : jx_St) (sT : jx_St) (l1 : Int) (l2 : Int) : Prop :=
  wp_T_levelOf (fun r5 => jx_R l1 ∧ (jx_lp (fun B31v v31 => wp_C_farthest_31 Q sC sT l1 l2 r5 (jx_at 32 (sT 4) l1) B31v v31.1 v31.2.1 v31.2.2) ((-1), 0, 0))) sT l1
def wp_S_note (Q : jx_St → Prop) (sS : jx_St) (l1 : Int) : Prop :=
  jx_R (sS 2 0) ∧ (((sS 2 0) < 32 → jx_R (sS 2 0) ∧ (Q (jx_su (jx_se 32 sS 1 (sS 2 0) l1) 2 0 (((jx_se 32 sS 1 (sS 2 0) l1) 2 0) + 1)))) ∧ (¬ (sS 2 0) < 32 → Q sS))
def wp_S_lookFrom_63 (Q : jx_St → Prop) (sT : jx_St) (l1 : Int) (K90 : jx_St → Prop) (l2 : Int) (l3 : Int) (l4 : Int) (B63 : jx_St × Int → Prop) (sS : jx_St) (l5 : Int) : Prop :=
  jx_R l5 ∧ jx_R l4 ∧ ((l5 < l4 → wp_T_thingAt (fun r78 => wp_S_note (fun sS_81 => B63 (sS_81, (l5 + 1))) sS r78) sT l3 l5) ∧ (¬ l5 < l4 → K90 sS))
def wp_S_lookFrom_90 (Q : jx_St → Prop) (sT : jx_St) (l1 : Int) (B12 : jx_St × Int → Prop) (sS : jx_St) (l2 : Int) : Prop :=
  B12 (sS, (l2 + 1))
def wp_S_lookFrom_58 (Q : jx_St → Prop) (sT : jx_St) (l1 : Int) (B12 : jx_St × Int → Prop) (sS : jx_St) (l2 : Int) (l3 : Int) (t0 : Int) : Prop :=
  jx_lp (fun B63v v63 => wp_S_lookFrom_63 Q sT l1 (fun w63 => wp_S_lookFrom_90 Q sT l1 B12 w63 l2) l2 l3 t0 B63v v63.1 v63.2) (sS, 0)
def wp_S_lookFrom_12 (Q : jx_St → Prop) (sT : jx_St) (l1 : Int) (B12 : jx_St × Int → Prop) (sS : jx_St) (l2 : Int) : Prop :=
  jx_R l2 ∧ ((l2 < 32 → jx_R l2 ∧ jx_R (sS 2 0) ∧ ((l2 < (sS 2 0) → jx_R l2 ∧ (wp_T_levelOf (fun r40 => jx_R r40 ∧ ((r40 ≤ 0 → wp_S_lookFrom_58 Q sT l1 B12 sS l2 (jx_at 32 (sS 1) l2) 0) ∧ (¬ r40 ≤ 0 → wp_T_sizeOf (fun r51 => wp_S_lookFrom_58 Q sT l1 B12 sS l2 (jx_at 32 (sS 1) l2) r51) sT (jx_at 32 (sS 1) l2)))) sT (jx_at 32 (sS 1) l2))) ∧ (¬ l2 < (sS 2 0) → Q sS))) ∧ (¬ l2 < 32 → Q sS))
def wp_S_lookFrom (Q : jx_St → Prop) (sS : jx_St) (sT : jx_St) (l1 : Int) : Prop :=
  wp_S_note (fun sS_7 => jx_lp (fun B12v v12 => wp_S_lookFrom_12 Q sT l1 B12v v12.1 v12.2) (sS_7, 0)) (jx_su sS 2 0 0) l1
def wp_S_nodeSeen (Q : Int → Prop) (sS : jx_St) (l1 : Int) : Prop :=
  jx_R l1 ∧ (Q (jx_at 32 (sS 1) l1))
def wp_S_levelSeen (Q : Int → Prop) (sS : jx_St) (sT : jx_St) (l1 : Int) : Prop :=
  wp_S_nodeSeen (fun r6 => wp_T_levelOf (fun r9 => Q r9) sT r6) sS l1
def wp_S_boxesBelow_40 (Q : Int → jx_St → Prop) (sT : jx_St) (l1 : Int) (B9 : Int × Int → Prop) (sS : jx_St) (l2 : Int) (l3 : Int) : Prop :=
  B9 (l2, (l3 + 1))
def wp_S_boxesBelow_9 (Q : Int → jx_St → Prop) (sT : jx_St) (l1 : Int) (sS : jx_St) (B9 : Int × Int → Prop) (l2 : Int) (l3 : Int) : Prop :=
  jx_R l3 ∧ jx_R (sS 2 0) ∧ ((l3 < (sS 2 0) → wp_S_levelSeen (fun r19 => jx_R r19 ∧ ((r19 = 0 → wp_S_nodeSeen (fun r32 => wp_T_sizeOf (fun r35 => wp_S_boxesBelow_40 Q sT l1 B9 sS (l2 + r35) l3) sT r32) sS l3) ∧ (¬ r19 = 0 → wp_S_boxesBelow_40 Q sT l1 B9 sS l2 l3))) sS sT l3) ∧ (¬ l3 < (sS 2 0) → Q l2 sS))
def wp_S_boxesBelow (Q : Int → jx_St → Prop) (sS : jx_St) (sT : jx_St) (l1 : Int) : Prop :=
  wp_S_lookFrom (fun sS_2 => jx_lp (fun B9v v9 => wp_S_boxesBelow_9 Q sT l1 sS_2 B9v v9.1 v9.2) (0, 0)) sS sT l1
def wp_C_noteCourt (Q : jx_St → jx_St → Prop) (sC : jx_St) (sT : jx_St) (l1 : Int) (l2 : Int) : Prop :=
  jx_R (sC 8 0) ∧ (((sC 8 0) < 64 → jx_R (sC 8 0) ∧ (jx_R ((jx_se 64 sC 6 (sC 8 0) l1) 8 0) ∧ (Q (jx_su (jx_se 64 (jx_se 64 sC 6 (sC 8 0) l1) 7 ((jx_se 64 sC 6 (sC 8 0) l1) 8 0) l2) 8 0 (((jx_se 64 (jx_se 64 sC 6 (sC 8 0) l1) 7 ((jx_se 64 sC 6 (sC 8 0) l1) 8 0) l2) 8 0) + 1)) (jx_su sT 8 0 ((sT 8 0) + 1))))) ∧ (¬ (sC 8 0) < 64 → Q sC (jx_su sT 8 0 ((sT 8 0) + 1))))
def wp_C_holdCourt_88 (Q : Int → jx_St → jx_St → jx_St → Prop) (l1 : Int) (sC : jx_St) (sS : jx_St) (sT : jx_St) (l2 : Int) (l3 : Int) (l4 : Int) (l5 : Int) (l6 : Int) (t1 : Int) (t2 : Int) : Prop :=
  wp_C_noteCourt (fun sC_88 sT_88 => jx_R l3 ∧ jx_R l4 ∧ (wp_T_remove (fun sT_102 => jx_R l3 ∧ jx_R l4 ∧ (wp_T_remove (fun sT_116 => wp_T_refresh (fun sT_124 => wp_C_await (fun sC_131 => wp_C_await (fun sC_138 => Q l1 sC_138 sS sT_124) sC_131 l6 l2) sC_88 l5 l2) sT_116 l1) sT_102 l1 (min l3 l4))) sT_88 l1 (max l3 l4))) sC sT t1 t2
def wp_C_holdCourt (Q : Int → jx_St → jx_St → jx_St → Prop) (sC : jx_St) (sS : jx_St) (sT : jx_St) (l1 : Int) : Prop :=
  wp_T_levelOf (fun r5 => wp_C_farthest (fun r12 => wp_C_farthest (fun r19 => wp_T_thingAt (fun r30 => wp_T_thingAt (fun r42 => jx_R r5 ∧ ((r5 = 0 → wp_C_holdCourt_88 Q l1 (jx_su sC 5 0 (jx_or (sC 5 0) (jx_shl 1 r5))) sS sT r5 r12 r19 r30 r42 r5 2) ∧ (¬ r5 = 0 → wp_S_boxesBelow (fun r75 sS_75 => wp_S_boxesBelow (fun r84 sS_84 => wp_C_holdCourt_88 Q l1 (jx_su sC 5 0 (jx_or (sC 5 0) (jx_shl 1 r5))) sS_84 sT r5 r12 r19 r30 r42 r5 (r75 + r84)) sS_75 sT r42) sS sT r30))) sT l1 r19) sT l1 r12) sC sT l1 r12) sC sT l1 (-1)) sT l1
def wp_C_insert_165 (Q : jx_St → jx_St → jx_St → Prop) (l1 : Int) (l2 : Int) (B121 : jx_St × jx_St × jx_St × Int × Int → Prop) (K173 : jx_St × jx_St × jx_St → Prop) (sC : jx_St) (sS : jx_St) (sT : jx_St) (l3 : Int) (l7 : Int) (t0 : Int) : Prop :=
  B121 (sC, sS, sT, t0, (l7 + 1))
def wp_C_insert_121 (Q : jx_St → jx_St → jx_St → Prop) (l1 : Int) (l2 : Int) (K173 : jx_St × jx_St × jx_St → Prop) (l3 : Int) (B121 : jx_St × jx_St × jx_St × Int × Int → Prop) (sC : jx_St) (sS : jx_St) (sT : jx_St) (l6 : Int) (l7 : Int) : Prop :=
  jx_R l7 ∧ ((l7 < 8 → wp_T_sizeOf (fun r134 => jx_R r134 ∧ ((r134 ≤ 4 → K173 (sC, sS, sT)) ∧ (¬ r134 ≤ 4 → wp_C_courtIsDue (fun r144 => jx_R r144 ∧ ((r144 = 0 → wp_C_split (fun r162 sC_162 sT_162 => wp_C_insert_165 Q l1 l2 B121 K173 sC_162 sS sT_162 l3 l7 r162) sC sT l6) ∧ (¬ r144 = 0 → wp_C_holdCourt (fun r153 sC_153 sS_153 sT_153 => wp_C_insert_165 Q l1 l2 B121 K173 sC_153 sS_153 sT_153 l3 l7 r153) sC sS sT l6))) sC sT l6))) sT l6) ∧ (¬ l7 < 8 → K173 (sC, sS, sT)))
def wp_C_insert_173 (Q : jx_St → jx_St → jx_St → Prop) (l1 : Int) (l2 : Int) (B18 : jx_St × jx_St × jx_St × Int → Prop) (sC : jx_St) (sS : jx_St) (sT : jx_St) (l3 : Int) : Prop :=
  B18 (sC, sS, sT, (l3 + 1))
def wp_C_insert_18 (Q : jx_St → jx_St → jx_St → Prop) (l1 : Int) (l2 : Int) (B18 : jx_St × jx_St × jx_St × Int → Prop) (sC : jx_St) (sS : jx_St) (sT : jx_St) (l3 : Int) : Prop :=
  jx_R l3 ∧ ((l3 < 64 → jx_R (sC 4 0) ∧ (((sC 4 0) ≤ 0 → Q sC sS sT) ∧ (¬ (sC 4 0) ≤ 0 → jx_R ((jx_su sC 4 0 ((sC 4 0) - 1)) 4 0) ∧ (jx_R ((jx_su sC 4 0 ((sC 4 0) - 1)) 4 0) ∧ (wp_T_hull (fun r79 => wp_T_nodeFor (fun r84 => wp_T_sizeOf (fun r101 => wp_T_add (fun sT_106 => wp_T_refresh (fun sT_115 => jx_lp (fun B121v v121 => wp_C_insert_121 Q l1 l2 (fun w121 => wp_C_insert_173 Q l1 l2 B18 w121.1 w121.2.1 w121.2.2 l3) l3 B121v v121.1 v121.2.1 v121.2.2.1 v121.2.2.2.1 v121.2.2.2.2) ((jx_su sC 4 0 ((sC 4 0) - 1)), sS, sT_115, r84, 0)) sT_106 r84) sT r84 r101 (jx_at 64 ((jx_su sC 4 0 ((sC 4 0) - 1)) 2) ((jx_su sC 4 0 ((sC 4 0) - 1)) 4 0))) sT r84) sT r79 (jx_at 64 ((jx_su sC 4 0 ((sC 4 0) - 1)) 3) ((jx_su sC 4 0 ((sC 4 0) - 1)) 4 0))) sT (jx_at 64 ((jx_su sC 4 0 ((sC 4 0) - 1)) 2) ((jx_su sC 4 0 ((sC 4 0) - 1)) 4 0)) (jx_at 64 ((jx_su sC 4 0 ((sC 4 0) - 1)) 3) ((jx_su sC 4 0 ((sC 4 0) - 1)) 4 0))))))) ∧ (¬ l3 < 64 → Q sC sS sT))
def wp_C_insert (Q : jx_St → jx_St → jx_St → Prop) (sC : jx_St) (sS : jx_St) (sT : jx_St) (l1 : Int) (l2 : Int) : Prop :=
  wp_C_await (fun sC_13 => jx_lp (fun B18v v18 => wp_C_insert_18 Q l1 l2 B18v v18.1 v18.2.1 v18.2.2.1 v18.2.2.2) (sC_13, sS, sT, 0)) (jx_su (jx_su sC 5 0 0) 4 0 0) l1 l2
def wp_C_bringIn (Q : jx_St → jx_St → jx_St → Prop) (sC : jx_St) (sS : jx_St) (sT : jx_St) (l1 : Int) (l2 : Int) : Prop :=
  wp_T_setBox (fun sT_11 => wp_C_insert (fun sC_17 sS_17 sT_17 => Q sC_17 sS_17 sT_17) (jx_su sC 8 0 0) sS sT_11 l1 0) sT l1 l2
def wp_C_courtBoxes (Q : Int → Prop) (sC : jx_St) (l1 : Int) : Prop :=
  jx_R l1 ∧ (Q (jx_at 64 (sC 7) l1))
def wp_C_courtLevel (Q : Int → Prop) (sC : jx_St) (l1 : Int) : Prop :=
  jx_R l1 ∧ (Q (jx_at 64 (sC 6) l1))
def wp_T_drop (Q : jx_St → Prop) (sT : jx_St) (l1 : Int) : Prop :=
  wp_T_clearRow (fun sT_2 => jx_R l1 ∧ (jx_R l1 ∧ (jx_R l1 ∧ (Q (jx_se 32 (jx_se 32 (jx_se 32 sT_2 2 l1 (-1)) 4 l1 (-1)) 5 l1 (-1)))))) sT l1
def wp_C_dissolveFrom_116 (Q : jx_St → jx_St → Prop) (l1 : Int) (B12 : jx_St × jx_St × Int × Int → Prop) (sC : jx_St) (sT : jx_St) (l3 : Int) (l4 : Int) : Prop :=
  B12 (sC, sT, l4, (l3 + 1))
def wp_C_dissolveFrom_12 (Q : jx_St → jx_St → Prop) (l1 : Int) (B12 : jx_St × jx_St × Int × Int → Prop) (sC : jx_St) (sT : jx_St) (l2 : Int) (l3 : Int) : Prop :=
  jx_R l3 ∧ ((l3 < 8 → jx_R l2 ∧ ((l2 = (-1) → Q sC sT) ∧ (¬ l2 = (-1) → jx_R l2 ∧ jx_R (sT 7 0) ∧ ((l2 = (sT 7 0) → Q sC sT) ∧ (¬ l2 = (sT 7 0) → wp_T_aboveOf (fun r39 => wp_T_sizeOf (fun r49 => jx_R r49 ∧ ((r49 < 2 → wp_T_levelOf (fun r65 => wp_T_thingAt (fun r74 => jx_R r65 ∧ (wp_T_placeIn (fun r93 => wp_T_remove (fun sT_96 => wp_T_drop (fun sT_104 => wp_T_refresh (fun sT_113 => wp_C_dissolveFrom_116 Q l1 B12 (jx_se 8 sC 9 r65 r74) sT_113 l3 r39) sT_104 r39) sT_96 l2) sT r39 r93) sT r39 l2)) sT l2 0) sT l2) ∧ (¬ r49 < 2 → wp_C_dissolveFrom_116 Q l1 B12 sC sT l3 r39))) sT l2) sT l2))))) ∧ (¬ l3 < 8 → Q sC sT))
def wp_C_dissolveFrom (Q : jx_St → jx_St → Prop) (sC : jx_St) (sT : jx_St) (l1 : Int) : Prop :=
  jx_lp (fun B12v v12 => wp_C_dissolveFrom_12 Q l1 B12v v12.1 v12.2.1 v12.2.2.1 v12.2.2.2) ((jx_fill sC 9 8 (-1)), sT, l1, 0)
def wp_T_homeOf (Q : Int → Prop) (sT : jx_St) (l1 : Int) : Prop :=
  jx_R l1 ∧ (Q (jx_at 31 (sT 1) l1))
def wp_T_lowerRoot_2 (Q : jx_St → Prop) (B2 : jx_St × Int → Prop) (sT : jx_St) (l1 : Int) : Prop :=
  jx_R l1 ∧ ((l1 < 8 → wp_T_levelOf (fun r13 => jx_R r13 ∧ ((r13 ≤ 0 → Q sT) ∧ (¬ r13 ≤ 0 → wp_T_sizeOf (fun r24 => jx_R r24 ∧ ((r24 = 1 → wp_T_thingAt (fun r40 => wp_T_drop (fun sT_48 => B2 (sT_48, (l1 + 1))) (jx_su sT 7 0 r40) (sT 7 0)) sT (sT 7 0) 0) ∧ (¬ r24 = 1 → Q sT))) sT (sT 7 0)))) sT (sT 7 0)) ∧ (¬ l1 < 8 → Q sT))
def wp_T_lowerRoot (Q : jx_St → Prop) (sT : jx_St) : Prop :=
  jx_lp (fun B2v v2 => wp_T_lowerRoot_2 Q B2v v2.1 v2.2) (sT, 0)
def wp_C_takeOut_96 (Q : jx_St → jx_St → jx_St → Prop) (l1 : Int) (B56 : jx_St × jx_St × jx_St × Int → Prop) (K102 : jx_St × jx_St × jx_St → Prop) (sC : jx_St) (sS : jx_St) (sT : jx_St) (l3 : Int) : Prop :=
  B56 (sC, sS, sT, (l3 + (-1)))
def wp_C_takeOut_56 (Q : jx_St → jx_St → jx_St → Prop) (l1 : Int) (K102 : jx_St × jx_St × jx_St → Prop) (B56 : jx_St × jx_St × jx_St × Int → Prop) (sC : jx_St) (sS : jx_St) (sT : jx_St) (l3 : Int) : Prop :=
  jx_R l3 ∧ ((l3 < 0 → K102 (sC, sS, sT)) ∧ (¬ l3 < 0 → jx_R l3 ∧ (jx_R (jx_at 8 (sC 9) l3) ∧ (((jx_at 8 (sC 9) l3) = (-1) → wp_C_takeOut_96 Q l1 B56 K102 sC sS sT l3) ∧ (¬ (jx_at 8 (sC 9) l3) = (-1) → wp_C_insert (fun sC_93 sS_93 sT_93 => wp_C_takeOut_96 Q l1 B56 K102 sC_93 sS_93 sT_93 l3) sC sS (jx_su sT 10 0 ((sT 10 0) + 1)) (jx_at 8 (sC 9) l3) l3)))))
def wp_C_takeOut_102 (Q : jx_St → jx_St → jx_St → Prop) (l1 : Int) (sC : jx_St) (sS : jx_St) (sT : jx_St) : Prop :=
  wp_T_lowerRoot (fun sT_106 => Q sC sS sT_106) sT 
def wp_C_takeOut (Q : jx_St → jx_St → jx_St → Prop) (sC : jx_St) (sS : jx_St) (sT : jx_St) (l1 : Int) : Prop :=
  wp_T_homeOf (fun r10 => wp_T_placeIn (fun r25 => wp_T_remove (fun sT_28 => wp_T_setBox (fun sT_37 => wp_T_refresh (fun sT_45 => wp_C_dissolveFrom (fun sC_50 sT_50 => jx_lp (fun B56v v56 => wp_C_takeOut_56 Q l1 (fun w56 => wp_C_takeOut_102 Q l1 w56.1 w56.2.1 w56.2.2) B56v v56.1 v56.2.1 v56.2.2.1 v56.2.2.2) (sC_50, sS, sT_50, 7)) (jx_su sC 8 0 0) sT_45 r10) sT_37 r10) sT_28 l1 (-1)) sT r10 r25) sT r10 l1) sT l1
def wp_H_stateAt_35 (Q : Int → Prop) (sH : jx_St) (l1 : Int) : Prop :=
  Q (-1)
def wp_H_stateAt (Q : Int → Prop) (sH : jx_St) (l1 : Int) : Prop :=
  jx_R l1 ∧ ((l1 < 0 → wp_H_stateAt_35 Q sH l1) ∧ (¬ l1 < 0 → jx_R (jx_rem ((sH 1 0) + l1) 4) ∧ (((jx_rem ((sH 1 0) + l1) 4) < 0 → wp_H_stateAt_35 Q sH l1) ∧ (¬ (jx_rem ((sH 1 0) + l1) 4) < 0 → jx_R (jx_rem ((sH 1 0) + l1) 4) ∧ (((jx_rem ((sH 1 0) + l1) 4) < 4 → jx_B (jx_rem ((sH 1 0) + l1) 4) 4 ∧ (Q (jx_rem ((sH 1 0) + l1) 4))) ∧ (¬ (jx_rem ((sH 1 0) + l1) 4) < 4 → wp_H_stateAt_35 Q sH l1))))))
def wp_T_copy (Q : jx_St → Prop) (sT : jx_St) (sX : jx_St) : Prop :=
  Q (jx_su (jx_su (jx_su (jx_su (jx_cp (jx_cp (jx_cp (jx_cp (jx_cp (jx_cp (jx_cp sT 0 (sX 0) 31) 1 (sX 1) 31) 2 (sX 2) 32) 3 (sX 3) 32) 4 (sX 4) 32) 5 (sX 5) 32) 6 (sX 6) 160) 7 0 (sX 7 0)) 8 0 (sX 8 0)) 9 0 (sX 9 0)) 10 0 (sX 10 0))
def wp_H_record_30 (Q : jx_St → jx_St → jx_St → jx_St → jx_St → Prop) (sT : jx_St) (sH : jx_St) (sH0 : jx_St) (sH1 : jx_St) (sH2 : jx_St) (sH3 : jx_St) : Prop :=
  wp_H_stateAt (fun r35 => (r35 = (-1) → Q sH sH0 sH1 sH2 sH3) ∧ (r35 = 0 → wp_T_copy (fun sH0_45 => Q (jx_su sH 2 0 ((sH 2 0) + 1)) sH0_45 sH1 sH2 sH3) sH0 sT ) ∧ (r35 = 1 → wp_T_copy (fun sH1_45 => Q (jx_su sH 2 0 ((sH 2 0) + 1)) sH0 sH1_45 sH2 sH3) sH1 sT ) ∧ (r35 = 2 → wp_T_copy (fun sH2_45 => Q (jx_su sH 2 0 ((sH 2 0) + 1)) sH0 sH1 sH2_45 sH3) sH2 sT ) ∧ (r35 = 3 → wp_T_copy (fun sH3_45 => Q (jx_su sH 2 0 ((sH 2 0) + 1)) sH0 sH1 sH2 sH3_45) sH3 sT )) sH (sH 2 0)
def wp_H_record (Q : jx_St → jx_St → jx_St → jx_St → jx_St → Prop) (sT : jx_St) (sH : jx_St) (sH0 : jx_St) (sH1 : jx_St) (sH2 : jx_St) (sH3 : jx_St) : Prop :=
  jx_R (sH 2 0) ∧ (((sH 2 0) = 4 → wp_H_record_30 Q sT (jx_su (jx_su sH 1 0 (jx_rem ((sH 1 0) + 1) 4)) 2 0 (((jx_su sH 1 0 (jx_rem ((sH 1 0) + 1) 4)) 2 0) - 1)) sH0 sH1 sH2 sH3) ∧ (¬ (sH 2 0) = 4 → wp_H_record_30 Q sT sH sH0 sH1 sH2 sH3))
def wp_H_restore (Q : jx_St → jx_St → Prop) (sT : jx_St) (sH : jx_St) (sH0 : jx_St) (sH1 : jx_St) (sH2 : jx_St) (sH3 : jx_St) : Prop :=
  wp_H_stateAt (fun r7 => (r7 = (-1) → Q sT sH) ∧ (r7 = 0 → wp_T_copy (fun sT_17 => Q sT_17 (jx_su sH 2 0 ((sH 2 0) - 1))) sT sH0 ) ∧ (r7 = 1 → wp_T_copy (fun sT_17 => Q sT_17 (jx_su sH 2 0 ((sH 2 0) - 1))) sT sH1 ) ∧ (r7 = 2 → wp_T_copy (fun sT_17 => Q sT_17 (jx_su sH 2 0 ((sH 2 0) - 1))) sT sH2 ) ∧ (r7 = 3 → wp_T_copy (fun sT_17 => Q sT_17 (jx_su sH 2 0 ((sH 2 0) - 1))) sT sH3 )) sH ((sH 2 0) - 1)
def wp_O_append (Q : jx_St → Prop) (sO : jx_St) (l1 : Int) : Prop :=
  jx_R (sO 1 0) ∧ (((sO 1 0) < 60 → jx_R (sO 1 0) ∧ (Q (jx_su (jx_se 60 sO 0 (sO 1 0) l1) 1 0 (((jx_se 60 sO 0 (sO 1 0) l1) 1 0) + 1)))) ∧ (¬ (sO 1 0) < 60 → Q sO))
def wp_O_signIs (Q : Int → Prop) (sO : jx_St) (l1 : Int) : Prop :=
  jx_R (sO 4 0) ∧ jx_R (sO 1 0) ∧ (((sO 4 0) < (sO 1 0) → jx_R (sO 4 0) ∧ (jx_R (jx_at 60 (sO 0) (sO 4 0)) ∧ jx_R l1 ∧ (((jx_at 60 (sO 0) (sO 4 0)) = l1 → Q 1) ∧ (¬ (jx_at 60 (sO 0) (sO 4 0)) = l1 → Q 0)))) ∧ (¬ (sO 4 0) < (sO 1 0) → Q 0))
def wp_O_signIsDigit (Q : Int → Prop) (sO : jx_St) : Prop :=
  jx_R (sO 4 0) ∧ jx_R (sO 1 0) ∧ (((sO 4 0) < (sO 1 0) → jx_R (sO 4 0) ∧ (jx_R (jx_at 60 (sO 0) (sO 4 0)) ∧ (((jx_at 60 (sO 0) (sO 4 0)) < 48 → Q 0) ∧ (¬ (jx_at 60 (sO 0) (sO 4 0)) < 48 → jx_R (sO 4 0) ∧ (jx_R (jx_at 60 (sO 0) (sO 4 0)) ∧ (((jx_at 60 (sO 0) (sO 4 0)) ≤ 57 → Q 1) ∧ (¬ (jx_at 60 (sO 0) (sO 4 0)) ≤ 57 → Q 0))))))) ∧ (¬ (sO 4 0) < (sO 1 0) → Q 0))
def wp_O_readNumber_71 (Q : Int → jx_St → Prop) (l1 : Int) (sO : jx_St) (l2 : Int) : Prop :=
  jx_R l1 ∧ (Q 1 (jx_se 5 sO 2 l1 l2))
def wp_O_readNumber (Q : Int → jx_St → Prop) (sO : jx_St) (l1 : Int) : Prop :=
  wp_O_signIsDigit (fun r1 => jx_R r1 ∧ ((r1 = 0 → Q 0 sO) ∧ (¬ r1 = 0 → jx_R (sO 4 0) ∧ (wp_O_signIsDigit (fun r35 => jx_R r35 ∧ ((r35 = 0 → wp_O_readNumber_71 Q l1 (jx_su sO 4 0 ((sO 4 0) + 1)) ((jx_at 60 (sO 0) (sO 4 0)) - 48)) ∧ (¬ r35 = 0 → jx_R ((jx_su sO 4 0 ((sO 4 0) + 1)) 4 0) ∧ (wp_O_readNumber_71 Q l1 (jx_su (jx_su sO 4 0 ((sO 4 0) + 1)) 4 0 (((jx_su sO 4 0 ((sO 4 0) + 1)) 4 0) + 1)) (((((jx_at 60 (sO 0) (sO 4 0)) - 48) * 10) + (jx_at 60 ((jx_su sO 4 0 ((sO 4 0) + 1)) 0) ((jx_su sO 4 0 ((sO 4 0) + 1)) 4 0))) - 48))))) (jx_su sO 4 0 ((sO 4 0) + 1)) )))) sO 
def wp_O_read_86 (Q : Int → jx_St → Prop) (l1 : Int) (B58 : jx_St × Int → Prop) (sO : jx_St) (l2 : Int) (l3 : Int) (t1 : Int) : Prop :=
  wp_O_signIs (fun r86 => jx_R r86 ∧ ((r86 = 0 → Q 0 sO) ∧ (¬ r86 = 0 → B58 ((jx_su sO 4 0 ((sO 4 0) + 1)), (l3 + 1))))) sO t1
def wp_O_read_58 (Q : Int → jx_St → Prop) (l1 : Int) (l2 : Int) (B58 : jx_St × Int → Prop) (sO : jx_St) (l3 : Int) : Prop :=
  jx_R l3 ∧ jx_R l2 ∧ ((l3 < l2 → wp_O_readNumber (fun r65 sO_65 => jx_R r65 ∧ ((r65 = 0 → Q 0 sO_65) ∧ (¬ r65 = 0 → jx_R l3 ∧ jx_R (l2 - 1) ∧ ((l3 = (l2 - 1) → wp_O_read_86 Q l1 B58 sO_65 l2 l3 59) ∧ (¬ l3 = (l2 - 1) → wp_O_read_86 Q l1 B58 sO_65 l2 l3 44))))) sO l3) ∧ (¬ l3 < l2 → Q 1 sO))
def wp_O_read_55 (Q : Int → jx_St → Prop) (l1 : Int) (sO : jx_St) (t0 : Int) : Prop :=
  jx_lp (fun B58v v58 => wp_O_read_58 Q l1 t0 B58v v58.1 v58.2) (sO, 0)
def wp_O_read_33 (Q : Int → jx_St → Prop) (l1 : Int) (sO : jx_St) : Prop :=
  jx_R ((jx_su sO 4 0 ((sO 4 0) + 1)) 3 0) ∧ ((((jx_su sO 4 0 ((sO 4 0) + 1)) 3 0) = 0 → wp_O_read_55 Q l1 (jx_su sO 4 0 ((sO 4 0) + 1)) 1) ∧ (¬ ((jx_su sO 4 0 ((sO 4 0) + 1)) 3 0) = 0 → wp_O_read_55 Q l1 (jx_su sO 4 0 ((sO 4 0) + 1)) 5))
def wp_O_read (Q : Int → jx_St → Prop) (sO : jx_St) (l1 : Int) : Prop :=
  wp_O_signIs (fun r9 => (r9 = 0 ∨ r9 = 1) ∧ (jx_R ((jx_su (jx_su sO 4 0 l1) 3 0 r9) 3 0) ∧ ((((jx_su (jx_su sO 4 0 l1) 3 0 r9) 3 0) = 0 → wp_O_signIs (fun r25 => jx_R r25 ∧ ((r25 = 0 → Q 0 (jx_su (jx_su sO 4 0 l1) 3 0 r9)) ∧ (¬ r25 = 0 → wp_O_read_33 Q l1 (jx_su (jx_su sO 4 0 l1) 3 0 r9)))) (jx_su (jx_su sO 4 0 l1) 3 0 r9) 45) ∧ (¬ ((jx_su (jx_su sO 4 0 l1) 3 0 r9) 3 0) = 0 → wp_O_read_33 Q l1 (jx_su (jx_su sO 4 0 l1) 3 0 r9))))) (jx_su sO 4 0 l1) 43
def wp_O_number (Q : Int → Prop) (sO : jx_St) (l1 : Int) : Prop :=
  jx_R l1 ∧ (Q (jx_at 5 (sO 2) l1))
def wp_O_wrongNumber_34 (Q : Int → Prop) (sO : jx_St) : Prop :=
  jx_R (sO 3 0) ∧ (((sO 3 0) = 0 → Q (-1)) ∧ (¬ (sO 3 0) = 0 → wp_O_number (fun r43 => wp_O_number (fun r48 => jx_R r43 ∧ jx_R r48 ∧ ((r43 ≤ r48 → Q (-1)) ∧ (¬ r43 ≤ r48 → Q 2))) sO 4) sO 2))
def wp_O_wrongNumber (Q : Int → Prop) (sO : jx_St) : Prop :=
  wp_O_number (fun r2 => jx_R r2 ∧ ((r2 < 31 → jx_R (sO 3 0) ∧ (((sO 3 0) = 0 → wp_O_wrongNumber_34 Q sO) ∧ (¬ (sO 3 0) = 0 → wp_O_number (fun r21 => wp_O_number (fun r26 => jx_R r21 ∧ jx_R r26 ∧ ((r21 ≤ r26 → wp_O_wrongNumber_34 Q sO) ∧ (¬ r21 ≤ r26 → Q 1))) sO 3) sO 1))) ∧ (¬ r2 < 31 → Q 0))) sO 0
def wp_O_reasonAgainst_56 (Q : Int → jx_St → Prop) (l1 : Int) (l2 : Int) (sO : jx_St) (t0 : Int) : Prop :=
  jx_R t0 ∧ jx_R (sO 3 0) ∧ ((t0 = (sO 3 0) → Q 3 sO) ∧ (¬ t0 = (sO 3 0) → Q 0 sO))
def wp_O_reasonAgainst (Q : Int → jx_St → Prop) (sO : jx_St) (l1 : Int) (l2 : Int) : Prop :=
  wp_O_read (fun r2 sO_2 => jx_R r2 ∧ ((r2 = 0 → Q 1 (jx_su sO_2 8 0 ((sO_2 4 0) - l1))) ∧ (¬ r2 = 0 → wp_O_wrongNumber (fun r22 => jx_R ((jx_su sO_2 8 0 r22) 8 0) ∧ ((((jx_su sO_2 8 0 r22) 8 0) = (-1) → wp_O_number (fun r41 => jx_R (jx_and (jx_shr l2 r41) 1) ∧ (((jx_and (jx_shr l2 r41) 1) = 1 → wp_O_reasonAgainst_56 Q l1 l2 (jx_su sO_2 8 0 r22) 1) ∧ (¬ (jx_and (jx_shr l2 r41) 1) = 1 → wp_O_reasonAgainst_56 Q l1 l2 (jx_su sO_2 8 0 r22) 0))) (jx_su sO_2 8 0 r22) 0) ∧ (¬ ((jx_su sO_2 8 0 r22) 8 0) = (-1) → Q 2 (jx_su sO_2 8 0 r22)))) sO_2 ))) sO l1
def wp_O_examine_19 (Q : jx_St → Prop) (l1 : Int) (B19 : jx_St × Int × Int → Prop) (sO : jx_St) (l2 : Int) (l3 : Int) : Prop :=
  jx_R l3 ∧ ((l3 < 60 → jx_R (sO 6 0) ∧ jx_R (sO 1 0) ∧ (((sO 6 0) < (sO 1 0) → wp_O_reasonAgainst (fun r43 sO_43 => jx_R ((jx_su sO_43 7 0 r43) 7 0) ∧ ((((jx_su sO_43 7 0 r43) 7 0) = 0 → wp_O_number (fun r61 => B19 ((jx_su (jx_su (jx_su sO_43 7 0 r43) 5 0 (((jx_su sO_43 7 0 r43) 5 0) + 1)) 6 0 ((jx_su (jx_su sO_43 7 0 r43) 5 0 (((jx_su sO_43 7 0 r43) 5 0) + 1)) 4 0)), (jx_xor l2 (jx_shl 1 r61)), (l3 + 1))) (jx_su sO_43 7 0 r43) 0) ∧ (¬ ((jx_su sO_43 7 0 r43) 7 0) = 0 → Q (jx_su sO_43 7 0 r43)))) sO (sO 6 0) l2) ∧ (¬ (sO 6 0) < (sO 1 0) → Q sO))) ∧ (¬ l3 < 60 → Q sO))
def wp_O_examine (Q : jx_St → Prop) (sO : jx_St) (l1 : Int) : Prop :=
  jx_lp (fun B19v v19 => wp_O_examine_19 Q l1 B19v v19.1 v19.2.1 v19.2.2) ((jx_su (jx_su (jx_su sO 5 0 0) 6 0 0) 7 0 0), l1, 0)
def wp_S_hullSeen (Q : Int → Prop) (sS : jx_St) (sT : jx_St) (l1 : Int) : Prop :=
  wp_S_nodeSeen (fun r9 => jx_R r9 ∧ (Q (jx_at 32 (sT 4) r9))) sS l1
def wp_S_areaOfLeaves_42 (Q : Int → jx_St → Prop) (sT : jx_St) (B15 : Int × Int → Prop) (sS : jx_St) (l1 : Int) (l2 : Int) : Prop :=
  B15 (l1, (l2 + 1))
def wp_S_areaOfLeaves_15 (Q : Int → jx_St → Prop) (sT : jx_St) (sS : jx_St) (B15 : Int × Int → Prop) (l1 : Int) (l2 : Int) : Prop :=
  jx_R l2 ∧ jx_R (sS 2 0) ∧ ((l2 < (sS 2 0) → wp_S_levelSeen (fun r25 => jx_R r25 ∧ ((r25 = 0 → wp_S_hullSeen (fun r34 => wp_Box_area (fun r37 => wp_S_areaOfLeaves_42 Q sT B15 sS (l1 + r37) l2)  r34) sS sT l2) ∧ (¬ r25 = 0 → wp_S_areaOfLeaves_42 Q sT B15 sS l1 l2))) sS sT l2) ∧ (¬ l2 < (sS 2 0) → Q l1 sS))
def wp_S_areaOfLeaves (Q : Int → jx_St → Prop) (sS : jx_St) (sT : jx_St) : Prop :=
  wp_S_lookFrom (fun sS_8 => jx_lp (fun B15v v15 => wp_S_areaOfLeaves_15 Q sT sS_8 B15v v15.1 v15.2) (0, 0)) sS sT (sT 7 0)
def wp_S_leaves_34 (Q : Int → jx_St → Prop) (sT : jx_St) (B15 : Int × Int → Prop) (sS : jx_St) (l1 : Int) (l2 : Int) : Prop :=
  B15 (l1, (l2 + 1))
def wp_S_leaves_15 (Q : Int → jx_St → Prop) (sT : jx_St) (sS : jx_St) (B15 : Int × Int → Prop) (l1 : Int) (l2 : Int) : Prop :=
  jx_R l2 ∧ jx_R (sS 2 0) ∧ ((l2 < (sS 2 0) → wp_S_levelSeen (fun r25 => jx_R r25 ∧ ((r25 = 0 → wp_S_leaves_34 Q sT B15 sS (l1 + 1) l2) ∧ (¬ r25 = 0 → wp_S_leaves_34 Q sT B15 sS l1 l2))) sS sT l2) ∧ (¬ l2 < (sS 2 0) → Q l1 sS))
def wp_S_leaves (Q : Int → jx_St → Prop) (sS : jx_St) (sT : jx_St) : Prop :=
  wp_S_lookFrom (fun sS_8 => jx_lp (fun B15v v15 => wp_S_leaves_15 Q sT sS_8 B15v v15.1 v15.2) (0, 0)) sS sT (sT 7 0)
def wp_S_nodeAt_50 (Q : Int → jx_St → Prop) (sT : jx_St) (l1 : Int) (l2 : Int) (B16 : Int × Int → Prop) (K40 : Int → Prop) (sS : jx_St) (l3 : Int) (l4 : Int) : Prop :=
  B16 (l3, (l4 + 1))
def wp_S_nodeAt_16 (Q : Int → jx_St → Prop) (sT : jx_St) (l1 : Int) (l2 : Int) (K40 : Int → Prop) (sS : jx_St) (B16 : Int × Int → Prop) (l3 : Int) (l4 : Int) : Prop :=
  jx_R l4 ∧ jx_R (sS 2 0) ∧ ((l4 < (sS 2 0) → wp_S_levelSeen (fun r28 => jx_R r28 ∧ jx_R l1 ∧ ((r28 = l1 → jx_R l3 ∧ jx_R l2 ∧ ((l3 = l2 → K40 l4) ∧ (¬ l3 = l2 → wp_S_nodeAt_50 Q sT l1 l2 B16 K40 sS (l3 + 1) l4))) ∧ (¬ r28 = l1 → wp_S_nodeAt_50 Q sT l1 l2 B16 K40 sS l3 l4))) sS sT l4) ∧ (¬ l4 < (sS 2 0) → Q (-1) sS))
def wp_S_nodeAt_40 (Q : Int → jx_St → Prop) (sT : jx_St) (l1 : Int) (l2 : Int) (sS : jx_St) (l4 : Int) : Prop :=
  wp_S_nodeSeen (fun r43 => Q r43 sS) sS l4
def wp_S_nodeAt (Q : Int → jx_St → Prop) (sS : jx_St) (sT : jx_St) (l1 : Int) (l2 : Int) : Prop :=
  wp_S_lookFrom (fun sS_8 => jx_lp (fun B16v v16 => wp_S_nodeAt_16 Q sT l1 l2 (fun w16 => wp_S_nodeAt_40 Q sT l1 l2 sS_8 w16) sS_8 B16v v16.1 v16.2) (0, 0)) sS sT (sT 7 0)
def wp_S_nodes (Q : Int → jx_St → Prop) (sS : jx_St) (sT : jx_St) : Prop :=
  wp_S_lookFrom (fun sS_8 => Q (sS_8 2 0) sS_8) sS sT (sT 7 0)
def wp_S_nodesTouching_38 (Q : Int → jx_St → Prop) (sT : jx_St) (l1 : Int) (B15 : Int × Int → Prop) (sS : jx_St) (l2 : Int) (l3 : Int) : Prop :=
  B15 (l2, (l3 + 1))
def wp_S_nodesTouching_15 (Q : Int → jx_St → Prop) (sT : jx_St) (l1 : Int) (sS : jx_St) (B15 : Int × Int → Prop) (l2 : Int) (l3 : Int) : Prop :=
  jx_R l3 ∧ jx_R (sS 2 0) ∧ ((l3 < (sS 2 0) → wp_S_hullSeen (fun r25 => wp_Box_touch (fun r29 => jx_R r29 ∧ ((r29 = 0 → wp_S_nodesTouching_38 Q sT l1 B15 sS l2 l3) ∧ (¬ r29 = 0 → wp_S_nodesTouching_38 Q sT l1 B15 sS (l2 + 1) l3)))  r25 l1) sS sT l3) ∧ (¬ l3 < (sS 2 0) → Q l2 sS))
def wp_S_nodesTouching (Q : Int → jx_St → Prop) (sS : jx_St) (sT : jx_St) (l1 : Int) : Prop :=
  wp_S_lookFrom (fun sS_8 => jx_lp (fun B15v v15 => wp_S_nodesTouching_15 Q sT l1 sS_8 B15v v15.1 v15.2) (0, 0)) sS sT (sT 7 0)
def wp_S_nodesWithin_54 (Q : Int → jx_St → Prop) (sT : jx_St) (l1 : Int) (l2 : Int) (l3 : Int) (B17 : Int × Int → Prop) (sS : jx_St) (l4 : Int) (l5 : Int) : Prop :=
  B17 (l4, (l5 + 1))
def wp_S_nodesWithin_17 (Q : Int → jx_St → Prop) (sT : jx_St) (l1 : Int) (l2 : Int) (l3 : Int) (sS : jx_St) (B17 : Int × Int → Prop) (l4 : Int) (l5 : Int) : Prop :=
  jx_R l5 ∧ jx_R (sS 2 0) ∧ ((l5 < (sS 2 0) → wp_S_hullSeen (fun r29 => jx_R r29 ∧ ((r29 = (-1) → wp_S_nodesWithin_54 Q sT l1 l2 l3 B17 sS l4 l5) ∧ (¬ r29 = (-1) → wp_S_hullSeen (fun r39 => wp_Box_distance (fun r44 => jx_R r44 ∧ jx_R l3 ∧ ((r44 ≤ l3 → wp_S_nodesWithin_54 Q sT l1 l2 l3 B17 sS (l4 + 1) l5) ∧ (¬ r44 ≤ l3 → wp_S_nodesWithin_54 Q sT l1 l2 l3 B17 sS l4 l5)))  r39 l1 l2) sS sT l5))) sS sT l5) ∧ (¬ l5 < (sS 2 0) → Q l4 sS))
def wp_S_nodesWithin (Q : Int → jx_St → Prop) (sS : jx_St) (sT : jx_St) (l1 : Int) (l2 : Int) (l3 : Int) : Prop :=
  wp_S_lookFrom (fun sS_8 => jx_lp (fun B17v v17 => wp_S_nodesWithin_17 Q sT l1 l2 l3 sS_8 B17v v17.1 v17.2) (0, 0)) sS sT (sT 7 0)
def wp_S_overlapsOf_73 (Q : Int → jx_St → Prop) (sT : jx_St) (l1 : Int) (B28 : Int × Int → Prop) (K79 : Int → Prop) (sS : jx_St) (l2 : Int) (l3 : Int) (l4 : Int) : Prop :=
  B28 (l2, (l4 + 1))
def wp_S_overlapsOf_28 (Q : Int → jx_St → Prop) (sT : jx_St) (l1 : Int) (K79 : Int → Prop) (sS : jx_St) (l3 : Int) (B28 : Int × Int → Prop) (l2 : Int) (l4 : Int) : Prop :=
  jx_R l4 ∧ jx_R (sS 2 0) ∧ ((l4 < (sS 2 0) → wp_S_levelSeen (fun r39 => jx_R r39 ∧ jx_R l1 ∧ ((r39 = l1 → wp_S_levelSeen (fun r49 => jx_R r49 ∧ jx_R l1 ∧ ((r49 = l1 → wp_S_hullSeen (fun r59 => wp_S_hullSeen (fun r65 => wp_Box_common (fun r68 => wp_S_overlapsOf_73 Q sT l1 B28 K79 sS (l2 + r68) l3 l4)  r59 r65) sS sT l4) sS sT l3) ∧ (¬ r49 = l1 → wp_S_overlapsOf_73 Q sT l1 B28 K79 sS l2 l3 l4))) sS sT l4) ∧ (¬ r39 = l1 → K79 l2))) sS sT l3) ∧ (¬ l4 < (sS 2 0) → K79 l2))
def wp_S_overlapsOf_79 (Q : Int → jx_St → Prop) (sT : jx_St) (l1 : Int) (B15 : Int × Int → Prop) (sS : jx_St) (l2 : Int) (l3 : Int) : Prop :=
  B15 (l2, (l3 + 1))
def wp_S_overlapsOf_15 (Q : Int → jx_St → Prop) (sT : jx_St) (l1 : Int) (sS : jx_St) (B15 : Int × Int → Prop) (l2 : Int) (l3 : Int) : Prop :=
  jx_R l3 ∧ jx_R (sS 2 0) ∧ ((l3 < (sS 2 0) → jx_lp (fun B28v v28 => wp_S_overlapsOf_28 Q sT l1 (fun w28 => wp_S_overlapsOf_79 Q sT l1 B15 sS w28 l3) sS l3 B28v v28.1 v28.2) (l2, (l3 + 1))) ∧ (¬ l3 < (sS 2 0) → Q l2 sS))
def wp_S_overlapsOf (Q : Int → jx_St → Prop) (sS : jx_St) (sT : jx_St) (l1 : Int) : Prop :=
  wp_S_lookFrom (fun sS_8 => jx_lp (fun B15v v15 => wp_S_overlapsOf_15 Q sT l1 sS_8 B15v v15.1 v15.2) (0, 0)) sS sT (sT 7 0)
def wp_S_placeOf_57 (Q : Int → jx_St → Prop) (sT : jx_St) (l1 : Int) (B25 : Int × Int → Prop) (sS : jx_St) (l2 : Int) (l3 : Int) (l4 : Int) : Prop :=
  B25 (l3, (l4 + 1))
def wp_S_placeOf_25 (Q : Int → jx_St → Prop) (sT : jx_St) (l1 : Int) (sS : jx_St) (l2 : Int) (B25 : Int × Int → Prop) (l3 : Int) (l4 : Int) : Prop :=
  jx_R l4 ∧ jx_R (sS 2 0) ∧ ((l4 < (sS 2 0) → wp_S_nodeSeen (fun r37 => jx_R r37 ∧ jx_R l1 ∧ ((r37 = l1 → Q l3 sS) ∧ (¬ r37 = l1 → wp_S_levelSeen (fun r47 => jx_R r47 ∧ jx_R l2 ∧ ((r47 = l2 → wp_S_placeOf_57 Q sT l1 B25 sS l2 (l3 + 1) l4) ∧ (¬ r47 = l2 → wp_S_placeOf_57 Q sT l1 B25 sS l2 l3 l4))) sS sT l4))) sS l4) ∧ (¬ l4 < (sS 2 0) → Q l3 sS))
def wp_S_placeOf (Q : Int → jx_St → Prop) (sS : jx_St) (sT : jx_St) (l1 : Int) : Prop :=
  wp_S_lookFrom (fun sS_8 => wp_T_levelOf (fun r16 => jx_lp (fun B25v v25 => wp_S_placeOf_25 Q sT l1 sS_8 r16 B25v v25.1 v25.2) (0, 0)) sT l1) sS sT (sT 7 0)
def wp_T_has (Q : Int → Prop) (sT : jx_St) (l1 : Int) : Prop :=
  jx_R l1 ∧ (jx_R (jx_at 31 (sT 0) l1) ∧ (((jx_at 31 (sT 0) l1) = (-1) → Q 0) ∧ (¬ (jx_at 31 (sT 0) l1) = (-1) → Q 1)))
def wp_T_boxSet_24 (Q : Int → Prop) (sT : jx_St) (B4 : Int × Int → Prop) (l1 : Int) (l2 : Int) : Prop :=
  B4 (l1, (l2 + 1))
def wp_T_boxSet_4 (Q : Int → Prop) (sT : jx_St) (B4 : Int × Int → Prop) (l1 : Int) (l2 : Int) : Prop :=
  jx_R l2 ∧ ((l2 < 31 → wp_T_has (fun r12 => jx_R r12 ∧ ((r12 = 0 → wp_T_boxSet_24 Q sT B4 l1 l2) ∧ (¬ r12 = 0 → wp_T_boxSet_24 Q sT B4 (jx_or l1 (jx_shl 1 l2)) l2))) sT l2) ∧ (¬ l2 < 31 → Q l1))
def wp_T_boxSet (Q : Int → Prop) (sT : jx_St) : Prop :=
  jx_lp (fun B4v v4 => wp_T_boxSet_4 Q sT B4v v4.1 v4.2) (0, 0)
def wp_T_boxesOfLeaf_4 (Q : Int → Prop) (sT : jx_St) (l1 : Int) (B4 : Int × Int → Prop) (l2 : Int) (l3 : Int) : Prop :=
  wp_T_sizeOf (fun r7 => jx_R l3 ∧ jx_R r7 ∧ ((l3 < r7 → wp_T_thingAt (fun r18 => B4 ((jx_or l2 (jx_shl 1 r18)), (l3 + 1))) sT l1 l3) ∧ (¬ l3 < r7 → Q l2))) sT l1
def wp_T_boxesOfLeaf (Q : Int → Prop) (sT : jx_St) (l1 : Int) : Prop :=
  jx_lp (fun B4v v4 => wp_T_boxesOfLeaf_4 Q sT l1 B4v v4.1 v4.2) (0, 0)
def wp_T_boxesTouching_29 (Q : Int → Prop) (sT : jx_St) (l1 : Int) (B4 : Int × Int → Prop) (l2 : Int) (l3 : Int) : Prop :=
  B4 (l2, (l3 + 1))
def wp_T_boxesTouching_4 (Q : Int → Prop) (sT : jx_St) (l1 : Int) (B4 : Int × Int → Prop) (l2 : Int) (l3 : Int) : Prop :=
  jx_R l3 ∧ ((l3 < 31 → wp_T_hull (fun r13 => wp_Box_touch (fun r17 => jx_R r17 ∧ ((r17 = 0 → wp_T_boxesTouching_29 Q sT l1 B4 l2 l3) ∧ (¬ r17 = 0 → wp_T_boxesTouching_29 Q sT l1 B4 (jx_or l2 (jx_shl 1 l3)) l3)))  r13 l1) sT l3 0) ∧ (¬ l3 < 31 → Q l2))
def wp_T_boxesTouching (Q : Int → Prop) (sT : jx_St) (l1 : Int) : Prop :=
  jx_lp (fun B4v v4 => wp_T_boxesTouching_4 Q sT l1 B4v v4.1 v4.2) (0, 0)
def wp_T_freeNumber_2 (Q : Int → Prop) (sT : jx_St) (B2 : Int → Prop) (l1 : Int) : Prop :=
  jx_R l1 ∧ ((l1 < 31 → wp_T_has (fun r10 => jx_R r10 ∧ ((r10 = 0 → Q l1) ∧ (¬ r10 = 0 → B2 (l1 + 1)))) sT l1) ∧ (¬ l1 < 31 → Q (-1)))
def wp_T_freeNumber (Q : Int → Prop) (sT : jx_St) : Prop :=
  jx_lp (fun B2v v2 => wp_T_freeNumber_2 Q sT B2v v2) 0
def wp_T_height (Q : Int → Prop) (sT : jx_St) : Prop :=
  wp_T_levelOf (fun r5 => Q (r5 + 1)) sT (sT 7 0)
def wp_B_isUpTo (Q : Int → Prop) (l0 : Int) (l1 : Int) : Prop :=
  jx_R l0 ∧ ((l0 < 0 → Q 0) ∧ (¬ l0 < 0 → jx_R l0 ∧ jx_R l1 ∧ ((l0 ≤ l1 → Q 1) ∧ (¬ l0 ≤ l1 → Q 0))))
def wp_B_isBox (Q : Int → Prop) (l0 : Int) : Prop :=
  wp_B_isUpTo (fun r3 => (r3 = 0 ∨ r3 = 1) ∧ Q r3)  l0 30
def wp_B_boxOf (Q : Int → jx_St → Prop) (sB : jx_St) (sS : jx_St) (sT : jx_St) (l1 : Int) (l2 : Int) : Prop :=
  wp_B_isBox (fun r1 => jx_R r1 ∧ ((r1 = 0 → Q (-1000001) sS) ∧ (¬ r1 = 0 → wp_B_isUpTo (fun r9 => jx_R r9 ∧ ((r9 = 0 → Q (-1000001) sS) ∧ (¬ r9 = 0 → wp_T_has (fun r23 => jx_R r23 ∧ ((r23 = 0 → Q (-1000004) sS) ∧ (¬ r23 = 0 → wp_T_homeOf (fun r37 => jx_R l2 ∧ ((l2 = 4 → wp_S_placeOf (fun r51 sS_51 => Q r51 sS_51) sS sT r37) ∧ (¬ l2 = 4 → jx_R l2 ∧ ((l2 = 5 → wp_T_placeIn (fun r66 => Q r66 sS) sT r37 l1) ∧ (¬ l2 = 5 → wp_T_hull (fun r78 => wp_Box_side (fun r82 => Q r82 sS)  r78 l2) sT l1 0))))) sT l1))) sT l1)))  l2 5)))  l1
def wp_B_ranksAhead_42 (Q : Int → Prop) (sB : jx_St) (l1 : Int) (B14 : Int × Int → Prop) (l2 : Int) (l4 : Int) (l5 : Int) : Prop :=
  B14 (l2, (l5 + 1))
def wp_B_ranksAhead_14 (Q : Int → Prop) (sB : jx_St) (l1 : Int) (l4 : Int) (B14 : Int × Int → Prop) (l2 : Int) (l5 : Int) : Prop :=
  jx_R l5 ∧ jx_R l4 ∧ ((l5 < l4 → jx_B l5 31 ∧ (jx_R (sB 8 l5) ∧ (((sB 8 l5) = (-1) → wp_B_ranksAhead_42 Q sB l1 B14 l2 l4 l5) ∧ (¬ (sB 8 l5) = (-1) → jx_R (sB 8 l5) ∧ jx_R l1 ∧ (((sB 8 l5) < l1 → wp_B_ranksAhead_42 Q sB l1 B14 (l2 + 1) l4 l5) ∧ (¬ (sB 8 l5) < l1 → wp_B_ranksAhead_42 Q sB l1 B14 l2 l4 l5)))))) ∧ (¬ l5 < l4 → Q l2))
def wp_B_ranksAhead (Q : Int → Prop) (sB : jx_St) (l1 : Int) : Prop :=
  jx_lp (fun B14v v14 => wp_B_ranksAhead_14 Q sB l1 31 B14v v14.1 v14.2) (0, 0)
def wp_B_boxOfRank_47 (Q : Int → jx_St → Prop) (sT : jx_St) (l1 : Int) (l2 : Int) (l3 : Int) (B3 : jx_St × Int → Prop) (K66 : jx_St → Prop) (sB : jx_St) (l4 : Int) (t0 : Int) : Prop :=
  jx_R l4 ∧ (B3 ((jx_se 31 sB 8 l4 t0), (l4 + 1)))
def wp_B_boxOfRank_3 (Q : Int → jx_St → Prop) (sT : jx_St) (l1 : Int) (l2 : Int) (l3 : Int) (K66 : jx_St → Prop) (B3 : jx_St × Int → Prop) (sB : jx_St) (l4 : Int) : Prop :=
  jx_R l4 ∧ ((l4 < 31 → wp_T_has (fun r16 => jx_R r16 ∧ ((r16 = 0 → wp_B_boxOfRank_47 Q sT l1 l2 l3 B3 K66 sB l4 (-1)) ∧ (¬ r16 = 0 → wp_T_hull (fun r29 => wp_Box_distance (fun r34 => wp_B_boxOfRank_47 Q sT l1 l2 l3 B3 K66 sB l4 ((r34 * 31) + l4))  r29 l1 l2) sT l4 0))) sT l4) ∧ (¬ l4 < 31 → K66 sB))
def wp_B_boxOfRank_106 (Q : Int → jx_St → Prop) (sT : jx_St) (l1 : Int) (l2 : Int) (l3 : Int) (B69 : Int → Prop) (sB : jx_St) (l4 : Int) : Prop :=
  B69 (l4 + 1)
def wp_B_boxOfRank_69 (Q : Int → jx_St → Prop) (sT : jx_St) (l1 : Int) (l2 : Int) (l3 : Int) (sB : jx_St) (B69 : Int → Prop) (l4 : Int) : Prop :=
  jx_R l4 ∧ ((l4 < 31 → jx_R l4 ∧ (jx_R (jx_at 31 (sB 8) l4) ∧ (((jx_at 31 (sB 8) l4) = (-1) → wp_B_boxOfRank_106 Q sT l1 l2 l3 B69 sB l4) ∧ (¬ (jx_at 31 (sB 8) l4) = (-1) → wp_B_ranksAhead (fun r96 => jx_R r96 ∧ jx_R l3 ∧ ((r96 = l3 → Q l4 sB) ∧ (¬ r96 = l3 → wp_B_boxOfRank_106 Q sT l1 l2 l3 B69 sB l4))) sB (jx_at 31 (sB 8) l4))))) ∧ (¬ l4 < 31 → Q (-1) sB))
def wp_B_boxOfRank_66 (Q : Int → jx_St → Prop) (sT : jx_St) (l1 : Int) (l2 : Int) (l3 : Int) (sB : jx_St) : Prop :=
  jx_lp (fun B69v v69 => wp_B_boxOfRank_69 Q sT l1 l2 l3 sB B69v v69) 0
def wp_B_boxOfRank (Q : Int → jx_St → Prop) (sB : jx_St) (sT : jx_St) (l1 : Int) (l2 : Int) (l3 : Int) : Prop :=
  jx_lp (fun B3v v3 => wp_B_boxOfRank_3 Q sT l1 l2 l3 (fun w3 => wp_B_boxOfRank_66 Q sT l1 l2 l3 w3) B3v v3.1 v3.2) (sB, 0)
def wp_B_clearText (Q : Int → jx_St → Prop) (sB : jx_St) (sO : jx_St) : Prop :=
  Q (sO 1 0) (jx_su sO 1 0 0)
def wp_B_count (Q : Int → jx_St → Prop) (sB : jx_St) (sC : jx_St) (sS : jx_St) (sT : jx_St) (sH : jx_St) (sO : jx_St) (l1 : Int) : Prop :=
  jx_R l1 ∧ ((l1 = 0 → wp_T_boxSet (fun r64 => Q (jx_pop r64) sS) sT ) ∧ (l1 = 1 → wp_T_height (fun r75 => Q r75 sS) sT ) ∧ (l1 = 2 → wp_S_nodes (fun r83 sS_83 => Q r83 sS_83) sS sT ) ∧ (l1 = 3 → wp_S_leaves (fun r91 sS_91 => Q r91 sS_91) sS sT ) ∧ (l1 = 4 → Q (sC 8 0) sS) ∧ (l1 = 5 → Q (sT 8 0) sS) ∧ (l1 = 6 → Q (sT 9 0) sS) ∧ (l1 = 7 → Q (sT 10 0) sS) ∧ (l1 = 8 → Q (sH 2 0) sS) ∧ (l1 = 9 → Q (sO 1 0) sS) ∧ (l1 = 10 → wp_S_areaOfLeaves (fun r147 sS_147 => Q r147 sS_147) sS sT ) ∧ ((l1 < 0 ∨ 10 < l1) → Q (-1000001) sS))
def wp_B_court (Q : Int → Prop) (sB : jx_St) (sC : jx_St) (l1 : Int) (l2 : Int) : Prop :=
  jx_R l1 ∧ ((l1 < 0 → Q (-1000001)) ∧ (¬ l1 < 0 → wp_B_isUpTo (fun r6 => jx_R r6 ∧ ((r6 = 0 → Q (-1000001)) ∧ (¬ r6 = 0 → jx_R l1 ∧ jx_R (sC 8 0) ∧ ((l1 < (sC 8 0) → jx_R l2 ∧ ((l2 = 0 → wp_C_courtLevel (fun r38 => Q r38) sC l1) ∧ (¬ l2 = 0 → wp_C_courtBoxes (fun r49 => Q r49) sC l1))) ∧ (¬ l1 < (sC 8 0) → Q (-1000004))))))  l2 1))
def wp_B_fault (Q : Int → jx_St → Prop) (sB : jx_St) (sT : jx_St) (sO : jx_St) (l1 : Int) : Prop :=
  wp_B_isUpTo (fun r2 => jx_R r2 ∧ ((r2 = 0 → Q (-1000001) sO) ∧ (¬ r2 = 0 → wp_T_boxSet (fun r19 => wp_O_examine (fun sO_22 => jx_R (sO_22 7 0) ∧ (((sO_22 7 0) = 0 → Q (-1000004) sO_22) ∧ (¬ (sO_22 7 0) = 0 → jx_R l1 ∧ ((l1 = 0 → Q (sO_22 6 0) sO_22) ∧ (¬ l1 = 0 → jx_R l1 ∧ ((l1 = 1 → Q (sO_22 7 0) sO_22) ∧ (¬ l1 = 1 → jx_R (sO_22 8 0) ∧ (((sO_22 8 0) = (-1) → Q (-1000004) sO_22) ∧ (¬ (sO_22 8 0) = (-1) → Q (sO_22 8 0) sO_22))))))))) sO r19) sT )))  l1 2
def wp_B_isPoint (Q : Int → Prop) (l0 : Int) : Prop :=
  wp_B_isUpTo (fun r3 => (r3 = 0 ∨ r3 = 1) ∧ Q r3)  l0 99
def wp_B_isWindow (Q : Int → Prop) (l0 : Int) (l1 : Int) (l2 : Int) (l3 : Int) : Prop :=
  wp_B_isPoint (fun r1 => jx_R r1 ∧ ((r1 = 0 → Q 0) ∧ (¬ r1 = 0 → wp_B_isPoint (fun r8 => jx_R r8 ∧ ((r8 = 0 → Q 0) ∧ (¬ r8 = 0 → wp_B_isPoint (fun r15 => jx_R r15 ∧ ((r15 = 0 → Q 0) ∧ (¬ r15 = 0 → wp_B_isPoint (fun r22 => jx_R r22 ∧ ((r22 = 0 → Q 0) ∧ (¬ r22 = 0 → jx_R l0 ∧ jx_R l2 ∧ ((l0 ≤ l2 → jx_R l1 ∧ jx_R l3 ∧ ((l1 ≤ l3 → Q 1) ∧ (¬ l1 ≤ l3 → Q 0))) ∧ (¬ l0 ≤ l2 → Q 0)))))  l3)))  l2)))  l1)))  l0
def wp_B_nearest (Q : Int → jx_St → jx_St → Prop) (sB : jx_St) (sS : jx_St) (sT : jx_St) (l1 : Int) (l2 : Int) (l3 : Int) (l4 : Int) : Prop :=
  wp_B_isPoint (fun r1 => jx_R r1 ∧ ((r1 = 0 → Q (-1000001) sB sS) ∧ (¬ r1 = 0 → wp_B_isPoint (fun r8 => jx_R r8 ∧ ((r8 = 0 → Q (-1000001) sB sS) ∧ (¬ r8 = 0 → jx_R l3 ∧ ((l3 < 0 → Q (-1000001) sB sS) ∧ (¬ l3 < 0 → wp_B_isUpTo (fun r21 => jx_R r21 ∧ ((r21 = 0 → Q (-1000001) sB sS) ∧ (¬ r21 = 0 → wp_B_boxOfRank (fun r34 sB_34 => jx_R r34 ∧ ((r34 = (-1) → Q (-1000004) sB_34 sS) ∧ (¬ r34 = (-1) → jx_R l4 ∧ ((l4 = 0 → Q r34 sB_34 sS) ∧ (¬ l4 = 0 → wp_T_hull (fun r63 => wp_Box_distance (fun r68 => jx_R l4 ∧ ((l4 = 1 → Q r68 sB_34 sS) ∧ (¬ l4 = 1 → wp_S_nodesWithin (fun r92 sS_92 => Q r92 sB_34 sS_92) sS sT l1 l2 r68)))  r63 l1 l2) sT r34 0))))) sB sT l1 l2 l3)))  l4 2)))))  l2)))  l1
def wp_B_nodeOf (Q : Int → jx_St → Prop) (sB : jx_St) (sS : jx_St) (sT : jx_St) (l1 : Int) (l2 : Int) (l3 : Int) : Prop :=
  jx_R l1 ∧ ((l1 < 0 → Q (-1000001) sS) ∧ (¬ l1 < 0 → jx_R l2 ∧ ((l2 < 0 → Q (-1000001) sS) ∧ (¬ l2 < 0 → wp_B_isUpTo (fun r10 => jx_R r10 ∧ ((r10 = 0 → Q (-1000001) sS) ∧ (¬ r10 = 0 → wp_S_nodeAt (fun r25 sS_25 => jx_R r25 ∧ ((r25 = (-1) → Q (-1000004) sS_25) ∧ (¬ r25 = (-1) → wp_T_sizeOf (fun r45 => jx_R l3 ∧ ((l3 = 4 → Q r45 sS_25) ∧ (¬ l3 = 4 → jx_R l3 ∧ ((l3 = 5 → jx_R l1 ∧ ((l1 = 0 → wp_T_boxesOfLeaf (fun r73 => Q r73 sS_25) sT r25) ∧ (¬ l1 = 0 → wp_T_thingAt (fun r90 => wp_S_placeOf (fun r93 sS_93 => Q r93 sS_93) sS_25 sT r90) sT r25 0))) ∧ (¬ l3 = 5 → jx_R r45 ∧ ((r45 = 0 → Q (-1000004) sS_25) ∧ (¬ r45 = 0 → wp_T_hull (fun r116 => wp_Box_side (fun r120 => Q r120 sS_25)  r116 l3) sT r25 (l1 + 1)))))))) sT r25))) sS sT l1 l2)))  l3 5))))
def wp_B_overlap (Q : Int → Prop) (sB : jx_St) (sT : jx_St) (l1 : Int) (l2 : Int) : Prop :=
  wp_B_isBox (fun r1 => jx_R r1 ∧ ((r1 = 0 → Q (-1000001)) ∧ (¬ r1 = 0 → wp_B_isBox (fun r8 => jx_R r8 ∧ ((r8 = 0 → Q (-1000001)) ∧ (¬ r8 = 0 → wp_T_has (fun r22 => jx_R r22 ∧ ((r22 = 0 → Q (-1000004)) ∧ (¬ r22 = 0 → wp_T_has (fun r33 => jx_R r33 ∧ ((r33 = 0 → Q (-1000004)) ∧ (¬ r33 = 0 → wp_T_hull (fun r48 => wp_T_hull (fun r57 => wp_Box_common (fun r60 => Q r60)  r48 r57) sT l2 0) sT l1 0))) sT l2))) sT l1)))  l2)))  l1
def wp_B_overlaps (Q : Int → jx_St → Prop) (sB : jx_St) (sS : jx_St) (sT : jx_St) (l1 : Int) : Prop :=
  jx_R l1 ∧ ((l1 < 0 → Q (-1000001) sS) ∧ (¬ l1 < 0 → wp_T_height (fun r12 => jx_R l1 ∧ jx_R r12 ∧ ((l1 < r12 → wp_S_overlapsOf (fun r23 sS_23 => Q r23 sS_23) sS sT l1) ∧ (¬ l1 < r12 → Q (-1000004) sS))) sT ))
def wp_B_play_148 (Q : Int → jx_St → jx_St → jx_St → jx_St → jx_St → jx_St → jx_St → jx_St → jx_St → Prop) (sB : jx_St) (B42 : jx_St × jx_St × jx_St × jx_St × Int × Int → Prop) (K154 : jx_St × jx_St × jx_St × jx_St → Prop) (sC : jx_St) (sS : jx_St) (sT : jx_St) (sH : jx_St) (sH0 : jx_St) (sH1 : jx_St) (sH2 : jx_St) (sH3 : jx_St) (sO : jx_St) (l1 : Int) (l2 : Int) : Prop :=
  B42 (sC, sS, sT, sO, l1, (l2 + 1))
def wp_B_play_42 (Q : Int → jx_St → jx_St → jx_St → jx_St → jx_St → jx_St → jx_St → jx_St → jx_St → Prop) (sB : jx_St) (K154 : jx_St × jx_St × jx_St × jx_St → Prop) (sH : jx_St) (sH0 : jx_St) (sH1 : jx_St) (sH2 : jx_St) (sH3 : jx_St) (B42 : jx_St × jx_St × jx_St × jx_St × Int × Int → Prop) (sC : jx_St) (sS : jx_St) (sT : jx_St) (sO : jx_St) (l1 : Int) (l2 : Int) : Prop :=
  jx_R l2 ∧ jx_R (sO 5 0) ∧ ((l2 < (sO 5 0) → wp_O_read (fun r58 sO_58 => jx_R (sO_58 3 0) ∧ (((sO_58 3 0) = 0 → wp_O_number (fun r142 => wp_C_takeOut (fun sC_145 sS_145 sT_145 => wp_B_play_148 Q sB B42 K154 sC_145 sS_145 sT_145 sH sH0 sH1 sH2 sH3 sO_58 (sO_58 4 0) l2) sC sS sT r142) sO_58 0) ∧ (¬ (sO_58 3 0) = 0 → wp_O_number (fun r89 => wp_O_number (fun r97 => wp_O_number (fun r105 => wp_O_number (fun r113 => wp_O_number (fun r121 => wp_Box_of (fun r124 => wp_C_bringIn (fun sC_127 sS_127 sT_127 => wp_B_play_148 Q sB B42 K154 sC_127 sS_127 sT_127 sH sH0 sH1 sH2 sH3 sO_58 (sO_58 4 0) l2) sC sS sT r89 r124)  r97 r105 r113 r121) sO_58 4) sO_58 3) sO_58 2) sO_58 1) sO_58 0))) sO l1) ∧ (¬ l2 < (sO 5 0) → K154 (sC, sS, sT, sO)))
def wp_B_play_154 (Q : Int → jx_St → jx_St → jx_St → jx_St → jx_St → jx_St → jx_St → jx_St → jx_St → Prop) (sB : jx_St) (sC : jx_St) (sS : jx_St) (sT : jx_St) (sH : jx_St) (sH0 : jx_St) (sH1 : jx_St) (sH2 : jx_St) (sH3 : jx_St) (sO : jx_St) : Prop :=
  Q (sO 5 0) sC sS sT sH sH0 sH1 sH2 sH3 sO
def wp_B_play (Q : Int → jx_St → jx_St → jx_St → jx_St → jx_St → jx_St → jx_St → jx_St → jx_St → Prop) (sB : jx_St) (sC : jx_St) (sS : jx_St) (sT : jx_St) (sH : jx_St) (sH0 : jx_St) (sH1 : jx_St) (sH2 : jx_St) (sH3 : jx_St) (sO : jx_St) : Prop :=
  wp_T_boxSet (fun r8 => wp_O_examine (fun sO_11 => jx_R (sO_11 7 0) ∧ (((sO_11 7 0) = 0 → wp_H_record (fun sH_35 sH0_35 sH1_35 sH2_35 sH3_35 => jx_lp (fun B42v v42 => wp_B_play_42 Q sB (fun w42 => wp_B_play_154 Q sB w42.1 w42.2.1 w42.2.2.1 sH_35 sH0_35 sH1_35 sH2_35 sH3_35 w42.2.2.2) sH_35 sH0_35 sH1_35 sH2_35 sH3_35 B42v v42.1 v42.2.1 v42.2.2.1 v42.2.2.2.1 v42.2.2.2.2.1 v42.2.2.2.2.2) (sC, sS, sT, sO_11, 0, 0)) sT sH sH0 sH1 sH2 sH3 ) ∧ (¬ (sO_11 7 0) = 0 → Q (-1000002) sC sS sT sH sH0 sH1 sH2 sH3 sO_11))) sO r8) sT 
def wp_B_put (Q : Int → jx_St → jx_St → jx_St → jx_St → jx_St → jx_St → jx_St → jx_St → Prop) (sB : jx_St) (sC : jx_St) (sS : jx_St) (sT : jx_St) (sH : jx_St) (sH0 : jx_St) (sH1 : jx_St) (sH2 : jx_St) (sH3 : jx_St) (l1 : Int) (l2 : Int) (l3 : Int) (l4 : Int) (l5 : Int) : Prop :=
  wp_B_isBox (fun r1 => jx_R r1 ∧ ((r1 = 0 → Q (-1000001) sC sS sT sH sH0 sH1 sH2 sH3) ∧ (¬ r1 = 0 → wp_B_isWindow (fun r13 => jx_R r13 ∧ ((r13 = 0 → Q (-1000001) sC sS sT sH sH0 sH1 sH2 sH3) ∧ (¬ r13 = 0 → wp_T_has (fun r27 => jx_R r27 ∧ ((r27 = 0 → wp_H_record (fun sH_44 sH0_44 sH1_44 sH2_44 sH3_44 => wp_Box_of (fun r58 => wp_C_bringIn (fun sC_61 sS_61 sT_61 => wp_T_height (fun r68 => Q r68 sC_61 sS_61 sT_61 sH_44 sH0_44 sH1_44 sH2_44 sH3_44) sT_61 ) sC sS sT l1 r58)  l2 l3 l4 l5) sT sH sH0 sH1 sH2 sH3 ) ∧ (¬ r27 = 0 → Q (-1000002) sC sS sT sH sH0 sH1 sH2 sH3))) sT l1)))  l2 l3 l4 l5)))  l1
def wp_B_take (Q : Int → jx_St → jx_St → jx_St → jx_St → jx_St → jx_St → jx_St → jx_St → Prop) (sB : jx_St) (sC : jx_St) (sS : jx_St) (sT : jx_St) (sH : jx_St) (sH0 : jx_St) (sH1 : jx_St) (sH2 : jx_St) (sH3 : jx_St) (l1 : Int) : Prop :=
  wp_B_isBox (fun r1 => jx_R r1 ∧ ((r1 = 0 → Q (-1000001) sC sS sT sH sH0 sH1 sH2 sH3) ∧ (¬ r1 = 0 → wp_T_has (fun r15 => jx_R r15 ∧ ((r15 = 0 → Q (-1000002) sC sS sT sH sH0 sH1 sH2 sH3) ∧ (¬ r15 = 0 → wp_H_record (fun sH_32 sH0_32 sH1_32 sH2_32 sH3_32 => wp_C_takeOut (fun sC_40 sS_40 sT_40 => wp_T_height (fun r47 => Q r47 sC_40 sS_40 sT_40 sH_32 sH0_32 sH1_32 sH2_32 sH3_32) sT_40 ) sC sS sT l1) sT sH sH0 sH1 sH2 sH3 ))) sT l1)))  l1
def wp_B_type (Q : Int → jx_St → Prop) (sB : jx_St) (sO : jx_St) (l1 : Int) : Prop :=
  jx_R l1 ∧ ((l1 < 32 → Q (-1000001) sO) ∧ (¬ l1 < 32 → jx_R l1 ∧ ((l1 ≤ 126 → jx_R (sO 1 0) ∧ (((sO 1 0) < 60 → wp_O_append (fun sO_35 => Q (sO_35 1 0) sO_35) sO l1) ∧ (¬ (sO 1 0) < 60 → Q (-1000003) sO))) ∧ (¬ l1 ≤ 126 → Q (-1000001) sO))))
def wp_B_undo (Q : Int → jx_St → jx_St → Prop) (sB : jx_St) (sT : jx_St) (sH : jx_St) (sH0 : jx_St) (sH1 : jx_St) (sH2 : jx_St) (sH3 : jx_St) : Prop :=
  jx_R (sH 2 0) ∧ (((sH 2 0) = 0 → Q (-1000002) sT sH) ∧ (¬ (sH 2 0) = 0 → wp_H_restore (fun sT_21 sH_21 => Q (sH_21 2 0) sT_21 sH_21) sT sH sH0 sH1 sH2 sH3 ))
def wp_B_window (Q : Int → jx_St → Prop) (sB : jx_St) (sS : jx_St) (sT : jx_St) (l1 : Int) (l2 : Int) (l3 : Int) (l4 : Int) (l5 : Int) : Prop :=
  wp_B_isWindow (fun r5 => jx_R r5 ∧ ((r5 = 0 → Q (-1000001) sS) ∧ (¬ r5 = 0 → wp_B_isUpTo (fun r14 => jx_R r14 ∧ ((r14 = 0 → Q (-1000001) sS) ∧ (¬ r14 = 0 → wp_Box_of (fun r28 => jx_R l5 ∧ ((l5 = 0 → wp_T_boxesTouching (fun r44 => Q r44 sS) sT r28) ∧ (¬ l5 = 0 → wp_S_nodesTouching (fun r56 sS_56 => Q r56 sS_56) sS sT r28)))  l1 l2 l3 l4)))  l5 1)))  l1 l2 l3 l4
def wp_B_would (Q : Int → jx_St → jx_St → jx_St → jx_St → Prop) (sB : jx_St) (sS : jx_St) (sT : jx_St) (sW : jx_St) (sV : jx_St) (sU : jx_St) (l1 : Int) (l2 : Int) (l3 : Int) (l4 : Int) (l5 : Int) : Prop :=
  wp_B_isWindow (fun r5 => jx_R r5 ∧ ((r5 = 0 → Q (-1000001) sS sW sV sU) ∧ (¬ r5 = 0 → wp_B_isUpTo (fun r14 => jx_R r14 ∧ ((r14 = 0 → Q (-1000001) sS sW sV sU) ∧ (¬ r14 = 0 → wp_T_freeNumber (fun r27 => jx_R r27 ∧ ((r27 = (-1) → Q (-1000002) sS sW sV sU) ∧ (¬ r27 = (-1) → wp_Box_of (fun r46 => wp_T_nodeFor (fun r58 => jx_R l5 ∧ ((l5 = 0 → wp_S_placeOf (fun r74 sS_74 => Q r74 sS_74 sW sV sU) sS sT r58) ∧ (¬ l5 = 0 → jx_R l5 ∧ ((l5 = 1 → wp_T_sizeOf (fun r90 => jx_R r90 ∧ ((r90 < 4 → Q 0 sS sW sV sU) ∧ (¬ r90 < 4 → Q 1 sS sW sV sU))) sT r58) ∧ (¬ l5 = 1 → wp_T_copy (fun sU_111 => wp_C_bringIn (fun sW_122 sV_122 sU_122 => jx_R l5 ∧ ((l5 = 2 → Q (sW_122 8 0) sS sW_122 sV_122 sU_122) ∧ (¬ l5 = 2 → jx_R l5 ∧ ((l5 = 3 → wp_T_height (fun r149 => Q r149 sS sW_122 sV_122 sU_122) sU_122 ) ∧ (¬ l5 = 3 → wp_S_overlapsOf (fun r160 sV_160 => Q r160 sS sW_122 sV_160 sU_122) sV_122 sU_122 0))))) sW sV sU_111 r27 r46) sU sT ))))) sT r46 0)  l1 l2 l3 l4))) sT )))  l5 4)))  l1 l2 l3 l4
def wp_B_wouldTake (Q : Int → jx_St → jx_St → jx_St → Prop) (sB : jx_St) (sT : jx_St) (sW : jx_St) (sV : jx_St) (sU : jx_St) (l1 : Int) (l2 : Int) : Prop :=
  wp_B_isBox (fun r1 => jx_R r1 ∧ ((r1 = 0 → Q (-1000001) sW sV sU) ∧ (¬ r1 = 0 → wp_B_isUpTo (fun r9 => jx_R r9 ∧ ((r9 = 0 → Q (-1000001) sW sV sU) ∧ (¬ r9 = 0 → wp_T_has (fun r23 => jx_R r23 ∧ ((r23 = 0 → Q (-1000004) sW sV sU) ∧ (¬ r23 = 0 → wp_T_copy (fun sU_40 => wp_C_takeOut (fun sW_48 sV_48 sU_48 => jx_R l2 ∧ ((l2 = 0 → Q ((sU_48 10 0) - (sT 10 0)) sW_48 sV_48 sU_48) ∧ (¬ l2 = 0 → jx_R l2 ∧ ((l2 = 1 → Q (sW_48 8 0) sW_48 sV_48 sU_48) ∧ (¬ l2 = 1 → jx_R l2 ∧ ((l2 = 2 → wp_T_height (fun r93 => Q r93 sW_48 sV_48 sU_48) sU_48 ) ∧ (¬ l2 = 2 → wp_S_overlapsOf (fun r104 sV_104 => Q r104 sW_48 sV_104 sU_48) sV_48 sU_48 0))))))) sW sV sU_40 l1) sU sT ))) sT l1)))  l2 3)))  l1
def wp_M_in (Q : Int → Prop) (l0 : Int) (l1 : Int) (l2 : Int) : Prop :=
  jx_R l0 ∧ jx_R l1 ∧ ((l0 < l1 → Q 0) ∧ (¬ l0 < l1 → jx_R l0 ∧ jx_R l2 ∧ ((l0 ≤ l2 → Q 1) ∧ (¬ l0 ≤ l2 → Q 0))))
def wp_M_areSides (Q : Int → Prop) (l0 : Int) (l1 : Int) (l2 : Int) (l3 : Int) : Prop :=
  wp_M_in (fun r4 => jx_R r4 ∧ ((r4 = 0 → Q 0) ∧ (¬ r4 = 0 → wp_M_in (fun r14 => jx_R r14 ∧ ((r14 = 0 → Q 0) ∧ (¬ r14 = 0 → wp_M_in (fun r24 => jx_R r24 ∧ ((r24 = 0 → Q 0) ∧ (¬ r24 = 0 → wp_M_in (fun r34 => jx_R r34 ∧ ((r34 = 0 → Q 0) ∧ (¬ r34 = 0 → Q 1)))  l3 l1 99)))  l2 l0 99)))  l1 0 99)))  l0 0 99
def wp_M_levelOf (Q : Int → Prop) (sM : jx_St) (l1 : Int) : Prop :=
  jx_B (159 + l1) 439 ∧ (Q (sM 0 (159 + l1)))
def wp_M_manyOf (Q : Int → Prop) (sM : jx_St) (l1 : Int) : Prop :=
  jx_B (199 + l1) 439 ∧ (Q (sM 0 (199 + l1)))
def wp_M_thing (Q : Int → Prop) (sM : jx_St) (l1 : Int) (l2 : Int) : Prop :=
  jx_B ((239 + (5 * l1)) + l2) 439 ∧ (Q (sM 0 ((239 + (5 * l1)) + l2)))
def wp_M_side (Q : Int → Prop) (sM : jx_St) (l1 : Int) (l2 : Int) (l3 : Int) : Prop :=
  jx_R l2 ∧ ((l2 = 0 → jx_B ((35 + (4 * l1)) + l3) 439 ∧ (Q (sM 0 ((35 + (4 * l1)) + l3)))) ∧ (¬ l2 = 0 → jx_B ((4 * l1) + l3) 160 ∧ (Q (sM 7 ((4 * l1) + l3)))))
def wp_M_most (Q : Int → Prop) (l0 : Int) (l1 : Int) : Prop :=
  jx_R l0 ∧ jx_R l1 ∧ ((l0 ≤ l1 → Q l1) ∧ (¬ l0 ≤ l1 → Q l0))
def wp_M_least (Q : Int → Prop) (l0 : Int) (l1 : Int) : Prop :=
  jx_R l0 ∧ jx_R l1 ∧ ((l0 < l1 → Q l0) ∧ (¬ l0 < l1 → Q l1))
def wp_M_layNode_131 (Q : jx_St → Prop) (l1 : Int) (B59 : jx_St × Int → Prop) (K138 : jx_St → Prop) (sM : jx_St) (l2 : Int) (l3 : Int) (l4 : Int) (l5 : Int) (t1 : Int) (t2 : Int) : Prop :=
  jx_B t1 160 ∧ (B59 ((jx_su sM 7 t1 t2), (l5 + 1)))
def wp_M_layNode_59 (Q : jx_St → Prop) (l1 : Int) (K138 : jx_St → Prop) (l2 : Int) (l3 : Int) (l4 : Int) (B59 : jx_St × Int → Prop) (sM : jx_St) (l5 : Int) : Prop :=
  jx_R l5 ∧ ((l5 < 4 → wp_M_side (fun r71 => jx_B ((4 * l1) + l5) 160 ∧ (jx_R l3 ∧ ((l3 = 0 → wp_M_layNode_131 Q l1 B59 K138 sM l2 l3 l4 l5 ((4 * l1) + l5) r71) ∧ (¬ l3 = 0 → jx_R l5 ∧ ((l5 < 2 → wp_M_least (fun r118 => wp_M_layNode_131 Q l1 B59 K138 sM l2 l3 l4 l5 ((4 * l1) + l5) r118)  (sM 7 ((4 * l1) + l5)) r71) ∧ (¬ l5 < 2 → wp_M_most (fun r128 => wp_M_layNode_131 Q l1 B59 K138 sM l2 l3 l4 l5 ((4 * l1) + l5) r128)  (sM 7 ((4 * l1) + l5)) r71)))))) sM l4 l2 l5) ∧ (¬ l5 < 4 → K138 sM))
def wp_M_layNode_138 (Q : jx_St → Prop) (l1 : Int) (B15 : jx_St × Int → Prop) (sM : jx_St) (l2 : Int) (l3 : Int) : Prop :=
  B15 (sM, (l3 + 1))
def wp_M_layNode_54 (Q : jx_St → Prop) (l1 : Int) (B15 : jx_St × Int → Prop) (sM : jx_St) (l2 : Int) (l3 : Int) (l4 : Int) (t1 : Int) (t2 : Int) (t3 : Int) : Prop :=
  jx_B t1 40 ∧ (jx_lp (fun B59v v59 => wp_M_layNode_59 Q l1 (fun w59 => wp_M_layNode_138 Q l1 B15 w59 l2 l3) l2 l3 l4 B59v v59.1 v59.2) ((jx_su sM 8 t1 (t2 + t3)), 0))
def wp_M_layNode_15 (Q : jx_St → Prop) (l1 : Int) (l2 : Int) (B15 : jx_St × Int → Prop) (sM : jx_St) (l3 : Int) : Prop :=
  wp_M_manyOf (fun r18 => jx_R l3 ∧ jx_R r18 ∧ ((l3 < r18 → wp_M_thing (fun r27 => jx_B l1 40 ∧ (jx_R l2 ∧ ((l2 = 0 → wp_M_layNode_54 Q l1 B15 sM l2 l3 r27 l1 (sM 8 l1) 1) ∧ (¬ l2 = 0 → jx_B r27 40 ∧ (wp_M_layNode_54 Q l1 B15 sM l2 l3 r27 l1 (sM 8 l1) (sM 8 r27)))))) sM l1 l3) ∧ (¬ l3 < r18 → Q sM))) sM l1
def wp_M_layNode (Q : jx_St → Prop) (sM : jx_St) (l1 : Int) : Prop :=
  wp_M_levelOf (fun r2 => jx_B l1 40 ∧ (jx_lp (fun B15v v15 => wp_M_layNode_15 Q l1 r2 B15v v15.1 v15.2) ((jx_su sM 8 l1 0), 0))) sM l1
def wp_M_lay_38 (Q : jx_St → Prop) (B18 : jx_St × Int → Prop) (K44 : jx_St → Prop) (sM : jx_St) (l1 : Int) (l2 : Int) : Prop :=
  B18 (sM, (l2 + 1))
def wp_M_lay_18 (Q : jx_St → Prop) (K44 : jx_St → Prop) (l1 : Int) (B18 : jx_St × Int → Prop) (sM : jx_St) (l2 : Int) : Prop :=
  jx_R l2 ∧ ((l2 < 40 → wp_M_levelOf (fun r26 => jx_R r26 ∧ jx_R l1 ∧ ((r26 = l1 → wp_M_layNode (fun sM_35 => wp_M_lay_38 Q B18 K44 sM_35 l1 l2) sM l2) ∧ (¬ r26 = l1 → wp_M_lay_38 Q B18 K44 sM l1 l2))) sM l2) ∧ (¬ l2 < 40 → K44 sM))
def wp_M_lay_44 (Q : jx_St → Prop) (B2 : jx_St × Int → Prop) (sM : jx_St) (l1 : Int) : Prop :=
  B2 (sM, (l1 + 1))
def wp_M_lay_2 (Q : jx_St → Prop) (B2 : jx_St × Int → Prop) (sM : jx_St) (l1 : Int) : Prop :=
  wp_M_levelOf (fun r10 => jx_R l1 ∧ jx_R r10 ∧ ((l1 ≤ r10 → jx_lp (fun B18v v18 => wp_M_lay_18 Q (fun w18 => wp_M_lay_44 Q B2 w18 l1) l1 B18v v18.1 v18.2) (sM, 0)) ∧ (¬ l1 ≤ r10 → Q sM))) sM (sM 0 0)
def wp_M_lay (Q : jx_St → Prop) (sM : jx_St) : Prop :=
  jx_lp (fun B2v v2 => wp_M_lay_2 Q B2v v2.1 v2.2) (sM, 0)
def wp_M_takes_one_3 (Q : jx_St → Prop) (l2 : Int) (l3 : Int) (B3 : jx_St × Int → Prop) (sM : jx_St) (l4 : Int) : Prop :=
  jx_R l4 ∧ ((l4 < 4 → wp_M_side (fun r17 => jx_B l4 4 ∧ (B3 ((jx_su sM 9 l4 r17), (l4 + 1)))) sM l2 l3 l4) ∧ (¬ l4 < 4 → Q sM))
def wp_M_takes_one (Q : jx_St → Prop) (sM : jx_St) (l2 : Int) (l3 : Int) : Prop :=
  jx_lp (fun B3v v3 => wp_M_takes_one_3 Q l2 l3 B3v v3.1 v3.2) (sM, 0)
def wp_M_areas_50 (Q : Int → jx_St → Prop) (B8 : jx_St × Int × Int → Prop) (sM : jx_St) (l1 : Int) (l2 : Int) : Prop :=
  B8 (sM, l1, (l2 + 1))
def wp_M_areas_8 (Q : Int → jx_St → Prop) (B8 : jx_St × Int × Int → Prop) (sM : jx_St) (l1 : Int) (l2 : Int) : Prop :=
  jx_R l2 ∧ ((l2 < 40 → wp_M_levelOf (fun r16 => jx_R r16 ∧ ((r16 = 0 → wp_M_manyOf (fun r24 => jx_R r24 ∧ ((r24 ≤ 0 → wp_M_areas_50 Q B8 sM l1 l2) ∧ (¬ r24 ≤ 0 → wp_M_takes_one (fun sM_37 => wp_M_areas_50 Q B8 sM_37 (l1 + (jx_area (sM_37 9))) l2) sM l2 1))) sM l2) ∧ (¬ r16 = 0 → wp_M_areas_50 Q B8 sM l1 l2))) sM l2) ∧ (¬ l2 < 40 → Q l1 sM))
def wp_M_areas (Q : Int → jx_St → Prop) (sM : jx_St) : Prop :=
  wp_M_lay (fun sM_1 => jx_lp (fun B8v v8 => wp_M_areas_8 Q B8v v8.1 v8.2.1 v8.2.2) (sM_1, 0, 0)) sM 
def wp_M_back_2 (Q : jx_St → Prop) (B2 : jx_St × Int → Prop) (sM : jx_St) (l1 : Int) : Prop :=
  jx_R l1 ∧ ((l1 < 439 → jx_B l1 439 ∧ (jx_B l1 439 ∧ (B2 ((jx_su sM 0 l1 (sM 1 l1)), (l1 + 1))))) ∧ (¬ l1 < 439 → Q sM))
def wp_M_back (Q : jx_St → Prop) (sM : jx_St) : Prop :=
  jx_lp (fun B2v v2 => wp_M_back_2 Q B2v v2.1 v2.2) (sM, 0)
def wp_M_boxMany_4 (Q : Int → Prop) (sM : jx_St) (B4 : Int × Int → Prop) (l1 : Int) (l2 : Int) : Prop :=
  jx_R l2 ∧ ((l2 < 31 → jx_B (4 + l2) 439 ∧ (B4 ((l1 + (sM 0 (4 + l2))), (l2 + 1)))) ∧ (¬ l2 < 31 → Q l1))
def wp_M_boxMany (Q : Int → Prop) (sM : jx_St) : Prop :=
  jx_lp (fun B4v v4 => wp_M_boxMany_4 Q sM B4v v4.1 v4.2) (0, 0)
def wp_M_isBox (Q : Int → Prop) (l0 : Int) : Prop :=
  wp_M_in (fun r4 => (r4 = 0 ∨ r4 = 1) ∧ Q r4)  l0 0 30
def wp_M_isThere (Q : Int → Prop) (sM : jx_St) (l1 : Int) : Prop :=
  jx_B (4 + l1) 439 ∧ (jx_R (sM 0 (4 + l1)) ∧ (((sM 0 (4 + l1)) = 1 → Q 1) ∧ (¬ (sM 0 (4 + l1)) = 1 → Q 0)))
def wp_M_placeIn_2 (Q : Int → Prop) (sM : jx_St) (l1 : Int) (l2 : Int) (B2 : Int → Prop) (l3 : Int) : Prop :=
  wp_M_manyOf (fun r5 => jx_R l3 ∧ jx_R r5 ∧ ((l3 < r5 → wp_M_thing (fun r14 => jx_R r14 ∧ jx_R l2 ∧ ((r14 = l2 → Q l3) ∧ (¬ r14 = l2 → B2 (l3 + 1)))) sM l1 l3) ∧ (¬ l3 < r5 → Q (-1)))) sM l1
def wp_M_placeIn (Q : Int → Prop) (sM : jx_St) (l1 : Int) (l2 : Int) : Prop :=
  jx_lp (fun B2v v2 => wp_M_placeIn_2 Q sM l1 l2 B2v v2) 0
def wp_M_holder_28 (Q : Int → Prop) (sM : jx_St) (l1 : Int) (l2 : Int) (B2 : Int → Prop) (l3 : Int) : Prop :=
  B2 (l3 + 1)
def wp_M_holder_2 (Q : Int → Prop) (sM : jx_St) (l1 : Int) (l2 : Int) (B2 : Int → Prop) (l3 : Int) : Prop :=
  jx_R l3 ∧ ((l3 < 40 → wp_M_levelOf (fun r10 => jx_R r10 ∧ jx_R l2 ∧ ((r10 = l2 → wp_M_placeIn (fun r20 => jx_R r20 ∧ ((r20 < 0 → wp_M_holder_28 Q sM l1 l2 B2 l3) ∧ (¬ r20 < 0 → Q l3))) sM l3 l1) ∧ (¬ r10 = l2 → wp_M_holder_28 Q sM l1 l2 B2 l3))) sM l3) ∧ (¬ l3 < 40 → Q (-1)))
def wp_M_holder (Q : Int → Prop) (sM : jx_St) (l1 : Int) (l2 : Int) : Prop :=
  jx_lp (fun B2v v2 => wp_M_holder_2 Q sM l1 l2 B2v v2) 0
def wp_M_layRow_50 (Q : jx_St → Prop) (l1 : Int) (K94 : jx_St × Int → Prop) (l2 : Int) (l4 : Int) (B50 : jx_St × Int × Int → Prop) (sM : jx_St) (l3 : Int) (l5 : Int) : Prop :=
  jx_B l4 40 ∧ (wp_M_manyOf (fun r60 => jx_R l5 ∧ jx_R r60 ∧ ((l5 < r60 → jx_B l4 40 ∧ (wp_M_thing (fun r81 => jx_B l3 40 ∧ (B50 ((jx_su sM 26 l3 r81), (l3 + 1), (l5 + 1)))) sM (sM 25 l4) l5)) ∧ (¬ l5 < r60 → K94 (sM, l3)))) sM (sM 25 l4))
def wp_M_layRow_94 (Q : jx_St → Prop) (l1 : Int) (B38 : jx_St × Int × Int → Prop) (K100 : jx_St × Int → Prop) (sM : jx_St) (l2 : Int) (l3 : Int) (l4 : Int) : Prop :=
  B38 (sM, l3, (l4 + 1))
def wp_M_layRow_38 (Q : jx_St → Prop) (l1 : Int) (K100 : jx_St × Int → Prop) (l2 : Int) (B38 : jx_St × Int × Int → Prop) (sM : jx_St) (l3 : Int) (l4 : Int) : Prop :=
  jx_R l4 ∧ jx_R (sM 27 0) ∧ ((l4 < (sM 27 0) → jx_lp (fun B50v v50 => wp_M_layRow_50 Q l1 (fun w50 => wp_M_layRow_94 Q l1 B38 K100 w50.1 l2 w50.2 l4) l2 l4 B50v v50.1 v50.2.1 v50.2.2) (sM, l3, 0)) ∧ (¬ l4 < (sM 27 0) → K100 (sM, l3)))
def wp_M_layRow_103 (Q : jx_St → Prop) (l1 : Int) (K129 : jx_St → Prop) (l2 : Int) (l3 : Int) (B103 : jx_St × Int → Prop) (sM : jx_St) (l4 : Int) : Prop :=
  jx_R l4 ∧ jx_R l3 ∧ ((l4 < l3 → jx_B l4 40 ∧ (jx_B l4 40 ∧ (B103 ((jx_su sM 25 l4 (sM 26 l4)), (l4 + 1))))) ∧ (¬ l4 < l3 → K129 sM))
def wp_M_layRow_129 (Q : jx_St → Prop) (l1 : Int) (B28 : jx_St × Int → Prop) (sM : jx_St) (l2 : Int) (l3 : Int) : Prop :=
  B28 ((jx_su sM 27 0 l3), (l2 + (-1)))
def wp_M_layRow_100 (Q : jx_St → Prop) (l1 : Int) (B28 : jx_St × Int → Prop) (sM : jx_St) (l2 : Int) (l3 : Int) : Prop :=
  jx_lp (fun B103v v103 => wp_M_layRow_103 Q l1 (fun w103 => wp_M_layRow_129 Q l1 B28 w103 l2 l3) l2 l3 B103v v103.1 v103.2) (sM, 0)
def wp_M_layRow_28 (Q : jx_St → Prop) (l1 : Int) (B28 : jx_St × Int → Prop) (sM : jx_St) (l2 : Int) : Prop :=
  jx_R l2 ∧ jx_R l1 ∧ ((l2 ≤ l1 → Q sM) ∧ (¬ l2 ≤ l1 → jx_lp (fun B38v v38 => wp_M_layRow_38 Q l1 (fun w38 => wp_M_layRow_100 Q l1 B28 w38.1 l2 w38.2) l2 B38v v38.1 v38.2.1 v38.2.2) (sM, 0, 0)))
def wp_M_layRow (Q : jx_St → Prop) (sM : jx_St) (l1 : Int) : Prop :=
  wp_M_levelOf (fun r24 => jx_lp (fun B28v v28 => wp_M_layRow_28 Q l1 B28v v28.1 v28.2) ((jx_su (jx_su sM 25 0 (sM 0 0)) 27 0 1), r24)) (jx_su (jx_su sM 25 0 (sM 0 0)) 27 0 1) ((jx_su (jx_su sM 25 0 (sM 0 0)) 27 0 1) 0 0)
def wp_M_placeOf_11 (Q : Int → jx_St → Prop) (l1 : Int) (sM : jx_St) (B11 : Int → Prop) (l2 : Int) : Prop :=
  jx_B l2 40 ∧ (jx_R (sM 25 l2) ∧ jx_R l1 ∧ (((sM 25 l2) = l1 → Q l2 sM) ∧ (¬ (sM 25 l2) = l1 → B11 (l2 + 1))))
def wp_M_placeOf (Q : Int → jx_St → Prop) (sM : jx_St) (l1 : Int) : Prop :=
  wp_M_levelOf (fun r3 => wp_M_layRow (fun sM_6 => jx_lp (fun B11v v11 => wp_M_placeOf_11 Q l1 sM_6 B11v v11) 0) sM r3) sM l1
def wp_M_boxOf_45 (Q : Int → jx_St → Prop) (l1 : Int) (l2 : Int) (sM : jx_St) (t0 : Int) : Prop :=
  jx_R l2 ∧ ((l2 < 4 → jx_B ((35 + (4 * l1)) + l2) 439 ∧ (Q (sM 0 ((35 + (4 * l1)) + l2)) sM)) ∧ (¬ l2 < 4 → jx_R l2 ∧ ((l2 = 4 → wp_M_placeOf (fun r74 sM_74 => Q r74 sM_74) sM t0) ∧ (¬ l2 = 4 → wp_M_placeIn (fun r83 => Q r83 sM) sM t0 l1))))
def wp_M_boxOf (Q : Int → jx_St → Prop) (sM : jx_St) (l1 : Int) (l2 : Int) : Prop :=
  wp_M_isBox (fun r1 => jx_R r1 ∧ ((r1 = 0 → Q (-1000001) sM) ∧ (¬ r1 = 0 → wp_M_in (fun r10 => jx_R r10 ∧ ((r10 = 0 → Q (-1000001) sM) ∧ (¬ r10 = 0 → wp_M_isThere (fun r21 => jx_R r21 ∧ ((r21 = 0 → Q (-1000004) sM) ∧ (¬ r21 = 0 → jx_R l2 ∧ ((l2 < 4 → wp_M_boxOf_45 Q l1 l2 sM (-1)) ∧ (¬ l2 < 4 → wp_M_holder (fun r42 => wp_M_boxOf_45 Q l1 l2 sM r42) sM l1 0))))) sM l1)))  l2 0 5)))  l1
def wp_M_clearText (Q : Int → jx_St → Prop) (sM : jx_St) : Prop :=
  Q (sM 6 0) (jx_su sM 6 0 0)
def wp_M_puts_7 (Q : jx_St → Prop) (l1 : Int) (l2 : Int) (l3 : Int) (K43 : jx_St → Prop) (B7 : jx_St × Int → Prop) (sM : jx_St) (l4 : Int) : Prop :=
  jx_R l4 ∧ jx_R l2 ∧ ((l4 ≤ l2 → K43 sM) ∧ (¬ l4 ≤ l2 → wp_M_thing (fun r33 => jx_B ((239 + (5 * l1)) + l4) 439 ∧ (B7 ((jx_su sM 0 ((239 + (5 * l1)) + l4) r33), (l4 + (-1))))) sM l1 (l4 - 1)))
def wp_M_puts_43 (Q : jx_St → Prop) (l1 : Int) (l2 : Int) (l3 : Int) (sM : jx_St) : Prop :=
  jx_B ((239 + (5 * l1)) + l2) 439 ∧ (jx_B (199 + l1) 439 ∧ (jx_B (199 + l1) 439 ∧ (Q (jx_su (jx_su sM 0 ((239 + (5 * l1)) + l2) l3) 0 (199 + l1) (((jx_su sM 0 ((239 + (5 * l1)) + l2) l3) 0 (199 + l1)) + 1)))))
def wp_M_puts (Q : jx_St → Prop) (sM : jx_St) (l1 : Int) (l2 : Int) (l3 : Int) : Prop :=
  wp_M_manyOf (fun r2 => jx_lp (fun B7v v7 => wp_M_puts_7 Q l1 l2 l3 (fun w7 => wp_M_puts_43 Q l1 l2 l3 w7) B7v v7.1 v7.2) (sM, r2)) sM l1
def wp_M_newNode_2 (Q : Int → jx_St → Prop) (l1 : Int) (K17 : Int → Prop) (sM : jx_St) (B2 : Int → Prop) (l2 : Int) : Prop :=
  wp_M_levelOf (fun r4 => jx_R r4 ∧ ((r4 = (-1) → K17 l2) ∧ (¬ r4 = (-1) → B2 (l2 + 1)))) sM l2
def wp_M_newNode_17 (Q : Int → jx_St → Prop) (l1 : Int) (sM : jx_St) (l2 : Int) : Prop :=
  jx_B (159 + l2) 439 ∧ (jx_B (199 + l2) 439 ∧ (Q l2 (jx_su (jx_su sM 0 (159 + l2) l1) 0 (199 + l2) 0)))
def wp_M_newNode (Q : Int → jx_St → Prop) (sM : jx_St) (l1 : Int) : Prop :=
  jx_lp (fun B2v v2 => wp_M_newNode_2 Q l1 (fun w2 => wp_M_newNode_17 Q l1 sM w2) sM B2v v2) 0
def wp_M_sorts_115 (Q : jx_St → Prop) (l1 : Int) (l2 : Int) (B28 : jx_St × Int → Prop) (K137 : jx_St × Int → Prop) (sM : jx_St) (l3 : Int) (l4 : Int) (l5 : Int) (l6 : Int) : Prop :=
  jx_B (l6 - 1) 5 ∧ (jx_B l6 5 ∧ (B28 ((jx_su sM 21 l6 (sM 21 (l6 - 1))), (l6 + (-1)))))
def wp_M_sorts_28 (Q : jx_St → Prop) (l1 : Int) (l2 : Int) (K137 : jx_St × Int → Prop) (l3 : Int) (l4 : Int) (l5 : Int) (B28 : jx_St × Int → Prop) (sM : jx_St) (l6 : Int) : Prop :=
  jx_R l6 ∧ ((l6 ≤ 0 → K137 (sM, l6)) ∧ (¬ l6 ≤ 0 → jx_B (l6 - 1) 5 ∧ (wp_M_side (fun r45 => wp_M_side (fun r53 => jx_R r45 ∧ jx_R r53 ∧ ((r45 ≤ r53 → jx_B (l6 - 1) 5 ∧ (wp_M_side (fun r71 => wp_M_side (fun r79 => jx_R r71 ∧ jx_R r79 ∧ ((r71 = r79 → jx_B (l6 - 1) 5 ∧ (wp_M_side (fun r99 => wp_M_side (fun r109 => jx_R r99 ∧ jx_R r109 ∧ ((r99 ≤ r109 → K137 (sM, l6)) ∧ (¬ r99 ≤ r109 → wp_M_sorts_115 Q l1 l2 B28 K137 sM l3 l4 l5 l6))) sM l5 l3 (2 + l2)) sM (sM 21 (l6 - 1)) l3 (2 + l2))) ∧ (¬ r71 = r79 → K137 (sM, l6)))) sM l5 l3 l2) sM (sM 21 (l6 - 1)) l3 l2)) ∧ (¬ r45 ≤ r53 → wp_M_sorts_115 Q l1 l2 B28 K137 sM l3 l4 l5 l6))) sM l5 l3 l2) sM (sM 21 (l6 - 1)) l3 l2)))
def wp_M_sorts_137 (Q : jx_St → Prop) (l1 : Int) (l2 : Int) (B9 : jx_St × Int → Prop) (sM : jx_St) (l3 : Int) (l4 : Int) (l5 : Int) (l6 : Int) : Prop :=
  jx_B l6 5 ∧ (B9 ((jx_su sM 21 l6 l5), (l4 + 1)))
def wp_M_sorts_9 (Q : jx_St → Prop) (l1 : Int) (l2 : Int) (l3 : Int) (B9 : jx_St × Int → Prop) (sM : jx_St) (l4 : Int) : Prop :=
  jx_R l4 ∧ ((l4 < 5 → wp_M_thing (fun r19 => jx_lp (fun B28v v28 => wp_M_sorts_28 Q l1 l2 (fun w28 => wp_M_sorts_137 Q l1 l2 B9 w28.1 l3 l4 r19 w28.2) l3 l4 r19 B28v v28.1 v28.2) (sM, l4)) sM l1 l4) ∧ (¬ l4 < 5 → Q sM))
def wp_M_sorts (Q : jx_St → Prop) (sM : jx_St) (l1 : Int) (l2 : Int) : Prop :=
  wp_M_levelOf (fun r2 => jx_lp (fun B9v v9 => wp_M_sorts_9 Q l1 l2 r2 B9v v9.1 v9.2) (sM, 0)) sM l1
def wp_M_takes_two_3 (Q : jx_St → Prop) (l2 : Int) (l3 : Int) (B3 : jx_St × Int → Prop) (sM : jx_St) (l4 : Int) : Prop :=
  jx_R l4 ∧ ((l4 < 4 → wp_M_side (fun r17 => jx_B l4 4 ∧ (B3 ((jx_su sM 10 l4 r17), (l4 + 1)))) sM l2 l3 l4) ∧ (¬ l4 < 4 → Q sM))
def wp_M_takes_two (Q : jx_St → Prop) (sM : jx_St) (l2 : Int) (l3 : Int) : Prop :=
  jx_lp (fun B3v v3 => wp_M_takes_two_3 Q l2 l3 B3v v3.1 v3.2) (sM, 0)
def wp_M_common (Q : Int → Prop) (sM : jx_St) : Prop :=
  wp_M_least (fun r12 => wp_M_most (fun r27 => wp_M_least (fun r44 => wp_M_most (fun r59 => jx_R (r12 - r27) ∧ (((r12 - r27) ≤ 0 → Q 0) ∧ (¬ (r12 - r27) ≤ 0 → jx_R (r44 - r59) ∧ (((r44 - r59) ≤ 0 → Q 0) ∧ (¬ (r44 - r59) ≤ 0 → Q ((r12 - r27) * (r44 - r59)))))))  (sM 9 1) (sM 10 1))  (sM 9 3) (sM 10 3))  (sM 9 0) (sM 10 0))  (sM 9 2) (sM 10 2)
def wp_M_widens_two_49 (Q : jx_St → Prop) (l2 : Int) (l3 : Int) (B3 : jx_St × Int → Prop) (sM : jx_St) (l4 : Int) (t1 : Int) (t2 : Int) : Prop :=
  jx_B t1 4 ∧ (B3 ((jx_su sM 10 t1 t2), (l4 + 1)))
def wp_M_widens_two_3 (Q : jx_St → Prop) (l2 : Int) (l3 : Int) (B3 : jx_St × Int → Prop) (sM : jx_St) (l4 : Int) : Prop :=
  jx_R l4 ∧ ((l4 < 4 → wp_M_side (fun r14 => jx_R l4 ∧ ((l4 < 2 → jx_B l4 4 ∧ (wp_M_least (fun r34 => wp_M_widens_two_49 Q l2 l3 B3 sM l4 l4 r34)  (sM 10 l4) r14)) ∧ (¬ l4 < 2 → jx_B l4 4 ∧ (wp_M_most (fun r46 => wp_M_widens_two_49 Q l2 l3 B3 sM l4 l4 r46)  (sM 10 l4) r14)))) sM l2 l3 l4) ∧ (¬ l4 < 4 → Q sM))
def wp_M_widens_two (Q : jx_St → Prop) (sM : jx_St) (l2 : Int) (l3 : Int) : Prop :=
  jx_lp (fun B3v v3 => wp_M_widens_two_3 Q l2 l3 B3v v3.1 v3.2) (sM, 0)
def wp_M_widens_one_49 (Q : jx_St → Prop) (l2 : Int) (l3 : Int) (B3 : jx_St × Int → Prop) (sM : jx_St) (l4 : Int) (t1 : Int) (t2 : Int) : Prop :=
  jx_B t1 4 ∧ (B3 ((jx_su sM 9 t1 t2), (l4 + 1)))
def wp_M_widens_one_3 (Q : jx_St → Prop) (l2 : Int) (l3 : Int) (B3 : jx_St × Int → Prop) (sM : jx_St) (l4 : Int) : Prop :=
  jx_R l4 ∧ ((l4 < 4 → wp_M_side (fun r14 => jx_R l4 ∧ ((l4 < 2 → jx_B l4 4 ∧ (wp_M_least (fun r34 => wp_M_widens_one_49 Q l2 l3 B3 sM l4 l4 r34)  (sM 9 l4) r14)) ∧ (¬ l4 < 2 → jx_B l4 4 ∧ (wp_M_most (fun r46 => wp_M_widens_one_49 Q l2 l3 B3 sM l4 l4 r46)  (sM 9 l4) r14)))) sM l2 l3 l4) ∧ (¬ l4 < 4 → Q sM))
def wp_M_widens_one (Q : jx_St → Prop) (sM : jx_St) (l2 : Int) (l3 : Int) : Prop :=
  jx_lp (fun B3v v3 => wp_M_widens_one_3 Q l2 l3 B3v v3.1 v3.2) (sM, 0)
def wp_M_splits_103 (Q : Int → jx_St → Prop) (l1 : Int) (B78 : jx_St × Int → Prop) (K120 : jx_St → Prop) (sM : jx_St) (l2 : Int) (l3 : Int) (l4 : Int) (l5 : Int) (l6 : Int) (l7 : Int) (l8 : Int) : Prop :=
  jx_B l8 5 ∧ (wp_M_widens_two (fun sM_111 => B78 (sM_111, (l8 + 1))) sM (sM 21 l8) l2)
def wp_M_splits_103_1 (Q : Int → jx_St → Prop) (l1 : Int) (B78 : jx_St × Int → Prop) (K120 : jx_St → Prop) (sM : jx_St) (l2 : Int) (l3 : Int) (l4 : Int) (l5 : Int) (l6 : Int) (l7 : Int) (l8 : Int) : Prop :=
  jx_B l8 5 ∧ (wp_M_widens_one (fun sM_111 => B78 (sM_111, (l8 + 1))) sM (sM 21 l8) l2)
def wp_M_splits_78 (Q : Int → jx_St → Prop) (l1 : Int) (K120 : jx_St → Prop) (l2 : Int) (l3 : Int) (l4 : Int) (l5 : Int) (l6 : Int) (l7 : Int) (B78 : jx_St × Int → Prop) (sM : jx_St) (l8 : Int) : Prop :=
  jx_R l8 ∧ ((l8 < 5 → jx_R l8 ∧ jx_R l7 ∧ ((l8 < l7 → wp_M_splits_103_1 Q l1 B78 K120 sM l2 l3 l4 l5 l6 l7 l8) ∧ (¬ l8 < l7 → wp_M_splits_103 Q l1 B78 K120 sM l2 l3 l4 l5 l6 l7 l8))) ∧ (¬ l8 < 5 → K120 sM))
def wp_M_splits_183 (Q : Int → jx_St → Prop) (l1 : Int) (K209 : jx_St → Prop) (l2 : Int) (l3 : Int) (l4 : Int) (l5 : Int) (l6 : Int) (B183 : jx_St × Int → Prop) (sM : jx_St) (l10 : Int) : Prop :=
  jx_R l10 ∧ ((l10 < 5 → jx_B l10 5 ∧ (jx_B l10 5 ∧ (B183 ((jx_su sM 22 l10 (sM 21 l10)), (l10 + 1))))) ∧ (¬ l10 < 5 → K209 sM))
def wp_M_splits_209 (Q : Int → jx_St → Prop) (l1 : Int) (B21 : jx_St × Int × Int × Int × Int → Prop) (K215 : jx_St × Int → Prop) (sM : jx_St) (l2 : Int) (l3 : Int) (l4 : Int) (l5 : Int) (l6 : Int) : Prop :=
  B21 (sM, l3, l4, l5, (l6 + 1))
def wp_M_splits_169 (Q : Int → jx_St → Prop) (l1 : Int) (B21 : jx_St × Int × Int × Int × Int → Prop) (K215 : jx_St × Int → Prop) (sM : jx_St) (l2 : Int) (l6 : Int) (l7 : Int) (l8 : Int) (l9 : Int) : Prop :=
  jx_lp (fun B183v v183 => wp_M_splits_183 Q l1 (fun w183 => wp_M_splits_209 Q l1 B21 K215 w183 l2 l7 l8 l9 l6) l2 l7 l8 l9 l6 B183v v183.1 v183.2) (sM, 0)
def wp_M_splits_120 (Q : Int → jx_St → Prop) (l1 : Int) (B21 : jx_St × Int × Int × Int × Int → Prop) (K215 : jx_St × Int → Prop) (sM : jx_St) (l2 : Int) (l3 : Int) (l4 : Int) (l5 : Int) (l6 : Int) (l7 : Int) : Prop :=
  wp_M_common (fun r121 => jx_R l3 ∧ ((l3 = (-1) → wp_M_splits_169 Q l1 B21 K215 sM l2 l6 l7 r121 ((jx_area (sM 9)) + (jx_area (sM 10)))) ∧ (¬ l3 = (-1) → jx_R r121 ∧ jx_R l4 ∧ ((r121 < l4 → wp_M_splits_169 Q l1 B21 K215 sM l2 l6 l7 r121 ((jx_area (sM 9)) + (jx_area (sM 10)))) ∧ (¬ r121 < l4 → jx_R r121 ∧ jx_R l4 ∧ ((r121 = l4 → jx_R ((jx_area (sM 9)) + (jx_area (sM 10))) ∧ jx_R l5 ∧ ((((jx_area (sM 9)) + (jx_area (sM 10))) < l5 → wp_M_splits_169 Q l1 B21 K215 sM l2 l6 l7 r121 ((jx_area (sM 9)) + (jx_area (sM 10)))) ∧ (¬ ((jx_area (sM 9)) + (jx_area (sM 10))) < l5 → wp_M_splits_209 Q l1 B21 K215 sM l2 l3 l4 l5 l6))) ∧ (¬ r121 = l4 → wp_M_splits_209 Q l1 B21 K215 sM l2 l3 l4 l5 l6))))))) sM 
def wp_M_splits_21 (Q : Int → jx_St → Prop) (l1 : Int) (K215 : jx_St × Int → Prop) (l2 : Int) (B21 : jx_St × Int × Int × Int × Int → Prop) (sM : jx_St) (l3 : Int) (l4 : Int) (l5 : Int) (l6 : Int) : Prop :=
  jx_R l6 ∧ ((l6 < 4 → wp_M_sorts (fun sM_33 => wp_M_takes_one (fun sM_56 => jx_B (2 + (jx_rem l6 2)) 5 ∧ (wp_M_takes_two (fun sM_72 => jx_lp (fun B78v v78 => wp_M_splits_78 Q l1 (fun w78 => wp_M_splits_120 Q l1 B21 K215 w78 l2 l3 l4 l5 l6 (2 + (jx_rem l6 2))) l2 l3 l4 l5 l6 (2 + (jx_rem l6 2)) B78v v78.1 v78.2) (sM_72, 1)) sM_56 (sM_56 21 (2 + (jx_rem l6 2))) l2)) sM_33 (sM_33 21 0) l2) sM l1 (jx_div l6 2)) ∧ (¬ l6 < 4 → K215 (sM, l3)))
def wp_M_splits_254 (Q : Int → jx_St → Prop) (l1 : Int) (B236 : jx_St × Int → Prop) (K281 : jx_St → Prop) (sM : jx_St) (l3 : Int) (l6 : Int) (l7 : Int) (t0 : Int) : Prop :=
  wp_M_manyOf (fun r262 => jx_B l7 5 ∧ (wp_M_puts (fun sM_272 => B236 (sM_272, (l7 + 1))) sM t0 r262 (sM 22 l7))) sM t0
def wp_M_splits_236 (Q : Int → jx_St → Prop) (l1 : Int) (K281 : jx_St → Prop) (l3 : Int) (l6 : Int) (B236 : jx_St × Int → Prop) (sM : jx_St) (l7 : Int) : Prop :=
  jx_R l7 ∧ ((l7 < 5 → jx_R l7 ∧ jx_R l3 ∧ ((l7 < l3 → wp_M_splits_254 Q l1 B236 K281 sM l3 l6 l7 l1) ∧ (¬ l7 < l3 → wp_M_splits_254 Q l1 B236 K281 sM l3 l6 l7 l6))) ∧ (¬ l7 < 5 → K281 sM))
def wp_M_splits_281 (Q : Int → jx_St → Prop) (l1 : Int) (sM : jx_St) (l6 : Int) : Prop :=
  Q l6 (jx_su sM 0 2 ((sM 0 2) + 1))
def wp_M_splits_215 (Q : Int → jx_St → Prop) (l1 : Int) (sM : jx_St) (l2 : Int) (l3 : Int) : Prop :=
  wp_M_newNode (fun r217 sM_217 => jx_B (199 + l1) 439 ∧ (jx_lp (fun B236v v236 => wp_M_splits_236 Q l1 (fun w236 => wp_M_splits_281 Q l1 w236 r217) l3 r217 B236v v236.1 v236.2) ((jx_su sM_217 0 (199 + l1) 0), 0))) sM l2
def wp_M_splits (Q : Int → jx_St → Prop) (sM : jx_St) (l1 : Int) : Prop :=
  wp_M_levelOf (fun r2 => wp_M_lay (fun sM_7 => jx_lp (fun B21v v21 => wp_M_splits_21 Q l1 (fun w21 => wp_M_splits_215 Q l1 w21.1 r2 w21.2) r2 B21v v21.1 v21.2.1 v21.2.2.1 v21.2.2.2.1 v21.2.2.2.2) (sM_7, (-1), 0, 0, 0)) sM ) sM l1
def wp_M_farOf_77 (Q : Int → Prop) (sM : jx_St) (l1 : Int) (l2 : Int) (B8 : Int × Int × Int → Prop) (K86 : Int × Int → Prop) (l3 : Int) (l5 : Int) (t0 : Int) (t1 : Int) : Prop :=
  B8 (l3, (t0 + t1), (l5 + 1))
def wp_M_farOf_59 (Q : Int → Prop) (sM : jx_St) (l1 : Int) (l2 : Int) (B8 : Int × Int × Int → Prop) (K86 : Int × Int → Prop) (l4 : Int) (l5 : Int) (l6 : Int) (t0 : Int) (t1 : Int) : Prop :=
  jx_R (jx_rem l5 2) ∧ (((jx_rem l5 2) = 1 → wp_M_farOf_77 Q sM l1 l2 B8 K86 (t0 + t1) l5 l4 l6) ∧ (¬ (jx_rem l5 2) = 1 → wp_M_farOf_77 Q sM l1 l2 B8 K86 (t0 + t1) l5 l4 0))
def wp_M_farOf_8 (Q : Int → Prop) (sM : jx_St) (l1 : Int) (l2 : Int) (K86 : Int × Int → Prop) (B8 : Int × Int × Int → Prop) (l3 : Int) (l4 : Int) (l5 : Int) : Prop :=
  jx_R l5 ∧ ((l5 < 4 → wp_M_thing (fun r18 => wp_M_levelOf (fun r23 => wp_M_side (fun r28 => jx_B ((4 * l1) + l5) 160 ∧ (jx_R (jx_rem l5 2) ∧ (((jx_rem l5 2) = 0 → wp_M_farOf_59 Q sM l1 l2 B8 K86 l4 l5 (r28 - (sM 7 ((4 * l1) + l5))) l3 (r28 - (sM 7 ((4 * l1) + l5)))) ∧ (¬ (jx_rem l5 2) = 0 → wp_M_farOf_59 Q sM l1 l2 B8 K86 l4 l5 (r28 - (sM 7 ((4 * l1) + l5))) l3 0)))) sM r18 r23 l5) sM l1) sM l1 l2) ∧ (¬ l5 < 4 → K86 (l3, l4)))
def wp_M_farOf_86 (Q : Int → Prop) (sM : jx_St) (l1 : Int) (l2 : Int) (l3 : Int) (l4 : Int) : Prop :=
  Q ((l3 * l3) + (l4 * l4))
def wp_M_farOf (Q : Int → Prop) (sM : jx_St) (l1 : Int) (l2 : Int) : Prop :=
  jx_lp (fun B8v v8 => wp_M_farOf_8 Q sM l1 l2 (fun w8 => wp_M_farOf_86 Q sM l1 l2 w8.1 w8.2) B8v v8.1 v8.2.1 v8.2.2) (0, 0, 0)
def wp_M_farthest_45 (Q : Int → Prop) (sM : jx_St) (l1 : Int) (l2 : Int) (B5 : Int × Int → Prop) (l3 : Int) (l4 : Int) : Prop :=
  B5 (l3, (l4 + 1))
def wp_M_farthest_42 (Q : Int → Prop) (sM : jx_St) (l1 : Int) (l2 : Int) (B5 : Int × Int → Prop) (l4 : Int) : Prop :=
  wp_M_farthest_45 Q sM l1 l2 B5 l4 l4
def wp_M_farthest_5 (Q : Int → Prop) (sM : jx_St) (l1 : Int) (l2 : Int) (B5 : Int × Int → Prop) (l3 : Int) (l4 : Int) : Prop :=
  wp_M_manyOf (fun r9 => jx_R l4 ∧ jx_R r9 ∧ ((l4 < r9 → jx_R l4 ∧ jx_R l2 ∧ ((l4 = l2 → wp_M_farthest_45 Q sM l1 l2 B5 l3 l4) ∧ (¬ l4 = l2 → jx_R l3 ∧ ((l3 = (-1) → wp_M_farthest_42 Q sM l1 l2 B5 l4) ∧ (¬ l3 = (-1) → wp_M_farOf (fun r30 => wp_M_farOf (fun r36 => jx_R r30 ∧ jx_R r36 ∧ ((r30 < r36 → wp_M_farthest_45 Q sM l1 l2 B5 l3 l4) ∧ (¬ r30 < r36 → wp_M_farthest_42 Q sM l1 l2 B5 l4))) sM l1 l3) sM l1 l4))))) ∧ (¬ l4 < r9 → Q l3))) sM l1
def wp_M_farthest (Q : Int → Prop) (sM : jx_St) (l1 : Int) (l2 : Int) : Prop :=
  jx_lp (fun B5v v5 => wp_M_farthest_5 Q sM l1 l2 B5v v5.1 v5.2) ((-1), 0)
def wp_M_drops_16 (Q : jx_St → Prop) (l1 : Int) (l2 : Int) (B16 : jx_St × Int → Prop) (sM : jx_St) (l3 : Int) : Prop :=
  wp_M_manyOf (fun r19 => jx_R l3 ∧ jx_R r19 ∧ ((l3 < r19 → wp_M_thing (fun r43 => jx_B ((239 + (5 * l1)) + l3) 439 ∧ (B16 ((jx_su sM 0 ((239 + (5 * l1)) + l3) r43), (l3 + 1)))) sM l1 (l3 + 1)) ∧ (¬ l3 < r19 → Q sM))) sM l1
def wp_M_drops (Q : jx_St → Prop) (sM : jx_St) (l1 : Int) (l2 : Int) : Prop :=
  jx_B (199 + l1) 439 ∧ (jx_B (199 + l1) 439 ∧ (jx_lp (fun B16v v16 => wp_M_drops_16 Q l1 l2 B16v v16.1 v16.2) ((jx_su sM 0 (199 + l1) ((sM 0 (199 + l1)) - 1)), l2)))
def wp_M_waits (Q : jx_St → Prop) (sM : jx_St) (l1 : Int) (l2 : Int) : Prop :=
  jx_B (sM 13 0) 24 ∧ (jx_B ((jx_su sM 11 (sM 13 0) l1) 13 0) 24 ∧ (Q (jx_su (jx_su (jx_su sM 11 (sM 13 0) l1) 12 ((jx_su sM 11 (sM 13 0) l1) 13 0) l2) 13 0 (((jx_su (jx_su sM 11 (sM 13 0) l1) 12 ((jx_su sM 11 (sM 13 0) l1) 13 0) l2) 13 0) + 1))))
def wp_M_court_159 (Q : jx_St → Prop) (l1 : Int) (sM : jx_St) (l2 : Int) (l3 : Int) (l4 : Int) (l6 : Int) (l7 : Int) (t1 : Int) (t2 : Int) : Prop :=
  jx_B t1 48 ∧ (wp_M_most (fun r185 => wp_M_drops (fun sM_188 => wp_M_least (fun r196 => wp_M_drops (fun sM_199 => wp_M_waits (fun sM_206 => wp_M_waits (fun sM_213 => Q sM_213) sM_206 l6 l2) sM_199 l7 l2) sM_188 l1 r196)  l3 l4) (jx_su (jx_su (jx_su sM 16 t1 t2) 17 0 (((jx_su sM 16 t1 t2) 17 0) + 1)) 0 1 (((jx_su (jx_su sM 16 t1 t2) 17 0 (((jx_su sM 16 t1 t2) 17 0) + 1)) 0 1) + 1)) l1 r185)  l3 l4)
def wp_M_court_101 (Q : jx_St → Prop) (l1 : Int) (sM : jx_St) (l2 : Int) (l3 : Int) (l4 : Int) (l6 : Int) (t1 : Int) (t2 : Int) : Prop :=
  wp_M_thing (fun r101 => jx_B ((jx_su sM 14 0 (jx_or (sM 14 0) (jx_shl 1 l2))) 17 0) 48 ∧ (jx_R l2 ∧ ((l2 = 0 → wp_M_court_159 Q l1 (jx_su (jx_su sM 14 0 (jx_or (sM 14 0) (jx_shl 1 l2))) 15 ((jx_su sM 14 0 (jx_or (sM 14 0) (jx_shl 1 l2))) 17 0) l2) l2 l3 l4 l6 r101 ((jx_su (jx_su sM 14 0 (jx_or (sM 14 0) (jx_shl 1 l2))) 15 ((jx_su sM 14 0 (jx_or (sM 14 0) (jx_shl 1 l2))) 17 0) l2) 17 0) 2) ∧ (¬ l2 = 0 → jx_B l6 40 ∧ (jx_B r101 40 ∧ (wp_M_court_159 Q l1 (jx_su (jx_su sM 14 0 (jx_or (sM 14 0) (jx_shl 1 l2))) 15 ((jx_su sM 14 0 (jx_or (sM 14 0) (jx_shl 1 l2))) 17 0) l2) l2 l3 l4 l6 r101 ((jx_su (jx_su sM 14 0 (jx_or (sM 14 0) (jx_shl 1 l2))) 15 ((jx_su sM 14 0 (jx_or (sM 14 0) (jx_shl 1 l2))) 17 0) l2) 17 0) (((jx_su (jx_su sM 14 0 (jx_or (sM 14 0) (jx_shl 1 l2))) 15 ((jx_su sM 14 0 (jx_or (sM 14 0) (jx_shl 1 l2))) 17 0) l2) 8 l6) + ((jx_su (jx_su sM 14 0 (jx_or (sM 14 0) (jx_shl 1 l2))) 15 ((jx_su sM 14 0 (jx_or (sM 14 0) (jx_shl 1 l2))) 17 0) l2) 8 r101)))))))) sM t1 t2
def wp_M_court_83 (Q : jx_St → Prop) (l1 : Int) (sM : jx_St) (l2 : Int) (l3 : Int) (l4 : Int) (l5 : Int) (t1 : Int) (t2 : Int) : Prop :=
  wp_M_thing (fun r83 => jx_R l5 ∧ ((l5 = 0 → wp_M_court_101 Q l1 sM l2 l3 l4 r83 l1 l3) ∧ (¬ l5 = 0 → wp_M_court_101 Q l1 sM l2 l3 l4 r83 l1 l4))) sM t1 t2
def wp_M_court_68 (Q : jx_St → Prop) (l1 : Int) (sM : jx_St) (l2 : Int) (l3 : Int) (l4 : Int) (t0 : Int) : Prop :=
  jx_R t0 ∧ ((t0 = 0 → wp_M_court_83 Q l1 sM l2 l3 l4 t0 l1 l4) ∧ (¬ t0 = 0 → wp_M_court_83 Q l1 sM l2 l3 l4 t0 l1 l3))
def wp_M_court_63 (Q : jx_St → Prop) (l1 : Int) (sM : jx_St) (l2 : Int) (l3 : Int) (l4 : Int) : Prop :=
  wp_M_court_68 Q l1 sM l2 l3 l4 1
def wp_M_court_67 (Q : jx_St → Prop) (l1 : Int) (sM : jx_St) (l2 : Int) (l3 : Int) (l4 : Int) : Prop :=
  wp_M_court_68 Q l1 sM l2 l3 l4 0
def wp_M_court (Q : jx_St → Prop) (sM : jx_St) (l1 : Int) : Prop :=
  wp_M_levelOf (fun r2 => wp_M_lay (fun sM_7 => wp_M_farthest (fun r13 => wp_M_farthest (fun r20 => wp_M_farOf (fun r28 => wp_M_farOf (fun r35 => jx_R r28 ∧ jx_R r35 ∧ ((r28 < r35 → wp_M_court_63 Q l1 sM_7 r2 r13 r20) ∧ (¬ r28 < r35 → wp_M_farOf (fun r44 => wp_M_farOf (fun r51 => jx_R r44 ∧ jx_R r51 ∧ ((r44 = r51 → jx_R r13 ∧ jx_R r20 ∧ ((r13 < r20 → wp_M_court_63 Q l1 sM_7 r2 r13 r20) ∧ (¬ r13 < r20 → wp_M_court_67 Q l1 sM_7 r2 r13 r20))) ∧ (¬ r44 = r51 → wp_M_court_67 Q l1 sM_7 r2 r13 r20))) sM_7 l1 r20) sM_7 l1 r13))) sM_7 l1 r20) sM_7 l1 r13) sM_7 l1 r13) sM_7 l1 (-1)) sM ) sM l1
def wp_M_wayOn_117 (Q : Int → jx_St → Prop) (l1 : Int) (l2 : Int) (l3 : Int) (B12 : jx_St × Int × Int × Int × Int → Prop) (sM : jx_St) (l4 : Int) (l5 : Int) (l6 : Int) (l7 : Int) : Prop :=
  B12 (sM, l4, l5, l6, (l7 + 1))
def wp_M_wayOn_100 (Q : Int → jx_St → Prop) (l1 : Int) (l2 : Int) (l3 : Int) (B12 : jx_St × Int × Int × Int × Int → Prop) (sM : jx_St) (l7 : Int) (l8 : Int) (l9 : Int) : Prop :=
  wp_M_thing (fun r104 => wp_M_wayOn_117 Q l1 l2 l3 B12 sM r104 l9 l8 l7) sM l1 l7
def wp_M_wayOn_12 (Q : Int → jx_St → Prop) (l1 : Int) (l2 : Int) (l3 : Int) (B12 : jx_St × Int × Int × Int × Int → Prop) (sM : jx_St) (l4 : Int) (l5 : Int) (l6 : Int) (l7 : Int) : Prop :=
  wp_M_manyOf (fun r16 => jx_R l7 ∧ jx_R r16 ∧ ((l7 < r16 → wp_M_thing (fun r31 => wp_M_levelOf (fun r36 => wp_M_takes_one (fun sM_39 => wp_M_widens_one (fun sM_58 => jx_R l4 ∧ ((l4 = (-1) → wp_M_wayOn_100 Q l1 l2 l3 B12 sM_58 l7 (jx_area (sM_39 9)) ((jx_area (sM_58 9)) - (jx_area (sM_39 9)))) ∧ (¬ l4 = (-1) → jx_R ((jx_area (sM_58 9)) - (jx_area (sM_39 9))) ∧ jx_R l5 ∧ ((((jx_area (sM_58 9)) - (jx_area (sM_39 9))) < l5 → wp_M_wayOn_100 Q l1 l2 l3 B12 sM_58 l7 (jx_area (sM_39 9)) ((jx_area (sM_58 9)) - (jx_area (sM_39 9)))) ∧ (¬ ((jx_area (sM_58 9)) - (jx_area (sM_39 9))) < l5 → jx_R ((jx_area (sM_58 9)) - (jx_area (sM_39 9))) ∧ jx_R l5 ∧ ((((jx_area (sM_58 9)) - (jx_area (sM_39 9))) = l5 → jx_R (jx_area (sM_39 9)) ∧ jx_R l6 ∧ (((jx_area (sM_39 9)) < l6 → wp_M_wayOn_100 Q l1 l2 l3 B12 sM_58 l7 (jx_area (sM_39 9)) ((jx_area (sM_58 9)) - (jx_area (sM_39 9)))) ∧ (¬ (jx_area (sM_39 9)) < l6 → wp_M_wayOn_117 Q l1 l2 l3 B12 sM_58 l4 l5 l6 l7))) ∧ (¬ ((jx_area (sM_58 9)) - (jx_area (sM_39 9))) = l5 → wp_M_wayOn_117 Q l1 l2 l3 B12 sM_58 l4 l5 l6 l7))))))) sM_39 l2 l3) sM r31 r36) sM l1) sM l1 l7) ∧ (¬ l7 < r16 → Q l4 sM))) sM l1
def wp_M_wayOn (Q : Int → jx_St → Prop) (sM : jx_St) (l1 : Int) (l2 : Int) (l3 : Int) : Prop :=
  jx_lp (fun B12v v12 => wp_M_wayOn_12 Q l1 l2 l3 B12v v12.1 v12.2.1 v12.2.2.1 v12.2.2.2.1 v12.2.2.2.2) (sM, (-1), 0, 0, 0)
def wp_M_comes_14 (Q : jx_St → Prop) (l1 : Int) (l2 : Int) (K48 : jx_St × Int × Int → Prop) (B14 : jx_St × Int × Int → Prop) (sM : jx_St) (l3 : Int) (l4 : Int) : Prop :=
  wp_M_levelOf (fun r17 => jx_R r17 ∧ jx_R l2 ∧ ((r17 ≤ l2 → K48 (sM, l3, l4)) ∧ (¬ r17 ≤ l2 → jx_B l3 40 ∧ (wp_M_wayOn (fun r40 sM_40 => B14 (sM_40, (l3 + 1), r40)) (jx_su sM 23 l3 l4) l4 l1 l2)))) sM l4
def wp_M_comes_216 (Q : jx_St → Prop) (l1 : Int) (l2 : Int) (B64 : jx_St × Int × Int × Int → Prop) (sM : jx_St) (l3 : Int) (l4 : Int) (l5 : Int) : Prop :=
  B64 (sM, l3, l4, l5)
def wp_M_comes_118 (Q : jx_St → Prop) (l1 : Int) (l2 : Int) (B64 : jx_St × Int × Int × Int → Prop) (sM : jx_St) (l3 : Int) (l4 : Int) (l5 : Int) : Prop :=
  wp_M_splits (fun r121 sM_121 => jx_R l4 ∧ jx_R (sM_121 0 0) ∧ ((l4 = (sM_121 0 0) → wp_M_levelOf (fun r141 => wp_M_newNode (fun r146 sM_146 => wp_M_puts (fun sM_157 => wp_M_puts (fun sM_166 => wp_M_comes_216 Q l1 l2 B64 (jx_su sM_166 0 0 r146) l3 l4 0) sM_157 r146 1 r121) sM_146 r146 0 l4) sM_121 (r141 + 1)) sM_121 l4) ∧ (¬ l4 = (sM_121 0 0) → jx_B (l3 + (-1)) 40 ∧ (wp_M_placeIn (fun r202 => wp_M_puts (fun sM_209 => wp_M_comes_216 Q l1 l2 B64 sM_209 (l3 + (-1)) (sM_121 23 (l3 + (-1))) l5) sM_121 (sM_121 23 (l3 + (-1))) (r202 + 1) r121) sM_121 (sM_121 23 (l3 + (-1))) l4)))) sM l4
def wp_M_comes_64 (Q : jx_St → Prop) (l1 : Int) (l2 : Int) (B64 : jx_St × Int × Int × Int → Prop) (sM : jx_St) (l3 : Int) (l4 : Int) (l5 : Int) : Prop :=
  jx_R l5 ∧ ((l5 = 0 → Q sM) ∧ (¬ l5 = 0 → wp_M_manyOf (fun r72 => jx_R r72 ∧ ((r72 = 5 → jx_R l4 ∧ jx_R (sM 0 0) ∧ ((l4 = (sM 0 0) → wp_M_comes_118 Q l1 l2 B64 sM l3 l4 l5) ∧ (¬ l4 = (sM 0 0) → wp_M_levelOf (fun r97 => jx_R (jx_and (jx_shr (sM 14 0) r97) 1) ∧ (((jx_and (jx_shr (sM 14 0) r97) 1) = 0 → wp_M_court (fun sM_109 => B64 (sM_109, l3, l4, 0)) sM l4) ∧ (¬ (jx_and (jx_shr (sM 14 0) r97) 1) = 0 → wp_M_comes_118 Q l1 l2 B64 sM l3 l4 l5))) sM l4))) ∧ (¬ r72 = 5 → Q sM))) sM l4))
def wp_M_comes_48 (Q : jx_St → Prop) (l1 : Int) (l2 : Int) (sM : jx_St) (l3 : Int) (l4 : Int) : Prop :=
  wp_M_manyOf (fun r54 => wp_M_puts (fun sM_58 => jx_lp (fun B64v v64 => wp_M_comes_64 Q l1 l2 B64v v64.1 v64.2.1 v64.2.2.1 v64.2.2.2) (sM_58, l3, l4, 1)) sM l4 r54 l1) sM l4
def wp_M_comes (Q : jx_St → Prop) (sM : jx_St) (l1 : Int) (l2 : Int) : Prop :=
  wp_M_lay (fun sM_1 => jx_lp (fun B14v v14 => wp_M_comes_14 Q l1 l2 (fun w14 => wp_M_comes_48 Q l1 l2 w14.1 w14.2.1 w14.2.2) B14v v14.1 v14.2.1 v14.2.2) (sM_1, 0, (sM_1 0 0))) sM 
def wp_M_copy_2 (Q : jx_St → Prop) (B2 : jx_St × Int → Prop) (sM : jx_St) (l1 : Int) : Prop :=
  jx_R l1 ∧ ((l1 < 439 → jx_B l1 439 ∧ (jx_B l1 439 ∧ (B2 ((jx_su sM 1 l1 (sM 0 l1)), (l1 + 1))))) ∧ (¬ l1 < 439 → Q sM))
def wp_M_copy (Q : jx_St → Prop) (sM : jx_St) : Prop :=
  jx_lp (fun B2v v2 => wp_M_copy_2 Q B2v v2.1 v2.2) (sM, 0)
def wp_M_nodeMany_29 (Q : Int → Prop) (sM : jx_St) (l1 : Int) (B4 : Int × Int → Prop) (l3 : Int) (t0 : Int) (t1 : Int) : Prop :=
  B4 ((t0 + t1), (l3 + 1))
def wp_M_nodeMany_4 (Q : Int → Prop) (sM : jx_St) (l1 : Int) (B4 : Int × Int → Prop) (l2 : Int) (l3 : Int) : Prop :=
  jx_R l3 ∧ ((l3 < 40 → wp_M_levelOf (fun r13 => wp_M_in (fun r18 => jx_R r18 ∧ ((r18 = 0 → wp_M_nodeMany_29 Q sM l1 B4 l3 l2 0) ∧ (¬ r18 = 0 → wp_M_nodeMany_29 Q sM l1 B4 l3 l2 1)))  r13 0 l1) sM l3) ∧ (¬ l3 < 40 → Q l2))
def wp_M_nodeMany (Q : Int → Prop) (sM : jx_St) (l1 : Int) : Prop :=
  jx_lp (fun B4v v4 => wp_M_nodeMany_4 Q sM l1 B4v v4.1 v4.2) (0, 0)
def wp_M_levels (Q : Int → Prop) (sM : jx_St) : Prop :=
  wp_M_levelOf (fun r7 => Q (r7 + 1)) sM (sM 0 0)
def wp_M_count (Q : Int → jx_St → Prop) (sM : jx_St) (l1 : Int) : Prop :=
  jx_R l1 ∧ ((l1 = 0 → wp_M_boxMany (fun r61 => Q r61 sM) sM ) ∧ (l1 = 1 → wp_M_levels (fun r66 => Q r66 sM) sM ) ∧ (l1 = 2 → wp_M_nodeMany (fun r73 => Q r73 sM) sM 40) ∧ (l1 = 3 → wp_M_nodeMany (fun r79 => Q r79 sM) sM 0) ∧ (l1 = 4 → Q (sM 20 0) sM) ∧ (l1 = 5 → Q (sM 0 1) sM) ∧ (l1 = 6 → Q (sM 0 2) sM) ∧ (l1 = 7 → Q (sM 0 3) sM) ∧ (l1 = 8 → Q (sM 4 0) sM) ∧ (l1 = 9 → Q (sM 6 0) sM) ∧ (l1 = 10 → wp_M_areas (fun r120 sM_120 => Q r120 sM_120) sM ) ∧ ((l1 < 0 ∨ 10 < l1) → Q (-1000001) sM))
def wp_M_court_ (Q : Int → Prop) (sM : jx_St) (l1 : Int) (l2 : Int) : Prop :=
  jx_R l1 ∧ ((l1 < 0 → Q (-1000001)) ∧ (¬ l1 < 0 → wp_M_in (fun r7 => jx_R r7 ∧ ((r7 = 0 → Q (-1000001)) ∧ (¬ r7 = 0 → jx_R l1 ∧ jx_R (sM 20 0) ∧ ((l1 < (sM 20 0) → jx_R l2 ∧ ((l2 = 0 → jx_B l1 48 ∧ (Q (sM 18 l1))) ∧ (¬ l2 = 0 → jx_B l1 48 ∧ (Q (sM 19 l1))))) ∧ (¬ l1 < (sM 20 0) → Q (-1000004))))))  l2 0 1))
def wp_M_distance (Q : Int → Prop) (sM : jx_St) (l1 : Int) (l2 : Int) (l3 : Int) (l4 : Int) : Prop :=
  wp_M_side (fun r5 => wp_M_side (fun r15 => wp_M_most (fun r19 => wp_M_most (fun r22 => wp_M_side (fun r32 => wp_M_side (fun r44 => wp_M_most (fun r48 => wp_M_most (fun r51 => Q ((r22 * r22) + (r51 * r51)))  0 r48)  (r32 - l4) (l4 - r44)) sM l1 l2 3) sM l1 l2 1)  0 r19)  (r5 - l3) (l3 - r15)) sM l1 l2 2) sM l1 l2 0
def wp_M_here (Q : Int → Prop) (sM : jx_St) : Prop :=
  jx_R (sM 28 0) ∧ jx_R (sM 6 0) ∧ (((sM 28 0) < (sM 6 0) → jx_B (sM 28 0) 60 ∧ (Q (sM 3 (sM 28 0)))) ∧ (¬ (sM 28 0) < (sM 6 0) → Q 0))
def wp_M_reads_111 (Q : Int → jx_St → Prop) (l1 : Int) (B2 : jx_St × Int → Prop) (sM : jx_St) (l2 : Int) (t0 : Int) (t1 : Int) : Prop :=
  jx_R t0 ∧ jx_R t1 ∧ ((t0 = t1 → B2 ((jx_su sM 28 0 ((sM 28 0) + 1)), (l2 + 1))) ∧ (¬ t0 = t1 → Q 0 sM))
def wp_M_reads_93 (Q : Int → jx_St → Prop) (l1 : Int) (B2 : jx_St × Int → Prop) (sM : jx_St) (l2 : Int) : Prop :=
  wp_M_here (fun r94 => jx_R l2 ∧ jx_R (l1 - 1) ∧ ((l2 = (l1 - 1) → wp_M_reads_111 Q l1 B2 sM l2 r94 59) ∧ (¬ l2 = (l1 - 1) → wp_M_reads_111 Q l1 B2 sM l2 r94 44))) sM 
def wp_M_reads_2 (Q : Int → jx_St → Prop) (l1 : Int) (B2 : jx_St × Int → Prop) (sM : jx_St) (l2 : Int) : Prop :=
  jx_R l2 ∧ jx_R l1 ∧ ((l2 < l1 → wp_M_here (fun r8 => wp_M_in (fun r15 => jx_R r15 ∧ ((r15 = 0 → Q 0 sM) ∧ (¬ r15 = 0 → wp_M_here (fun r29 => jx_B l2 5 ∧ (wp_M_here (fun r47 => wp_M_in (fun r54 => jx_R r54 ∧ ((r54 = 0 → wp_M_reads_93 Q l1 B2 (jx_su (jx_su sM 29 l2 (r29 - 48)) 28 0 (((jx_su sM 29 l2 (r29 - 48)) 28 0) + 1)) l2) ∧ (¬ r54 = 0 → jx_B l2 5 ∧ (wp_M_here (fun r75 => jx_B l2 5 ∧ (wp_M_reads_93 Q l1 B2 (jx_su (jx_su (jx_su (jx_su sM 29 l2 (r29 - 48)) 28 0 (((jx_su sM 29 l2 (r29 - 48)) 28 0) + 1)) 29 l2 (((10 * ((jx_su (jx_su sM 29 l2 (r29 - 48)) 28 0 (((jx_su sM 29 l2 (r29 - 48)) 28 0) + 1)) 29 l2)) + r75) - 48)) 28 0 (((jx_su (jx_su (jx_su sM 29 l2 (r29 - 48)) 28 0 (((jx_su sM 29 l2 (r29 - 48)) 28 0) + 1)) 29 l2 (((10 * ((jx_su (jx_su sM 29 l2 (r29 - 48)) 28 0 (((jx_su sM 29 l2 (r29 - 48)) 28 0) + 1)) 29 l2)) + r75) - 48)) 28 0) + 1)) l2)) (jx_su (jx_su sM 29 l2 (r29 - 48)) 28 0 (((jx_su sM 29 l2 (r29 - 48)) 28 0) + 1)) ))))  r47 48 57) (jx_su (jx_su sM 29 l2 (r29 - 48)) 28 0 (((jx_su sM 29 l2 (r29 - 48)) 28 0) + 1)) )) sM )))  r8 48 57) sM ) ∧ (¬ l2 < l1 → Q 1 sM))
def wp_M_reads (Q : Int → jx_St → Prop) (sM : jx_St) (l1 : Int) : Prop :=
  jx_lp (fun B2v v2 => wp_M_reads_2 Q l1 B2v v2.1 v2.2) (sM, 0)
def wp_M_insertion_16 (Q : jx_St → Prop) (l1 : Int) (l2 : Int) (B16 : jx_St → Prop) (sM : jx_St) : Prop :=
  jx_R (sM 13 0) ∧ (((sM 13 0) ≤ 0 → Q sM) ∧ (¬ (sM 13 0) ≤ 0 → jx_B ((jx_su sM 13 0 ((sM 13 0) - 1)) 13 0) 24 ∧ (jx_B ((jx_su sM 13 0 ((sM 13 0) - 1)) 13 0) 24 ∧ (wp_M_comes (fun sM_52 => B16 sM_52) (jx_su sM 13 0 ((sM 13 0) - 1)) ((jx_su sM 13 0 ((sM 13 0) - 1)) 11 ((jx_su sM 13 0 ((sM 13 0) - 1)) 13 0)) ((jx_su sM 13 0 ((sM 13 0) - 1)) 12 ((jx_su sM 13 0 ((sM 13 0) - 1)) 13 0))))))
def wp_M_insertion (Q : jx_St → Prop) (sM : jx_St) (l1 : Int) (l2 : Int) : Prop :=
  wp_M_waits (fun sM_13 => jx_lp (fun B16v v16 => wp_M_insertion_16 Q l1 l2 B16v v16) sM_13) (jx_su (jx_su sM 14 0 0) 13 0 0) l1 l2
def wp_M_takesBox_49 (Q : jx_St → Prop) (l1 : Int) (K70 : jx_St → Prop) (l2 : Int) (l3 : Int) (l4 : Int) (B49 : jx_St × Int → Prop) (sM : jx_St) (l5 : Int) : Prop :=
  jx_R l5 ∧ jx_R l4 ∧ ((l5 ≤ l4 → jx_B l5 40 ∧ (B49 ((jx_su sM 24 l5 (-1)), (l5 + 1)))) ∧ (¬ l5 ≤ l4 → K70 sM))
def wp_M_takesBox_166 (Q : jx_St → Prop) (l1 : Int) (B70 : jx_St × Int → Prop) (K172 : jx_St → Prop) (sM : jx_St) (l3 : Int) (l4 : Int) (l6 : Int) : Prop :=
  B70 (sM, l6)
def wp_M_takesBox_127 (Q : jx_St → Prop) (l1 : Int) (B70 : jx_St × Int → Prop) (K172 : jx_St → Prop) (sM : jx_St) (l2 : Int) (l3 : Int) (l4 : Int) (l6 : Int) (t1 : Int) (t2 : Int) : Prop :=
  jx_B t1 40 ∧ (wp_M_manyOf (fun r137 => wp_M_placeIn (fun r149 => wp_M_drops (fun sM_152 => jx_B (159 + l2) 439 ∧ (wp_M_takesBox_166 Q l1 B70 K172 (jx_su sM_152 0 (159 + l2) (-1)) l3 l4 l6)) (jx_su (jx_su sM 24 t1 t2) 0 3 (((jx_su sM 24 t1 t2) 0 3) + r137)) l6 r149) (jx_su (jx_su sM 24 t1 t2) 0 3 (((jx_su sM 24 t1 t2) 0 3) + r137)) l6 l2) (jx_su sM 24 t1 t2) l2)
def wp_M_takesBox_70 (Q : jx_St → Prop) (l1 : Int) (K172 : jx_St → Prop) (l3 : Int) (l4 : Int) (B70 : jx_St × Int → Prop) (sM : jx_St) (l2 : Int) : Prop :=
  jx_R l2 ∧ jx_R l3 ∧ ((l2 = l3 → K172 sM) ∧ (¬ l2 = l3 → wp_M_levelOf (fun r77 => wp_M_holder (fun r88 => wp_M_manyOf (fun r95 => jx_R r95 ∧ ((r95 < 2 → wp_M_manyOf (fun r110 => jx_R r110 ∧ ((r110 = 1 → wp_M_thing (fun r120 => wp_M_takesBox_127 Q l1 B70 K172 sM l2 l3 l4 r88 r77 r120) sM l2 0) ∧ (¬ r110 = 1 → wp_M_takesBox_127 Q l1 B70 K172 sM l2 l3 l4 r88 r77 (-1)))) sM l2) ∧ (¬ r95 < 2 → wp_M_takesBox_166 Q l1 B70 K172 sM l3 l4 r88))) sM l2) sM l2 (r77 + 1)) sM l2))
def wp_M_takesBox_205 (Q : jx_St → Prop) (l1 : Int) (B176 : jx_St × Int → Prop) (K211 : jx_St → Prop) (sM : jx_St) (l5 : Int) : Prop :=
  B176 (sM, (l5 + (-1)))
def wp_M_takesBox_176 (Q : jx_St → Prop) (l1 : Int) (K211 : jx_St → Prop) (B176 : jx_St × Int → Prop) (sM : jx_St) (l5 : Int) : Prop :=
  jx_R l5 ∧ ((l5 < 0 → K211 sM) ∧ (¬ l5 < 0 → jx_B l5 40 ∧ (jx_R (sM 24 l5) ∧ (((sM 24 l5) = (-1) → wp_M_takesBox_205 Q l1 B176 K211 sM l5) ∧ (¬ (sM 24 l5) = (-1) → jx_B l5 40 ∧ (wp_M_insertion (fun sM_202 => wp_M_takesBox_205 Q l1 B176 K211 sM_202 l5) sM (sM 24 l5) l5))))))
def wp_M_takesBox_211 (Q : jx_St → Prop) (l1 : Int) (B211 : jx_St → Prop) (sM : jx_St) : Prop :=
  wp_M_levelOf (fun r218 => jx_R r218 ∧ ((r218 ≤ 0 → Q sM) ∧ (¬ r218 ≤ 0 → wp_M_manyOf (fun r231 => jx_R r231 ∧ ((r231 = 1 → wp_M_thing (fun r246 => jx_B (159 + (sM 0 0)) 439 ∧ (B211 (jx_su (jx_su sM 0 (159 + (sM 0 0)) (-1)) 0 0 r246))) sM (sM 0 0) 0) ∧ (¬ r231 = 1 → Q sM))) sM (sM 0 0)))) sM (sM 0 0)
def wp_M_takesBox_172 (Q : jx_St → Prop) (l1 : Int) (sM : jx_St) (l4 : Int) : Prop :=
  jx_lp (fun B176v v176 => wp_M_takesBox_176 Q l1 (fun w176 => jx_lp (fun B211v v211 => wp_M_takesBox_211 Q l1 B211v v211) w176) B176v v176.1 v176.2) (sM, l4)
def wp_M_takesBox (Q : jx_St → Prop) (sM : jx_St) (l1 : Int) : Prop :=
  wp_M_holder (fun r8 => wp_M_placeIn (fun r17 => wp_M_drops (fun sM_20 => jx_B (4 + l1) 439 ∧ (wp_M_levelOf (fun r41 => jx_lp (fun B49v v49 => wp_M_takesBox_49 Q l1 (fun w49 => jx_lp (fun B70v v70 => wp_M_takesBox_70 Q l1 (fun w70 => wp_M_takesBox_172 Q l1 w70 r41) ((jx_su sM_20 0 (4 + l1) 0) 0 0) r41 B70v v70.1 v70.2) (w49, r8)) r8 ((jx_su sM_20 0 (4 + l1) 0) 0 0) r41 B49v v49.1 v49.2) ((jx_su sM_20 0 (4 + l1) 0), 0)) (jx_su sM_20 0 (4 + l1) 0) ((jx_su sM_20 0 (4 + l1) 0) 0 0))) (jx_su sM 17 0 0) r8 r17) (jx_su sM 17 0 0) r8 l1) (jx_su sM 17 0 0) l1 0
def wp_M_putsBox (Q : jx_St → Prop) (sM : jx_St) (l1 : Int) (l2 : Int) (l3 : Int) (l4 : Int) (l5 : Int) : Prop :=
  jx_B (4 + l1) 439 ∧ (jx_B (35 + (4 * l1)) 439 ∧ (jx_B ((35 + (4 * l1)) + 1) 439 ∧ (jx_B ((35 + (4 * l1)) + 2) 439 ∧ (jx_B ((35 + (4 * l1)) + 3) 439 ∧ (wp_M_insertion (fun sM_73 => Q sM_73) (jx_su (jx_su (jx_su (jx_su (jx_su (jx_su sM 0 (4 + l1) 1) 0 (35 + (4 * l1)) l2) 0 ((35 + (4 * l1)) + 1) l3) 0 ((35 + (4 * l1)) + 2) l4) 0 ((35 + (4 * l1)) + 3) l5) 17 0 0) l1 0)))))
def wp_M_wrong (Q : jx_St → Prop) (sM : jx_St) (l1 : Int) (l2 : Int) : Prop :=
  jx_R (sM 30 0) ∧ (((sM 30 0) = 0 → Q (jx_su (jx_su sM 30 0 l1) 31 0 l2)) ∧ (¬ (sM 30 0) = 0 → Q sM))
def wp_M_order_134 (Q : jx_St → Prop) (B102 : jx_St × Int → Prop) (K140 : jx_St → Prop) (sM : jx_St) (l2 : Int) (l3 : Int) : Prop :=
  B102 (sM, (l3 + 1))
def wp_M_order_102 (Q : jx_St → Prop) (K140 : jx_St → Prop) (l2 : Int) (B102 : jx_St × Int → Prop) (sM : jx_St) (l3 : Int) : Prop :=
  jx_R l3 ∧ ((l3 < 3 → jx_R l2 ∧ ((l2 = 0 → K140 sM) ∧ (¬ l2 = 0 → jx_B l3 5 ∧ (jx_B (l3 + 2) 5 ∧ (jx_R (sM 29 l3) ∧ jx_R (sM 29 (l3 + 2)) ∧ (((sM 29 l3) ≤ (sM 29 (l3 + 2)) → wp_M_order_134 Q B102 K140 sM l2 l3) ∧ (¬ (sM 29 l3) ≤ (sM 29 (l3 + 2)) → wp_M_wrong (fun sM_131 => wp_M_order_134 Q B102 K140 sM_131 l2 l3) sM 2 l3))))))) ∧ (¬ l3 < 3 → K140 sM))
def wp_M_order_216 (Q : jx_St → Prop) (sM : jx_St) : Prop :=
  jx_R (sM 30 0) ∧ (((sM 30 0) = 0 → wp_M_takesBox (fun sM_230 => Q sM_230) sM (sM 29 0)) ∧ (¬ (sM 30 0) = 0 → Q sM))
def wp_M_order_168 (Q : jx_St → Prop) (sM : jx_St) (l2 : Int) : Prop :=
  jx_R (sM 30 0) ∧ (((sM 30 0) = 0 → jx_R l2 ∧ ((l2 = 0 → wp_M_order_216 Q sM) ∧ (¬ l2 = 0 → wp_M_putsBox (fun sM_210 => Q sM_210) sM (sM 29 0) (sM 29 1) (sM 29 2) (sM 29 3) (sM 29 4)))) ∧ (¬ (sM 30 0) = 0 → wp_M_order_216 Q sM))
def wp_M_order_140 (Q : jx_St → Prop) (sM : jx_St) (l2 : Int) : Prop :=
  jx_R (sM 30 0) ∧ (((sM 30 0) = 0 → wp_M_isThere (fun r154 => jx_R r154 ∧ jx_R l2 ∧ ((r154 = l2 → wp_M_wrong (fun sM_165 => wp_M_order_168 Q sM_165 l2) sM 3 (-1000004)) ∧ (¬ r154 = l2 → wp_M_order_168 Q sM l2))) sM (sM 29 0)) ∧ (¬ (sM 30 0) = 0 → wp_M_order_168 Q sM l2))
def wp_M_order_100 (Q : jx_St → Prop) (sM : jx_St) (l2 : Int) : Prop :=
  jx_lp (fun B102v v102 => wp_M_order_102 Q (fun w102 => wp_M_order_140 Q w102 l2) l2 B102v v102.1 v102.2) (sM, 1)
def wp_M_order_62 (Q : jx_St → Prop) (sM : jx_St) (l2 : Int) (t1 : Int) : Prop :=
  wp_M_reads (fun r62 sM_62 => jx_R r62 ∧ ((r62 = 0 → wp_M_wrong (fun sM_79 => Q sM_79) sM_62 1 ((sM_62 28 0) - (sM_62 32 0))) ∧ (¬ r62 = 0 → jx_R (sM_62 29 0) ∧ (((sM_62 29 0) < 31 → wp_M_order_100 Q sM_62 l2) ∧ (¬ (sM_62 29 0) < 31 → wp_M_wrong (fun sM_97 => wp_M_order_100 Q sM_97 l2) sM_62 2 0))))) sM t1
def wp_M_order_42 (Q : jx_St → Prop) (sM : jx_St) (l2 : Int) : Prop :=
  jx_R l2 ∧ ((l2 = 0 → wp_M_order_62 Q (jx_su sM 28 0 ((sM 28 0) + 1)) l2 1) ∧ (¬ l2 = 0 → wp_M_order_62 Q (jx_su sM 28 0 ((sM 28 0) + 1)) l2 5))
def wp_M_order_24 (Q : jx_St → Prop) (sM : jx_St) (l1 : Int) (t0 : Int) : Prop :=
  jx_R t0 ∧ ((t0 = 0 → jx_R l1 ∧ ((l1 = 45 → wp_M_order_42 Q sM t0) ∧ (¬ l1 = 45 → wp_M_wrong (fun sM_38 => Q sM_38) sM 1 0))) ∧ (¬ t0 = 0 → wp_M_order_42 Q sM t0))
def wp_M_order (Q : jx_St → Prop) (sM : jx_St) : Prop :=
  wp_M_here (fun r9 => jx_R r9 ∧ ((r9 = 43 → wp_M_order_24 Q (jx_su sM 32 0 (sM 28 0)) r9 1) ∧ (¬ r9 = 43 → wp_M_order_24 Q (jx_su sM 32 0 (sM 28 0)) r9 0))) (jx_su sM 32 0 (sM 28 0)) 
def wp_M_tries_15 (Q : jx_St → Prop) (B15 : jx_St → Prop) (sM : jx_St) : Prop :=
  jx_R (sM 28 0) ∧ jx_R (sM 6 0) ∧ (((sM 28 0) < (sM 6 0) → jx_R (sM 30 0) ∧ (((sM 30 0) = 0 → wp_M_order (fun sM_34 => B15 (jx_su sM_34 33 0 ((sM_34 33 0) + 1))) sM ) ∧ (¬ (sM 30 0) = 0 → Q sM))) ∧ (¬ (sM 28 0) < (sM 6 0) → Q sM))
def wp_M_tries (Q : jx_St → Prop) (sM : jx_St) : Prop :=
  jx_lp (fun B15v v15 => wp_M_tries_15 Q B15v v15) (jx_su (jx_su (jx_su sM 28 0 0) 33 0 0) 30 0 0)
def wp_M_fault (Q : Int → jx_St → Prop) (sM : jx_St) (l1 : Int) : Prop :=
  wp_M_in (fun r3 => jx_R r3 ∧ ((r3 = 0 → Q (-1000001) sM) ∧ (¬ r3 = 0 → wp_M_copy (fun sM_13 => wp_M_tries (fun sM_17 => wp_M_back (fun sM_21 => jx_R (sM_21 30 0) ∧ (((sM_21 30 0) = 0 → Q (-1000004) sM_21) ∧ (¬ (sM_21 30 0) = 0 → jx_R l1 ∧ ((l1 = 0 → Q (sM_21 32 0) sM_21) ∧ (¬ l1 = 0 → jx_R l1 ∧ ((l1 = 1 → Q (sM_21 30 0) sM_21) ∧ (¬ l1 = 1 → Q (sM_21 31 0) sM_21))))))) sM_17 ) sM_13 ) sM )))  l1 0 2
def wp_M_meets (Q : Int → Prop) (sM : jx_St) (l1 : Int) (l2 : Int) (l3 : Int) (l4 : Int) (l5 : Int) (l6 : Int) : Prop :=
  wp_M_side (fun r4 => jx_R r4 ∧ jx_R l5 ∧ ((r4 ≤ l5 → wp_M_side (fun r16 => jx_R r16 ∧ jx_R l3 ∧ ((r16 < l3 → Q 0) ∧ (¬ r16 < l3 → wp_M_side (fun r27 => jx_R r27 ∧ jx_R l6 ∧ ((r27 ≤ l6 → wp_M_side (fun r39 => jx_R r39 ∧ jx_R l4 ∧ ((r39 < l4 → Q 0) ∧ (¬ r39 < l4 → Q 1))) sM l1 l2 3) ∧ (¬ r27 ≤ l6 → Q 0))) sM l1 l2 1))) sM l1 l2 2) ∧ (¬ r4 ≤ l5 → Q 0))) sM l1 l2 0
def wp_M_nearest_130 (Q : Int → jx_St → Prop) (l1 : Int) (l2 : Int) (l3 : Int) (l4 : Int) (B56 : Int × Int → Prop) (K139 : Int → Prop) (sM : jx_St) (l5 : Int) (l6 : Int) (l8 : Int) (t0 : Int) (t1 : Int) : Prop :=
  B56 ((t0 + t1), (l8 + 1))
def wp_M_nearest_125 (Q : Int → jx_St → Prop) (l1 : Int) (l2 : Int) (l3 : Int) (l4 : Int) (B56 : Int × Int → Prop) (K139 : Int → Prop) (sM : jx_St) (l5 : Int) (l6 : Int) (l8 : Int) (t0 : Int) : Prop :=
  wp_M_nearest_130 Q l1 l2 l3 l4 B56 K139 sM l5 l6 l8 t0 1
def wp_M_nearest_129 (Q : Int → jx_St → Prop) (l1 : Int) (l2 : Int) (l3 : Int) (l4 : Int) (B56 : Int × Int → Prop) (K139 : Int → Prop) (sM : jx_St) (l5 : Int) (l6 : Int) (l8 : Int) (t0 : Int) : Prop :=
  wp_M_nearest_130 Q l1 l2 l3 l4 B56 K139 sM l5 l6 l8 t0 0
def wp_M_nearest_104 (Q : Int → jx_St → Prop) (l1 : Int) (l2 : Int) (l3 : Int) (l4 : Int) (B56 : Int × Int → Prop) (K139 : Int → Prop) (sM : jx_St) (l5 : Int) (l6 : Int) (l7 : Int) (l8 : Int) (t0 : Int) : Prop :=
  jx_R t0 ∧ ((t0 < 0 → wp_M_nearest_125 Q l1 l2 l3 l4 B56 K139 sM l5 l6 l8 l7) ∧ (¬ t0 < 0 → jx_R t0 ∧ ((t0 = 0 → jx_R l8 ∧ jx_R l6 ∧ ((l8 < l6 → wp_M_nearest_125 Q l1 l2 l3 l4 B56 K139 sM l5 l6 l8 l7) ∧ (¬ l8 < l6 → wp_M_nearest_129 Q l1 l2 l3 l4 B56 K139 sM l5 l6 l8 l7))) ∧ (¬ t0 = 0 → wp_M_nearest_129 Q l1 l2 l3 l4 B56 K139 sM l5 l6 l8 l7))))
def wp_M_nearest_56 (Q : Int → jx_St → Prop) (l1 : Int) (l2 : Int) (l3 : Int) (l4 : Int) (K139 : Int → Prop) (sM : jx_St) (l5 : Int) (l6 : Int) (B56 : Int × Int → Prop) (l7 : Int) (l8 : Int) : Prop :=
  jx_R l8 ∧ ((l8 < 31 → wp_M_isThere (fun r66 => jx_R r66 ∧ ((r66 = 0 → K139 l7) ∧ (¬ r66 = 0 → wp_M_isThere (fun r75 => jx_R r75 ∧ ((r75 = 0 → wp_M_nearest_104 Q l1 l2 l3 l4 B56 K139 sM l5 l6 l7 l8 1) ∧ (¬ r75 = 0 → wp_M_distance (fun r87 => wp_M_distance (fun r96 => wp_M_nearest_104 Q l1 l2 l3 l4 B56 K139 sM l5 l6 l7 l8 (r87 - r96)) sM l6 0 l1 l2) sM l8 0 l1 l2))) sM l8))) sM l6) ∧ (¬ l8 < 31 → K139 l7))
def wp_M_nearest_161 (Q : Int → jx_St → Prop) (l1 : Int) (l2 : Int) (l3 : Int) (l4 : Int) (B43 : Int × Int → Prop) (K169 : Int → Prop) (sM : jx_St) (l6 : Int) (t0 : Int) : Prop :=
  B43 (t0, (l6 + 1))
def wp_M_nearest_159 (Q : Int → jx_St → Prop) (l1 : Int) (l2 : Int) (l3 : Int) (l4 : Int) (B43 : Int × Int → Prop) (K169 : Int → Prop) (sM : jx_St) (l5 : Int) (l6 : Int) : Prop :=
  wp_M_nearest_161 Q l1 l2 l3 l4 B43 K169 sM l6 l5
def wp_M_nearest_139 (Q : Int → jx_St → Prop) (l1 : Int) (l2 : Int) (l3 : Int) (l4 : Int) (B43 : Int × Int → Prop) (K169 : Int → Prop) (sM : jx_St) (l5 : Int) (l6 : Int) (l7 : Int) : Prop :=
  wp_M_isThere (fun r142 => jx_R r142 ∧ ((r142 = 0 → wp_M_nearest_159 Q l1 l2 l3 l4 B43 K169 sM l5 l6) ∧ (¬ r142 = 0 → jx_R l7 ∧ jx_R l3 ∧ ((l7 = l3 → wp_M_nearest_161 Q l1 l2 l3 l4 B43 K169 sM l6 l6) ∧ (¬ l7 = l3 → wp_M_nearest_159 Q l1 l2 l3 l4 B43 K169 sM l5 l6))))) sM l6
def wp_M_nearest_43 (Q : Int → jx_St → Prop) (l1 : Int) (l2 : Int) (l3 : Int) (l4 : Int) (K169 : Int → Prop) (sM : jx_St) (B43 : Int × Int → Prop) (l5 : Int) (l6 : Int) : Prop :=
  jx_R l6 ∧ ((l6 < 31 → jx_lp (fun B56v v56 => wp_M_nearest_56 Q l1 l2 l3 l4 (fun w56 => wp_M_nearest_139 Q l1 l2 l3 l4 B43 K169 sM l5 l6 w56) sM l5 l6 B56v v56.1 v56.2) (0, 0)) ∧ (¬ l6 < 31 → K169 l5))
def wp_M_nearest_246 (Q : Int → jx_St → Prop) (l1 : Int) (l2 : Int) (l3 : Int) (l4 : Int) (B199 : Int × Int → Prop) (K255 : Int → Prop) (sM : jx_St) (l5 : Int) (l6 : Int) (l8 : Int) (t0 : Int) (t1 : Int) : Prop :=
  B199 ((t0 + t1), (l8 + 1))
def wp_M_nearest_245 (Q : Int → jx_St → Prop) (l1 : Int) (l2 : Int) (l3 : Int) (l4 : Int) (B199 : Int × Int → Prop) (K255 : Int → Prop) (sM : jx_St) (l5 : Int) (l6 : Int) (l8 : Int) (t0 : Int) : Prop :=
  wp_M_nearest_246 Q l1 l2 l3 l4 B199 K255 sM l5 l6 l8 t0 0
def wp_M_nearest_199 (Q : Int → jx_St → Prop) (l1 : Int) (l2 : Int) (l3 : Int) (l4 : Int) (K255 : Int → Prop) (sM : jx_St) (l5 : Int) (l6 : Int) (B199 : Int × Int → Prop) (l7 : Int) (l8 : Int) : Prop :=
  jx_R l8 ∧ ((l8 < 40 → wp_M_levelOf (fun r211 => jx_R r211 ∧ ((r211 = (-1) → wp_M_nearest_245 Q l1 l2 l3 l4 B199 K255 sM l5 l6 l8 l7) ∧ (¬ r211 = (-1) → wp_M_manyOf (fun r221 => jx_R r221 ∧ ((r221 ≤ 0 → wp_M_nearest_245 Q l1 l2 l3 l4 B199 K255 sM l5 l6 l8 l7) ∧ (¬ r221 ≤ 0 → wp_M_distance (fun r233 => jx_R r233 ∧ jx_R l6 ∧ ((r233 ≤ l6 → wp_M_nearest_246 Q l1 l2 l3 l4 B199 K255 sM l5 l6 l8 l7 1) ∧ (¬ r233 ≤ l6 → wp_M_nearest_245 Q l1 l2 l3 l4 B199 K255 sM l5 l6 l8 l7))) sM l8 1 l1 l2))) sM l8))) sM l8) ∧ (¬ l8 < 40 → K255 l7))
def wp_M_nearest_255 (Q : Int → jx_St → Prop) (l1 : Int) (l2 : Int) (l3 : Int) (l4 : Int) (sM : jx_St) (l5 : Int) (l6 : Int) (l7 : Int) : Prop :=
  jx_R l4 ∧ ((l4 = 0 → Q l5 sM) ∧ (¬ l4 = 0 → jx_R l4 ∧ ((l4 = 1 → Q l6 sM) ∧ (¬ l4 = 1 → Q l7 sM))))
def wp_M_nearest_169 (Q : Int → jx_St → Prop) (l1 : Int) (l2 : Int) (l3 : Int) (l4 : Int) (sM : jx_St) (l5 : Int) : Prop :=
  jx_R l5 ∧ ((l5 = (-1) → Q (-1000004) sM) ∧ (¬ l5 = (-1) → wp_M_distance (fun r184 => wp_M_lay (fun sM_190 => jx_lp (fun B199v v199 => wp_M_nearest_199 Q l1 l2 l3 l4 (fun w199 => wp_M_nearest_255 Q l1 l2 l3 l4 sM_190 l5 r184 w199) sM_190 l5 r184 B199v v199.1 v199.2) (0, 0)) sM ) sM l5 0 l1 l2))
def wp_M_nearest (Q : Int → jx_St → Prop) (sM : jx_St) (l1 : Int) (l2 : Int) (l3 : Int) (l4 : Int) : Prop :=
  wp_M_in (fun r4 => jx_R r4 ∧ ((r4 = 0 → Q (-1000001) sM) ∧ (¬ r4 = 0 → wp_M_in (fun r14 => jx_R r14 ∧ ((r14 = 0 → Q (-1000001) sM) ∧ (¬ r14 = 0 → jx_R l3 ∧ ((l3 < 0 → Q (-1000001) sM) ∧ (¬ l3 < 0 → wp_M_in (fun r28 => jx_R r28 ∧ ((r28 = 0 → Q (-1000001) sM) ∧ (¬ r28 = 0 → jx_lp (fun B43v v43 => wp_M_nearest_43 Q l1 l2 l3 l4 (fun w43 => wp_M_nearest_169 Q l1 l2 l3 l4 sM w43) sM B43v v43.1 v43.2) ((-1), 0))))  l4 0 2)))))  l2 0 99)))  l1 0 99
def wp_M_nodeOf_124 (Q : Int → jx_St → Prop) (l1 : Int) (l2 : Int) (l3 : Int) (sM : jx_St) (l4 : Int) (l5 : Int) (B124 : Int × Int → Prop) (l6 : Int) (l7 : Int) : Prop :=
  jx_R l7 ∧ jx_R l5 ∧ ((l7 < l5 → wp_M_thing (fun r139 => B124 ((jx_or l6 (jx_shl 1 r139)), (l7 + 1))) sM l4 l7) ∧ (¬ l7 < l5 → Q l6 sM))
def wp_M_nodeOf (Q : Int → jx_St → Prop) (sM : jx_St) (l1 : Int) (l2 : Int) (l3 : Int) : Prop :=
  jx_R l1 ∧ ((l1 < 0 → Q (-1000001) sM) ∧ (¬ l1 < 0 → jx_R l2 ∧ ((l2 < 0 → Q (-1000001) sM) ∧ (¬ l2 < 0 → wp_M_in (fun r11 => jx_R r11 ∧ ((r11 = 0 → Q (-1000001) sM) ∧ (¬ r11 = 0 → wp_M_levels (fun r22 => jx_R l1 ∧ jx_R r22 ∧ ((l1 < r22 → wp_M_layRow (fun sM_33 => jx_R l2 ∧ jx_R (sM_33 27 0) ∧ ((l2 < (sM_33 27 0) → jx_B l2 40 ∧ (wp_M_manyOf (fun r58 => jx_R l3 ∧ ((l3 < 4 → wp_M_lay (fun sM_69 => jx_R r58 ∧ ((r58 = 0 → Q (-1000004) sM_69) ∧ (¬ r58 = 0 → jx_B ((4 * (sM_33 25 l2)) + l3) 160 ∧ (Q (sM_69 7 ((4 * (sM_33 25 l2)) + l3)) sM_69)))) sM_33 ) ∧ (¬ l3 < 4 → jx_R l3 ∧ ((l3 = 4 → Q r58 sM_33) ∧ (¬ l3 = 4 → jx_R l1 ∧ ((l1 ≤ 0 → jx_lp (fun B124v v124 => wp_M_nodeOf_124 Q l1 l2 l3 sM_33 (sM_33 25 l2) r58 B124v v124.1 v124.2) (0, 0)) ∧ (¬ l1 ≤ 0 → wp_M_thing (fun r111 => wp_M_placeOf (fun r114 sM_114 => Q r114 sM_114) sM_33 r111) sM_33 (sM_33 25 l2) 0))))))) sM_33 (sM_33 25 l2))) ∧ (¬ l2 < (sM_33 27 0) → Q (-1000004) sM_33))) sM l1) ∧ (¬ l1 < r22 → Q (-1000004) sM))) sM )))  l3 0 5))))
def wp_M_overlap (Q : Int → jx_St → Prop) (sM : jx_St) (l1 : Int) (l2 : Int) : Prop :=
  wp_M_isBox (fun r1 => jx_R r1 ∧ ((r1 = 0 → Q (-1000001) sM) ∧ (¬ r1 = 0 → wp_M_isBox (fun r8 => jx_R r8 ∧ ((r8 = 0 → Q (-1000001) sM) ∧ (¬ r8 = 0 → wp_M_isThere (fun r19 => jx_R r19 ∧ ((r19 = 0 → Q (-1000004) sM) ∧ (¬ r19 = 0 → wp_M_isThere (fun r27 => jx_R r27 ∧ ((r27 = 0 → Q (-1000004) sM) ∧ (¬ r27 = 0 → wp_M_takes_one (fun sM_43 => wp_M_takes_two (fun sM_53 => wp_M_common (fun r57 => Q r57 sM_53) sM_53 ) sM_43 l2 0) sM l1 0))) sM l2))) sM l1)))  l2)))  l1
def wp_M_overlapsOf_24 (Q : Int → jx_St → Prop) (l1 : Int) (K74 : jx_St × Int → Prop) (l3 : Int) (B24 : jx_St × Int × Int → Prop) (sM : jx_St) (l2 : Int) (l4 : Int) : Prop :=
  jx_R l4 ∧ jx_R l3 ∧ ((l4 < l3 → jx_B l3 40 ∧ (wp_M_takes_one (fun sM_42 => jx_B l4 40 ∧ (wp_M_takes_two (fun sM_58 => wp_M_common (fun r63 => B24 (sM_58, (l2 + r63), (l4 + 1))) sM_58 ) sM_42 (sM_42 25 l4) 1)) sM (sM 25 l3) 1)) ∧ (¬ l4 < l3 → K74 (sM, l2)))
def wp_M_overlapsOf_74 (Q : Int → jx_St → Prop) (l1 : Int) (B13 : jx_St × Int × Int → Prop) (sM : jx_St) (l2 : Int) (l3 : Int) : Prop :=
  B13 (sM, l2, (l3 + 1))
def wp_M_overlapsOf_13 (Q : Int → jx_St → Prop) (l1 : Int) (B13 : jx_St × Int × Int → Prop) (sM : jx_St) (l2 : Int) (l3 : Int) : Prop :=
  jx_R l3 ∧ jx_R (sM 27 0) ∧ ((l3 < (sM 27 0) → jx_lp (fun B24v v24 => wp_M_overlapsOf_24 Q l1 (fun w24 => wp_M_overlapsOf_74 Q l1 B13 w24.1 w24.2 l3) l3 B24v v24.1 v24.2.1 v24.2.2) (sM, l2, 0)) ∧ (¬ l3 < (sM 27 0) → Q l2 sM))
def wp_M_overlapsOf (Q : Int → jx_St → Prop) (sM : jx_St) (l1 : Int) : Prop :=
  wp_M_lay (fun sM_1 => wp_M_layRow (fun sM_6 => jx_lp (fun B13v v13 => wp_M_overlapsOf_13 Q l1 B13v v13.1 v13.2.1 v13.2.2) (sM_6, 0, 0)) sM_1 l1) sM 
def wp_M_overlaps (Q : Int → jx_St → Prop) (sM : jx_St) (l1 : Int) : Prop :=
  jx_R l1 ∧ ((l1 < 0 → Q (-1000001) sM) ∧ (¬ l1 < 0 → wp_M_levels (fun r11 => jx_R l1 ∧ jx_R r11 ∧ ((l1 < r11 → wp_M_overlapsOf (fun r24 sM_24 => Q r24 sM_24) sM l1) ∧ (¬ l1 < r11 → Q (-1000004) sM))) sM ))
def wp_M_record_2 (Q : jx_St → Prop) (K36 : jx_St → Prop) (B2 : jx_St × Int → Prop) (sM : jx_St) (l1 : Int) : Prop :=
  jx_R l1 ∧ ((l1 < 439 → jx_B l1 439 ∧ (jx_B ((439 * (sM 5 0)) + l1) 1756 ∧ (B2 ((jx_su sM 2 ((439 * (sM 5 0)) + l1) (sM 1 l1)), (l1 + 1))))) ∧ (¬ l1 < 439 → K36 sM))
def wp_M_record_67 (Q : jx_St → Prop) (sM : jx_St) (t1 : Int) : Prop :=
  Q (jx_su sM 4 0 t1)
def wp_M_record_36 (Q : jx_St → Prop) (sM : jx_St) : Prop :=
  jx_R ((jx_su sM 5 0 (jx_rem ((sM 5 0) + 1) 4)) 4 0) ∧ ((((jx_su sM 5 0 (jx_rem ((sM 5 0) + 1) 4)) 4 0) < 4 → wp_M_record_67 Q (jx_su sM 5 0 (jx_rem ((sM 5 0) + 1) 4)) (((jx_su sM 5 0 (jx_rem ((sM 5 0) + 1) 4)) 4 0) + 1)) ∧ (¬ ((jx_su sM 5 0 (jx_rem ((sM 5 0) + 1) 4)) 4 0) < 4 → wp_M_record_67 Q (jx_su sM 5 0 (jx_rem ((sM 5 0) + 1) 4)) 4))
def wp_M_record (Q : jx_St → Prop) (sM : jx_St) : Prop :=
  jx_lp (fun B2v v2 => wp_M_record_2 Q (fun w2 => wp_M_record_36 Q w2) B2v v2.1 v2.2) (sM, 0)
def wp_M_tells_10 (Q : jx_St → Prop) (B10 : jx_St × Int → Prop) (sM : jx_St) (l1 : Int) : Prop :=
  jx_R l1 ∧ jx_R (sM 17 0) ∧ ((l1 < (sM 17 0) → jx_B l1 48 ∧ (jx_B l1 48 ∧ (jx_B l1 48 ∧ (jx_B l1 48 ∧ (B10 ((jx_su (jx_su sM 18 l1 (sM 15 l1)) 19 l1 ((jx_su sM 18 l1 (sM 15 l1)) 16 l1)), (l1 + 1))))))) ∧ (¬ l1 < (sM 17 0) → Q sM))
def wp_M_tells (Q : jx_St → Prop) (sM : jx_St) : Prop :=
  jx_lp (fun B10v v10 => wp_M_tells_10 Q B10v v10.1 v10.2) ((jx_su sM 20 0 (sM 17 0)), 0)
def wp_M_play_37 (Q : Int → jx_St → Prop) (sM : jx_St) : Prop :=
  Q (sM 33 0) sM
def wp_M_play (Q : Int → jx_St → Prop) (sM : jx_St) : Prop :=
  wp_M_copy (fun sM_1 => wp_M_tries (fun sM_5 => jx_R (sM_5 30 0) ∧ (((sM_5 30 0) = 0 → wp_M_record (fun sM_23 => jx_R (sM_23 33 0) ∧ (((sM_23 33 0) ≤ 0 → wp_M_play_37 Q sM_23) ∧ (¬ (sM_23 33 0) ≤ 0 → wp_M_tells (fun sM_34 => wp_M_play_37 Q sM_34) sM_23 ))) sM_5 ) ∧ (¬ (sM_5 30 0) = 0 → wp_M_back (fun sM_16 => Q (-1000002) sM_16) sM_5 ))) sM_1 ) sM 
def wp_M_put (Q : Int → jx_St → Prop) (sM : jx_St) (l1 : Int) (l2 : Int) (l3 : Int) (l4 : Int) (l5 : Int) : Prop :=
  wp_M_isBox (fun r1 => jx_R r1 ∧ ((r1 = 0 → Q (-1000001) sM) ∧ (¬ r1 = 0 → wp_M_areSides (fun r13 => jx_R r13 ∧ ((r13 = 0 → Q (-1000001) sM) ∧ (¬ r13 = 0 → wp_M_isThere (fun r24 => jx_R r24 ∧ ((r24 = 0 → wp_M_copy (fun sM_34 => wp_M_record (fun sM_38 => wp_M_putsBox (fun sM_49 => wp_M_tells (fun sM_53 => wp_M_levels (fun r57 => Q r57 sM_53) sM_53 ) sM_49 ) sM_38 l1 l2 l3 l4 l5) sM_34 ) sM ) ∧ (¬ r24 = 0 → Q (-1000002) sM))) sM l1)))  l2 l3 l4 l5)))  l1
def wp_M_take (Q : Int → jx_St → Prop) (sM : jx_St) (l1 : Int) : Prop :=
  wp_M_isBox (fun r1 => jx_R r1 ∧ ((r1 = 0 → Q (-1000001) sM) ∧ (¬ r1 = 0 → wp_M_isThere (fun r12 => jx_R r12 ∧ ((r12 = 0 → Q (-1000002) sM) ∧ (¬ r12 = 0 → wp_M_copy (fun sM_22 => wp_M_record (fun sM_26 => wp_M_takesBox (fun sM_31 => wp_M_tells (fun sM_35 => wp_M_levels (fun r39 => Q r39 sM_35) sM_35 ) sM_31 ) sM_26 l1) sM_22 ) sM ))) sM l1)))  l1
def wp_M_type (Q : Int → jx_St → Prop) (sM : jx_St) (l1 : Int) : Prop :=
  wp_M_in (fun r5 => jx_R r5 ∧ ((r5 = 0 → Q (-1000001) sM) ∧ (¬ r5 = 0 → jx_R (sM 6 0) ∧ (((sM 6 0) = 60 → Q (-1000003) sM) ∧ (¬ (sM 6 0) = 60 → jx_B (sM 6 0) 60 ∧ (Q ((jx_su (jx_su sM 3 (sM 6 0) l1) 6 0 (((jx_su sM 3 (sM 6 0) l1) 6 0) + 1)) 6 0) (jx_su (jx_su sM 3 (sM 6 0) l1) 6 0 (((jx_su sM 3 (sM 6 0) l1) 6 0) + 1))))))))  l1 32 126
def wp_M_undo_36 (Q : Int → jx_St → Prop) (K70 : jx_St → Prop) (B36 : jx_St × Int → Prop) (sM : jx_St) (l1 : Int) : Prop :=
  jx_R l1 ∧ ((l1 < 439 → jx_B ((439 * (sM 5 0)) + l1) 1756 ∧ (jx_B l1 439 ∧ (B36 ((jx_su sM 0 l1 (sM 2 ((439 * (sM 5 0)) + l1))), (l1 + 1))))) ∧ (¬ l1 < 439 → K70 sM))
def wp_M_undo_70 (Q : Int → jx_St → Prop) (sM : jx_St) : Prop :=
  Q (sM 4 0) sM
def wp_M_undo (Q : Int → jx_St → Prop) (sM : jx_St) : Prop :=
  jx_R (sM 4 0) ∧ (((sM 4 0) = 0 → Q (-1000002) sM) ∧ (¬ (sM 4 0) = 0 → jx_lp (fun B36v v36 => wp_M_undo_36 Q (fun w36 => wp_M_undo_70 Q w36) B36v v36.1 v36.2) ((jx_su (jx_su sM 5 0 (jx_rem (((sM 5 0) + 4) - 1) 4)) 4 0 (((jx_su sM 5 0 (jx_rem (((sM 5 0) + 4) - 1) 4)) 4 0) - 1)), 0)))
def wp_M_window_75 (Q : Int → jx_St → Prop) (l1 : Int) (l2 : Int) (l3 : Int) (l4 : Int) (l5 : Int) (B34 : Int × Int → Prop) (K84 : Int → Prop) (sM : jx_St) (l7 : Int) (t0 : Int) (t1 : Int) : Prop :=
  B34 ((jx_or t0 t1), (l7 + 1))
def wp_M_window_74 (Q : Int → jx_St → Prop) (l1 : Int) (l2 : Int) (l3 : Int) (l4 : Int) (l5 : Int) (B34 : Int × Int → Prop) (K84 : Int → Prop) (sM : jx_St) (l7 : Int) (t0 : Int) : Prop :=
  wp_M_window_75 Q l1 l2 l3 l4 l5 B34 K84 sM l7 t0 0
def wp_M_window_34 (Q : Int → jx_St → Prop) (l1 : Int) (l2 : Int) (l3 : Int) (l4 : Int) (l5 : Int) (K84 : Int → Prop) (sM : jx_St) (B34 : Int × Int → Prop) (l6 : Int) (l7 : Int) : Prop :=
  jx_R l7 ∧ ((l7 < 31 → wp_M_isThere (fun r46 => jx_R r46 ∧ ((r46 = 0 → wp_M_window_74 Q l1 l2 l3 l4 l5 B34 K84 sM l7 l6) ∧ (¬ r46 = 0 → wp_M_meets (fun r61 => jx_R r61 ∧ ((r61 = 0 → wp_M_window_74 Q l1 l2 l3 l4 l5 B34 K84 sM l7 l6) ∧ (¬ r61 = 0 → wp_M_window_75 Q l1 l2 l3 l4 l5 B34 K84 sM l7 l6 (jx_shl 1 l7)))) sM l7 0 l1 l2 l3 l4))) sM l7) ∧ (¬ l7 < 31 → K84 l6))
def wp_M_window_138 (Q : Int → jx_St → Prop) (l1 : Int) (l2 : Int) (l3 : Int) (l4 : Int) (l5 : Int) (B90 : Int × Int → Prop) (K147 : Int → Prop) (sM : jx_St) (l6 : Int) (l8 : Int) (t0 : Int) (t1 : Int) : Prop :=
  B90 ((t0 + t1), (l8 + 1))
def wp_M_window_137 (Q : Int → jx_St → Prop) (l1 : Int) (l2 : Int) (l3 : Int) (l4 : Int) (l5 : Int) (B90 : Int × Int → Prop) (K147 : Int → Prop) (sM : jx_St) (l6 : Int) (l8 : Int) (t0 : Int) : Prop :=
  wp_M_window_138 Q l1 l2 l3 l4 l5 B90 K147 sM l6 l8 t0 0
def wp_M_window_90 (Q : Int → jx_St → Prop) (l1 : Int) (l2 : Int) (l3 : Int) (l4 : Int) (l5 : Int) (K147 : Int → Prop) (sM : jx_St) (l6 : Int) (B90 : Int × Int → Prop) (l7 : Int) (l8 : Int) : Prop :=
  jx_R l8 ∧ ((l8 < 40 → wp_M_levelOf (fun r102 => jx_R r102 ∧ ((r102 = (-1) → wp_M_window_137 Q l1 l2 l3 l4 l5 B90 K147 sM l6 l8 l7) ∧ (¬ r102 = (-1) → wp_M_manyOf (fun r112 => jx_R r112 ∧ ((r112 ≤ 0 → wp_M_window_137 Q l1 l2 l3 l4 l5 B90 K147 sM l6 l8 l7) ∧ (¬ r112 ≤ 0 → wp_M_meets (fun r127 => jx_R r127 ∧ ((r127 = 0 → wp_M_window_137 Q l1 l2 l3 l4 l5 B90 K147 sM l6 l8 l7) ∧ (¬ r127 = 0 → wp_M_window_138 Q l1 l2 l3 l4 l5 B90 K147 sM l6 l8 l7 1))) sM l8 1 l1 l2 l3 l4))) sM l8))) sM l8) ∧ (¬ l8 < 40 → K147 l7))
def wp_M_window_147 (Q : Int → jx_St → Prop) (l1 : Int) (l2 : Int) (l3 : Int) (l4 : Int) (l5 : Int) (sM : jx_St) (l6 : Int) (l7 : Int) : Prop :=
  jx_R l5 ∧ ((l5 = 0 → Q l6 sM) ∧ (¬ l5 = 0 → Q l7 sM))
def wp_M_window_84 (Q : Int → jx_St → Prop) (l1 : Int) (l2 : Int) (l3 : Int) (l4 : Int) (l5 : Int) (sM : jx_St) (l6 : Int) : Prop :=
  jx_lp (fun B90v v90 => wp_M_window_90 Q l1 l2 l3 l4 l5 (fun w90 => wp_M_window_147 Q l1 l2 l3 l4 l5 sM l6 w90) sM l6 B90v v90.1 v90.2) (0, 0)
def wp_M_window (Q : Int → jx_St → Prop) (sM : jx_St) (l1 : Int) (l2 : Int) (l3 : Int) (l4 : Int) (l5 : Int) : Prop :=
  wp_M_areSides (fun r5 => jx_R r5 ∧ ((r5 = 0 → Q (-1000001) sM) ∧ (¬ r5 = 0 → wp_M_in (fun r15 => jx_R r15 ∧ ((r15 = 0 → Q (-1000001) sM) ∧ (¬ r15 = 0 → wp_M_lay (fun sM_25 => jx_lp (fun B34v v34 => wp_M_window_34 Q l1 l2 l3 l4 l5 (fun w34 => wp_M_window_84 Q l1 l2 l3 l4 l5 sM_25 w34) sM_25 B34v v34.1 v34.2) (0, 0)) sM )))  l5 0 1)))  l1 l2 l3 l4
def wp_M_would_27 (Q : Int → jx_St → Prop) (l1 : Int) (l2 : Int) (l3 : Int) (l4 : Int) (l5 : Int) (K49 : Int → Prop) (sM : jx_St) (B27 : Int → Prop) (l6 : Int) : Prop :=
  jx_R l6 ∧ ((l6 < 31 → wp_M_isThere (fun r37 => jx_R r37 ∧ ((r37 = 0 → K49 l6) ∧ (¬ r37 = 0 → B27 (l6 + 1)))) sM l6) ∧ (¬ l6 < 31 → K49 l6))
def wp_M_would_134 (Q : Int → jx_St → Prop) (l1 : Int) (l2 : Int) (l3 : Int) (l4 : Int) (l5 : Int) (K157 : jx_St × Int → Prop) (l6 : Int) (B134 : jx_St × Int → Prop) (sM : jx_St) (l7 : Int) : Prop :=
  wp_M_levelOf (fun r137 => jx_R r137 ∧ ((r137 ≤ 0 → K157 (sM, l7)) ∧ (¬ r137 ≤ 0 → wp_M_wayOn (fun r149 sM_149 => B134 (sM_149, r149)) sM l7 l6 0))) sM l7
def wp_M_would_180 (Q : Int → jx_St → Prop) (l1 : Int) (l2 : Int) (l3 : Int) (l4 : Int) (l5 : Int) (sM : jx_St) (l6 : Int) (l8 : Int) (t0 : Int) : Prop :=
  wp_M_putsBox (fun sM_190 => wp_M_levels (fun r194 => wp_M_overlapsOf (fun r201 sM_201 => wp_M_back (fun sM_207 => jx_R l5 ∧ ((l5 = 0 → Q l8 sM_207) ∧ (¬ l5 = 0 → jx_R l5 ∧ ((l5 = 1 → Q t0 sM_207) ∧ (¬ l5 = 1 → jx_R l5 ∧ ((l5 = 2 → Q (sM_207 17 0) sM_207) ∧ (¬ l5 = 2 → jx_R l5 ∧ ((l5 = 3 → Q r194 sM_207) ∧ (¬ l5 = 3 → Q r201 sM_207))))))))) sM_201 ) sM_190 0) sM_190 ) sM l6 l1 l2 l3 l4
def wp_M_would_157 (Q : Int → jx_St → Prop) (l1 : Int) (l2 : Int) (l3 : Int) (l4 : Int) (l5 : Int) (sM : jx_St) (l6 : Int) (l7 : Int) : Prop :=
  wp_M_placeOf (fun r160 sM_160 => wp_M_manyOf (fun r168 => jx_R r168 ∧ ((r168 = 4 → wp_M_would_180 Q l1 l2 l3 l4 l5 sM_160 l6 r160 1) ∧ (¬ r168 = 4 → wp_M_would_180 Q l1 l2 l3 l4 l5 sM_160 l6 r160 0))) sM_160 l7) sM l7
def wp_M_would_49 (Q : Int → jx_St → Prop) (l1 : Int) (l2 : Int) (l3 : Int) (l4 : Int) (l5 : Int) (sM : jx_St) (l6 : Int) : Prop :=
  jx_R l6 ∧ ((l6 = 31 → Q (-1000002) sM) ∧ (¬ l6 = 31 → wp_M_copy (fun sM_60 => jx_B (35 + (4 * l6)) 439 ∧ (jx_B ((35 + (4 * l6)) + 1) 439 ∧ (jx_B ((35 + (4 * l6)) + 2) 439 ∧ (jx_B ((35 + (4 * l6)) + 3) 439 ∧ (wp_M_lay (fun sM_123 => jx_lp (fun B134v v134 => wp_M_would_134 Q l1 l2 l3 l4 l5 (fun w134 => wp_M_would_157 Q l1 l2 l3 l4 l5 w134.1 l6 w134.2) l6 B134v v134.1 v134.2) (sM_123, (sM_123 0 0))) (jx_su (jx_su (jx_su (jx_su sM_60 0 (35 + (4 * l6)) l1) 0 ((35 + (4 * l6)) + 1) l2) 0 ((35 + (4 * l6)) + 2) l3) 0 ((35 + (4 * l6)) + 3) l4) ))))) sM ))
def wp_M_would (Q : Int → jx_St → Prop) (sM : jx_St) (l1 : Int) (l2 : Int) (l3 : Int) (l4 : Int) (l5 : Int) : Prop :=
  wp_M_areSides (fun r5 => jx_R r5 ∧ ((r5 = 0 → Q (-1000001) sM) ∧ (¬ r5 = 0 → wp_M_in (fun r15 => jx_R r15 ∧ ((r15 = 0 → Q (-1000001) sM) ∧ (¬ r15 = 0 → jx_lp (fun B27v v27 => wp_M_would_27 Q l1 l2 l3 l4 l5 (fun w27 => wp_M_would_49 Q l1 l2 l3 l4 l5 sM w27) sM B27v v27) 0)))  l5 0 4)))  l1 l2 l3 l4
def wp_M_wouldTake (Q : Int → jx_St → Prop) (sM : jx_St) (l1 : Int) (l2 : Int) : Prop :=
  wp_M_isBox (fun r1 => jx_R r1 ∧ ((r1 = 0 → Q (-1000001) sM) ∧ (¬ r1 = 0 → wp_M_in (fun r10 => jx_R r10 ∧ ((r10 = 0 → Q (-1000001) sM) ∧ (¬ r10 = 0 → wp_M_isThere (fun r21 => jx_R r21 ∧ ((r21 = 0 → Q (-1000004) sM) ∧ (¬ r21 = 0 → wp_M_copy (fun sM_31 => wp_M_takesBox (fun sM_36 => wp_M_levels (fun r54 => wp_M_overlapsOf (fun r61 sM_61 => wp_M_back (fun sM_67 => jx_R l2 ∧ ((l2 = 0 → Q ((sM_36 0 3) - (sM_36 1 3)) sM_67) ∧ (¬ l2 = 0 → jx_R l2 ∧ ((l2 = 1 → Q (sM_67 17 0) sM_67) ∧ (¬ l2 = 1 → jx_R l2 ∧ ((l2 = 2 → Q r54 sM_67) ∧ (¬ l2 = 2 → Q r61 sM_67))))))) sM_61 ) sM_36 0) sM_36 ) sM_31 l1) sM ))) sM l1)))  l2 0 3)))  l1
