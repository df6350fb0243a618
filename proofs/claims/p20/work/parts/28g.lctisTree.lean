set_option maxRecDepth 100000 in
set_option maxHeartbeats 4000000 in
theorem ct_L_isTree (l : Launch) (D : va_G) (cI cT : ClassId) (aB : Nat → Nat) (aC : Nat → Nat) (aS : Nat → Nat) (aT : Nat → Nat) (aW : Nat → Nat) (aV : Nat → Nat) (aU : Nat → Nat) (aH : Nat → Nat) (hT : Nat → Nat → Nat) (aO : Nat → Nat) (Q : Int → jx_St → Prop) (sB : jx_St) (sC : jx_St) (sS : jx_St) (sT : jx_St) (sH : jx_St) (sO : jx_St) (h : wp_L_isTree Q sB sC sS sT sH sO) : jx_KI jx_St l D cI cT yL_isTree cL_isTree 18 .boolean 5 117 [.ref (aB 0)] [(cp_B aB (aT 0) (aS 0) (aC 0) (aU 0) (aV 0) (aW 0) (aH 0) (aO 0), sB), (cp_C aC (aT 0) (aS 0), sC), (cp_S aS (aT 0), sS), (cp_T aT, sT), (cp_H aH (fun j => hT j 0), sH), (cp_O aO, sO)] (fun u => [(cp_B aB (aT 0) (aS 0) (aC 0) (aU 0) (aV 0) (aW 0) (aH 0) (aO 0), sB), (cp_C aC (aT 0) (aS 0), sC), (cp_S aS (aT 0), u), (cp_T aT, sT), (cp_H aH (fun j => hT j 0), sH), (cp_O aO, sO)]) Q := by
  refine jx_ent (own := RL) (by decide) rfl (Nat.le_of_ble_eq_true rfl) ?_
  intro p e s m args below meth c A QQ C hr hlk hK hAe hA hP hD hS ls hl hQQ
  have hl : lv_has ls 18 [(0, .ref (aB 0))] := hl
  have hx := C.1
  have hb := C.2.1
  unfold wp_L_isTree at h
  have Lo19 : ∀ (l1 : Int) (K630 : jx_St × Int × Int × Int × Int → Prop) (n : Nat) (sS : jx_St) (l2 : Int) (l3 : Int) (l4 : Int) (l5 : Int) (l6 : Int), jx_it (fun B19 v => wp_L_isTree_19 Q sB sC sT sH sO K630 l1 B19 v.1 v.2.1 v.2.2.1 v.2.2.2.1 v.2.2.2.2.1 v.2.2.2.2.2) n (sS, l2, l3, l4, l5, l6) → (∀ (sS : jx_St) (l2 : Int) (l3 : Int) (l4 : Int) (l5 : Int), K630 (sS, l2, l3, l4, l5) → ∀ (H : Heap) (locs : List Loc), va_P D vwCl (jx_ws cI cT [(cp_B aB (aT 0) (aS 0) (aC 0) (aU 0) (aV 0) (aW 0) (aH 0) (aO 0), sB), (cp_C aC (aT 0) (aS 0), sC), (cp_S aS (aT 0), sS), (cp_T aT, sT), (cp_H aH (fun j => hT j 0), sH), (cp_O aO, sO)]) H → va_D A (jx_ws cI cT [(cp_B aB (aT 0) (aS 0) (aC 0) (aU 0) (aV 0) (aW 0) (aH 0) (aO 0), sB), (cp_C aC (aT 0) (aS 0), sC), (cp_S aS (aT 0), sS), (cp_T aT, sT), (cp_H aH (fun j => hT j 0), sH), (cp_O aO, sO)]) → va_S A s.heap H locs → ∀ ls : Array Slot, lv_has ls 18 [(0, .ref (aB 0)), (1, .int (jx_i l1)), (2, .int (jx_i l2)), (3, .int (jx_i l3)), (4, .int (jx_i l4)), (5, .int (jx_i l5))] → W p l e (jx_rm 5 117) s m args below meth c H locs 0 0 QQ (F0 m 630 ls [])) → ∀ (H : Heap) (locs : List Loc), va_P D vwCl (jx_ws cI cT [(cp_B aB (aT 0) (aS 0) (aC 0) (aU 0) (aV 0) (aW 0) (aH 0) (aO 0), sB), (cp_C aC (aT 0) (aS 0), sC), (cp_S aS (aT 0), sS), (cp_T aT, sT), (cp_H aH (fun j => hT j 0), sH), (cp_O aO, sO)]) H → va_D A (jx_ws cI cT [(cp_B aB (aT 0) (aS 0) (aC 0) (aU 0) (aV 0) (aW 0) (aH 0) (aO 0), sB), (cp_C aC (aT 0) (aS 0), sC), (cp_S aS (aT 0), sS), (cp_T aT, sT), (cp_H aH (fun j => hT j 0), sH), (cp_O aO, sO)]) → va_S A s.heap H locs → ∀ ls : Array Slot, lv_has ls 18 [(0, .ref (aB 0)), (1, .int (jx_i l1)), (2, .int (jx_i l2)), (3, .int (jx_i l3)), (4, .int (jx_i l4)), (5, .int (jx_i l5)), (6, .int (jx_i l6))] → W p l e (jx_rm 5 117) s m args below meth c H locs 0 0 QQ (F0 m 19 ls []) := by
    intro l1 K630 n
    induction n with
    | zero =>
      intro sS l2 l3 l4 l5 l6 h
      exact (show False from h).elim
    | succ n ih =>
      intro sS l2 l3 l4 l5 l6 h K630E H locs hP hD hS ls hl
      have h : wp_L_isTree_19 Q sB sC sT sH sO K630 l1 (jx_it (fun B19 v => wp_L_isTree_19 Q sB sC sT sH sO K630 l1 B19 v.1 v.2.1 v.2.2.1 v.2.2.2.1 v.2.2.2.2.1 v.2.2.2.2.2) n) sS l2 l3 l4 l5 l6 := h
      have ih := fun sS l2 l3 l4 l5 l6 h => ih sS l2 l3 l4 l5 l6 h K630E
      generalize jx_it (fun B19 v => wp_L_isTree_19 Q sB sC sT sH sO K630 l1 B19 v.1 v.2.1 v.2.2.1 v.2.2.2.1 v.2.2.2.2.1 v.2.2.2.2.2) n = B19 at h ih
      unfold wp_L_isTree_19 at h
      have Lo36 : ∀ (l1 : Int) (l6 : Int) (K546 : jx_St × Int × Int × Int × Int × Int × Int → Prop) (n : Nat) (sS : jx_St) (l2 : Int) (l3 : Int) (l4 : Int) (l5 : Int) (l7 : Int) (l8 : Int), jx_it (fun B36 v => wp_L_isTree_36 Q sB sC sT sH sO K546 l1 l6 B36 v.1 v.2.1 v.2.2.1 v.2.2.2.1 v.2.2.2.2.1 v.2.2.2.2.2.1 v.2.2.2.2.2.2) n (sS, l2, l3, l4, l5, l7, l8) → (∀ (sS : jx_St) (l2 : Int) (l3 : Int) (l4 : Int) (l5 : Int) (l7 : Int) (l8 : Int), K546 (sS, l2, l3, l4, l5, l7, l8) → ∀ (H : Heap) (locs : List Loc), va_P D vwCl (jx_ws cI cT [(cp_B aB (aT 0) (aS 0) (aC 0) (aU 0) (aV 0) (aW 0) (aH 0) (aO 0), sB), (cp_C aC (aT 0) (aS 0), sC), (cp_S aS (aT 0), sS), (cp_T aT, sT), (cp_H aH (fun j => hT j 0), sH), (cp_O aO, sO)]) H → va_D A (jx_ws cI cT [(cp_B aB (aT 0) (aS 0) (aC 0) (aU 0) (aV 0) (aW 0) (aH 0) (aO 0), sB), (cp_C aC (aT 0) (aS 0), sC), (cp_S aS (aT 0), sS), (cp_T aT, sT), (cp_H aH (fun j => hT j 0), sH), (cp_O aO, sO)]) → va_S A s.heap H locs → ∀ ls : Array Slot, lv_has ls 18 [(0, .ref (aB 0)), (1, .int (jx_i l1)), (2, .int (jx_i l2)), (3, .int (jx_i l3)), (4, .int (jx_i l4)), (5, .int (jx_i l5)), (6, .int (jx_i l6)), (7, .int (jx_i l7)), (8, .int (jx_i l8))] → W p l e (jx_rm 5 117) s m args below meth c H locs 0 0 QQ (F0 m 546 ls [])) → ∀ (H : Heap) (locs : List Loc), va_P D vwCl (jx_ws cI cT [(cp_B aB (aT 0) (aS 0) (aC 0) (aU 0) (aV 0) (aW 0) (aH 0) (aO 0), sB), (cp_C aC (aT 0) (aS 0), sC), (cp_S aS (aT 0), sS), (cp_T aT, sT), (cp_H aH (fun j => hT j 0), sH), (cp_O aO, sO)]) H → va_D A (jx_ws cI cT [(cp_B aB (aT 0) (aS 0) (aC 0) (aU 0) (aV 0) (aW 0) (aH 0) (aO 0), sB), (cp_C aC (aT 0) (aS 0), sC), (cp_S aS (aT 0), sS), (cp_T aT, sT), (cp_H aH (fun j => hT j 0), sH), (cp_O aO, sO)]) → va_S A s.heap H locs → ∀ ls : Array Slot, lv_has ls 18 [(0, .ref (aB 0)), (1, .int (jx_i l1)), (2, .int (jx_i l2)), (3, .int (jx_i l3)), (4, .int (jx_i l4)), (5, .int (jx_i l5)), (6, .int (jx_i l6)), (7, .int (jx_i l7)), (8, .int (jx_i l8))] → W p l e (jx_rm 5 117) s m args below meth c H locs 0 0 QQ (F0 m 36 ls []) := by
        intro l1 l6 K546 n
        induction n with
        | zero =>
          intro sS l2 l3 l4 l5 l7 l8 h
          exact (show False from h).elim
        | succ n ih =>
          intro sS l2 l3 l4 l5 l7 l8 h K546E H locs hP hD hS ls hl
          have h : wp_L_isTree_36 Q sB sC sT sH sO K546 l1 l6 (jx_it (fun B36 v => wp_L_isTree_36 Q sB sC sT sH sO K546 l1 l6 B36 v.1 v.2.1 v.2.2.1 v.2.2.2.1 v.2.2.2.2.1 v.2.2.2.2.2.1 v.2.2.2.2.2.2) n) sS l2 l3 l4 l5 l7 l8 := h
          have ih := fun sS l2 l3 l4 l5 l7 l8 h => ih sS l2 l3 l4 l5 l7 l8 h K546E
          generalize jx_it (fun B36 v => wp_L_isTree_36 Q sB sC sT sH sO K546 l1 l6 B36 v.1 v.2.1 v.2.2.1 v.2.2.2.1 v.2.2.2.2.1 v.2.2.2.2.2.1 v.2.2.2.2.2.2) n = B36 at h ih
          unfold wp_L_isTree_36 at h
          have Lo95 : ∀ (l1 : Int) (l2 : Int) (l3 : Int) (l4 : Int) (l6 : Int) (l7 : Int) (l8 : Int) (l9 : Int) (l10 : Int) (K360 : jx_St × Int × Int × Int × Int × Int × Int → Prop) (n : Nat) (sS : jx_St) (l5 : Int) (l11 : Int) (l12 : Int) (l13 : Int) (l14 : Int) (l15 : Int) (l16 : Int), jx_it (fun B95 v => wp_L_isTree_95 Q sB sC sT sH sO K360 l1 l2 l3 l4 l6 l7 l8 l9 l10 B95 v.1 v.2.1 v.2.2.1 v.2.2.2.1 v.2.2.2.2.1 v.2.2.2.2.2.1 v.2.2.2.2.2.2.1 v.2.2.2.2.2.2.2) n (sS, l5, l11, l12, l13, l14, l15, l16) → (∀ (sS : jx_St) (l5 : Int) (l11 : Int) (l12 : Int) (l13 : Int) (l14 : Int) (l15 : Int), K360 (sS, l5, l11, l12, l13, l14, l15) → ∀ (H : Heap) (locs : List Loc), va_P D vwCl (jx_ws cI cT [(cp_B aB (aT 0) (aS 0) (aC 0) (aU 0) (aV 0) (aW 0) (aH 0) (aO 0), sB), (cp_C aC (aT 0) (aS 0), sC), (cp_S aS (aT 0), sS), (cp_T aT, sT), (cp_H aH (fun j => hT j 0), sH), (cp_O aO, sO)]) H → va_D A (jx_ws cI cT [(cp_B aB (aT 0) (aS 0) (aC 0) (aU 0) (aV 0) (aW 0) (aH 0) (aO 0), sB), (cp_C aC (aT 0) (aS 0), sC), (cp_S aS (aT 0), sS), (cp_T aT, sT), (cp_H aH (fun j => hT j 0), sH), (cp_O aO, sO)]) → va_S A s.heap H locs → ∀ ls : Array Slot, lv_has ls 18 [(0, .ref (aB 0)), (1, .int (jx_i l1)), (2, .int (jx_i l2)), (3, .int (jx_i l3)), (4, .int (jx_i l4)), (5, .int (jx_i l5)), (6, .int (jx_i l6)), (7, .int (jx_i l7)), (8, .int (jx_i l8)), (9, .int (jx_i l9)), (10, .int (jx_i l10)), (11, .int (jx_i l11)), (12, .int (jx_i l12)), (13, .int (jx_i l13)), (14, .int (jx_i l14)), (15, .int (jx_i l15))] → W p l e (jx_rm 5 117) s m args below meth c H locs 0 0 QQ (F0 m 360 ls [])) → ∀ (H : Heap) (locs : List Loc), va_P D vwCl (jx_ws cI cT [(cp_B aB (aT 0) (aS 0) (aC 0) (aU 0) (aV 0) (aW 0) (aH 0) (aO 0), sB), (cp_C aC (aT 0) (aS 0), sC), (cp_S aS (aT 0), sS), (cp_T aT, sT), (cp_H aH (fun j => hT j 0), sH), (cp_O aO, sO)]) H → va_D A (jx_ws cI cT [(cp_B aB (aT 0) (aS 0) (aC 0) (aU 0) (aV 0) (aW 0) (aH 0) (aO 0), sB), (cp_C aC (aT 0) (aS 0), sC), (cp_S aS (aT 0), sS), (cp_T aT, sT), (cp_H aH (fun j => hT j 0), sH), (cp_O aO, sO)]) → va_S A s.heap H locs → ∀ ls : Array Slot, lv_has ls 18 [(0, .ref (aB 0)), (1, .int (jx_i l1)), (2, .int (jx_i l2)), (3, .int (jx_i l3)), (4, .int (jx_i l4)), (5, .int (jx_i l5)), (6, .int (jx_i l6)), (7, .int (jx_i l7)), (8, .int (jx_i l8)), (9, .int (jx_i l9)), (10, .int (jx_i l10)), (11, .int (jx_i l11)), (12, .int (jx_i l12)), (13, .int (jx_i l13)), (14, .int (jx_i l14)), (15, .int (jx_i l15)), (16, .int (jx_i l16))] → W p l e (jx_rm 5 117) s m args below meth c H locs 0 0 QQ (F0 m 95 ls []) := by
            intro l1 l2 l3 l4 l6 l7 l8 l9 l10 K360 n
            induction n with
            | zero =>
              intro sS l5 l11 l12 l13 l14 l15 l16 h
              exact (show False from h).elim
            | succ n ih =>
              intro sS l5 l11 l12 l13 l14 l15 l16 h K360E H locs hP hD hS ls hl
              have h : wp_L_isTree_95 Q sB sC sT sH sO K360 l1 l2 l3 l4 l6 l7 l8 l9 l10 (jx_it (fun B95 v => wp_L_isTree_95 Q sB sC sT sH sO K360 l1 l2 l3 l4 l6 l7 l8 l9 l10 B95 v.1 v.2.1 v.2.2.1 v.2.2.2.1 v.2.2.2.2.1 v.2.2.2.2.2.1 v.2.2.2.2.2.2.1 v.2.2.2.2.2.2.2) n) sS l5 l11 l12 l13 l14 l15 l16 := h
              have ih := fun sS l5 l11 l12 l13 l14 l15 l16 h => ih sS l5 l11 l12 l13 l14 l15 l16 h K360E
              generalize jx_it (fun B95 v => wp_L_isTree_95 Q sB sC sT sH sO K360 l1 l2 l3 l4 l6 l7 l8 l9 l10 B95 v.1 v.2.1 v.2.2.1 v.2.2.2.1 v.2.2.2.2.1 v.2.2.2.2.2.1 v.2.2.2.2.2.2.1 v.2.2.2.2.2.2.2) n = B95 at h ih
              unfold wp_L_isTree_95 at h
              have J354 : ∀ (sS : jx_St) (l5 : Int) (l11 : Int) (l12 : Int) (l13 : Int) (l14 : Int) (l15 : Int) (l16 : Int), wp_L_isTree_354 Q sB sC sT sH sO B95 K360 sS l1 l2 l3 l4 l5 l6 l7 l8 l9 l10 l11 l12 l13 l14 l15 l16 → ∀ (H : Heap) (locs : List Loc), va_P D vwCl (jx_ws cI cT [(cp_B aB (aT 0) (aS 0) (aC 0) (aU 0) (aV 0) (aW 0) (aH 0) (aO 0), sB), (cp_C aC (aT 0) (aS 0), sC), (cp_S aS (aT 0), sS), (cp_T aT, sT), (cp_H aH (fun j => hT j 0), sH), (cp_O aO, sO)]) H → va_D A (jx_ws cI cT [(cp_B aB (aT 0) (aS 0) (aC 0) (aU 0) (aV 0) (aW 0) (aH 0) (aO 0), sB), (cp_C aC (aT 0) (aS 0), sC), (cp_S aS (aT 0), sS), (cp_T aT, sT), (cp_H aH (fun j => hT j 0), sH), (cp_O aO, sO)]) → va_S A s.heap H locs → ∀ ls : Array Slot, lv_has ls 18 [(0, .ref (aB 0)), (1, .int (jx_i l1)), (2, .int (jx_i l2)), (3, .int (jx_i l3)), (4, .int (jx_i l4)), (5, .int (jx_i l5)), (6, .int (jx_i l6)), (7, .int (jx_i l7)), (8, .int (jx_i l8)), (9, .int (jx_i l9)), (10, .int (jx_i l10)), (11, .int (jx_i l11)), (12, .int (jx_i l12)), (13, .int (jx_i l13)), (14, .int (jx_i l14)), (15, .int (jx_i l15)), (16, .int (jx_i l16))] → W p l e (jx_rm 5 117) s m args below meth c H locs 0 0 QQ (F0 m 354 ls []) := by
                intro sS l5 l11 l12 l13 l14 l15 l16 h H locs hP hD hS ls hl
                unfold wp_L_isTree_354 at h
                refine jx_iinc C (lv' := [(16, .int (jx_i (l16 + 1))), (0, .ref (aB 0)), (1, .int (jx_i l1)), (2, .int (jx_i l2)), (3, .int (jx_i l3)), (4, .int (jx_i l4)), (5, .int (jx_i l5)), (6, .int (jx_i l6)), (7, .int (jx_i l7)), (8, .int (jx_i l8)), (9, .int (jx_i l9)), (10, .int (jx_i l10)), (11, .int (jx_i l11)), (12, .int (jx_i l12)), (13, .int (jx_i l13)), (14, .int (jx_i l14)), (15, .int (jx_i l15))]) dL_isTree_354 hl (k := 16) rfl (by decide) rfl (fun ls hl => ?_)
                refine lv_goto (tgt := 95) hx hb dL_isTree_357 (by decide) ?_
                exact ih sS l5 l11 l12 l13 l14 l15 (l16 + 1) h _ _ hP hD hS ls (lv_sub hl [1, 2, 3, 4, 5, 6, 7, 8, 9, 10, 11, 12, 13, 14, 15, 16, 0] rfl)
              have J265 : ∀ (sS : jx_St) (l5 : Int) (l11 : Int) (l12 : Int) (l13 : Int) (l14 : Int) (l15 : Int) (l16 : Int) (l17 : Int), wp_L_isTree_265 Q sB sC sT sH sO B95 K360 sS l1 l2 l3 l4 l5 l6 l7 l8 l9 l10 l11 l12 l13 l14 l15 l16 l17 → ∀ (H : Heap) (locs : List Loc), va_P D vwCl (jx_ws cI cT [(cp_B aB (aT 0) (aS 0) (aC 0) (aU 0) (aV 0) (aW 0) (aH 0) (aO 0), sB), (cp_C aC (aT 0) (aS 0), sC), (cp_S aS (aT 0), sS), (cp_T aT, sT), (cp_H aH (fun j => hT j 0), sH), (cp_O aO, sO)]) H → va_D A (jx_ws cI cT [(cp_B aB (aT 0) (aS 0) (aC 0) (aU 0) (aV 0) (aW 0) (aH 0) (aO 0), sB), (cp_C aC (aT 0) (aS 0), sC), (cp_S aS (aT 0), sS), (cp_T aT, sT), (cp_H aH (fun j => hT j 0), sH), (cp_O aO, sO)]) → va_S A s.heap H locs → ∀ ls : Array Slot, lv_has ls 18 [(0, .ref (aB 0)), (1, .int (jx_i l1)), (2, .int (jx_i l2)), (3, .int (jx_i l3)), (4, .int (jx_i l4)), (5, .int (jx_i l5)), (6, .int (jx_i l6)), (7, .int (jx_i l7)), (8, .int (jx_i l8)), (9, .int (jx_i l9)), (10, .int (jx_i l10)), (11, .int (jx_i l11)), (12, .int (jx_i l12)), (13, .int (jx_i l13)), (14, .int (jx_i l14)), (15, .int (jx_i l15)), (16, .int (jx_i l16)), (17, .int (jx_i l17))] → W p l e (jx_rm 5 117) s m args below meth c H locs 0 0 QQ (F0 m 265 ls []) := by
                intro sS l5 l11 l12 l13 l14 l15 l16 l17 h H locs hP hD hS ls hl
                unfold wp_L_isTree_265 at h
                refine lv_iload hx hb dL_isTree_265 (lv_at hl 17 rfl) ?_
                refine jx_zeq C h.1 (tgt := 354) dL_isTree_267 (by decide) (fun hc => ?_) (fun hc => ?_)
                · have h := h.2.1 hc
                  exact J354 sS l5 l11 l12 l13 l14 l15 l16 h _ _ hP hD hS ls (lv_sub hl [0, 1, 2, 3, 4, 5, 6, 7, 8, 9, 10, 11, 12, 13, 14, 15, 16] rfl)
                · have h := h.2.2 hc
                  refine lv_iload hx hb dL_isTree_270 (lv_at hl 11 rfl) ?_
                  refine lv_aload_n hx hb dL_isTree_272 rfl (lv_at hl 0 rfl) ?_
                  refine lv_iload hx hb dL_isTree_273 (lv_at hl 6 rfl) ?_
                  refine jx_iconst C dL_isTree_275 ?_
                  refine jx_isub C dL_isTree_276 ?_
                  refine lv_iload hx hb dL_isTree_277 (lv_at hl 10 rfl) ?_
                  refine lv_iload hx hb dL_isTree_279 (lv_at hl 16 rfl) ?_
                  refine jx_iadd C dL_isTree_281 ?_
                  refine jx_iconst C dL_isTree_282 ?_
                  refine jx_callVI C hK hP hD hS hA (ct_B_nodeOf l D cI cT aB aC aS aT aW aV aU aH hT aO _ sB sS sT (l6 - 1) (l10 + l16) 0 h) ms_X7_nodeOf lk_L_23 [0, 2, 3] rfl rfl (fun _ => rfl) (cs' := (fun u => [(cp_B aB (aT 0) (aS 0) (aC 0) (aU 0) (aV 0) (aW 0) (aH 0) (aO 0), sB), (cp_C aC (aT 0) (aS 0), sC), (cp_S aS (aT 0), u), (cp_T aT, sT), (cp_H aH (fun j => hT j 0), sH), (cp_O aO, sO)])) (fun _ => rfl) (fun _ => rfl) 0 0 rfl rfl rfl rfl rfl hl.1 rfl rfl dL_isTree_283 ⟨Nat.le_refl _, Nat.le_refl _⟩ (fun r283 sS_283 H locs h hP hD hS => ?_)
                  have hP : va_P D vwCl (jx_ws cI cT [(cp_B aB (aT 0) (aS 0) (aC 0) (aU 0) (aV 0) (aW 0) (aH 0) (aO 0), sB), (cp_C aC (aT 0) (aS 0), sC), (cp_S aS (aT 0), sS_283), (cp_T aT, sT), (cp_H aH (fun j => hT j 0), sH), (cp_O aO, sO)]) H := hP
                  have hD : va_D A (jx_ws cI cT [(cp_B aB (aT 0) (aS 0) (aC 0) (aU 0) (aV 0) (aW 0) (aH 0) (aO 0), sB), (cp_C aC (aT 0) (aS 0), sC), (cp_S aS (aT 0), sS_283), (cp_T aT, sT), (cp_H aH (fun j => hT j 0), sH), (cp_O aO, sO)]) := hD
                  refine jx_callSI C hK hP hD hS hA (ct_L_lesser l D cI cT  _  l11 r283 h) ms_L_lesser lk_L_71 [] rfl rfl (fun _ => rfl) (cs' := (fun _ => [(cp_B aB (aT 0) (aS 0) (aC 0) (aU 0) (aV 0) (aW 0) (aH 0) (aO 0), sB), (cp_C aC (aT 0) (aS 0), sC), (cp_S aS (aT 0), sS_283), (cp_T aT, sT), (cp_H aH (fun j => hT j 0), sH), (cp_O aO, sO)])) (fun _ => rfl) (fun _ => rfl) rfl rfl hl.1 rfl rfl dL_isTree_286 ⟨Nat.le_refl _, Nat.le_refl _⟩ (fun r286 _ H locs h hP hD hS => ?_)
                  have hP : va_P D vwCl (jx_ws cI cT [(cp_B aB (aT 0) (aS 0) (aC 0) (aU 0) (aV 0) (aW 0) (aH 0) (aO 0), sB), (cp_C aC (aT 0) (aS 0), sC), (cp_S aS (aT 0), sS_283), (cp_T aT, sT), (cp_H aH (fun j => hT j 0), sH), (cp_O aO, sO)]) H := hP
                  have hD : va_D A (jx_ws cI cT [(cp_B aB (aT 0) (aS 0) (aC 0) (aU 0) (aV 0) (aW 0) (aH 0) (aO 0), sB), (cp_C aC (aT 0) (aS 0), sC), (cp_S aS (aT 0), sS_283), (cp_T aT, sT), (cp_H aH (fun j => hT j 0), sH), (cp_O aO, sO)]) := hD
                  refine lv_istore (lv' := [(11, .int (jx_i r286)), (0, .ref (aB 0)), (1, .int (jx_i l1)), (2, .int (jx_i l2)), (3, .int (jx_i l3)), (4, .int (jx_i l4)), (5, .int (jx_i l5)), (6, .int (jx_i l6)), (7, .int (jx_i l7)), (8, .int (jx_i l8)), (9, .int (jx_i l9)), (10, .int (jx_i l10)), (12, .int (jx_i l12)), (13, .int (jx_i l13)), (14, .int (jx_i l14)), (15, .int (jx_i l15)), (16, .int (jx_i l16)), (17, .int (jx_i l17))]) hx hb dL_isTree_289 hl (by decide) rfl (fun ls hl => ?_)
                  refine lv_iload hx hb dL_isTree_291 (lv_at hl 12 rfl) ?_
                  refine lv_aload_n hx hb dL_isTree_293 rfl (lv_at hl 1 rfl) ?_
                  refine lv_iload hx hb dL_isTree_294 (lv_at hl 7 rfl) ?_
                  refine jx_iconst C dL_isTree_296 ?_
                  refine jx_isub C dL_isTree_297 ?_
                  refine lv_iload hx hb dL_isTree_298 (lv_at hl 11 rfl) ?_
                  refine lv_iload hx hb dL_isTree_300 (lv_at hl 16 rfl) ?_
                  refine jx_iadd C dL_isTree_302 ?_
                  refine jx_iconst C dL_isTree_303 ?_
                  refine jx_callVI C hK hP hD hS hA (ct_B_nodeOf l D cI cT aB aC aS aT aW aV aU aH hT aO _ sB sS_283 sT (l6 - 1) (l10 + l16) 1 h) ms_X7_nodeOf lk_L_23 [0, 2, 3] rfl rfl (fun _ => rfl) (cs' := (fun u => [(cp_B aB (aT 0) (aS 0) (aC 0) (aU 0) (aV 0) (aW 0) (aH 0) (aO 0), sB), (cp_C aC (aT 0) (aS 0), sC), (cp_S aS (aT 0), u), (cp_T aT, sT), (cp_H aH (fun j => hT j 0), sH), (cp_O aO, sO)])) (fun _ => rfl) (fun _ => rfl) 0 0 rfl rfl rfl rfl rfl hl.1 rfl rfl dL_isTree_304 ⟨Nat.le_refl _, Nat.le_refl _⟩ (fun r304 sS_304 H locs h hP hD hS => ?_)
                  have hP : va_P D vwCl (jx_ws cI cT [(cp_B aB (aT 0) (aS 0) (aC 0) (aU 0) (aV 0) (aW 0) (aH 0) (aO 0), sB), (cp_C aC (aT 0) (aS 0), sC), (cp_S aS (aT 0), sS_304), (cp_T aT, sT), (cp_H aH (fun j => hT j 0), sH), (cp_O aO, sO)]) H := hP
                  have hD : va_D A (jx_ws cI cT [(cp_B aB (aT 0) (aS 0) (aC 0) (aU 0) (aV 0) (aW 0) (aH 0) (aO 0), sB), (cp_C aC (aT 0) (aS 0), sC), (cp_S aS (aT 0), sS_304), (cp_T aT, sT), (cp_H aH (fun j => hT j 0), sH), (cp_O aO, sO)]) := hD
                  refine jx_callSI C hK hP hD hS hA (ct_L_lesser l D cI cT  _  l12 r304 h) ms_L_lesser lk_L_71 [] rfl rfl (fun _ => rfl) (cs' := (fun _ => [(cp_B aB (aT 0) (aS 0) (aC 0) (aU 0) (aV 0) (aW 0) (aH 0) (aO 0), sB), (cp_C aC (aT 0) (aS 0), sC), (cp_S aS (aT 0), sS_304), (cp_T aT, sT), (cp_H aH (fun j => hT j 0), sH), (cp_O aO, sO)])) (fun _ => rfl) (fun _ => rfl) rfl rfl hl.1 rfl rfl dL_isTree_307 ⟨Nat.le_refl _, Nat.le_refl _⟩ (fun r307 _ H locs h hP hD hS => ?_)
                  have hP : va_P D vwCl (jx_ws cI cT [(cp_B aB (aT 0) (aS 0) (aC 0) (aU 0) (aV 0) (aW 0) (aH 0) (aO 0), sB), (cp_C aC (aT 0) (aS 0), sC), (cp_S aS (aT 0), sS_304), (cp_T aT, sT), (cp_H aH (fun j => hT j 0), sH), (cp_O aO, sO)]) H := hP
                  have hD : va_D A (jx_ws cI cT [(cp_B aB (aT 0) (aS 0) (aC 0) (aU 0) (aV 0) (aW 0) (aH 0) (aO 0), sB), (cp_C aC (aT 0) (aS 0), sC), (cp_S aS (aT 0), sS_304), (cp_T aT, sT), (cp_H aH (fun j => hT j 0), sH), (cp_O aO, sO)]) := hD
                  refine lv_istore (lv' := [(12, .int (jx_i r307)), (11, .int (jx_i r286)), (0, .ref (aB 0)), (1, .int (jx_i l1)), (2, .int (jx_i l2)), (3, .int (jx_i l3)), (4, .int (jx_i l4)), (5, .int (jx_i l5)), (6, .int (jx_i l6)), (7, .int (jx_i l7)), (8, .int (jx_i l8)), (9, .int (jx_i l9)), (10, .int (jx_i l10)), (13, .int (jx_i l13)), (14, .int (jx_i l14)), (15, .int (jx_i l15)), (16, .int (jx_i l16)), (17, .int (jx_i l17))]) hx hb dL_isTree_310 hl (by decide) rfl (fun ls hl => ?_)
                  refine lv_iload hx hb dL_isTree_312 (lv_at hl 13 rfl) ?_
                  refine lv_aload_n hx hb dL_isTree_314 rfl (lv_at hl 2 rfl) ?_
                  refine lv_iload hx hb dL_isTree_315 (lv_at hl 8 rfl) ?_
                  refine jx_iconst C dL_isTree_317 ?_
                  refine jx_isub C dL_isTree_318 ?_
                  refine lv_iload hx hb dL_isTree_319 (lv_at hl 12 rfl) ?_
                  refine lv_iload hx hb dL_isTree_321 (lv_at hl 16 rfl) ?_
                  refine jx_iadd C dL_isTree_323 ?_
                  refine jx_iconst C dL_isTree_324 ?_
                  refine jx_callVI C hK hP hD hS hA (ct_B_nodeOf l D cI cT aB aC aS aT aW aV aU aH hT aO _ sB sS_304 sT (l6 - 1) (l10 + l16) 2 h) ms_X7_nodeOf lk_L_23 [0, 2, 3] rfl rfl (fun _ => rfl) (cs' := (fun u => [(cp_B aB (aT 0) (aS 0) (aC 0) (aU 0) (aV 0) (aW 0) (aH 0) (aO 0), sB), (cp_C aC (aT 0) (aS 0), sC), (cp_S aS (aT 0), u), (cp_T aT, sT), (cp_H aH (fun j => hT j 0), sH), (cp_O aO, sO)])) (fun _ => rfl) (fun _ => rfl) 0 0 rfl rfl rfl rfl rfl hl.1 rfl rfl dL_isTree_325 ⟨Nat.le_refl _, Nat.le_refl _⟩ (fun r325 sS_325 H locs h hP hD hS => ?_)
                  have hP : va_P D vwCl (jx_ws cI cT [(cp_B aB (aT 0) (aS 0) (aC 0) (aU 0) (aV 0) (aW 0) (aH 0) (aO 0), sB), (cp_C aC (aT 0) (aS 0), sC), (cp_S aS (aT 0), sS_325), (cp_T aT, sT), (cp_H aH (fun j => hT j 0), sH), (cp_O aO, sO)]) H := hP
                  have hD : va_D A (jx_ws cI cT [(cp_B aB (aT 0) (aS 0) (aC 0) (aU 0) (aV 0) (aW 0) (aH 0) (aO 0), sB), (cp_C aC (aT 0) (aS 0), sC), (cp_S aS (aT 0), sS_325), (cp_T aT, sT), (cp_H aH (fun j => hT j 0), sH), (cp_O aO, sO)]) := hD
                  refine jx_callSI C hK hP hD hS hA (ct_L_greater l D cI cT  _  l13 r325 h) ms_L_greater lk_L_74 [] rfl rfl (fun _ => rfl) (cs' := (fun _ => [(cp_B aB (aT 0) (aS 0) (aC 0) (aU 0) (aV 0) (aW 0) (aH 0) (aO 0), sB), (cp_C aC (aT 0) (aS 0), sC), (cp_S aS (aT 0), sS_325), (cp_T aT, sT), (cp_H aH (fun j => hT j 0), sH), (cp_O aO, sO)])) (fun _ => rfl) (fun _ => rfl) rfl rfl hl.1 rfl rfl dL_isTree_328 ⟨Nat.le_refl _, Nat.le_refl _⟩ (fun r328 _ H locs h hP hD hS => ?_)
                  have hP : va_P D vwCl (jx_ws cI cT [(cp_B aB (aT 0) (aS 0) (aC 0) (aU 0) (aV 0) (aW 0) (aH 0) (aO 0), sB), (cp_C aC (aT 0) (aS 0), sC), (cp_S aS (aT 0), sS_325), (cp_T aT, sT), (cp_H aH (fun j => hT j 0), sH), (cp_O aO, sO)]) H := hP
                  have hD : va_D A (jx_ws cI cT [(cp_B aB (aT 0) (aS 0) (aC 0) (aU 0) (aV 0) (aW 0) (aH 0) (aO 0), sB), (cp_C aC (aT 0) (aS 0), sC), (cp_S aS (aT 0), sS_325), (cp_T aT, sT), (cp_H aH (fun j => hT j 0), sH), (cp_O aO, sO)]) := hD
                  refine lv_istore (lv' := [(13, .int (jx_i r328)), (12, .int (jx_i r307)), (11, .int (jx_i r286)), (0, .ref (aB 0)), (1, .int (jx_i l1)), (2, .int (jx_i l2)), (3, .int (jx_i l3)), (4, .int (jx_i l4)), (5, .int (jx_i l5)), (6, .int (jx_i l6)), (7, .int (jx_i l7)), (8, .int (jx_i l8)), (9, .int (jx_i l9)), (10, .int (jx_i l10)), (14, .int (jx_i l14)), (15, .int (jx_i l15)), (16, .int (jx_i l16)), (17, .int (jx_i l17))]) hx hb dL_isTree_331 hl (by decide) rfl (fun ls hl => ?_)
                  refine lv_iload hx hb dL_isTree_333 (lv_at hl 14 rfl) ?_
                  refine lv_aload_n hx hb dL_isTree_335 rfl (lv_at hl 3 rfl) ?_
                  refine lv_iload hx hb dL_isTree_336 (lv_at hl 9 rfl) ?_
                  refine jx_iconst C dL_isTree_338 ?_
                  refine jx_isub C dL_isTree_339 ?_
                  refine lv_iload hx hb dL_isTree_340 (lv_at hl 13 rfl) ?_
                  refine lv_iload hx hb dL_isTree_342 (lv_at hl 16 rfl) ?_
                  refine jx_iadd C dL_isTree_344 ?_
                  refine jx_iconst C dL_isTree_345 ?_
                  refine jx_callVI C hK hP hD hS hA (ct_B_nodeOf l D cI cT aB aC aS aT aW aV aU aH hT aO _ sB sS_325 sT (l6 - 1) (l10 + l16) 3 h) ms_X7_nodeOf lk_L_23 [0, 2, 3] rfl rfl (fun _ => rfl) (cs' := (fun u => [(cp_B aB (aT 0) (aS 0) (aC 0) (aU 0) (aV 0) (aW 0) (aH 0) (aO 0), sB), (cp_C aC (aT 0) (aS 0), sC), (cp_S aS (aT 0), u), (cp_T aT, sT), (cp_H aH (fun j => hT j 0), sH), (cp_O aO, sO)])) (fun _ => rfl) (fun _ => rfl) 0 0 rfl rfl rfl rfl rfl hl.1 rfl rfl dL_isTree_346 ⟨Nat.le_refl _, Nat.le_refl _⟩ (fun r346 sS_346 H locs h hP hD hS => ?_)
                  have hP : va_P D vwCl (jx_ws cI cT [(cp_B aB (aT 0) (aS 0) (aC 0) (aU 0) (aV 0) (aW 0) (aH 0) (aO 0), sB), (cp_C aC (aT 0) (aS 0), sC), (cp_S aS (aT 0), sS_346), (cp_T aT, sT), (cp_H aH (fun j => hT j 0), sH), (cp_O aO, sO)]) H := hP
                  have hD : va_D A (jx_ws cI cT [(cp_B aB (aT 0) (aS 0) (aC 0) (aU 0) (aV 0) (aW 0) (aH 0) (aO 0), sB), (cp_C aC (aT 0) (aS 0), sC), (cp_S aS (aT 0), sS_346), (cp_T aT, sT), (cp_H aH (fun j => hT j 0), sH), (cp_O aO, sO)]) := hD
                  refine jx_callSI C hK hP hD hS hA (ct_L_greater l D cI cT  _  l14 r346 h) ms_L_greater lk_L_74 [] rfl rfl (fun _ => rfl) (cs' := (fun _ => [(cp_B aB (aT 0) (aS 0) (aC 0) (aU 0) (aV 0) (aW 0) (aH 0) (aO 0), sB), (cp_C aC (aT 0) (aS 0), sC), (cp_S aS (aT 0), sS_346), (cp_T aT, sT), (cp_H aH (fun j => hT j 0), sH), (cp_O aO, sO)])) (fun _ => rfl) (fun _ => rfl) rfl rfl hl.1 rfl rfl dL_isTree_349 ⟨Nat.le_refl _, Nat.le_refl _⟩ (fun r349 _ H locs h hP hD hS => ?_)
                  have hP : va_P D vwCl (jx_ws cI cT [(cp_B aB (aT 0) (aS 0) (aC 0) (aU 0) (aV 0) (aW 0) (aH 0) (aO 0), sB), (cp_C aC (aT 0) (aS 0), sC), (cp_S aS (aT 0), sS_346), (cp_T aT, sT), (cp_H aH (fun j => hT j 0), sH), (cp_O aO, sO)]) H := hP
                  have hD : va_D A (jx_ws cI cT [(cp_B aB (aT 0) (aS 0) (aC 0) (aU 0) (aV 0) (aW 0) (aH 0) (aO 0), sB), (cp_C aC (aT 0) (aS 0), sC), (cp_S aS (aT 0), sS_346), (cp_T aT, sT), (cp_H aH (fun j => hT j 0), sH), (cp_O aO, sO)]) := hD
                  refine lv_istore (lv' := [(14, .int (jx_i r349)), (13, .int (jx_i r328)), (12, .int (jx_i r307)), (11, .int (jx_i r286)), (0, .ref (aB 0)), (1, .int (jx_i l1)), (2, .int (jx_i l2)), (3, .int (jx_i l3)), (4, .int (jx_i l4)), (5, .int (jx_i l5)), (6, .int (jx_i l6)), (7, .int (jx_i l7)), (8, .int (jx_i l8)), (9, .int (jx_i l9)), (10, .int (jx_i l10)), (15, .int (jx_i l15)), (16, .int (jx_i l16)), (17, .int (jx_i l17))]) hx hb dL_isTree_352 hl (by decide) rfl (fun ls hl => ?_)
                  exact J354 sS_346 l5 r286 r307 r328 r349 l15 l16 h _ _ hP hD hS ls (lv_sub hl [4, 5, 6, 7, 8, 9, 10, 11, 12, 13, 14, 3, 2, 1, 0, 15, 16] rfl)
              have J260 : ∀ (sS : jx_St) (l11 : Int) (l12 : Int) (l13 : Int) (l14 : Int) (l15 : Int) (l16 : Int) (t0 : Int), wp_L_isTree_260 Q sB sC sT sH sO B95 K360 sS l1 l2 l3 l4 l6 l7 l8 l9 l10 l11 l12 l13 l14 l15 l16 t0 → ∀ (H : Heap) (locs : List Loc), va_P D vwCl (jx_ws cI cT [(cp_B aB (aT 0) (aS 0) (aC 0) (aU 0) (aV 0) (aW 0) (aH 0) (aO 0), sB), (cp_C aC (aT 0) (aS 0), sC), (cp_S aS (aT 0), sS), (cp_T aT, sT), (cp_H aH (fun j => hT j 0), sH), (cp_O aO, sO)]) H → va_D A (jx_ws cI cT [(cp_B aB (aT 0) (aS 0) (aC 0) (aU 0) (aV 0) (aW 0) (aH 0) (aO 0), sB), (cp_C aC (aT 0) (aS 0), sC), (cp_S aS (aT 0), sS), (cp_T aT, sT), (cp_H aH (fun j => hT j 0), sH), (cp_O aO, sO)]) → va_S A s.heap H locs → ∀ ls : Array Slot, lv_has ls 18 [(0, .ref (aB 0)), (1, .int (jx_i l1)), (2, .int (jx_i l2)), (3, .int (jx_i l3)), (4, .int (jx_i l4)), (6, .int (jx_i l6)), (7, .int (jx_i l7)), (8, .int (jx_i l8)), (9, .int (jx_i l9)), (10, .int (jx_i l10)), (11, .int (jx_i l11)), (12, .int (jx_i l12)), (13, .int (jx_i l13)), (14, .int (jx_i l14)), (15, .int (jx_i l15)), (16, .int (jx_i l16))] → W p l e (jx_rm 5 117) s m args below meth c H locs 0 0 QQ (F0 m 260 ls [.int (jx_i t0)]) := by
                intro sS l11 l12 l13 l14 l15 l16 t0 h H locs hP hD hS ls hl
                unfold wp_L_isTree_260 at h
                refine lv_istore (lv' := [(5, .int (jx_i t0)), (0, .ref (aB 0)), (1, .int (jx_i l1)), (2, .int (jx_i l2)), (3, .int (jx_i l3)), (4, .int (jx_i l4)), (6, .int (jx_i l6)), (7, .int (jx_i l7)), (8, .int (jx_i l8)), (9, .int (jx_i l9)), (10, .int (jx_i l10)), (11, .int (jx_i l11)), (12, .int (jx_i l12)), (13, .int (jx_i l13)), (14, .int (jx_i l14)), (15, .int (jx_i l15)), (16, .int (jx_i l16))]) hx hb dL_isTree_260 hl (by decide) rfl (fun ls hl => ?_)
                refine lv_goto (tgt := 354) hx hb dL_isTree_262 (by decide) ?_
                exact J354 sS t0 l11 l12 l13 l14 l15 l16 h _ _ hP hD hS ls (lv_sub hl [1, 2, 3, 4, 5, 0, 6, 7, 8, 9, 10, 11, 12, 13, 14, 15, 16] rfl)
              have J259 : ∀ (sS : jx_St) (l11 : Int) (l12 : Int) (l13 : Int) (l14 : Int) (l15 : Int) (l16 : Int), wp_L_isTree_259 Q sB sC sT sH sO B95 K360 sS l1 l2 l3 l4 l6 l7 l8 l9 l10 l11 l12 l13 l14 l15 l16 → ∀ (H : Heap) (locs : List Loc), va_P D vwCl (jx_ws cI cT [(cp_B aB (aT 0) (aS 0) (aC 0) (aU 0) (aV 0) (aW 0) (aH 0) (aO 0), sB), (cp_C aC (aT 0) (aS 0), sC), (cp_S aS (aT 0), sS), (cp_T aT, sT), (cp_H aH (fun j => hT j 0), sH), (cp_O aO, sO)]) H → va_D A (jx_ws cI cT [(cp_B aB (aT 0) (aS 0) (aC 0) (aU 0) (aV 0) (aW 0) (aH 0) (aO 0), sB), (cp_C aC (aT 0) (aS 0), sC), (cp_S aS (aT 0), sS), (cp_T aT, sT), (cp_H aH (fun j => hT j 0), sH), (cp_O aO, sO)]) → va_S A s.heap H locs → ∀ ls : Array Slot, lv_has ls 18 [(0, .ref (aB 0)), (1, .int (jx_i l1)), (2, .int (jx_i l2)), (3, .int (jx_i l3)), (4, .int (jx_i l4)), (6, .int (jx_i l6)), (7, .int (jx_i l7)), (8, .int (jx_i l8)), (9, .int (jx_i l9)), (10, .int (jx_i l10)), (11, .int (jx_i l11)), (12, .int (jx_i l12)), (13, .int (jx_i l13)), (14, .int (jx_i l14)), (15, .int (jx_i l15)), (16, .int (jx_i l16))] → W p l e (jx_rm 5 117) s m args below meth c H locs 0 0 QQ (F0 m 259 ls []) := by
                intro sS l11 l12 l13 l14 l15 l16 h H locs hP hD hS ls hl
                unfold wp_L_isTree_259 at h
                refine jx_iconst C dL_isTree_259 ?_
                exact J260 sS l11 l12 l13 l14 l15 l16 0 h _ _ hP hD hS ls (lv_sub hl [0, 1, 2, 3, 4, 5, 6, 7, 8, 9, 10, 11, 12, 13, 14, 15] rfl)
              have J147 : ∀ (sS : jx_St) (l5 : Int) (l11 : Int) (l12 : Int) (l13 : Int) (l14 : Int) (l16 : Int) (l17 : Int) (t0 : Int) (t1 : Int), wp_L_isTree_147 Q sB sC sT sH sO B95 K360 sS l1 l2 l3 l4 l5 l6 l7 l8 l9 l10 l11 l12 l13 l14 l16 l17 t0 t1 → ∀ (H : Heap) (locs : List Loc), va_P D vwCl (jx_ws cI cT [(cp_B aB (aT 0) (aS 0) (aC 0) (aU 0) (aV 0) (aW 0) (aH 0) (aO 0), sB), (cp_C aC (aT 0) (aS 0), sC), (cp_S aS (aT 0), sS), (cp_T aT, sT), (cp_H aH (fun j => hT j 0), sH), (cp_O aO, sO)]) H → va_D A (jx_ws cI cT [(cp_B aB (aT 0) (aS 0) (aC 0) (aU 0) (aV 0) (aW 0) (aH 0) (aO 0), sB), (cp_C aC (aT 0) (aS 0), sC), (cp_S aS (aT 0), sS), (cp_T aT, sT), (cp_H aH (fun j => hT j 0), sH), (cp_O aO, sO)]) → va_S A s.heap H locs → ∀ ls : Array Slot, lv_has ls 18 [(0, .ref (aB 0)), (1, .int (jx_i l1)), (2, .int (jx_i l2)), (3, .int (jx_i l3)), (4, .int (jx_i l4)), (5, .int (jx_i l5)), (6, .int (jx_i l6)), (7, .int (jx_i l7)), (8, .int (jx_i l8)), (9, .int (jx_i l9)), (10, .int (jx_i l10)), (11, .int (jx_i l11)), (12, .int (jx_i l12)), (13, .int (jx_i l13)), (14, .int (jx_i l14)), (16, .int (jx_i l16)), (17, .int (jx_i l17))] → W p l e (jx_rm 5 117) s m args below meth c H locs 0 0 QQ (F0 m 147 ls [.int (jx_i t1), .int (jx_i t0)]) := by
                intro sS l5 l11 l12 l13 l14 l16 l17 t0 t1 h H locs hP hD hS ls hl
                unfold wp_L_isTree_147 at h
                refine jx_iadd C dL_isTree_147 ?_
                refine lv_istore (lv' := [(15, .int (jx_i (t0 + t1))), (0, .ref (aB 0)), (1, .int (jx_i l1)), (2, .int (jx_i l2)), (3, .int (jx_i l3)), (4, .int (jx_i l4)), (5, .int (jx_i l5)), (6, .int (jx_i l6)), (7, .int (jx_i l7)), (8, .int (jx_i l8)), (9, .int (jx_i l9)), (10, .int (jx_i l10)), (11, .int (jx_i l11)), (12, .int (jx_i l12)), (13, .int (jx_i l13)), (14, .int (jx_i l14)), (16, .int (jx_i l16)), (17, .int (jx_i l17))]) hx hb dL_isTree_148 hl (by decide) rfl (fun ls hl => ?_)
                refine lv_iload hx hb dL_isTree_150 (lv_at hl 17 rfl) ?_
                refine jx_zeq C h.1 (tgt := 265) dL_isTree_152 (by decide) (fun hc => ?_) (fun hc => ?_)
                · have h := h.2.1 hc
                  exact J265 sS l5 l11 l12 l13 l14 (t0 + t1) l16 l17 h _ _ hP hD hS ls (lv_sub hl [1, 2, 3, 4, 5, 6, 7, 8, 9, 10, 11, 12, 13, 14, 15, 0, 16, 17] rfl)
                · have h := h.2.2 hc
                  refine lv_iload hx hb dL_isTree_155 (lv_at hl 7 rfl) ?_
                  refine jx_zne C h.1 (tgt := 265) dL_isTree_157 (by decide) (fun hc => ?_) (fun hc => ?_)
                  · have h := h.2.2 hc
                    exact J265 sS l5 l11 l12 l13 l14 (t0 + t1) l16 l17 h _ _ hP hD hS ls (lv_sub hl [1, 2, 3, 4, 5, 6, 7, 8, 9, 10, 11, 12, 13, 14, 15, 0, 16, 17] rfl)
                  · have h := h.2.1 hc
                    refine lv_iload hx hb dL_isTree_160 (lv_at hl 12 rfl) ?_
                    refine lv_aload_n hx hb dL_isTree_162 rfl (lv_at hl 1 rfl) ?_
                    refine lv_iload hx hb dL_isTree_163 (lv_at hl 16 rfl) ?_
                    refine jx_iconst C dL_isTree_165 ?_
                    refine jx_callVI C hK hP hD hS hA (ct_B_boxOf l D cI cT aB aC aS aT aW aV aU aH hT aO _ sB sS sT l16 0 h) ms_X7_boxOf lk_L_19 [0, 2, 3] rfl rfl (fun _ => rfl) (cs' := (fun u => [(cp_B aB (aT 0) (aS 0) (aC 0) (aU 0) (aV 0) (aW 0) (aH 0) (aO 0), sB), (cp_C aC (aT 0) (aS 0), sC), (cp_S aS (aT 0), u), (cp_T aT, sT), (cp_H aH (fun j => hT j 0), sH), (cp_O aO, sO)])) (fun _ => rfl) (fun _ => rfl) 0 0 rfl rfl rfl rfl rfl hl.1 rfl rfl dL_isTree_166 ⟨Nat.le_refl _, Nat.le_refl _⟩ (fun r166 sS_166 H locs h hP hD hS => ?_)
                    have hP : va_P D vwCl (jx_ws cI cT [(cp_B aB (aT 0) (aS 0) (aC 0) (aU 0) (aV 0) (aW 0) (aH 0) (aO 0), sB), (cp_C aC (aT 0) (aS 0), sC), (cp_S aS (aT 0), sS_166), (cp_T aT, sT), (cp_H aH (fun j => hT j 0), sH), (cp_O aO, sO)]) H := hP
                    have hD : va_D A (jx_ws cI cT [(cp_B aB (aT 0) (aS 0) (aC 0) (aU 0) (aV 0) (aW 0) (aH 0) (aO 0), sB), (cp_C aC (aT 0) (aS 0), sC), (cp_S aS (aT 0), sS_166), (cp_T aT, sT), (cp_H aH (fun j => hT j 0), sH), (cp_O aO, sO)]) := hD
                    refine jx_callSI C hK hP hD hS hA (ct_L_lesser l D cI cT  _  l11 r166 h) ms_L_lesser lk_L_71 [] rfl rfl (fun _ => rfl) (cs' := (fun _ => [(cp_B aB (aT 0) (aS 0) (aC 0) (aU 0) (aV 0) (aW 0) (aH 0) (aO 0), sB), (cp_C aC (aT 0) (aS 0), sC), (cp_S aS (aT 0), sS_166), (cp_T aT, sT), (cp_H aH (fun j => hT j 0), sH), (cp_O aO, sO)])) (fun _ => rfl) (fun _ => rfl) rfl rfl hl.1 rfl rfl dL_isTree_169 ⟨Nat.le_refl _, Nat.le_refl _⟩ (fun r169 _ H locs h hP hD hS => ?_)
                    have hP : va_P D vwCl (jx_ws cI cT [(cp_B aB (aT 0) (aS 0) (aC 0) (aU 0) (aV 0) (aW 0) (aH 0) (aO 0), sB), (cp_C aC (aT 0) (aS 0), sC), (cp_S aS (aT 0), sS_166), (cp_T aT, sT), (cp_H aH (fun j => hT j 0), sH), (cp_O aO, sO)]) H := hP
                    have hD : va_D A (jx_ws cI cT [(cp_B aB (aT 0) (aS 0) (aC 0) (aU 0) (aV 0) (aW 0) (aH 0) (aO 0), sB), (cp_C aC (aT 0) (aS 0), sC), (cp_S aS (aT 0), sS_166), (cp_T aT, sT), (cp_H aH (fun j => hT j 0), sH), (cp_O aO, sO)]) := hD
                    refine lv_istore (lv' := [(11, .int (jx_i r169)), (15, .int (jx_i (t0 + t1))), (0, .ref (aB 0)), (1, .int (jx_i l1)), (2, .int (jx_i l2)), (3, .int (jx_i l3)), (4, .int (jx_i l4)), (5, .int (jx_i l5)), (6, .int (jx_i l6)), (7, .int (jx_i l7)), (8, .int (jx_i l8)), (9, .int (jx_i l9)), (10, .int (jx_i l10)), (12, .int (jx_i l12)), (13, .int (jx_i l13)), (14, .int (jx_i l14)), (16, .int (jx_i l16)), (17, .int (jx_i l17))]) hx hb dL_isTree_172 hl (by decide) rfl (fun ls hl => ?_)
                    refine lv_iload hx hb dL_isTree_174 (lv_at hl 13 rfl) ?_
                    refine lv_aload_n hx hb dL_isTree_176 rfl (lv_at hl 2 rfl) ?_
                    refine lv_iload hx hb dL_isTree_177 (lv_at hl 16 rfl) ?_
                    refine jx_iconst C dL_isTree_179 ?_
                    refine jx_callVI C hK hP hD hS hA (ct_B_boxOf l D cI cT aB aC aS aT aW aV aU aH hT aO _ sB sS_166 sT l16 1 h) ms_X7_boxOf lk_L_19 [0, 2, 3] rfl rfl (fun _ => rfl) (cs' := (fun u => [(cp_B aB (aT 0) (aS 0) (aC 0) (aU 0) (aV 0) (aW 0) (aH 0) (aO 0), sB), (cp_C aC (aT 0) (aS 0), sC), (cp_S aS (aT 0), u), (cp_T aT, sT), (cp_H aH (fun j => hT j 0), sH), (cp_O aO, sO)])) (fun _ => rfl) (fun _ => rfl) 0 0 rfl rfl rfl rfl rfl hl.1 rfl rfl dL_isTree_180 ⟨Nat.le_refl _, Nat.le_refl _⟩ (fun r180 sS_180 H locs h hP hD hS => ?_)
                    have hP : va_P D vwCl (jx_ws cI cT [(cp_B aB (aT 0) (aS 0) (aC 0) (aU 0) (aV 0) (aW 0) (aH 0) (aO 0), sB), (cp_C aC (aT 0) (aS 0), sC), (cp_S aS (aT 0), sS_180), (cp_T aT, sT), (cp_H aH (fun j => hT j 0), sH), (cp_O aO, sO)]) H := hP
                    have hD : va_D A (jx_ws cI cT [(cp_B aB (aT 0) (aS 0) (aC 0) (aU 0) (aV 0) (aW 0) (aH 0) (aO 0), sB), (cp_C aC (aT 0) (aS 0), sC), (cp_S aS (aT 0), sS_180), (cp_T aT, sT), (cp_H aH (fun j => hT j 0), sH), (cp_O aO, sO)]) := hD
                    refine jx_callSI C hK hP hD hS hA (ct_L_lesser l D cI cT  _  l12 r180 h) ms_L_lesser lk_L_71 [] rfl rfl (fun _ => rfl) (cs' := (fun _ => [(cp_B aB (aT 0) (aS 0) (aC 0) (aU 0) (aV 0) (aW 0) (aH 0) (aO 0), sB), (cp_C aC (aT 0) (aS 0), sC), (cp_S aS (aT 0), sS_180), (cp_T aT, sT), (cp_H aH (fun j => hT j 0), sH), (cp_O aO, sO)])) (fun _ => rfl) (fun _ => rfl) rfl rfl hl.1 rfl rfl dL_isTree_183 ⟨Nat.le_refl _, Nat.le_refl _⟩ (fun r183 _ H locs h hP hD hS => ?_)
                    have hP : va_P D vwCl (jx_ws cI cT [(cp_B aB (aT 0) (aS 0) (aC 0) (aU 0) (aV 0) (aW 0) (aH 0) (aO 0), sB), (cp_C aC (aT 0) (aS 0), sC), (cp_S aS (aT 0), sS_180), (cp_T aT, sT), (cp_H aH (fun j => hT j 0), sH), (cp_O aO, sO)]) H := hP
                    have hD : va_D A (jx_ws cI cT [(cp_B aB (aT 0) (aS 0) (aC 0) (aU 0) (aV 0) (aW 0) (aH 0) (aO 0), sB), (cp_C aC (aT 0) (aS 0), sC), (cp_S aS (aT 0), sS_180), (cp_T aT, sT), (cp_H aH (fun j => hT j 0), sH), (cp_O aO, sO)]) := hD
                    refine lv_istore (lv' := [(12, .int (jx_i r183)), (11, .int (jx_i r169)), (15, .int (jx_i (t0 + t1))), (0, .ref (aB 0)), (1, .int (jx_i l1)), (2, .int (jx_i l2)), (3, .int (jx_i l3)), (4, .int (jx_i l4)), (5, .int (jx_i l5)), (6, .int (jx_i l6)), (7, .int (jx_i l7)), (8, .int (jx_i l8)), (9, .int (jx_i l9)), (10, .int (jx_i l10)), (13, .int (jx_i l13)), (14, .int (jx_i l14)), (16, .int (jx_i l16)), (17, .int (jx_i l17))]) hx hb dL_isTree_186 hl (by decide) rfl (fun ls hl => ?_)
                    refine lv_iload hx hb dL_isTree_188 (lv_at hl 14 rfl) ?_
                    refine lv_aload_n hx hb dL_isTree_190 rfl (lv_at hl 3 rfl) ?_
                    refine lv_iload hx hb dL_isTree_191 (lv_at hl 16 rfl) ?_
                    refine jx_iconst C dL_isTree_193 ?_
                    refine jx_callVI C hK hP hD hS hA (ct_B_boxOf l D cI cT aB aC aS aT aW aV aU aH hT aO _ sB sS_180 sT l16 2 h) ms_X7_boxOf lk_L_19 [0, 2, 3] rfl rfl (fun _ => rfl) (cs' := (fun u => [(cp_B aB (aT 0) (aS 0) (aC 0) (aU 0) (aV 0) (aW 0) (aH 0) (aO 0), sB), (cp_C aC (aT 0) (aS 0), sC), (cp_S aS (aT 0), u), (cp_T aT, sT), (cp_H aH (fun j => hT j 0), sH), (cp_O aO, sO)])) (fun _ => rfl) (fun _ => rfl) 0 0 rfl rfl rfl rfl rfl hl.1 rfl rfl dL_isTree_194 ⟨Nat.le_refl _, Nat.le_refl _⟩ (fun r194 sS_194 H locs h hP hD hS => ?_)
                    have hP : va_P D vwCl (jx_ws cI cT [(cp_B aB (aT 0) (aS 0) (aC 0) (aU 0) (aV 0) (aW 0) (aH 0) (aO 0), sB), (cp_C aC (aT 0) (aS 0), sC), (cp_S aS (aT 0), sS_194), (cp_T aT, sT), (cp_H aH (fun j => hT j 0), sH), (cp_O aO, sO)]) H := hP
                    have hD : va_D A (jx_ws cI cT [(cp_B aB (aT 0) (aS 0) (aC 0) (aU 0) (aV 0) (aW 0) (aH 0) (aO 0), sB), (cp_C aC (aT 0) (aS 0), sC), (cp_S aS (aT 0), sS_194), (cp_T aT, sT), (cp_H aH (fun j => hT j 0), sH), (cp_O aO, sO)]) := hD
                    refine jx_callSI C hK hP hD hS hA (ct_L_greater l D cI cT  _  l13 r194 h) ms_L_greater lk_L_74 [] rfl rfl (fun _ => rfl) (cs' := (fun _ => [(cp_B aB (aT 0) (aS 0) (aC 0) (aU 0) (aV 0) (aW 0) (aH 0) (aO 0), sB), (cp_C aC (aT 0) (aS 0), sC), (cp_S aS (aT 0), sS_194), (cp_T aT, sT), (cp_H aH (fun j => hT j 0), sH), (cp_O aO, sO)])) (fun _ => rfl) (fun _ => rfl) rfl rfl hl.1 rfl rfl dL_isTree_197 ⟨Nat.le_refl _, Nat.le_refl _⟩ (fun r197 _ H locs h hP hD hS => ?_)
                    have hP : va_P D vwCl (jx_ws cI cT [(cp_B aB (aT 0) (aS 0) (aC 0) (aU 0) (aV 0) (aW 0) (aH 0) (aO 0), sB), (cp_C aC (aT 0) (aS 0), sC), (cp_S aS (aT 0), sS_194), (cp_T aT, sT), (cp_H aH (fun j => hT j 0), sH), (cp_O aO, sO)]) H := hP
                    have hD : va_D A (jx_ws cI cT [(cp_B aB (aT 0) (aS 0) (aC 0) (aU 0) (aV 0) (aW 0) (aH 0) (aO 0), sB), (cp_C aC (aT 0) (aS 0), sC), (cp_S aS (aT 0), sS_194), (cp_T aT, sT), (cp_H aH (fun j => hT j 0), sH), (cp_O aO, sO)]) := hD
                    refine lv_istore (lv' := [(13, .int (jx_i r197)), (12, .int (jx_i r183)), (11, .int (jx_i r169)), (15, .int (jx_i (t0 + t1))), (0, .ref (aB 0)), (1, .int (jx_i l1)), (2, .int (jx_i l2)), (3, .int (jx_i l3)), (4, .int (jx_i l4)), (5, .int (jx_i l5)), (6, .int (jx_i l6)), (7, .int (jx_i l7)), (8, .int (jx_i l8)), (9, .int (jx_i l9)), (10, .int (jx_i l10)), (14, .int (jx_i l14)), (16, .int (jx_i l16)), (17, .int (jx_i l17))]) hx hb dL_isTree_200 hl (by decide) rfl (fun ls hl => ?_)
                    refine lv_iload hx hb dL_isTree_202 (lv_at hl 15 rfl) ?_
                    refine lv_aload_n hx hb dL_isTree_204 rfl (lv_at hl 4 rfl) ?_
                    refine lv_iload hx hb dL_isTree_205 (lv_at hl 16 rfl) ?_
                    refine jx_iconst C dL_isTree_207 ?_
                    refine jx_callVI C hK hP hD hS hA (ct_B_boxOf l D cI cT aB aC aS aT aW aV aU aH hT aO _ sB sS_194 sT l16 3 h) ms_X7_boxOf lk_L_19 [0, 2, 3] rfl rfl (fun _ => rfl) (cs' := (fun u => [(cp_B aB (aT 0) (aS 0) (aC 0) (aU 0) (aV 0) (aW 0) (aH 0) (aO 0), sB), (cp_C aC (aT 0) (aS 0), sC), (cp_S aS (aT 0), u), (cp_T aT, sT), (cp_H aH (fun j => hT j 0), sH), (cp_O aO, sO)])) (fun _ => rfl) (fun _ => rfl) 0 0 rfl rfl rfl rfl rfl hl.1 rfl rfl dL_isTree_208 ⟨Nat.le_refl _, Nat.le_refl _⟩ (fun r208 sS_208 H locs h hP hD hS => ?_)
                    have hP : va_P D vwCl (jx_ws cI cT [(cp_B aB (aT 0) (aS 0) (aC 0) (aU 0) (aV 0) (aW 0) (aH 0) (aO 0), sB), (cp_C aC (aT 0) (aS 0), sC), (cp_S aS (aT 0), sS_208), (cp_T aT, sT), (cp_H aH (fun j => hT j 0), sH), (cp_O aO, sO)]) H := hP
                    have hD : va_D A (jx_ws cI cT [(cp_B aB (aT 0) (aS 0) (aC 0) (aU 0) (aV 0) (aW 0) (aH 0) (aO 0), sB), (cp_C aC (aT 0) (aS 0), sC), (cp_S aS (aT 0), sS_208), (cp_T aT, sT), (cp_H aH (fun j => hT j 0), sH), (cp_O aO, sO)]) := hD
                    refine jx_callSI C hK hP hD hS hA (ct_L_greater l D cI cT  _  l14 r208 h) ms_L_greater lk_L_74 [] rfl rfl (fun _ => rfl) (cs' := (fun _ => [(cp_B aB (aT 0) (aS 0) (aC 0) (aU 0) (aV 0) (aW 0) (aH 0) (aO 0), sB), (cp_C aC (aT 0) (aS 0), sC), (cp_S aS (aT 0), sS_208), (cp_T aT, sT), (cp_H aH (fun j => hT j 0), sH), (cp_O aO, sO)])) (fun _ => rfl) (fun _ => rfl) rfl rfl hl.1 rfl rfl dL_isTree_211 ⟨Nat.le_refl _, Nat.le_refl _⟩ (fun r211 _ H locs h hP hD hS => ?_)
                    have hP : va_P D vwCl (jx_ws cI cT [(cp_B aB (aT 0) (aS 0) (aC 0) (aU 0) (aV 0) (aW 0) (aH 0) (aO 0), sB), (cp_C aC (aT 0) (aS 0), sC), (cp_S aS (aT 0), sS_208), (cp_T aT, sT), (cp_H aH (fun j => hT j 0), sH), (cp_O aO, sO)]) H := hP
                    have hD : va_D A (jx_ws cI cT [(cp_B aB (aT 0) (aS 0) (aC 0) (aU 0) (aV 0) (aW 0) (aH 0) (aO 0), sB), (cp_C aC (aT 0) (aS 0), sC), (cp_S aS (aT 0), sS_208), (cp_T aT, sT), (cp_H aH (fun j => hT j 0), sH), (cp_O aO, sO)]) := hD
                    refine lv_istore (lv' := [(14, .int (jx_i r211)), (13, .int (jx_i r197)), (12, .int (jx_i r183)), (11, .int (jx_i r169)), (15, .int (jx_i (t0 + t1))), (0, .ref (aB 0)), (1, .int (jx_i l1)), (2, .int (jx_i l2)), (3, .int (jx_i l3)), (4, .int (jx_i l4)), (5, .int (jx_i l5)), (6, .int (jx_i l6)), (7, .int (jx_i l7)), (8, .int (jx_i l8)), (9, .int (jx_i l9)), (10, .int (jx_i l10)), (16, .int (jx_i l16)), (17, .int (jx_i l17))]) hx hb dL_isTree_214 hl (by decide) rfl (fun ls hl => ?_)
                    refine lv_iload hx hb dL_isTree_216 (lv_at hl 10 rfl) ?_
                    refine jx_zeq C h.1 (tgt := 259) dL_isTree_218 (by decide) (fun hc => ?_) (fun hc => ?_)
                    · have h := h.2.1 hc
                      exact J259 sS_208 r169 r183 r197 r211 (t0 + t1) l16 h _ _ hP hD hS ls (lv_sub hl [5, 6, 7, 8, 9, 11, 12, 13, 14, 15, 3, 2, 1, 0, 4, 16] rfl)
                    · have h := h.2.2 hc
                      refine lv_aload_n hx hb dL_isTree_221 rfl (lv_at hl 5 rfl) ?_
                      refine lv_iload hx hb dL_isTree_222 (lv_at hl 16 rfl) ?_
                      refine jx_iconst C dL_isTree_224 ?_
                      refine jx_callVI C hK hP hD hS hA (ct_B_boxOf l D cI cT aB aC aS aT aW aV aU aH hT aO _ sB sS_208 sT l16 4 h) ms_X7_boxOf lk_L_19 [0, 2, 3] rfl rfl (fun _ => rfl) (cs' := (fun u => [(cp_B aB (aT 0) (aS 0) (aC 0) (aU 0) (aV 0) (aW 0) (aH 0) (aO 0), sB), (cp_C aC (aT 0) (aS 0), sC), (cp_S aS (aT 0), u), (cp_T aT, sT), (cp_H aH (fun j => hT j 0), sH), (cp_O aO, sO)])) (fun _ => rfl) (fun _ => rfl) 0 0 rfl rfl rfl rfl rfl hl.1 rfl rfl dL_isTree_225 ⟨Nat.le_refl _, Nat.le_refl _⟩ (fun r225 sS_225 H locs h hP hD hS => ?_)
                      have hP : va_P D vwCl (jx_ws cI cT [(cp_B aB (aT 0) (aS 0) (aC 0) (aU 0) (aV 0) (aW 0) (aH 0) (aO 0), sB), (cp_C aC (aT 0) (aS 0), sC), (cp_S aS (aT 0), sS_225), (cp_T aT, sT), (cp_H aH (fun j => hT j 0), sH), (cp_O aO, sO)]) H := hP
                      have hD : va_D A (jx_ws cI cT [(cp_B aB (aT 0) (aS 0) (aC 0) (aU 0) (aV 0) (aW 0) (aH 0) (aO 0), sB), (cp_C aC (aT 0) (aS 0), sC), (cp_S aS (aT 0), sS_225), (cp_T aT, sT), (cp_H aH (fun j => hT j 0), sH), (cp_O aO, sO)]) := hD
                      refine lv_iload hx hb dL_isTree_228 (lv_at hl 13 rfl) ?_
                      refine jx_ene C h.1 (tgt := 259) dL_isTree_230 (by decide) (fun hc => ?_) (fun hc => ?_)
                      · have h := h.2.2 hc
                        exact J259 sS_225 r169 r183 r197 r211 (t0 + t1) l16 h _ _ hP hD hS ls (lv_sub hl [5, 6, 7, 8, 9, 11, 12, 13, 14, 15, 3, 2, 1, 0, 4, 16] rfl)
                      · have h := h.2.1 hc
                        refine lv_aload_n hx hb dL_isTree_233 rfl (lv_at hl 5 rfl) ?_
                        refine lv_iload hx hb dL_isTree_234 (lv_at hl 16 rfl) ?_
                        refine jx_iconst C dL_isTree_236 ?_
                        refine jx_callVI C hK hP hD hS hA (ct_B_boxOf l D cI cT aB aC aS aT aW aV aU aH hT aO _ sB sS_225 sT l16 5 h) ms_X7_boxOf lk_L_19 [0, 2, 3] rfl rfl (fun _ => rfl) (cs' := (fun u => [(cp_B aB (aT 0) (aS 0) (aC 0) (aU 0) (aV 0) (aW 0) (aH 0) (aO 0), sB), (cp_C aC (aT 0) (aS 0), sC), (cp_S aS (aT 0), u), (cp_T aT, sT), (cp_H aH (fun j => hT j 0), sH), (cp_O aO, sO)])) (fun _ => rfl) (fun _ => rfl) 0 0 rfl rfl rfl rfl rfl hl.1 rfl rfl dL_isTree_237 ⟨Nat.le_refl _, Nat.le_refl _⟩ (fun r237 sS_237 H locs h hP hD hS => ?_)
                        have hP : va_P D vwCl (jx_ws cI cT [(cp_B aB (aT 0) (aS 0) (aC 0) (aU 0) (aV 0) (aW 0) (aH 0) (aO 0), sB), (cp_C aC (aT 0) (aS 0), sC), (cp_S aS (aT 0), sS_237), (cp_T aT, sT), (cp_H aH (fun j => hT j 0), sH), (cp_O aO, sO)]) H := hP
                        have hD : va_D A (jx_ws cI cT [(cp_B aB (aT 0) (aS 0) (aC 0) (aU 0) (aV 0) (aW 0) (aH 0) (aO 0), sB), (cp_C aC (aT 0) (aS 0), sC), (cp_S aS (aT 0), sS_237), (cp_T aT, sT), (cp_H aH (fun j => hT j 0), sH), (cp_O aO, sO)]) := hD
                        refine jx_zlt C h.1 (tgt := 259) dL_isTree_240 (by decide) (fun hc => ?_) (fun hc => ?_)
                        · have h := h.2.1 hc
                          exact J259 sS_237 r169 r183 r197 r211 (t0 + t1) l16 h _ _ hP hD hS ls (lv_sub hl [5, 6, 7, 8, 9, 11, 12, 13, 14, 15, 3, 2, 1, 0, 4, 16] rfl)
                        · have h := h.2.2 hc
                          refine lv_aload_n hx hb dL_isTree_243 rfl (lv_at hl 5 rfl) ?_
                          refine lv_iload hx hb dL_isTree_244 (lv_at hl 16 rfl) ?_
                          refine jx_iconst C dL_isTree_246 ?_
                          refine jx_callVI C hK hP hD hS hA (ct_B_boxOf l D cI cT aB aC aS aT aW aV aU aH hT aO _ sB sS_237 sT l16 5 h) ms_X7_boxOf lk_L_19 [0, 2, 3] rfl rfl (fun _ => rfl) (cs' := (fun u => [(cp_B aB (aT 0) (aS 0) (aC 0) (aU 0) (aV 0) (aW 0) (aH 0) (aO 0), sB), (cp_C aC (aT 0) (aS 0), sC), (cp_S aS (aT 0), u), (cp_T aT, sT), (cp_H aH (fun j => hT j 0), sH), (cp_O aO, sO)])) (fun _ => rfl) (fun _ => rfl) 0 0 rfl rfl rfl rfl rfl hl.1 rfl rfl dL_isTree_247 ⟨Nat.le_refl _, Nat.le_refl _⟩ (fun r247 sS_247 H locs h hP hD hS => ?_)
                          have hP : va_P D vwCl (jx_ws cI cT [(cp_B aB (aT 0) (aS 0) (aC 0) (aU 0) (aV 0) (aW 0) (aH 0) (aO 0), sB), (cp_C aC (aT 0) (aS 0), sC), (cp_S aS (aT 0), sS_247), (cp_T aT, sT), (cp_H aH (fun j => hT j 0), sH), (cp_O aO, sO)]) H := hP
                          have hD : va_D A (jx_ws cI cT [(cp_B aB (aT 0) (aS 0) (aC 0) (aU 0) (aV 0) (aW 0) (aH 0) (aO 0), sB), (cp_C aC (aT 0) (aS 0), sC), (cp_S aS (aT 0), sS_247), (cp_T aT, sT), (cp_H aH (fun j => hT j 0), sH), (cp_O aO, sO)]) := hD
                          refine lv_iload hx hb dL_isTree_250 (lv_at hl 14 rfl) ?_
                          refine jx_cge C h.1 h.2.1 (tgt := 259) dL_isTree_252 (by decide) (fun hc => ?_) (fun hc => ?_)
                          · have h := h.2.2.2 hc
                            exact J259 sS_247 r169 r183 r197 r211 (t0 + t1) l16 h _ _ hP hD hS ls (lv_sub hl [5, 6, 7, 8, 9, 11, 12, 13, 14, 15, 3, 2, 1, 0, 4, 16] rfl)
                          · have h := h.2.2.1 hc
                            refine jx_iconst C dL_isTree_255 ?_
                            refine lv_goto (tgt := 260) hx hb dL_isTree_256 (by decide) ?_
                            exact J260 sS_247 r169 r183 r197 r211 (t0 + t1) l16 1 h _ _ hP hD hS ls (lv_sub hl [5, 6, 7, 8, 9, 11, 12, 13, 14, 15, 3, 2, 1, 0, 4, 16] rfl)
              have J133 : ∀ (sS : jx_St) (l5 : Int) (l11 : Int) (l12 : Int) (l13 : Int) (l14 : Int) (l15 : Int) (l16 : Int) (t0 : Int), wp_L_isTree_133 Q sB sC sT sH sO B95 K360 sS l1 l2 l3 l4 l5 l6 l7 l8 l9 l10 l11 l12 l13 l14 l15 l16 t0 → ∀ (H : Heap) (locs : List Loc), va_P D vwCl (jx_ws cI cT [(cp_B aB (aT 0) (aS 0) (aC 0) (aU 0) (aV 0) (aW 0) (aH 0) (aO 0), sB), (cp_C aC (aT 0) (aS 0), sC), (cp_S aS (aT 0), sS), (cp_T aT, sT), (cp_H aH (fun j => hT j 0), sH), (cp_O aO, sO)]) H → va_D A (jx_ws cI cT [(cp_B aB (aT 0) (aS 0) (aC 0) (aU 0) (aV 0) (aW 0) (aH 0) (aO 0), sB), (cp_C aC (aT 0) (aS 0), sC), (cp_S aS (aT 0), sS), (cp_T aT, sT), (cp_H aH (fun j => hT j 0), sH), (cp_O aO, sO)]) → va_S A s.heap H locs → ∀ ls : Array Slot, lv_has ls 18 [(0, .ref (aB 0)), (1, .int (jx_i l1)), (2, .int (jx_i l2)), (3, .int (jx_i l3)), (4, .int (jx_i l4)), (5, .int (jx_i l5)), (6, .int (jx_i l6)), (7, .int (jx_i l7)), (8, .int (jx_i l8)), (9, .int (jx_i l9)), (10, .int (jx_i l10)), (11, .int (jx_i l11)), (12, .int (jx_i l12)), (13, .int (jx_i l13)), (14, .int (jx_i l14)), (15, .int (jx_i l15)), (16, .int (jx_i l16))] → W p l e (jx_rm 5 117) s m args below meth c H locs 0 0 QQ (F0 m 133 ls [.int (jx_i t0)]) := by
                intro sS l5 l11 l12 l13 l14 l15 l16 t0 h H locs hP hD hS ls hl
                unfold wp_L_isTree_133 at h
                refine lv_istore (lv' := [(17, .int (jx_i t0)), (0, .ref (aB 0)), (1, .int (jx_i l1)), (2, .int (jx_i l2)), (3, .int (jx_i l3)), (4, .int (jx_i l4)), (5, .int (jx_i l5)), (6, .int (jx_i l6)), (7, .int (jx_i l7)), (8, .int (jx_i l8)), (9, .int (jx_i l9)), (10, .int (jx_i l10)), (11, .int (jx_i l11)), (12, .int (jx_i l12)), (13, .int (jx_i l13)), (14, .int (jx_i l14)), (15, .int (jx_i l15)), (16, .int (jx_i l16))]) hx hb dL_isTree_133 hl (by decide) rfl (fun ls hl => ?_)
                refine lv_iload hx hb dL_isTree_135 (lv_at hl 16 rfl) ?_
                refine lv_iload hx hb dL_isTree_137 (lv_at hl 0 rfl) ?_
                refine jx_zeq C h.1 (tgt := 146) dL_isTree_139 (by decide) (fun hc => ?_) (fun hc => ?_)
                · have h := h.2.1 hc
                  refine jx_iconst C dL_isTree_146 ?_
                  exact J147 sS l5 l11 l12 l13 l14 l16 t0 l15 0 h _ _ hP hD hS ls (lv_sub hl [1, 2, 3, 4, 5, 6, 7, 8, 9, 10, 11, 12, 13, 14, 15, 17, 0] rfl)
                · have h := h.2.2 hc
                  refine jx_iconst C dL_isTree_142 ?_
                  refine lv_goto (tgt := 147) hx hb dL_isTree_143 (by decide) ?_
                  exact J147 sS l5 l11 l12 l13 l14 l16 t0 l15 1 h _ _ hP hD hS ls (lv_sub hl [1, 2, 3, 4, 5, 6, 7, 8, 9, 10, 11, 12, 13, 14, 15, 17, 0] rfl)
              have J128 : ∀ (sS : jx_St) (l5 : Int) (l11 : Int) (l12 : Int) (l13 : Int) (l14 : Int) (l15 : Int) (l16 : Int), wp_L_isTree_128 Q sB sC sT sH sO B95 K360 sS l1 l2 l3 l4 l5 l6 l7 l8 l9 l10 l11 l12 l13 l14 l15 l16 → ∀ (H : Heap) (locs : List Loc), va_P D vwCl (jx_ws cI cT [(cp_B aB (aT 0) (aS 0) (aC 0) (aU 0) (aV 0) (aW 0) (aH 0) (aO 0), sB), (cp_C aC (aT 0) (aS 0), sC), (cp_S aS (aT 0), sS), (cp_T aT, sT), (cp_H aH (fun j => hT j 0), sH), (cp_O aO, sO)]) H → va_D A (jx_ws cI cT [(cp_B aB (aT 0) (aS 0) (aC 0) (aU 0) (aV 0) (aW 0) (aH 0) (aO 0), sB), (cp_C aC (aT 0) (aS 0), sC), (cp_S aS (aT 0), sS), (cp_T aT, sT), (cp_H aH (fun j => hT j 0), sH), (cp_O aO, sO)]) → va_S A s.heap H locs → ∀ ls : Array Slot, lv_has ls 18 [(0, .ref (aB 0)), (1, .int (jx_i l1)), (2, .int (jx_i l2)), (3, .int (jx_i l3)), (4, .int (jx_i l4)), (5, .int (jx_i l5)), (6, .int (jx_i l6)), (7, .int (jx_i l7)), (8, .int (jx_i l8)), (9, .int (jx_i l9)), (10, .int (jx_i l10)), (11, .int (jx_i l11)), (12, .int (jx_i l12)), (13, .int (jx_i l13)), (14, .int (jx_i l14)), (15, .int (jx_i l15)), (16, .int (jx_i l16))] → W p l e (jx_rm 5 117) s m args below meth c H locs 0 0 QQ (F0 m 128 ls []) := by
                intro sS l5 l11 l12 l13 l14 l15 l16 h H locs hP hD hS ls hl
                unfold wp_L_isTree_128 at h
                refine jx_iconst C dL_isTree_128 ?_
                refine lv_goto (tgt := 133) hx hb dL_isTree_129 (by decide) ?_
                exact J133 sS l5 l11 l12 l13 l14 l15 l16 1 h _ _ hP hD hS ls (lv_sub hl [0, 1, 2, 3, 4, 5, 6, 7, 8, 9, 10, 11, 12, 13, 14, 15, 16] rfl)
              have J109 : ∀ (sS : jx_St) (l5 : Int) (l11 : Int) (l12 : Int) (l13 : Int) (l14 : Int) (l15 : Int) (l16 : Int) (t0 : Int) (t1 : Int), wp_L_isTree_109 Q sB sC sT sH sO B95 K360 sS l1 l2 l3 l4 l5 l6 l7 l8 l9 l10 l11 l12 l13 l14 l15 l16 t0 t1 → ∀ (H : Heap) (locs : List Loc), va_P D vwCl (jx_ws cI cT [(cp_B aB (aT 0) (aS 0) (aC 0) (aU 0) (aV 0) (aW 0) (aH 0) (aO 0), sB), (cp_C aC (aT 0) (aS 0), sC), (cp_S aS (aT 0), sS), (cp_T aT, sT), (cp_H aH (fun j => hT j 0), sH), (cp_O aO, sO)]) H → va_D A (jx_ws cI cT [(cp_B aB (aT 0) (aS 0) (aC 0) (aU 0) (aV 0) (aW 0) (aH 0) (aO 0), sB), (cp_C aC (aT 0) (aS 0), sC), (cp_S aS (aT 0), sS), (cp_T aT, sT), (cp_H aH (fun j => hT j 0), sH), (cp_O aO, sO)]) → va_S A s.heap H locs → ∀ ls : Array Slot, lv_has ls 18 [(0, .ref (aB 0)), (1, .int (jx_i l1)), (2, .int (jx_i l2)), (3, .int (jx_i l3)), (4, .int (jx_i l4)), (5, .int (jx_i l5)), (6, .int (jx_i l6)), (7, .int (jx_i l7)), (8, .int (jx_i l8)), (9, .int (jx_i l9)), (10, .int (jx_i l10)), (11, .int (jx_i l11)), (12, .int (jx_i l12)), (13, .int (jx_i l13)), (14, .int (jx_i l14)), (15, .int (jx_i l15)), (16, .int (jx_i l16))] → W p l e (jx_rm 5 117) s m args below meth c H locs 0 0 QQ (F0 m 109 ls [.int (jx_i t1), .int (jx_i t0)]) := by
                intro sS l5 l11 l12 l13 l14 l15 l16 t0 t1 h H locs hP hD hS ls hl
                unfold wp_L_isTree_109 at h
                refine jx_cge C h.1 h.2.1 (tgt := 360) dL_isTree_109 (by decide) (fun hc => ?_) (fun hc => ?_)
                · have h := h.2.2.2 hc
                  exact K360E sS l5 l11 l12 l13 l14 l15 h _ _ hP hD hS ls (lv_sub hl [0, 1, 2, 3, 4, 5, 6, 7, 8, 9, 10, 11, 12, 13, 14, 15] rfl)
                · have h := h.2.2.1 hc
                  refine lv_iload hx hb dL_isTree_112 (lv_at hl 6 rfl) ?_
                  refine jx_zgt C h.1 (tgt := 128) dL_isTree_114 (by decide) (fun hc => ?_) (fun hc => ?_)
                  · have h := h.2.2 hc
                    exact J128 sS l5 l11 l12 l13 l14 l15 l16 h _ _ hP hD hS ls (lv_sub hl [0, 1, 2, 3, 4, 5, 6, 7, 8, 9, 10, 11, 12, 13, 14, 15, 16] rfl)
                  · have h := h.2.1 hc
                    refine lv_iload hx hb dL_isTree_117 (lv_at hl 10 rfl) ?_
                    refine lv_iload hx hb dL_isTree_119 (lv_at hl 16 rfl) ?_
                    refine jx_ishr C dL_isTree_121 ?_
                    refine jx_iconst C dL_isTree_122 ?_
                    refine jx_iand C dL_isTree_123 ?_
                    refine jx_iconst C dL_isTree_124 ?_
                    refine jx_ene C h.1 (tgt := 132) dL_isTree_125 (by decide) (fun hc => ?_) (fun hc => ?_)
                    · have h := h.2.2 hc
                      refine jx_iconst C dL_isTree_132 ?_
                      exact J133 sS l5 l11 l12 l13 l14 l15 l16 0 h _ _ hP hD hS ls (lv_sub hl [0, 1, 2, 3, 4, 5, 6, 7, 8, 9, 10, 11, 12, 13, 14, 15, 16] rfl)
                    · have h := h.2.1 hc
                      exact J128 sS l5 l11 l12 l13 l14 l15 l16 h _ _ hP hD hS ls (lv_sub hl [0, 1, 2, 3, 4, 5, 6, 7, 8, 9, 10, 11, 12, 13, 14, 15, 16] rfl)
              refine lv_iload hx hb dL_isTree_95 (lv_at hl 16 rfl) ?_
              refine lv_iload hx hb dL_isTree_97 (lv_at hl 6 rfl) ?_
              refine jx_zne C h.1 (tgt := 107) dL_isTree_99 (by decide) (fun hc => ?_) (fun hc => ?_)
              · have h := h.2.2 hc
                refine lv_iload hx hb dL_isTree_107 (lv_at hl 9 rfl) ?_
                exact J109 sS l5 l11 l12 l13 l14 l15 l16 l16 l9 h _ _ hP hD hS ls (lv_sub hl [0, 1, 2, 3, 4, 5, 6, 7, 8, 9, 10, 11, 12, 13, 14, 15, 16] rfl)
              · have h := h.2.1 hc
                refine jx_bipush C dL_isTree_102 (by decide) ?_
                refine lv_goto (tgt := 109) hx hb dL_isTree_104 (by decide) ?_
                exact J109 sS l5 l11 l12 l13 l14 l15 l16 l16 31 h _ _ hP hD hS ls (lv_sub hl [0, 1, 2, 3, 4, 5, 6, 7, 8, 9, 10, 11, 12, 13, 14, 15, 16] rfl)
          have J527 : ∀ (sS : jx_St) (l2 : Int) (l3 : Int) (l5 : Int) (l7 : Int) (l8 : Int) (l9 : Int) (t0 : Int) (t1 : Int), wp_L_isTree_527 Q sB sC sT sH sO B36 K546 sS l1 l2 l3 l5 l6 l7 l8 l9 t0 t1 → ∀ (H : Heap) (locs : List Loc), va_P D vwCl (jx_ws cI cT [(cp_B aB (aT 0) (aS 0) (aC 0) (aU 0) (aV 0) (aW 0) (aH 0) (aO 0), sB), (cp_C aC (aT 0) (aS 0), sC), (cp_S aS (aT 0), sS), (cp_T aT, sT), (cp_H aH (fun j => hT j 0), sH), (cp_O aO, sO)]) H → va_D A (jx_ws cI cT [(cp_B aB (aT 0) (aS 0) (aC 0) (aU 0) (aV 0) (aW 0) (aH 0) (aO 0), sB), (cp_C aC (aT 0) (aS 0), sC), (cp_S aS (aT 0), sS), (cp_T aT, sT), (cp_H aH (fun j => hT j 0), sH), (cp_O aO, sO)]) → va_S A s.heap H locs → ∀ ls : Array Slot, lv_has ls 18 [(0, .ref (aB 0)), (1, .int (jx_i l1)), (2, .int (jx_i l2)), (3, .int (jx_i l3)), (5, .int (jx_i l5)), (6, .int (jx_i l6)), (7, .int (jx_i l7)), (8, .int (jx_i l8)), (9, .int (jx_i l9))] → W p l e (jx_rm 5 117) s m args below meth c H locs 0 0 QQ (F0 m 527 ls [.int (jx_i t1), .int (jx_i t0)]) := by
            intro sS l2 l3 l5 l7 l8 l9 t0 t1 h H locs hP hD hS ls hl
            unfold wp_L_isTree_527 at h
            refine jx_iadd C dL_isTree_527 ?_
            refine lv_istore (lv' := [(4, .int (jx_i (t0 + t1))), (0, .ref (aB 0)), (1, .int (jx_i l1)), (2, .int (jx_i l2)), (3, .int (jx_i l3)), (5, .int (jx_i l5)), (6, .int (jx_i l6)), (7, .int (jx_i l7)), (8, .int (jx_i l8)), (9, .int (jx_i l9))]) hx hb dL_isTree_528 hl (by decide) rfl (fun ls hl => ?_)
            refine lv_iload hx hb dL_isTree_530 (lv_at hl 7 rfl) ?_
            refine lv_iload hx hb dL_isTree_532 (lv_at hl 9 rfl) ?_
            refine jx_iadd C dL_isTree_534 ?_
            refine lv_istore (lv' := [(7, .int (jx_i (l7 + l9))), (4, .int (jx_i (t0 + t1))), (0, .ref (aB 0)), (1, .int (jx_i l1)), (2, .int (jx_i l2)), (3, .int (jx_i l3)), (5, .int (jx_i l5)), (6, .int (jx_i l6)), (8, .int (jx_i l8)), (9, .int (jx_i l9))]) hx hb dL_isTree_535 hl (by decide) rfl (fun ls hl => ?_)
            refine jx_iinc C (lv' := [(2, .int (jx_i (l2 + 1))), (7, .int (jx_i (l7 + l9))), (4, .int (jx_i (t0 + t1))), (0, .ref (aB 0)), (1, .int (jx_i l1)), (3, .int (jx_i l3)), (5, .int (jx_i l5)), (6, .int (jx_i l6)), (8, .int (jx_i l8)), (9, .int (jx_i l9))]) dL_isTree_537 hl (k := 4) rfl (by decide) rfl (fun ls hl => ?_)
            refine jx_iinc C (lv' := [(8, .int (jx_i (l8 + 1))), (2, .int (jx_i (l2 + 1))), (7, .int (jx_i (l7 + l9))), (4, .int (jx_i (t0 + t1))), (0, .ref (aB 0)), (1, .int (jx_i l1)), (3, .int (jx_i l3)), (5, .int (jx_i l5)), (6, .int (jx_i l6)), (9, .int (jx_i l9))]) dL_isTree_540 hl (k := 8) rfl (by decide) rfl (fun ls hl => ?_)
            refine lv_goto (tgt := 36) hx hb dL_isTree_543 (by decide) ?_
            exact ih sS (l2 + 1) l3 (t0 + t1) l5 (l7 + l9) (l8 + 1) h _ _ hP hD hS ls (lv_sub hl [4, 5, 1, 6, 3, 7, 8, 2, 0] rfl)
          have J512 : ∀ (sS : jx_St) (l2 : Int) (l4 : Int) (l5 : Int) (l7 : Int) (l8 : Int) (l9 : Int) (t0 : Int) (t1 : Int), wp_L_isTree_512 Q sB sC sT sH sO B36 K546 sS l1 l2 l4 l5 l6 l7 l8 l9 t0 t1 → ∀ (H : Heap) (locs : List Loc), va_P D vwCl (jx_ws cI cT [(cp_B aB (aT 0) (aS 0) (aC 0) (aU 0) (aV 0) (aW 0) (aH 0) (aO 0), sB), (cp_C aC (aT 0) (aS 0), sC), (cp_S aS (aT 0), sS), (cp_T aT, sT), (cp_H aH (fun j => hT j 0), sH), (cp_O aO, sO)]) H → va_D A (jx_ws cI cT [(cp_B aB (aT 0) (aS 0) (aC 0) (aU 0) (aV 0) (aW 0) (aH 0) (aO 0), sB), (cp_C aC (aT 0) (aS 0), sC), (cp_S aS (aT 0), sS), (cp_T aT, sT), (cp_H aH (fun j => hT j 0), sH), (cp_O aO, sO)]) → va_S A s.heap H locs → ∀ ls : Array Slot, lv_has ls 18 [(0, .ref (aB 0)), (1, .int (jx_i l1)), (2, .int (jx_i l2)), (4, .int (jx_i l4)), (5, .int (jx_i l5)), (6, .int (jx_i l6)), (7, .int (jx_i l7)), (8, .int (jx_i l8)), (9, .int (jx_i l9))] → W p l e (jx_rm 5 117) s m args below meth c H locs 0 0 QQ (F0 m 512 ls [.int (jx_i t1), .int (jx_i t0)]) := by
            intro sS l2 l4 l5 l7 l8 l9 t0 t1 h H locs hP hD hS ls hl
            unfold wp_L_isTree_512 at h
            refine jx_iadd C dL_isTree_512 ?_
            refine lv_istore_n (lv' := [(3, .int (jx_i (t0 + t1))), (0, .ref (aB 0)), (1, .int (jx_i l1)), (2, .int (jx_i l2)), (4, .int (jx_i l4)), (5, .int (jx_i l5)), (6, .int (jx_i l6)), (7, .int (jx_i l7)), (8, .int (jx_i l8)), (9, .int (jx_i l9))]) hx hb dL_isTree_513 rfl hl (by decide) rfl (fun ls hl => ?_)
            refine lv_iload hx hb dL_isTree_514 (lv_at hl 4 rfl) ?_
            refine lv_iload hx hb dL_isTree_516 (lv_at hl 6 rfl) ?_
            refine jx_zne C h.1 (tgt := 526) dL_isTree_518 (by decide) (fun hc => ?_) (fun hc => ?_)
            · have h := h.2.2 hc
              refine jx_iconst C dL_isTree_526 ?_
              exact J527 sS l2 (t0 + t1) l5 l7 l8 l9 l4 0 h _ _ hP hD hS ls (lv_sub hl [1, 2, 3, 0, 5, 6, 7, 8, 9] rfl)
            · have h := h.2.1 hc
              refine lv_iload hx hb dL_isTree_521 (lv_at hl 9 rfl) ?_
              refine lv_goto (tgt := 527) hx hb dL_isTree_523 (by decide) ?_
              exact J527 sS l2 (t0 + t1) l5 l7 l8 l9 l4 l9 h _ _ hP hD hS ls (lv_sub hl [1, 2, 3, 0, 5, 6, 7, 8, 9] rfl)
          have J511 : ∀ (sS : jx_St) (l2 : Int) (l4 : Int) (l5 : Int) (l7 : Int) (l8 : Int) (l9 : Int) (t0 : Int), wp_L_isTree_511 Q sB sC sT sH sO B36 K546 sS l1 l2 l4 l5 l6 l7 l8 l9 t0 → ∀ (H : Heap) (locs : List Loc), va_P D vwCl (jx_ws cI cT [(cp_B aB (aT 0) (aS 0) (aC 0) (aU 0) (aV 0) (aW 0) (aH 0) (aO 0), sB), (cp_C aC (aT 0) (aS 0), sC), (cp_S aS (aT 0), sS), (cp_T aT, sT), (cp_H aH (fun j => hT j 0), sH), (cp_O aO, sO)]) H → va_D A (jx_ws cI cT [(cp_B aB (aT 0) (aS 0) (aC 0) (aU 0) (aV 0) (aW 0) (aH 0) (aO 0), sB), (cp_C aC (aT 0) (aS 0), sC), (cp_S aS (aT 0), sS), (cp_T aT, sT), (cp_H aH (fun j => hT j 0), sH), (cp_O aO, sO)]) → va_S A s.heap H locs → ∀ ls : Array Slot, lv_has ls 18 [(0, .ref (aB 0)), (1, .int (jx_i l1)), (2, .int (jx_i l2)), (4, .int (jx_i l4)), (5, .int (jx_i l5)), (6, .int (jx_i l6)), (7, .int (jx_i l7)), (8, .int (jx_i l8)), (9, .int (jx_i l9))] → W p l e (jx_rm 5 117) s m args below meth c H locs 0 0 QQ (F0 m 511 ls [.int (jx_i t0)]) := by
            intro sS l2 l4 l5 l7 l8 l9 t0 h H locs hP hD hS ls hl
            unfold wp_L_isTree_511 at h
            refine jx_iconst C dL_isTree_511 ?_
            exact J512 sS l2 l4 l5 l7 l8 l9 t0 0 h _ _ hP hD hS ls (lv_sub hl [0, 1, 2, 3, 4, 5, 6, 7, 8] rfl)
          have J484 : ∀ (sS : jx_St) (l2 : Int) (l3 : Int) (l4 : Int) (l7 : Int) (l8 : Int) (l9 : Int) (l11 : Int) (l12 : Int) (l13 : Int) (l14 : Int) (t0 : Int), wp_L_isTree_484 Q sB sC sT sH sO B36 K546 sS l1 l2 l3 l4 l6 l7 l8 l9 l11 l12 l13 l14 t0 → ∀ (H : Heap) (locs : List Loc), va_P D vwCl (jx_ws cI cT [(cp_B aB (aT 0) (aS 0) (aC 0) (aU 0) (aV 0) (aW 0) (aH 0) (aO 0), sB), (cp_C aC (aT 0) (aS 0), sC), (cp_S aS (aT 0), sS), (cp_T aT, sT), (cp_H aH (fun j => hT j 0), sH), (cp_O aO, sO)]) H → va_D A (jx_ws cI cT [(cp_B aB (aT 0) (aS 0) (aC 0) (aU 0) (aV 0) (aW 0) (aH 0) (aO 0), sB), (cp_C aC (aT 0) (aS 0), sC), (cp_S aS (aT 0), sS), (cp_T aT, sT), (cp_H aH (fun j => hT j 0), sH), (cp_O aO, sO)]) → va_S A s.heap H locs → ∀ ls : Array Slot, lv_has ls 18 [(0, .ref (aB 0)), (1, .int (jx_i l1)), (2, .int (jx_i l2)), (3, .int (jx_i l3)), (4, .int (jx_i l4)), (6, .int (jx_i l6)), (7, .int (jx_i l7)), (8, .int (jx_i l8)), (9, .int (jx_i l9)), (11, .int (jx_i l11)), (12, .int (jx_i l12)), (13, .int (jx_i l13)), (14, .int (jx_i l14))] → W p l e (jx_rm 5 117) s m args below meth c H locs 0 0 QQ (F0 m 484 ls [.int (jx_i t0)]) := by
            intro sS l2 l3 l4 l7 l8 l9 l11 l12 l13 l14 t0 h H locs hP hD hS ls hl
            unfold wp_L_isTree_484 at h
            refine lv_istore (lv' := [(5, .int (jx_i t0)), (0, .ref (aB 0)), (1, .int (jx_i l1)), (2, .int (jx_i l2)), (3, .int (jx_i l3)), (4, .int (jx_i l4)), (6, .int (jx_i l6)), (7, .int (jx_i l7)), (8, .int (jx_i l8)), (9, .int (jx_i l9)), (11, .int (jx_i l11)), (12, .int (jx_i l12)), (13, .int (jx_i l13)), (14, .int (jx_i l14))]) hx hb dL_isTree_484 hl (by decide) rfl (fun ls hl => ?_)
            refine lv_iload_n hx hb dL_isTree_486 rfl (lv_at hl 4 rfl) ?_
            refine lv_iload hx hb dL_isTree_487 (lv_at hl 6 rfl) ?_
            refine jx_zne C h.1 (tgt := 511) dL_isTree_489 (by decide) (fun hc => ?_) (fun hc => ?_)
            · have h := h.2.2 hc
              exact J511 sS l2 l4 t0 l7 l8 l9 l3 h _ _ hP hD hS ls (lv_sub hl [1, 2, 3, 5, 0, 6, 7, 8, 9] rfl)
            · have h := h.2.1 hc
              refine lv_iload hx hb dL_isTree_492 (lv_at hl 9 rfl) ?_
              refine jx_zle C h.1 (tgt := 511) dL_isTree_494 (by decide) (fun hc => ?_) (fun hc => ?_)
              · have h := h.2.1 hc
                exact J511 sS l2 l4 t0 l7 l8 l9 l3 h _ _ hP hD hS ls (lv_sub hl [1, 2, 3, 5, 0, 6, 7, 8, 9] rfl)
              · have h := h.2.2 hc
                refine lv_iload hx hb dL_isTree_497 (lv_at hl 12 rfl) ?_
                refine lv_iload hx hb dL_isTree_499 (lv_at hl 10 rfl) ?_
                refine jx_isub C dL_isTree_501 ?_
                refine lv_iload hx hb dL_isTree_502 (lv_at hl 13 rfl) ?_
                refine lv_iload hx hb dL_isTree_504 (lv_at hl 11 rfl) ?_
                refine jx_isub C dL_isTree_506 ?_
                refine jx_imul C dL_isTree_507 ?_
                refine lv_goto (tgt := 512) hx hb dL_isTree_508 (by decide) ?_
                exact J512 sS l2 l4 t0 l7 l8 l9 l3 ((l13 - l11) * (l14 - l12)) h _ _ hP hD hS ls (lv_sub hl [1, 2, 3, 5, 0, 6, 7, 8, 9] rfl)
          have J483 : ∀ (sS : jx_St) (l2 : Int) (l3 : Int) (l4 : Int) (l7 : Int) (l8 : Int) (l9 : Int) (l11 : Int) (l12 : Int) (l13 : Int) (l14 : Int), wp_L_isTree_483 Q sB sC sT sH sO B36 K546 sS l1 l2 l3 l4 l6 l7 l8 l9 l11 l12 l13 l14 → ∀ (H : Heap) (locs : List Loc), va_P D vwCl (jx_ws cI cT [(cp_B aB (aT 0) (aS 0) (aC 0) (aU 0) (aV 0) (aW 0) (aH 0) (aO 0), sB), (cp_C aC (aT 0) (aS 0), sC), (cp_S aS (aT 0), sS), (cp_T aT, sT), (cp_H aH (fun j => hT j 0), sH), (cp_O aO, sO)]) H → va_D A (jx_ws cI cT [(cp_B aB (aT 0) (aS 0) (aC 0) (aU 0) (aV 0) (aW 0) (aH 0) (aO 0), sB), (cp_C aC (aT 0) (aS 0), sC), (cp_S aS (aT 0), sS), (cp_T aT, sT), (cp_H aH (fun j => hT j 0), sH), (cp_O aO, sO)]) → va_S A s.heap H locs → ∀ ls : Array Slot, lv_has ls 18 [(0, .ref (aB 0)), (1, .int (jx_i l1)), (2, .int (jx_i l2)), (3, .int (jx_i l3)), (4, .int (jx_i l4)), (6, .int (jx_i l6)), (7, .int (jx_i l7)), (8, .int (jx_i l8)), (9, .int (jx_i l9)), (11, .int (jx_i l11)), (12, .int (jx_i l12)), (13, .int (jx_i l13)), (14, .int (jx_i l14))] → W p l e (jx_rm 5 117) s m args below meth c H locs 0 0 QQ (F0 m 483 ls []) := by
            intro sS l2 l3 l4 l7 l8 l9 l11 l12 l13 l14 h H locs hP hD hS ls hl
            unfold wp_L_isTree_483 at h
            refine jx_iconst C dL_isTree_483 ?_
            exact J484 sS l2 l3 l4 l7 l8 l9 l11 l12 l13 l14 0 h _ _ hP hD hS ls (lv_sub hl [0, 1, 2, 3, 4, 5, 6, 7, 8, 9, 10, 11, 12] rfl)
          have J479 : ∀ (sS : jx_St) (l2 : Int) (l3 : Int) (l4 : Int) (l7 : Int) (l8 : Int) (l9 : Int) (l11 : Int) (l12 : Int) (l13 : Int) (l14 : Int), wp_L_isTree_479 Q sB sC sT sH sO B36 K546 sS l1 l2 l3 l4 l6 l7 l8 l9 l11 l12 l13 l14 → ∀ (H : Heap) (locs : List Loc), va_P D vwCl (jx_ws cI cT [(cp_B aB (aT 0) (aS 0) (aC 0) (aU 0) (aV 0) (aW 0) (aH 0) (aO 0), sB), (cp_C aC (aT 0) (aS 0), sC), (cp_S aS (aT 0), sS), (cp_T aT, sT), (cp_H aH (fun j => hT j 0), sH), (cp_O aO, sO)]) H → va_D A (jx_ws cI cT [(cp_B aB (aT 0) (aS 0) (aC 0) (aU 0) (aV 0) (aW 0) (aH 0) (aO 0), sB), (cp_C aC (aT 0) (aS 0), sC), (cp_S aS (aT 0), sS), (cp_T aT, sT), (cp_H aH (fun j => hT j 0), sH), (cp_O aO, sO)]) → va_S A s.heap H locs → ∀ ls : Array Slot, lv_has ls 18 [(0, .ref (aB 0)), (1, .int (jx_i l1)), (2, .int (jx_i l2)), (3, .int (jx_i l3)), (4, .int (jx_i l4)), (6, .int (jx_i l6)), (7, .int (jx_i l7)), (8, .int (jx_i l8)), (9, .int (jx_i l9)), (11, .int (jx_i l11)), (12, .int (jx_i l12)), (13, .int (jx_i l13)), (14, .int (jx_i l14))] → W p l e (jx_rm 5 117) s m args below meth c H locs 0 0 QQ (F0 m 479 ls []) := by
            intro sS l2 l3 l4 l7 l8 l9 l11 l12 l13 l14 h H locs hP hD hS ls hl
            unfold wp_L_isTree_479 at h
            refine jx_iconst C dL_isTree_479 ?_
            refine lv_goto (tgt := 484) hx hb dL_isTree_480 (by decide) ?_
            exact J484 sS l2 l3 l4 l7 l8 l9 l11 l12 l13 l14 1 h _ _ hP hD hS ls (lv_sub hl [0, 1, 2, 3, 4, 5, 6, 7, 8, 9, 10, 11, 12] rfl)
          have J401 : ∀ (sS : jx_St) (l2 : Int) (l3 : Int) (l4 : Int) (l7 : Int) (l8 : Int) (l9 : Int) (l11 : Int) (l12 : Int) (l13 : Int) (l14 : Int), wp_L_isTree_401 Q sB sC sT sH sO B36 K546 sS l1 l2 l3 l4 l6 l7 l8 l9 l11 l12 l13 l14 → ∀ (H : Heap) (locs : List Loc), va_P D vwCl (jx_ws cI cT [(cp_B aB (aT 0) (aS 0) (aC 0) (aU 0) (aV 0) (aW 0) (aH 0) (aO 0), sB), (cp_C aC (aT 0) (aS 0), sC), (cp_S aS (aT 0), sS), (cp_T aT, sT), (cp_H aH (fun j => hT j 0), sH), (cp_O aO, sO)]) H → va_D A (jx_ws cI cT [(cp_B aB (aT 0) (aS 0) (aC 0) (aU 0) (aV 0) (aW 0) (aH 0) (aO 0), sB), (cp_C aC (aT 0) (aS 0), sC), (cp_S aS (aT 0), sS), (cp_T aT, sT), (cp_H aH (fun j => hT j 0), sH), (cp_O aO, sO)]) → va_S A s.heap H locs → ∀ ls : Array Slot, lv_has ls 18 [(0, .ref (aB 0)), (1, .int (jx_i l1)), (2, .int (jx_i l2)), (3, .int (jx_i l3)), (4, .int (jx_i l4)), (6, .int (jx_i l6)), (7, .int (jx_i l7)), (8, .int (jx_i l8)), (9, .int (jx_i l9)), (11, .int (jx_i l11)), (12, .int (jx_i l12)), (13, .int (jx_i l13)), (14, .int (jx_i l14))] → W p l e (jx_rm 5 117) s m args below meth c H locs 0 0 QQ (F0 m 401 ls []) := by
            intro sS l2 l3 l4 l7 l8 l9 l11 l12 l13 l14 h H locs hP hD hS ls hl
            unfold wp_L_isTree_401 at h
            refine lv_iload hx hb dL_isTree_401 (lv_at hl 8 rfl) ?_
            refine jx_zne C h.1 (tgt := 423) dL_isTree_403 (by decide) (fun hc => ?_) (fun hc => ?_)
            · have h := h.2.2 hc
              refine lv_aload_n hx hb dL_isTree_423 rfl (lv_at hl 0 rfl) ?_
              refine lv_iload hx hb dL_isTree_424 (lv_at hl 5 rfl) ?_
              refine lv_iload hx hb dL_isTree_426 (lv_at hl 7 rfl) ?_
              refine jx_iconst C dL_isTree_428 ?_
              refine jx_callVI C hK hP hD hS hA (ct_B_nodeOf l D cI cT aB aC aS aT aW aV aU aH hT aO _ sB sS sT l6 l8 0 h) ms_X7_nodeOf lk_L_23 [0, 2, 3] rfl rfl (fun _ => rfl) (cs' := (fun u => [(cp_B aB (aT 0) (aS 0) (aC 0) (aU 0) (aV 0) (aW 0) (aH 0) (aO 0), sB), (cp_C aC (aT 0) (aS 0), sC), (cp_S aS (aT 0), u), (cp_T aT, sT), (cp_H aH (fun j => hT j 0), sH), (cp_O aO, sO)])) (fun _ => rfl) (fun _ => rfl) 0 0 rfl rfl rfl rfl rfl hl.1 rfl rfl dL_isTree_429 ⟨Nat.le_refl _, Nat.le_refl _⟩ (fun r429 sS_429 H locs h hP hD hS => ?_)
              have hP : va_P D vwCl (jx_ws cI cT [(cp_B aB (aT 0) (aS 0) (aC 0) (aU 0) (aV 0) (aW 0) (aH 0) (aO 0), sB), (cp_C aC (aT 0) (aS 0), sC), (cp_S aS (aT 0), sS_429), (cp_T aT, sT), (cp_H aH (fun j => hT j 0), sH), (cp_O aO, sO)]) H := hP
              have hD : va_D A (jx_ws cI cT [(cp_B aB (aT 0) (aS 0) (aC 0) (aU 0) (aV 0) (aW 0) (aH 0) (aO 0), sB), (cp_C aC (aT 0) (aS 0), sC), (cp_S aS (aT 0), sS_429), (cp_T aT, sT), (cp_H aH (fun j => hT j 0), sH), (cp_O aO, sO)]) := hD
              refine lv_iload hx hb dL_isTree_432 (lv_at hl 9 rfl) ?_
              refine jx_ene C h.1 (tgt := 483) dL_isTree_434 (by decide) (fun hc => ?_) (fun hc => ?_)
              · have h := h.2.2 hc
                exact J483 sS_429 l2 l3 l4 l7 l8 l9 l11 l12 l13 l14 h _ _ hP hD hS ls (lv_sub hl [0, 1, 2, 3, 4, 5, 6, 7, 8, 9, 10, 11, 12] rfl)
              · have h := h.2.1 hc
                refine lv_aload_n hx hb dL_isTree_437 rfl (lv_at hl 0 rfl) ?_
                refine lv_iload hx hb dL_isTree_438 (lv_at hl 5 rfl) ?_
                refine lv_iload hx hb dL_isTree_440 (lv_at hl 7 rfl) ?_
                refine jx_iconst C dL_isTree_442 ?_
                refine jx_callVI C hK hP hD hS hA (ct_B_nodeOf l D cI cT aB aC aS aT aW aV aU aH hT aO _ sB sS_429 sT l6 l8 1 h) ms_X7_nodeOf lk_L_23 [0, 2, 3] rfl rfl (fun _ => rfl) (cs' := (fun u => [(cp_B aB (aT 0) (aS 0) (aC 0) (aU 0) (aV 0) (aW 0) (aH 0) (aO 0), sB), (cp_C aC (aT 0) (aS 0), sC), (cp_S aS (aT 0), u), (cp_T aT, sT), (cp_H aH (fun j => hT j 0), sH), (cp_O aO, sO)])) (fun _ => rfl) (fun _ => rfl) 0 0 rfl rfl rfl rfl rfl hl.1 rfl rfl dL_isTree_443 ⟨Nat.le_refl _, Nat.le_refl _⟩ (fun r443 sS_443 H locs h hP hD hS => ?_)
                have hP : va_P D vwCl (jx_ws cI cT [(cp_B aB (aT 0) (aS 0) (aC 0) (aU 0) (aV 0) (aW 0) (aH 0) (aO 0), sB), (cp_C aC (aT 0) (aS 0), sC), (cp_S aS (aT 0), sS_443), (cp_T aT, sT), (cp_H aH (fun j => hT j 0), sH), (cp_O aO, sO)]) H := hP
                have hD : va_D A (jx_ws cI cT [(cp_B aB (aT 0) (aS 0) (aC 0) (aU 0) (aV 0) (aW 0) (aH 0) (aO 0), sB), (cp_C aC (aT 0) (aS 0), sC), (cp_S aS (aT 0), sS_443), (cp_T aT, sT), (cp_H aH (fun j => hT j 0), sH), (cp_O aO, sO)]) := hD
                refine lv_iload hx hb dL_isTree_446 (lv_at hl 10 rfl) ?_
                refine jx_ene C h.1 (tgt := 483) dL_isTree_448 (by decide) (fun hc => ?_) (fun hc => ?_)
                · have h := h.2.2 hc
                  exact J483 sS_443 l2 l3 l4 l7 l8 l9 l11 l12 l13 l14 h _ _ hP hD hS ls (lv_sub hl [0, 1, 2, 3, 4, 5, 6, 7, 8, 9, 10, 11, 12] rfl)
                · have h := h.2.1 hc
                  refine lv_aload_n hx hb dL_isTree_451 rfl (lv_at hl 0 rfl) ?_
                  refine lv_iload hx hb dL_isTree_452 (lv_at hl 5 rfl) ?_
                  refine lv_iload hx hb dL_isTree_454 (lv_at hl 7 rfl) ?_
                  refine jx_iconst C dL_isTree_456 ?_
                  refine jx_callVI C hK hP hD hS hA (ct_B_nodeOf l D cI cT aB aC aS aT aW aV aU aH hT aO _ sB sS_443 sT l6 l8 2 h) ms_X7_nodeOf lk_L_23 [0, 2, 3] rfl rfl (fun _ => rfl) (cs' := (fun u => [(cp_B aB (aT 0) (aS 0) (aC 0) (aU 0) (aV 0) (aW 0) (aH 0) (aO 0), sB), (cp_C aC (aT 0) (aS 0), sC), (cp_S aS (aT 0), u), (cp_T aT, sT), (cp_H aH (fun j => hT j 0), sH), (cp_O aO, sO)])) (fun _ => rfl) (fun _ => rfl) 0 0 rfl rfl rfl rfl rfl hl.1 rfl rfl dL_isTree_457 ⟨Nat.le_refl _, Nat.le_refl _⟩ (fun r457 sS_457 H locs h hP hD hS => ?_)
                  have hP : va_P D vwCl (jx_ws cI cT [(cp_B aB (aT 0) (aS 0) (aC 0) (aU 0) (aV 0) (aW 0) (aH 0) (aO 0), sB), (cp_C aC (aT 0) (aS 0), sC), (cp_S aS (aT 0), sS_457), (cp_T aT, sT), (cp_H aH (fun j => hT j 0), sH), (cp_O aO, sO)]) H := hP
                  have hD : va_D A (jx_ws cI cT [(cp_B aB (aT 0) (aS 0) (aC 0) (aU 0) (aV 0) (aW 0) (aH 0) (aO 0), sB), (cp_C aC (aT 0) (aS 0), sC), (cp_S aS (aT 0), sS_457), (cp_T aT, sT), (cp_H aH (fun j => hT j 0), sH), (cp_O aO, sO)]) := hD
                  refine lv_iload hx hb dL_isTree_460 (lv_at hl 11 rfl) ?_
                  refine jx_ene C h.1 (tgt := 483) dL_isTree_462 (by decide) (fun hc => ?_) (fun hc => ?_)
                  · have h := h.2.2 hc
                    exact J483 sS_457 l2 l3 l4 l7 l8 l9 l11 l12 l13 l14 h _ _ hP hD hS ls (lv_sub hl [0, 1, 2, 3, 4, 5, 6, 7, 8, 9, 10, 11, 12] rfl)
                  · have h := h.2.1 hc
                    refine lv_aload_n hx hb dL_isTree_465 rfl (lv_at hl 0 rfl) ?_
                    refine lv_iload hx hb dL_isTree_466 (lv_at hl 5 rfl) ?_
                    refine lv_iload hx hb dL_isTree_468 (lv_at hl 7 rfl) ?_
                    refine jx_iconst C dL_isTree_470 ?_
                    refine jx_callVI C hK hP hD hS hA (ct_B_nodeOf l D cI cT aB aC aS aT aW aV aU aH hT aO _ sB sS_457 sT l6 l8 3 h) ms_X7_nodeOf lk_L_23 [0, 2, 3] rfl rfl (fun _ => rfl) (cs' := (fun u => [(cp_B aB (aT 0) (aS 0) (aC 0) (aU 0) (aV 0) (aW 0) (aH 0) (aO 0), sB), (cp_C aC (aT 0) (aS 0), sC), (cp_S aS (aT 0), u), (cp_T aT, sT), (cp_H aH (fun j => hT j 0), sH), (cp_O aO, sO)])) (fun _ => rfl) (fun _ => rfl) 0 0 rfl rfl rfl rfl rfl hl.1 rfl rfl dL_isTree_471 ⟨Nat.le_refl _, Nat.le_refl _⟩ (fun r471 sS_471 H locs h hP hD hS => ?_)
                    have hP : va_P D vwCl (jx_ws cI cT [(cp_B aB (aT 0) (aS 0) (aC 0) (aU 0) (aV 0) (aW 0) (aH 0) (aO 0), sB), (cp_C aC (aT 0) (aS 0), sC), (cp_S aS (aT 0), sS_471), (cp_T aT, sT), (cp_H aH (fun j => hT j 0), sH), (cp_O aO, sO)]) H := hP
                    have hD : va_D A (jx_ws cI cT [(cp_B aB (aT 0) (aS 0) (aC 0) (aU 0) (aV 0) (aW 0) (aH 0) (aO 0), sB), (cp_C aC (aT 0) (aS 0), sC), (cp_S aS (aT 0), sS_471), (cp_T aT, sT), (cp_H aH (fun j => hT j 0), sH), (cp_O aO, sO)]) := hD
                    refine lv_iload hx hb dL_isTree_474 (lv_at hl 12 rfl) ?_
                    refine jx_ene C h.1 (tgt := 483) dL_isTree_476 (by decide) (fun hc => ?_) (fun hc => ?_)
                    · have h := h.2.2 hc
                      exact J483 sS_471 l2 l3 l4 l7 l8 l9 l11 l12 l13 l14 h _ _ hP hD hS ls (lv_sub hl [0, 1, 2, 3, 4, 5, 6, 7, 8, 9, 10, 11, 12] rfl)
                    · have h := h.2.1 hc
                      exact J479 sS_471 l2 l3 l4 l7 l8 l9 l11 l12 l13 l14 h _ _ hP hD hS ls (lv_sub hl [0, 1, 2, 3, 4, 5, 6, 7, 8, 9, 10, 11, 12] rfl)
            · have h := h.2.1 hc
              refine lv_aload_n hx hb dL_isTree_406 rfl (lv_at hl 0 rfl) ?_
              refine lv_iload hx hb dL_isTree_407 (lv_at hl 5 rfl) ?_
              refine lv_iload hx hb dL_isTree_409 (lv_at hl 7 rfl) ?_
              refine jx_iconst C dL_isTree_411 ?_
              refine jx_callVI C hK hP hD hS hA (ct_B_nodeOf l D cI cT aB aC aS aT aW aV aU aH hT aO _ sB sS sT l6 l8 0 h) ms_X7_nodeOf lk_L_23 [0, 2, 3] rfl rfl (fun _ => rfl) (cs' := (fun u => [(cp_B aB (aT 0) (aS 0) (aC 0) (aU 0) (aV 0) (aW 0) (aH 0) (aO 0), sB), (cp_C aC (aT 0) (aS 0), sC), (cp_S aS (aT 0), u), (cp_T aT, sT), (cp_H aH (fun j => hT j 0), sH), (cp_O aO, sO)])) (fun _ => rfl) (fun _ => rfl) 0 0 rfl rfl rfl rfl rfl hl.1 rfl rfl dL_isTree_412 ⟨Nat.le_refl _, Nat.le_refl _⟩ (fun r412 sS_412 H locs h hP hD hS => ?_)
              have hP : va_P D vwCl (jx_ws cI cT [(cp_B aB (aT 0) (aS 0) (aC 0) (aU 0) (aV 0) (aW 0) (aH 0) (aO 0), sB), (cp_C aC (aT 0) (aS 0), sC), (cp_S aS (aT 0), sS_412), (cp_T aT, sT), (cp_H aH (fun j => hT j 0), sH), (cp_O aO, sO)]) H := hP
              have hD : va_D A (jx_ws cI cT [(cp_B aB (aT 0) (aS 0) (aC 0) (aU 0) (aV 0) (aW 0) (aH 0) (aO 0), sB), (cp_C aC (aT 0) (aS 0), sC), (cp_S aS (aT 0), sS_412), (cp_T aT, sT), (cp_H aH (fun j => hT j 0), sH), (cp_O aO, sO)]) := hD
              refine jx_ldc C (-1000004) kc_L_44 dL_isTree_415 ?_
              refine jx_ene C h.1 (tgt := 483) dL_isTree_417 (by decide) (fun hc => ?_) (fun hc => ?_)
              · have h := h.2.2 hc
                exact J483 sS_412 l2 l3 l4 l7 l8 l9 l11 l12 l13 l14 h _ _ hP hD hS ls (lv_sub hl [0, 1, 2, 3, 4, 5, 6, 7, 8, 9, 10, 11, 12] rfl)
              · have h := h.2.1 hc
                refine lv_goto (tgt := 479) hx hb dL_isTree_420 (by decide) ?_
                exact J479 sS_412 l2 l3 l4 l7 l8 l9 l11 l12 l13 l14 h _ _ hP hD hS ls (lv_sub hl [0, 1, 2, 3, 4, 5, 6, 7, 8, 9, 10, 11, 12] rfl)
          have J384 : ∀ (sS : jx_St) (l2 : Int) (l3 : Int) (l4 : Int) (l7 : Int) (l8 : Int) (l9 : Int) (l11 : Int) (l12 : Int) (l13 : Int) (l14 : Int), wp_L_isTree_384 Q sB sC sT sH sO B36 K546 sS l1 l2 l3 l4 l6 l7 l8 l9 l11 l12 l13 l14 → ∀ (H : Heap) (locs : List Loc), va_P D vwCl (jx_ws cI cT [(cp_B aB (aT 0) (aS 0) (aC 0) (aU 0) (aV 0) (aW 0) (aH 0) (aO 0), sB), (cp_C aC (aT 0) (aS 0), sC), (cp_S aS (aT 0), sS), (cp_T aT, sT), (cp_H aH (fun j => hT j 0), sH), (cp_O aO, sO)]) H → va_D A (jx_ws cI cT [(cp_B aB (aT 0) (aS 0) (aC 0) (aU 0) (aV 0) (aW 0) (aH 0) (aO 0), sB), (cp_C aC (aT 0) (aS 0), sC), (cp_S aS (aT 0), sS), (cp_T aT, sT), (cp_H aH (fun j => hT j 0), sH), (cp_O aO, sO)]) → va_S A s.heap H locs → ∀ ls : Array Slot, lv_has ls 18 [(0, .ref (aB 0)), (1, .int (jx_i l1)), (2, .int (jx_i l2)), (3, .int (jx_i l3)), (4, .int (jx_i l4)), (6, .int (jx_i l6)), (7, .int (jx_i l7)), (8, .int (jx_i l8)), (9, .int (jx_i l9)), (11, .int (jx_i l11)), (12, .int (jx_i l12)), (13, .int (jx_i l13)), (14, .int (jx_i l14))] → W p l e (jx_rm 5 117) s m args below meth c H locs 0 0 QQ (F0 m 384 ls []) := by
            intro sS l2 l3 l4 l7 l8 l9 l11 l12 l13 l14 h H locs hP hD hS ls hl
            unfold wp_L_isTree_384 at h
            refine lv_iload hx hb dL_isTree_384 (lv_at hl 8 rfl) ?_
            refine jx_iconst C dL_isTree_386 ?_
            refine jx_cgt C h.1 (jx_inR (by decide) (by decide)) (tgt := 483) dL_isTree_387 (by decide) (fun hc => ?_) (fun hc => ?_)
            · have h := h.2.2 hc
              exact J483 sS l2 l3 l4 l7 l8 l9 l11 l12 l13 l14 h _ _ hP hD hS ls (lv_sub hl [0, 1, 2, 3, 4, 5, 6, 7, 8, 9, 10, 11, 12] rfl)
            · have h := h.2.1 hc
              refine lv_iload hx hb dL_isTree_390 (lv_at hl 8 rfl) ?_
              refine jx_iconst C dL_isTree_392 ?_
              refine jx_cge C h.1 (jx_inR (by decide) (by decide)) (tgt := 401) dL_isTree_393 (by decide) (fun hc => ?_) (fun hc => ?_)
              · have h := h.2.2 hc
                exact J401 sS l2 l3 l4 l7 l8 l9 l11 l12 l13 l14 h _ _ hP hD hS ls (lv_sub hl [0, 1, 2, 3, 4, 5, 6, 7, 8, 9, 10, 11, 12] rfl)
              · have h := h.2.1 hc
                refine lv_iload_n hx hb dL_isTree_396 rfl (lv_at hl 1 rfl) ?_
                refine jx_iconst C dL_isTree_397 ?_
                refine jx_ene C h.1 (tgt := 483) dL_isTree_398 (by decide) (fun hc => ?_) (fun hc => ?_)
                · have h := h.2.2 hc
                  exact J483 sS l2 l3 l4 l7 l8 l9 l11 l12 l13 l14 h _ _ hP hD hS ls (lv_sub hl [0, 1, 2, 3, 4, 5, 6, 7, 8, 9, 10, 11, 12] rfl)
                · have h := h.2.1 hc
                  exact J401 sS l2 l3 l4 l7 l8 l9 l11 l12 l13 l14 h _ _ hP hD hS ls (lv_sub hl [0, 1, 2, 3, 4, 5, 6, 7, 8, 9, 10, 11, 12] rfl)
          have J360 : ∀ (sS : jx_St) (l2 : Int) (l3 : Int) (l4 : Int) (l5 : Int) (l7 : Int) (l8 : Int) (l9 : Int) (l10 : Int) (l11 : Int) (l12 : Int) (l13 : Int) (l14 : Int) (l15 : Int), wp_L_isTree_360 Q sB sC sT sH sO B36 K546 sS l1 l2 l3 l4 l5 l6 l7 l8 l9 l10 l11 l12 l13 l14 l15 → ∀ (H : Heap) (locs : List Loc), va_P D vwCl (jx_ws cI cT [(cp_B aB (aT 0) (aS 0) (aC 0) (aU 0) (aV 0) (aW 0) (aH 0) (aO 0), sB), (cp_C aC (aT 0) (aS 0), sC), (cp_S aS (aT 0), sS), (cp_T aT, sT), (cp_H aH (fun j => hT j 0), sH), (cp_O aO, sO)]) H → va_D A (jx_ws cI cT [(cp_B aB (aT 0) (aS 0) (aC 0) (aU 0) (aV 0) (aW 0) (aH 0) (aO 0), sB), (cp_C aC (aT 0) (aS 0), sC), (cp_S aS (aT 0), sS), (cp_T aT, sT), (cp_H aH (fun j => hT j 0), sH), (cp_O aO, sO)]) → va_S A s.heap H locs → ∀ ls : Array Slot, lv_has ls 18 [(0, .ref (aB 0)), (1, .int (jx_i l1)), (2, .int (jx_i l2)), (3, .int (jx_i l3)), (4, .int (jx_i l4)), (5, .int (jx_i l5)), (6, .int (jx_i l6)), (7, .int (jx_i l7)), (8, .int (jx_i l8)), (9, .int (jx_i l9)), (10, .int (jx_i l10)), (11, .int (jx_i l11)), (12, .int (jx_i l12)), (13, .int (jx_i l13)), (14, .int (jx_i l14)), (15, .int (jx_i l15))] → W p l e (jx_rm 5 117) s m args below meth c H locs 0 0 QQ (F0 m 360 ls []) := by
            intro sS l2 l3 l4 l5 l7 l8 l9 l10 l11 l12 l13 l14 l15 h H locs hP hD hS ls hl
            unfold wp_L_isTree_360 at h
            refine lv_iload hx hb dL_isTree_360 (lv_at hl 5 rfl) ?_
            refine jx_zeq C h.1 (tgt := 483) dL_isTree_362 (by decide) (fun hc => ?_) (fun hc => ?_)
            · have h := h.2.1 hc
              exact J483 sS l2 l3 l4 l7 l8 l9 l11 l12 l13 l14 h _ _ hP hD hS ls (lv_sub hl [0, 1, 2, 3, 4, 6, 7, 8, 9, 11, 12, 13, 14] rfl)
            · have h := h.2.2 hc
              refine lv_iload hx hb dL_isTree_365 (lv_at hl 15 rfl) ?_
              refine lv_iload hx hb dL_isTree_367 (lv_at hl 9 rfl) ?_
              refine jx_ene C h.1 (tgt := 483) dL_isTree_369 (by decide) (fun hc => ?_) (fun hc => ?_)
              · have h := h.2.2 hc
                exact J483 sS l2 l3 l4 l7 l8 l9 l11 l12 l13 l14 h _ _ hP hD hS ls (lv_sub hl [0, 1, 2, 3, 4, 6, 7, 8, 9, 11, 12, 13, 14] rfl)
              · have h := h.2.1 hc
                refine lv_iload hx hb dL_isTree_372 (lv_at hl 6 rfl) ?_
                refine jx_zeq C h.1 (tgt := 384) dL_isTree_374 (by decide) (fun hc => ?_) (fun hc => ?_)
                · have h := h.2.1 hc
                  exact J384 sS l2 l3 l4 l7 l8 l9 l11 l12 l13 l14 h _ _ hP hD hS ls (lv_sub hl [0, 1, 2, 3, 4, 6, 7, 8, 9, 11, 12, 13, 14] rfl)
                · have h := h.2.2 hc
                  refine lv_iload hx hb dL_isTree_377 (lv_at hl 10 rfl) ?_
                  refine lv_iload hx hb dL_isTree_379 (lv_at hl 7 rfl) ?_
                  refine jx_ene C h.1 (tgt := 483) dL_isTree_381 (by decide) (fun hc => ?_) (fun hc => ?_)
                  · have h := h.2.2 hc
                    exact J483 sS l2 l3 l4 l7 l8 l9 l11 l12 l13 l14 h _ _ hP hD hS ls (lv_sub hl [0, 1, 2, 3, 4, 6, 7, 8, 9, 11, 12, 13, 14] rfl)
                  · have h := h.2.1 hc
                    exact J384 sS l2 l3 l4 l7 l8 l9 l11 l12 l13 l14 h _ _ hP hD hS ls (lv_sub hl [0, 1, 2, 3, 4, 6, 7, 8, 9, 11, 12, 13, 14] rfl)
          refine lv_iload hx hb dL_isTree_36 (lv_at hl 5 rfl) ?_
          refine jx_zeq C h.1 (tgt := 546) dL_isTree_38 (by decide) (fun hc => ?_) (fun hc => ?_)
          · have h := h.2.1 hc
            exact K546E sS l2 l3 l4 l5 l7 l8 h _ _ hP hD hS ls (lv_sub hl [0, 1, 2, 3, 4, 5, 6, 7, 8] rfl)
          · have h := h.2.2 hc
            refine lv_aload_n hx hb dL_isTree_41 rfl (lv_at hl 0 rfl) ?_
            refine lv_iload hx hb dL_isTree_42 (lv_at hl 6 rfl) ?_
            refine lv_iload hx hb dL_isTree_44 (lv_at hl 8 rfl) ?_
            refine jx_iconst C dL_isTree_46 ?_
            refine jx_callVI C hK hP hD hS hA (ct_B_nodeOf l D cI cT aB aC aS aT aW aV aU aH hT aO _ sB sS sT l6 l8 4 h) ms_X7_nodeOf lk_L_23 [0, 2, 3] rfl rfl (fun _ => rfl) (cs' := (fun u => [(cp_B aB (aT 0) (aS 0) (aC 0) (aU 0) (aV 0) (aW 0) (aH 0) (aO 0), sB), (cp_C aC (aT 0) (aS 0), sC), (cp_S aS (aT 0), u), (cp_T aT, sT), (cp_H aH (fun j => hT j 0), sH), (cp_O aO, sO)])) (fun _ => rfl) (fun _ => rfl) 0 0 rfl rfl rfl rfl rfl hl.1 rfl rfl dL_isTree_47 ⟨Nat.le_refl _, Nat.le_refl _⟩ (fun r47 sS_47 H locs h hP hD hS => ?_)
            have hP : va_P D vwCl (jx_ws cI cT [(cp_B aB (aT 0) (aS 0) (aC 0) (aU 0) (aV 0) (aW 0) (aH 0) (aO 0), sB), (cp_C aC (aT 0) (aS 0), sC), (cp_S aS (aT 0), sS_47), (cp_T aT, sT), (cp_H aH (fun j => hT j 0), sH), (cp_O aO, sO)]) H := hP
            have hD : va_D A (jx_ws cI cT [(cp_B aB (aT 0) (aS 0) (aC 0) (aU 0) (aV 0) (aW 0) (aH 0) (aO 0), sB), (cp_C aC (aT 0) (aS 0), sC), (cp_S aS (aT 0), sS_47), (cp_T aT, sT), (cp_H aH (fun j => hT j 0), sH), (cp_O aO, sO)]) := hD
            refine jx_zlt C h.1 (tgt := 546) dL_isTree_50 (by decide) (fun hc => ?_) (fun hc => ?_)
            · have h := h.2.1 hc
              exact K546E sS_47 l2 l3 l4 l5 l7 l8 h _ _ hP hD hS ls (lv_sub hl [0, 1, 2, 3, 4, 5, 6, 7, 8] rfl)
            · have h := h.2.2 hc
              refine lv_aload_n hx hb dL_isTree_53 rfl (lv_at hl 0 rfl) ?_
              refine lv_iload hx hb dL_isTree_54 (lv_at hl 6 rfl) ?_
              refine lv_iload hx hb dL_isTree_56 (lv_at hl 8 rfl) ?_
              refine jx_iconst C dL_isTree_58 ?_
              refine jx_callVI C hK hP hD hS hA (ct_B_nodeOf l D cI cT aB aC aS aT aW aV aU aH hT aO _ sB sS_47 sT l6 l8 4 h) ms_X7_nodeOf lk_L_23 [0, 2, 3] rfl rfl (fun _ => rfl) (cs' := (fun u => [(cp_B aB (aT 0) (aS 0) (aC 0) (aU 0) (aV 0) (aW 0) (aH 0) (aO 0), sB), (cp_C aC (aT 0) (aS 0), sC), (cp_S aS (aT 0), u), (cp_T aT, sT), (cp_H aH (fun j => hT j 0), sH), (cp_O aO, sO)])) (fun _ => rfl) (fun _ => rfl) 0 0 rfl rfl rfl rfl rfl hl.1 rfl rfl dL_isTree_59 ⟨Nat.le_refl _, Nat.le_refl _⟩ (fun r59 sS_59 H locs h hP hD hS => ?_)
              have hP : va_P D vwCl (jx_ws cI cT [(cp_B aB (aT 0) (aS 0) (aC 0) (aU 0) (aV 0) (aW 0) (aH 0) (aO 0), sB), (cp_C aC (aT 0) (aS 0), sC), (cp_S aS (aT 0), sS_59), (cp_T aT, sT), (cp_H aH (fun j => hT j 0), sH), (cp_O aO, sO)]) H := hP
              have hD : va_D A (jx_ws cI cT [(cp_B aB (aT 0) (aS 0) (aC 0) (aU 0) (aV 0) (aW 0) (aH 0) (aO 0), sB), (cp_C aC (aT 0) (aS 0), sC), (cp_S aS (aT 0), sS_59), (cp_T aT, sT), (cp_H aH (fun j => hT j 0), sH), (cp_O aO, sO)]) := hD
              refine lv_istore (lv' := [(9, .int (jx_i r59)), (0, .ref (aB 0)), (1, .int (jx_i l1)), (2, .int (jx_i l2)), (3, .int (jx_i l3)), (4, .int (jx_i l4)), (5, .int (jx_i l5)), (6, .int (jx_i l6)), (7, .int (jx_i l7)), (8, .int (jx_i l8))]) hx hb dL_isTree_62 hl (by decide) rfl (fun ls hl => ?_)
              refine lv_aload_n hx hb dL_isTree_64 rfl (lv_at hl 1 rfl) ?_
              refine lv_iload hx hb dL_isTree_65 (lv_at hl 7 rfl) ?_
              refine lv_iload hx hb dL_isTree_67 (lv_at hl 9 rfl) ?_
              refine jx_iconst C dL_isTree_69 ?_
              refine jx_callVI C hK hP hD hS hA (ct_B_nodeOf l D cI cT aB aC aS aT aW aV aU aH hT aO _ sB sS_59 sT l6 l8 5 h) ms_X7_nodeOf lk_L_23 [0, 2, 3] rfl rfl (fun _ => rfl) (cs' := (fun u => [(cp_B aB (aT 0) (aS 0) (aC 0) (aU 0) (aV 0) (aW 0) (aH 0) (aO 0), sB), (cp_C aC (aT 0) (aS 0), sC), (cp_S aS (aT 0), u), (cp_T aT, sT), (cp_H aH (fun j => hT j 0), sH), (cp_O aO, sO)])) (fun _ => rfl) (fun _ => rfl) 0 0 rfl rfl rfl rfl rfl hl.1 rfl rfl dL_isTree_70 ⟨Nat.le_refl _, Nat.le_refl _⟩ (fun r70 sS_70 H locs h hP hD hS => ?_)
              have hP : va_P D vwCl (jx_ws cI cT [(cp_B aB (aT 0) (aS 0) (aC 0) (aU 0) (aV 0) (aW 0) (aH 0) (aO 0), sB), (cp_C aC (aT 0) (aS 0), sC), (cp_S aS (aT 0), sS_70), (cp_T aT, sT), (cp_H aH (fun j => hT j 0), sH), (cp_O aO, sO)]) H := hP
              have hD : va_D A (jx_ws cI cT [(cp_B aB (aT 0) (aS 0) (aC 0) (aU 0) (aV 0) (aW 0) (aH 0) (aO 0), sB), (cp_C aC (aT 0) (aS 0), sC), (cp_S aS (aT 0), sS_70), (cp_T aT, sT), (cp_H aH (fun j => hT j 0), sH), (cp_O aO, sO)]) := hD
              refine lv_istore (lv' := [(10, .int (jx_i r70)), (9, .int (jx_i r59)), (0, .ref (aB 0)), (1, .int (jx_i l1)), (2, .int (jx_i l2)), (3, .int (jx_i l3)), (4, .int (jx_i l4)), (5, .int (jx_i l5)), (6, .int (jx_i l6)), (7, .int (jx_i l7)), (8, .int (jx_i l8))]) hx hb dL_isTree_73 hl (by decide) rfl (fun ls hl => ?_)
              refine jx_bipush C dL_isTree_75 (by decide) ?_
              refine lv_istore (lv' := [(11, .int (jx_i 100)), (10, .int (jx_i r70)), (9, .int (jx_i r59)), (0, .ref (aB 0)), (1, .int (jx_i l1)), (2, .int (jx_i l2)), (3, .int (jx_i l3)), (4, .int (jx_i l4)), (5, .int (jx_i l5)), (6, .int (jx_i l6)), (7, .int (jx_i l7)), (8, .int (jx_i l8))]) hx hb dL_isTree_77 hl (by decide) rfl (fun ls hl => ?_)
              refine jx_bipush C dL_isTree_79 (by decide) ?_
              refine lv_istore (lv' := [(12, .int (jx_i 100)), (11, .int (jx_i 100)), (10, .int (jx_i r70)), (9, .int (jx_i r59)), (0, .ref (aB 0)), (1, .int (jx_i l1)), (2, .int (jx_i l2)), (3, .int (jx_i l3)), (4, .int (jx_i l4)), (5, .int (jx_i l5)), (6, .int (jx_i l6)), (7, .int (jx_i l7)), (8, .int (jx_i l8))]) hx hb dL_isTree_81 hl (by decide) rfl (fun ls hl => ?_)
              refine jx_iconst C dL_isTree_83 ?_
              refine lv_istore (lv' := [(13, .int (jx_i (-1))), (12, .int (jx_i 100)), (11, .int (jx_i 100)), (10, .int (jx_i r70)), (9, .int (jx_i r59)), (0, .ref (aB 0)), (1, .int (jx_i l1)), (2, .int (jx_i l2)), (3, .int (jx_i l3)), (4, .int (jx_i l4)), (5, .int (jx_i l5)), (6, .int (jx_i l6)), (7, .int (jx_i l7)), (8, .int (jx_i l8))]) hx hb dL_isTree_84 hl (by decide) rfl (fun ls hl => ?_)
              refine jx_iconst C dL_isTree_86 ?_
              refine lv_istore (lv' := [(14, .int (jx_i (-1))), (13, .int (jx_i (-1))), (12, .int (jx_i 100)), (11, .int (jx_i 100)), (10, .int (jx_i r70)), (9, .int (jx_i r59)), (0, .ref (aB 0)), (1, .int (jx_i l1)), (2, .int (jx_i l2)), (3, .int (jx_i l3)), (4, .int (jx_i l4)), (5, .int (jx_i l5)), (6, .int (jx_i l6)), (7, .int (jx_i l7)), (8, .int (jx_i l8))]) hx hb dL_isTree_87 hl (by decide) rfl (fun ls hl => ?_)
              refine jx_iconst C dL_isTree_89 ?_
              refine lv_istore (lv' := [(15, .int (jx_i 0)), (14, .int (jx_i (-1))), (13, .int (jx_i (-1))), (12, .int (jx_i 100)), (11, .int (jx_i 100)), (10, .int (jx_i r70)), (9, .int (jx_i r59)), (0, .ref (aB 0)), (1, .int (jx_i l1)), (2, .int (jx_i l2)), (3, .int (jx_i l3)), (4, .int (jx_i l4)), (5, .int (jx_i l5)), (6, .int (jx_i l6)), (7, .int (jx_i l7)), (8, .int (jx_i l8))]) hx hb dL_isTree_90 hl (by decide) rfl (fun ls hl => ?_)
              refine jx_iconst C dL_isTree_92 ?_
              refine lv_istore (lv' := [(16, .int (jx_i 0)), (15, .int (jx_i 0)), (14, .int (jx_i (-1))), (13, .int (jx_i (-1))), (12, .int (jx_i 100)), (11, .int (jx_i 100)), (10, .int (jx_i r70)), (9, .int (jx_i r59)), (0, .ref (aB 0)), (1, .int (jx_i l1)), (2, .int (jx_i l2)), (3, .int (jx_i l3)), (4, .int (jx_i l4)), (5, .int (jx_i l5)), (6, .int (jx_i l6)), (7, .int (jx_i l7)), (8, .int (jx_i l8))]) hx hb dL_isTree_93 hl (by decide) rfl (fun ls hl => ?_)
              obtain ⟨n, h⟩ := h
              refine Lo95 l1 l2 l3 l4 l6 l7 l8 r59 r70 _ n sS_70 l5 100 100 (-1) (-1) 0 0 h ?_ _ _ hP hD hS ls (lv_sub hl [8, 9, 10, 11, 12, 13, 14, 15, 16, 7, 6, 5, 4, 3, 2, 1, 0] rfl)
              · intro sS l5 l11 l12 l13 l14 l15 h H locs hP hD hS ls hl
                exact J360 sS l2 l3 l4 l5 l7 l8 r59 r70 l11 l12 l13 l14 l15 h _ _ hP hD hS ls (lv_sub hl [0, 1, 2, 3, 4, 5, 6, 7, 8, 9, 10, 11, 12, 13, 14, 15] rfl)
      have J622 : ∀ (sS : jx_St) (l2 : Int) (l3 : Int) (l4 : Int) (l6 : Int) (t0 : Int), wp_L_isTree_622 Q sB sC sT sH sO B19 K630 sS l1 l2 l3 l4 l6 t0 → ∀ (H : Heap) (locs : List Loc), va_P D vwCl (jx_ws cI cT [(cp_B aB (aT 0) (aS 0) (aC 0) (aU 0) (aV 0) (aW 0) (aH 0) (aO 0), sB), (cp_C aC (aT 0) (aS 0), sC), (cp_S aS (aT 0), sS), (cp_T aT, sT), (cp_H aH (fun j => hT j 0), sH), (cp_O aO, sO)]) H → va_D A (jx_ws cI cT [(cp_B aB (aT 0) (aS 0) (aC 0) (aU 0) (aV 0) (aW 0) (aH 0) (aO 0), sB), (cp_C aC (aT 0) (aS 0), sC), (cp_S aS (aT 0), sS), (cp_T aT, sT), (cp_H aH (fun j => hT j 0), sH), (cp_O aO, sO)]) → va_S A s.heap H locs → ∀ ls : Array Slot, lv_has ls 18 [(0, .ref (aB 0)), (1, .int (jx_i l1)), (2, .int (jx_i l2)), (3, .int (jx_i l3)), (4, .int (jx_i l4)), (6, .int (jx_i l6))] → W p l e (jx_rm 5 117) s m args below meth c H locs 0 0 QQ (F0 m 622 ls [.int (jx_i t0)]) := by
        intro sS l2 l3 l4 l6 t0 h H locs hP hD hS ls hl
        unfold wp_L_isTree_622 at h
        refine lv_istore (lv' := [(5, .int (jx_i t0)), (0, .ref (aB 0)), (1, .int (jx_i l1)), (2, .int (jx_i l2)), (3, .int (jx_i l3)), (4, .int (jx_i l4)), (6, .int (jx_i l6))]) hx hb dL_isTree_622 hl (by decide) rfl (fun ls hl => ?_)
        refine jx_iinc C (lv' := [(6, .int (jx_i (l6 + 1))), (5, .int (jx_i t0)), (0, .ref (aB 0)), (1, .int (jx_i l1)), (2, .int (jx_i l2)), (3, .int (jx_i l3)), (4, .int (jx_i l4))]) dL_isTree_624 hl (k := 6) rfl (by decide) rfl (fun ls hl => ?_)
        refine lv_goto (tgt := 19) hx hb dL_isTree_627 (by decide) ?_
        exact ih sS l2 l3 l4 t0 (l6 + 1) h _ _ hP hD hS ls (lv_sub hl [2, 3, 4, 5, 6, 1, 0] rfl)
      have J621 : ∀ (sS : jx_St) (l2 : Int) (l3 : Int) (l4 : Int) (l6 : Int), wp_L_isTree_621 Q sB sC sT sH sO B19 K630 sS l1 l2 l3 l4 l6 → ∀ (H : Heap) (locs : List Loc), va_P D vwCl (jx_ws cI cT [(cp_B aB (aT 0) (aS 0) (aC 0) (aU 0) (aV 0) (aW 0) (aH 0) (aO 0), sB), (cp_C aC (aT 0) (aS 0), sC), (cp_S aS (aT 0), sS), (cp_T aT, sT), (cp_H aH (fun j => hT j 0), sH), (cp_O aO, sO)]) H → va_D A (jx_ws cI cT [(cp_B aB (aT 0) (aS 0) (aC 0) (aU 0) (aV 0) (aW 0) (aH 0) (aO 0), sB), (cp_C aC (aT 0) (aS 0), sC), (cp_S aS (aT 0), sS), (cp_T aT, sT), (cp_H aH (fun j => hT j 0), sH), (cp_O aO, sO)]) → va_S A s.heap H locs → ∀ ls : Array Slot, lv_has ls 18 [(0, .ref (aB 0)), (1, .int (jx_i l1)), (2, .int (jx_i l2)), (3, .int (jx_i l3)), (4, .int (jx_i l4)), (6, .int (jx_i l6))] → W p l e (jx_rm 5 117) s m args below meth c H locs 0 0 QQ (F0 m 621 ls []) := by
        intro sS l2 l3 l4 l6 h H locs hP hD hS ls hl
        unfold wp_L_isTree_621 at h
        refine jx_iconst C dL_isTree_621 ?_
        exact J622 sS l2 l3 l4 l6 0 h _ _ hP hD hS ls (lv_sub hl [0, 1, 2, 3, 4, 5] rfl)
      have J617 : ∀ (sS : jx_St) (l2 : Int) (l3 : Int) (l4 : Int) (l6 : Int), wp_L_isTree_617 Q sB sC sT sH sO B19 K630 sS l1 l2 l3 l4 l6 → ∀ (H : Heap) (locs : List Loc), va_P D vwCl (jx_ws cI cT [(cp_B aB (aT 0) (aS 0) (aC 0) (aU 0) (aV 0) (aW 0) (aH 0) (aO 0), sB), (cp_C aC (aT 0) (aS 0), sC), (cp_S aS (aT 0), sS), (cp_T aT, sT), (cp_H aH (fun j => hT j 0), sH), (cp_O aO, sO)]) H → va_D A (jx_ws cI cT [(cp_B aB (aT 0) (aS 0) (aC 0) (aU 0) (aV 0) (aW 0) (aH 0) (aO 0), sB), (cp_C aC (aT 0) (aS 0), sC), (cp_S aS (aT 0), sS), (cp_T aT, sT), (cp_H aH (fun j => hT j 0), sH), (cp_O aO, sO)]) → va_S A s.heap H locs → ∀ ls : Array Slot, lv_has ls 18 [(0, .ref (aB 0)), (1, .int (jx_i l1)), (2, .int (jx_i l2)), (3, .int (jx_i l3)), (4, .int (jx_i l4)), (6, .int (jx_i l6))] → W p l e (jx_rm 5 117) s m args below meth c H locs 0 0 QQ (F0 m 617 ls []) := by
        intro sS l2 l3 l4 l6 h H locs hP hD hS ls hl
        unfold wp_L_isTree_617 at h
        refine jx_iconst C dL_isTree_617 ?_
        refine lv_goto (tgt := 622) hx hb dL_isTree_618 (by decide) ?_
        exact J622 sS l2 l3 l4 l6 1 h _ _ hP hD hS ls (lv_sub hl [0, 1, 2, 3, 4, 5] rfl)
      have J580 : ∀ (sS : jx_St) (l2 : Int) (l3 : Int) (l4 : Int) (l6 : Int) (l7 : Int), wp_L_isTree_580 Q sB sC sT sH sO B19 K630 sS l1 l2 l3 l4 l6 l7 → ∀ (H : Heap) (locs : List Loc), va_P D vwCl (jx_ws cI cT [(cp_B aB (aT 0) (aS 0) (aC 0) (aU 0) (aV 0) (aW 0) (aH 0) (aO 0), sB), (cp_C aC (aT 0) (aS 0), sC), (cp_S aS (aT 0), sS), (cp_T aT, sT), (cp_H aH (fun j => hT j 0), sH), (cp_O aO, sO)]) H → va_D A (jx_ws cI cT [(cp_B aB (aT 0) (aS 0) (aC 0) (aU 0) (aV 0) (aW 0) (aH 0) (aO 0), sB), (cp_C aC (aT 0) (aS 0), sC), (cp_S aS (aT 0), sS), (cp_T aT, sT), (cp_H aH (fun j => hT j 0), sH), (cp_O aO, sO)]) → va_S A s.heap H locs → ∀ ls : Array Slot, lv_has ls 18 [(0, .ref (aB 0)), (1, .int (jx_i l1)), (2, .int (jx_i l2)), (3, .int (jx_i l3)), (4, .int (jx_i l4)), (6, .int (jx_i l6)), (7, .int (jx_i l7))] → W p l e (jx_rm 5 117) s m args below meth c H locs 0 0 QQ (F0 m 580 ls []) := by
        intro sS l2 l3 l4 l6 l7 h H locs hP hD hS ls hl
        unfold wp_L_isTree_580 at h
        refine lv_iload hx hb dL_isTree_580 (lv_at hl 5 rfl) ?_
        refine jx_zeq C h.1 (tgt := 617) dL_isTree_582 (by decide) (fun hc => ?_) (fun hc => ?_)
        · have h := h.2.1 hc
          exact J617 sS l2 l3 l4 l6 h _ _ hP hD hS ls (lv_sub hl [0, 1, 2, 3, 4, 5] rfl)
        · have h := h.2.2 hc
          refine lv_aload_n hx hb dL_isTree_585 rfl (lv_at hl 0 rfl) ?_
          refine lv_iload hx hb dL_isTree_586 (lv_at hl 5 rfl) ?_
          refine jx_iconst C dL_isTree_588 ?_
          refine jx_isub C dL_isTree_589 ?_
          refine lv_iload hx hb dL_isTree_590 (lv_at hl 6 rfl) ?_
          refine jx_iconst C dL_isTree_592 ?_
          refine jx_callVI C hK hP hD hS hA (ct_B_nodeOf l D cI cT aB aC aS aT aW aV aU aH hT aO _ sB sS sT (l6 - 1) l7 4 h) ms_X7_nodeOf lk_L_23 [0, 2, 3] rfl rfl (fun _ => rfl) (cs' := (fun u => [(cp_B aB (aT 0) (aS 0) (aC 0) (aU 0) (aV 0) (aW 0) (aH 0) (aO 0), sB), (cp_C aC (aT 0) (aS 0), sC), (cp_S aS (aT 0), u), (cp_T aT, sT), (cp_H aH (fun j => hT j 0), sH), (cp_O aO, sO)])) (fun _ => rfl) (fun _ => rfl) 0 0 rfl rfl rfl rfl rfl hl.1 rfl rfl dL_isTree_593 ⟨Nat.le_refl _, Nat.le_refl _⟩ (fun r593 sS_593 H locs h hP hD hS => ?_)
          have hP : va_P D vwCl (jx_ws cI cT [(cp_B aB (aT 0) (aS 0) (aC 0) (aU 0) (aV 0) (aW 0) (aH 0) (aO 0), sB), (cp_C aC (aT 0) (aS 0), sC), (cp_S aS (aT 0), sS_593), (cp_T aT, sT), (cp_H aH (fun j => hT j 0), sH), (cp_O aO, sO)]) H := hP
          have hD : va_D A (jx_ws cI cT [(cp_B aB (aT 0) (aS 0) (aC 0) (aU 0) (aV 0) (aW 0) (aH 0) (aO 0), sB), (cp_C aC (aT 0) (aS 0), sC), (cp_S aS (aT 0), sS_593), (cp_T aT, sT), (cp_H aH (fun j => hT j 0), sH), (cp_O aO, sO)]) := hD
          refine jx_ldc C (-1000004) kc_L_44 dL_isTree_596 ?_
          refine jx_ene C h.1 (tgt := 621) dL_isTree_598 (by decide) (fun hc => ?_) (fun hc => ?_)
          · have h := h.2.2 hc
            exact J621 sS_593 l2 l3 l4 l6 h _ _ hP hD hS ls (lv_sub hl [0, 1, 2, 3, 4, 5] rfl)
          · have h := h.2.1 hc
            refine lv_aload_n hx hb dL_isTree_601 rfl (lv_at hl 0 rfl) ?_
            refine lv_iload hx hb dL_isTree_602 (lv_at hl 5 rfl) ?_
            refine jx_iconst C dL_isTree_604 ?_
            refine jx_isub C dL_isTree_605 ?_
            refine lv_iload hx hb dL_isTree_606 (lv_at hl 6 rfl) ?_
            refine jx_iconst C dL_isTree_608 ?_
            refine jx_isub C dL_isTree_609 ?_
            refine jx_iconst C dL_isTree_610 ?_
            refine jx_callVI C hK hP hD hS hA (ct_B_nodeOf l D cI cT aB aC aS aT aW aV aU aH hT aO _ sB sS_593 sT (l6 - 1) (l7 - 1) 4 h) ms_X7_nodeOf lk_L_23 [0, 2, 3] rfl rfl (fun _ => rfl) (cs' := (fun u => [(cp_B aB (aT 0) (aS 0) (aC 0) (aU 0) (aV 0) (aW 0) (aH 0) (aO 0), sB), (cp_C aC (aT 0) (aS 0), sC), (cp_S aS (aT 0), u), (cp_T aT, sT), (cp_H aH (fun j => hT j 0), sH), (cp_O aO, sO)])) (fun _ => rfl) (fun _ => rfl) 0 0 rfl rfl rfl rfl rfl hl.1 rfl rfl dL_isTree_611 ⟨Nat.le_refl _, Nat.le_refl _⟩ (fun r611 sS_611 H locs h hP hD hS => ?_)
            have hP : va_P D vwCl (jx_ws cI cT [(cp_B aB (aT 0) (aS 0) (aC 0) (aU 0) (aV 0) (aW 0) (aH 0) (aO 0), sB), (cp_C aC (aT 0) (aS 0), sC), (cp_S aS (aT 0), sS_611), (cp_T aT, sT), (cp_H aH (fun j => hT j 0), sH), (cp_O aO, sO)]) H := hP
            have hD : va_D A (jx_ws cI cT [(cp_B aB (aT 0) (aS 0) (aC 0) (aU 0) (aV 0) (aW 0) (aH 0) (aO 0), sB), (cp_C aC (aT 0) (aS 0), sC), (cp_S aS (aT 0), sS_611), (cp_T aT, sT), (cp_H aH (fun j => hT j 0), sH), (cp_O aO, sO)]) := hD
            refine jx_zle C h.1 (tgt := 621) dL_isTree_614 (by decide) (fun hc => ?_) (fun hc => ?_)
            · have h := h.2.1 hc
              exact J621 sS_611 l2 l3 l4 l6 h _ _ hP hD hS ls (lv_sub hl [0, 1, 2, 3, 4, 5] rfl)
            · have h := h.2.2 hc
              exact J617 sS_611 l2 l3 l4 l6 h _ _ hP hD hS ls (lv_sub hl [0, 1, 2, 3, 4, 5] rfl)
      have J565 : ∀ (sS : jx_St) (l2 : Int) (l3 : Int) (l4 : Int) (l6 : Int) (l7 : Int) (l8 : Int), wp_L_isTree_565 Q sB sC sT sH sO B19 K630 sS l1 l2 l3 l4 l6 l7 l8 → ∀ (H : Heap) (locs : List Loc), va_P D vwCl (jx_ws cI cT [(cp_B aB (aT 0) (aS 0) (aC 0) (aU 0) (aV 0) (aW 0) (aH 0) (aO 0), sB), (cp_C aC (aT 0) (aS 0), sC), (cp_S aS (aT 0), sS), (cp_T aT, sT), (cp_H aH (fun j => hT j 0), sH), (cp_O aO, sO)]) H → va_D A (jx_ws cI cT [(cp_B aB (aT 0) (aS 0) (aC 0) (aU 0) (aV 0) (aW 0) (aH 0) (aO 0), sB), (cp_C aC (aT 0) (aS 0), sC), (cp_S aS (aT 0), sS), (cp_T aT, sT), (cp_H aH (fun j => hT j 0), sH), (cp_O aO, sO)]) → va_S A s.heap H locs → ∀ ls : Array Slot, lv_has ls 18 [(0, .ref (aB 0)), (1, .int (jx_i l1)), (2, .int (jx_i l2)), (3, .int (jx_i l3)), (4, .int (jx_i l4)), (6, .int (jx_i l6)), (7, .int (jx_i l7)), (8, .int (jx_i l8))] → W p l e (jx_rm 5 117) s m args below meth c H locs 0 0 QQ (F0 m 565 ls []) := by
        intro sS l2 l3 l4 l6 l7 l8 h H locs hP hD hS ls hl
        unfold wp_L_isTree_565 at h
        refine lv_iload hx hb dL_isTree_565 (lv_at hl 5 rfl) ?_
        refine jx_zgt C h.1 (tgt := 580) dL_isTree_567 (by decide) (fun hc => ?_) (fun hc => ?_)
        · have h := h.2.2 hc
          exact J580 sS l2 l3 l4 l6 l7 h _ _ hP hD hS ls (lv_sub hl [0, 1, 2, 3, 4, 5, 6] rfl)
        · have h := h.2.1 hc
          refine lv_iload hx hb dL_isTree_570 (lv_at hl 7 rfl) ?_
          refine lv_aload_n hx hb dL_isTree_572 rfl (lv_at hl 0 rfl) ?_
          refine jx_iconst C dL_isTree_573 ?_
          refine jx_callVI C hK hP hD hS hA (ct_B_count l D cI cT aB aC aS aT aW aV aU aH hT aO _ sB sC sS sT sH sO 3 h) ms_X7_count lk_L_13 [0, 1, 2, 3, 4, 5] rfl rfl (fun _ => rfl) (cs' := (fun u => [(cp_B aB (aT 0) (aS 0) (aC 0) (aU 0) (aV 0) (aW 0) (aH 0) (aO 0), sB), (cp_C aC (aT 0) (aS 0), sC), (cp_S aS (aT 0), u), (cp_T aT, sT), (cp_H aH (fun j => hT j 0), sH), (cp_O aO, sO)])) (fun _ => rfl) (fun _ => rfl) 0 0 rfl rfl rfl rfl rfl hl.1 rfl rfl dL_isTree_574 ⟨Nat.le_refl _, Nat.le_refl _⟩ (fun r574 sS_574 H locs h hP hD hS => ?_)
          have hP : va_P D vwCl (jx_ws cI cT [(cp_B aB (aT 0) (aS 0) (aC 0) (aU 0) (aV 0) (aW 0) (aH 0) (aO 0), sB), (cp_C aC (aT 0) (aS 0), sC), (cp_S aS (aT 0), sS_574), (cp_T aT, sT), (cp_H aH (fun j => hT j 0), sH), (cp_O aO, sO)]) H := hP
          have hD : va_D A (jx_ws cI cT [(cp_B aB (aT 0) (aS 0) (aC 0) (aU 0) (aV 0) (aW 0) (aH 0) (aO 0), sB), (cp_C aC (aT 0) (aS 0), sC), (cp_S aS (aT 0), sS_574), (cp_T aT, sT), (cp_H aH (fun j => hT j 0), sH), (cp_O aO, sO)]) := hD
          refine jx_ene C h.1 (tgt := 621) dL_isTree_577 (by decide) (fun hc => ?_) (fun hc => ?_)
          · have h := h.2.2 hc
            exact J621 sS_574 l2 l3 l4 l6 h _ _ hP hD hS ls (lv_sub hl [0, 1, 2, 3, 4, 5] rfl)
          · have h := h.2.1 hc
            exact J580 sS_574 l2 l3 l4 l6 l7 h _ _ hP hD hS ls (lv_sub hl [0, 1, 2, 3, 4, 5, 6] rfl)
      have J546 : ∀ (sS : jx_St) (l2 : Int) (l3 : Int) (l4 : Int) (l5 : Int) (l6 : Int) (l7 : Int) (l8 : Int), wp_L_isTree_546 Q sB sC sT sH sO B19 K630 sS l1 l2 l3 l4 l5 l6 l7 l8 → ∀ (H : Heap) (locs : List Loc), va_P D vwCl (jx_ws cI cT [(cp_B aB (aT 0) (aS 0) (aC 0) (aU 0) (aV 0) (aW 0) (aH 0) (aO 0), sB), (cp_C aC (aT 0) (aS 0), sC), (cp_S aS (aT 0), sS), (cp_T aT, sT), (cp_H aH (fun j => hT j 0), sH), (cp_O aO, sO)]) H → va_D A (jx_ws cI cT [(cp_B aB (aT 0) (aS 0) (aC 0) (aU 0) (aV 0) (aW 0) (aH 0) (aO 0), sB), (cp_C aC (aT 0) (aS 0), sC), (cp_S aS (aT 0), sS), (cp_T aT, sT), (cp_H aH (fun j => hT j 0), sH), (cp_O aO, sO)]) → va_S A s.heap H locs → ∀ ls : Array Slot, lv_has ls 18 [(0, .ref (aB 0)), (1, .int (jx_i l1)), (2, .int (jx_i l2)), (3, .int (jx_i l3)), (4, .int (jx_i l4)), (5, .int (jx_i l5)), (6, .int (jx_i l6)), (7, .int (jx_i l7)), (8, .int (jx_i l8))] → W p l e (jx_rm 5 117) s m args below meth c H locs 0 0 QQ (F0 m 546 ls []) := by
        intro sS l2 l3 l4 l5 l6 l7 l8 h H locs hP hD hS ls hl
        unfold wp_L_isTree_546 at h
        refine lv_iload hx hb dL_isTree_546 (lv_at hl 5 rfl) ?_
        refine jx_zeq C h.1 (tgt := 621) dL_isTree_548 (by decide) (fun hc => ?_) (fun hc => ?_)
        · have h := h.2.1 hc
          exact J621 sS l2 l3 l4 l6 h _ _ hP hD hS ls (lv_sub hl [0, 1, 2, 3, 4, 6] rfl)
        · have h := h.2.2 hc
          refine lv_iload hx hb dL_isTree_551 (lv_at hl 6 rfl) ?_
          refine lv_iload_n hx hb dL_isTree_553 rfl (lv_at hl 1 rfl) ?_
          refine jx_iconst C dL_isTree_554 ?_
          refine jx_isub C dL_isTree_555 ?_
          refine jx_clt C h.1 h.2.1 (tgt := 565) dL_isTree_556 (by decide) (fun hc => ?_) (fun hc => ?_)
          · have h := h.2.2.1 hc
            exact J565 sS l2 l3 l4 l6 l7 l8 h _ _ hP hD hS ls (lv_sub hl [0, 1, 2, 3, 4, 6, 7, 8] rfl)
          · have h := h.2.2.2 hc
            refine lv_iload hx hb dL_isTree_559 (lv_at hl 8 rfl) ?_
            refine jx_iconst C dL_isTree_561 ?_
            refine jx_ene C h.1 (tgt := 621) dL_isTree_562 (by decide) (fun hc => ?_) (fun hc => ?_)
            · have h := h.2.2 hc
              exact J621 sS l2 l3 l4 l6 h _ _ hP hD hS ls (lv_sub hl [0, 1, 2, 3, 4, 6] rfl)
            · have h := h.2.1 hc
              exact J565 sS l2 l3 l4 l6 l7 l8 h _ _ hP hD hS ls (lv_sub hl [0, 1, 2, 3, 4, 6, 7, 8] rfl)
      refine lv_iload hx hb dL_isTree_19 (lv_at hl 6 rfl) ?_
      refine lv_iload_n hx hb dL_isTree_21 rfl (lv_at hl 1 rfl) ?_
      refine jx_cge C h.1 h.2.1 (tgt := 630) dL_isTree_22 (by decide) (fun hc => ?_) (fun hc => ?_)
      · have h := h.2.2.2 hc
        exact K630E sS l2 l3 l4 l5 h _ _ hP hD hS ls (lv_sub hl [0, 1, 2, 3, 4, 5] rfl)
      · have h := h.2.2.1 hc
        refine lv_iload hx hb dL_isTree_25 (lv_at hl 5 rfl) ?_
        refine jx_zeq C h.1 (tgt := 630) dL_isTree_27 (by decide) (fun hc => ?_) (fun hc => ?_)
        · have h := h.2.1 hc
          exact K630E sS l2 l3 l4 l5 h _ _ hP hD hS ls (lv_sub hl [0, 1, 2, 3, 4, 5] rfl)
        · have h := h.2.2 hc
          refine jx_iconst C dL_isTree_30 ?_
          refine lv_istore (lv' := [(7, .int (jx_i 0)), (0, .ref (aB 0)), (1, .int (jx_i l1)), (2, .int (jx_i l2)), (3, .int (jx_i l3)), (4, .int (jx_i l4)), (5, .int (jx_i l5)), (6, .int (jx_i l6))]) hx hb dL_isTree_31 hl (by decide) rfl (fun ls hl => ?_)
          refine jx_iconst C dL_isTree_33 ?_
          refine lv_istore (lv' := [(8, .int (jx_i 0)), (7, .int (jx_i 0)), (0, .ref (aB 0)), (1, .int (jx_i l1)), (2, .int (jx_i l2)), (3, .int (jx_i l3)), (4, .int (jx_i l4)), (5, .int (jx_i l5)), (6, .int (jx_i l6))]) hx hb dL_isTree_34 hl (by decide) rfl (fun ls hl => ?_)
          obtain ⟨n, h⟩ := h
          refine Lo36 l1 l6 _ n sS l2 l3 l4 l5 0 0 h ?_ _ _ hP hD hS ls (lv_sub hl [2, 3, 4, 5, 6, 7, 8, 1, 0] rfl)
          · intro sS l2 l3 l4 l5 l7 l8 h H locs hP hD hS ls hl
            exact J546 sS l2 l3 l4 l5 l6 l7 l8 h _ _ hP hD hS ls (lv_sub hl [0, 1, 2, 3, 4, 5, 6, 7, 8] rfl)
  have J630 : ∀ (sS : jx_St) (l1 : Int) (l2 : Int) (l3 : Int) (l4 : Int) (l5 : Int), wp_L_isTree_630 Q sB sC sT sH sO sS l1 l2 l3 l4 l5 → ∀ (H : Heap) (locs : List Loc), va_P D vwCl (jx_ws cI cT [(cp_B aB (aT 0) (aS 0) (aC 0) (aU 0) (aV 0) (aW 0) (aH 0) (aO 0), sB), (cp_C aC (aT 0) (aS 0), sC), (cp_S aS (aT 0), sS), (cp_T aT, sT), (cp_H aH (fun j => hT j 0), sH), (cp_O aO, sO)]) H → va_D A (jx_ws cI cT [(cp_B aB (aT 0) (aS 0) (aC 0) (aU 0) (aV 0) (aW 0) (aH 0) (aO 0), sB), (cp_C aC (aT 0) (aS 0), sC), (cp_S aS (aT 0), sS), (cp_T aT, sT), (cp_H aH (fun j => hT j 0), sH), (cp_O aO, sO)]) → va_S A s.heap H locs → ∀ ls : Array Slot, lv_has ls 18 [(0, .ref (aB 0)), (1, .int (jx_i l1)), (2, .int (jx_i l2)), (3, .int (jx_i l3)), (4, .int (jx_i l4)), (5, .int (jx_i l5))] → W p l e (jx_rm 5 117) s m args below meth c H locs 0 0 QQ (F0 m 630 ls []) := by
    intro sS l1 l2 l3 l4 l5 h H locs hP hD hS ls hl
    unfold wp_L_isTree_630 at h
    refine lv_iload hx hb dL_isTree_630 (lv_at hl 5 rfl) ?_
    refine jx_zeq C h.1 (tgt := 678) dL_isTree_632 (by decide) (fun hc => ?_) (fun hc => ?_)
    · have h := h.2.1 hc
      refine jx_iconst C dL_isTree_678 ?_
      exact jx_rZ C hr hlk hAe hS hQQ (by decide) sS hP h dL_isTree_679
    · have h := h.2.2 hc
      refine lv_iload_n hx hb dL_isTree_635 rfl (lv_at hl 2 rfl) ?_
      refine lv_aload_n hx hb dL_isTree_636 rfl (lv_at hl 0 rfl) ?_
      refine jx_iconst C dL_isTree_637 ?_
      refine jx_callVI C hK hP hD hS hA (ct_B_count l D cI cT aB aC aS aT aW aV aU aH hT aO _ sB sC sS sT sH sO 2 h) ms_X7_count lk_L_13 [0, 1, 2, 3, 4, 5] rfl rfl (fun _ => rfl) (cs' := (fun u => [(cp_B aB (aT 0) (aS 0) (aC 0) (aU 0) (aV 0) (aW 0) (aH 0) (aO 0), sB), (cp_C aC (aT 0) (aS 0), sC), (cp_S aS (aT 0), u), (cp_T aT, sT), (cp_H aH (fun j => hT j 0), sH), (cp_O aO, sO)])) (fun _ => rfl) (fun _ => rfl) 0 0 rfl rfl rfl rfl rfl hl.1 rfl rfl dL_isTree_638 ⟨Nat.le_refl _, Nat.le_refl _⟩ (fun r638 sS_638 H locs h hP hD hS => ?_)
      have hP : va_P D vwCl (jx_ws cI cT [(cp_B aB (aT 0) (aS 0) (aC 0) (aU 0) (aV 0) (aW 0) (aH 0) (aO 0), sB), (cp_C aC (aT 0) (aS 0), sC), (cp_S aS (aT 0), sS_638), (cp_T aT, sT), (cp_H aH (fun j => hT j 0), sH), (cp_O aO, sO)]) H := hP
      have hD : va_D A (jx_ws cI cT [(cp_B aB (aT 0) (aS 0) (aC 0) (aU 0) (aV 0) (aW 0) (aH 0) (aO 0), sB), (cp_C aC (aT 0) (aS 0), sC), (cp_S aS (aT 0), sS_638), (cp_T aT, sT), (cp_H aH (fun j => hT j 0), sH), (cp_O aO, sO)]) := hD
      refine jx_ene C h.1 (tgt := 678) dL_isTree_641 (by decide) (fun hc => ?_) (fun hc => ?_)
      · have h := h.2.2 hc
        refine jx_iconst C dL_isTree_678 ?_
        exact jx_rZ C hr hlk hAe hS hQQ (by decide) sS_638 hP h dL_isTree_679
      · have h := h.2.1 hc
        refine lv_iload_n hx hb dL_isTree_644 rfl (lv_at hl 3 rfl) ?_
        refine lv_aload_n hx hb dL_isTree_645 rfl (lv_at hl 0 rfl) ?_
        refine jx_bipush C dL_isTree_646 (by decide) ?_
        refine jx_callVI C hK hP hD hS hA (ct_B_count l D cI cT aB aC aS aT aW aV aU aH hT aO _ sB sC sS_638 sT sH sO 10 h) ms_X7_count lk_L_13 [0, 1, 2, 3, 4, 5] rfl rfl (fun _ => rfl) (cs' := (fun u => [(cp_B aB (aT 0) (aS 0) (aC 0) (aU 0) (aV 0) (aW 0) (aH 0) (aO 0), sB), (cp_C aC (aT 0) (aS 0), sC), (cp_S aS (aT 0), u), (cp_T aT, sT), (cp_H aH (fun j => hT j 0), sH), (cp_O aO, sO)])) (fun _ => rfl) (fun _ => rfl) 0 0 rfl rfl rfl rfl rfl hl.1 rfl rfl dL_isTree_648 ⟨Nat.le_refl _, Nat.le_refl _⟩ (fun r648 sS_648 H locs h hP hD hS => ?_)
        have hP : va_P D vwCl (jx_ws cI cT [(cp_B aB (aT 0) (aS 0) (aC 0) (aU 0) (aV 0) (aW 0) (aH 0) (aO 0), sB), (cp_C aC (aT 0) (aS 0), sC), (cp_S aS (aT 0), sS_648), (cp_T aT, sT), (cp_H aH (fun j => hT j 0), sH), (cp_O aO, sO)]) H := hP
        have hD : va_D A (jx_ws cI cT [(cp_B aB (aT 0) (aS 0) (aC 0) (aU 0) (aV 0) (aW 0) (aH 0) (aO 0), sB), (cp_C aC (aT 0) (aS 0), sC), (cp_S aS (aT 0), sS_648), (cp_T aT, sT), (cp_H aH (fun j => hT j 0), sH), (cp_O aO, sO)]) := hD
        refine jx_ene C h.1 (tgt := 678) dL_isTree_651 (by decide) (fun hc => ?_) (fun hc => ?_)
        · have h := h.2.2 hc
          refine jx_iconst C dL_isTree_678 ?_
          exact jx_rZ C hr hlk hAe hS hQQ (by decide) sS_648 hP h dL_isTree_679
        · have h := h.2.1 hc
          refine lv_iload hx hb dL_isTree_654 (lv_at hl 4 rfl) ?_
          refine lv_aload_n hx hb dL_isTree_656 rfl (lv_at hl 0 rfl) ?_
          refine jx_iconst C dL_isTree_657 ?_
          refine jx_callVI C hK hP hD hS hA (ct_B_count l D cI cT aB aC aS aT aW aV aU aH hT aO _ sB sC sS_648 sT sH sO 0 h) ms_X7_count lk_L_13 [0, 1, 2, 3, 4, 5] rfl rfl (fun _ => rfl) (cs' := (fun u => [(cp_B aB (aT 0) (aS 0) (aC 0) (aU 0) (aV 0) (aW 0) (aH 0) (aO 0), sB), (cp_C aC (aT 0) (aS 0), sC), (cp_S aS (aT 0), u), (cp_T aT, sT), (cp_H aH (fun j => hT j 0), sH), (cp_O aO, sO)])) (fun _ => rfl) (fun _ => rfl) 0 0 rfl rfl rfl rfl rfl hl.1 rfl rfl dL_isTree_658 ⟨Nat.le_refl _, Nat.le_refl _⟩ (fun r658 sS_658 H locs h hP hD hS => ?_)
          have hP : va_P D vwCl (jx_ws cI cT [(cp_B aB (aT 0) (aS 0) (aC 0) (aU 0) (aV 0) (aW 0) (aH 0) (aO 0), sB), (cp_C aC (aT 0) (aS 0), sC), (cp_S aS (aT 0), sS_658), (cp_T aT, sT), (cp_H aH (fun j => hT j 0), sH), (cp_O aO, sO)]) H := hP
          have hD : va_D A (jx_ws cI cT [(cp_B aB (aT 0) (aS 0) (aC 0) (aU 0) (aV 0) (aW 0) (aH 0) (aO 0), sB), (cp_C aC (aT 0) (aS 0), sC), (cp_S aS (aT 0), sS_658), (cp_T aT, sT), (cp_H aH (fun j => hT j 0), sH), (cp_O aO, sO)]) := hD
          refine jx_ene C h.1 (tgt := 678) dL_isTree_661 (by decide) (fun hc => ?_) (fun hc => ?_)
          · have h := h.2.2 hc
            refine jx_iconst C dL_isTree_678 ?_
            exact jx_rZ C hr hlk hAe hS hQQ (by decide) sS_658 hP h dL_isTree_679
          · have h := h.2.1 hc
            refine lv_aload_n hx hb dL_isTree_664 rfl (lv_at hl 0 rfl) ?_
            refine lv_iload_n hx hb dL_isTree_665 rfl (lv_at hl 1 rfl) ?_
            refine jx_iconst C dL_isTree_666 ?_
            refine jx_isub C dL_isTree_667 ?_
            refine jx_callVI C hK hP hD hS hA (ct_B_overlaps l D cI cT aB aC aS aT aW aV aU aH hT aO _ sB sS_658 sT (l1 - 1) h) ms_X7_overlaps lk_L_27 [0, 2, 3] rfl rfl (fun _ => rfl) (cs' := (fun u => [(cp_B aB (aT 0) (aS 0) (aC 0) (aU 0) (aV 0) (aW 0) (aH 0) (aO 0), sB), (cp_C aC (aT 0) (aS 0), sC), (cp_S aS (aT 0), u), (cp_T aT, sT), (cp_H aH (fun j => hT j 0), sH), (cp_O aO, sO)])) (fun _ => rfl) (fun _ => rfl) 0 0 rfl rfl rfl rfl rfl hl.1 rfl rfl dL_isTree_668 ⟨Nat.le_refl _, Nat.le_refl _⟩ (fun r668 sS_668 H locs h hP hD hS => ?_)
            have hP : va_P D vwCl (jx_ws cI cT [(cp_B aB (aT 0) (aS 0) (aC 0) (aU 0) (aV 0) (aW 0) (aH 0) (aO 0), sB), (cp_C aC (aT 0) (aS 0), sC), (cp_S aS (aT 0), sS_668), (cp_T aT, sT), (cp_H aH (fun j => hT j 0), sH), (cp_O aO, sO)]) H := hP
            have hD : va_D A (jx_ws cI cT [(cp_B aB (aT 0) (aS 0) (aC 0) (aU 0) (aV 0) (aW 0) (aH 0) (aO 0), sB), (cp_C aC (aT 0) (aS 0), sC), (cp_S aS (aT 0), sS_668), (cp_T aT, sT), (cp_H aH (fun j => hT j 0), sH), (cp_O aO, sO)]) := hD
            refine jx_zne C h.1 (tgt := 678) dL_isTree_671 (by decide) (fun hc => ?_) (fun hc => ?_)
            · have h := h.2.2 hc
              refine jx_iconst C dL_isTree_678 ?_
              exact jx_rZ C hr hlk hAe hS hQQ (by decide) sS_668 hP h dL_isTree_679
            · have h := h.2.1 hc
              refine jx_iconst C dL_isTree_674 ?_
              refine lv_goto (tgt := 679) hx hb dL_isTree_675 (by decide) ?_
              exact jx_rZ C hr hlk hAe hS hQQ (by decide) sS_668 hP h dL_isTree_679
  refine lv_aload_n hx hb dL_isTree_0 rfl (lv_at hl 0 rfl) ?_
  refine jx_iconst C dL_isTree_1 ?_
  refine jx_callVI C hK hP hD hS hA (ct_B_count l D cI cT aB aC aS aT aW aV aU aH hT aO _ sB sC sS sT sH sO 1 h) ms_X7_count lk_L_13 [0, 1, 2, 3, 4, 5] rfl rfl (fun _ => rfl) (cs' := (fun u => [(cp_B aB (aT 0) (aS 0) (aC 0) (aU 0) (aV 0) (aW 0) (aH 0) (aO 0), sB), (cp_C aC (aT 0) (aS 0), sC), (cp_S aS (aT 0), u), (cp_T aT, sT), (cp_H aH (fun j => hT j 0), sH), (cp_O aO, sO)])) (fun _ => rfl) (fun _ => rfl) 0 0 rfl rfl rfl rfl rfl hl.1 rfl rfl dL_isTree_2 ⟨Nat.le_refl _, Nat.le_refl _⟩ (fun r2 sS_2 H locs h hP hD hS => ?_)
  have hP : va_P D vwCl (jx_ws cI cT [(cp_B aB (aT 0) (aS 0) (aC 0) (aU 0) (aV 0) (aW 0) (aH 0) (aO 0), sB), (cp_C aC (aT 0) (aS 0), sC), (cp_S aS (aT 0), sS_2), (cp_T aT, sT), (cp_H aH (fun j => hT j 0), sH), (cp_O aO, sO)]) H := hP
  have hD : va_D A (jx_ws cI cT [(cp_B aB (aT 0) (aS 0) (aC 0) (aU 0) (aV 0) (aW 0) (aH 0) (aO 0), sB), (cp_C aC (aT 0) (aS 0), sC), (cp_S aS (aT 0), sS_2), (cp_T aT, sT), (cp_H aH (fun j => hT j 0), sH), (cp_O aO, sO)]) := hD
  refine lv_istore_n (lv' := [(1, .int (jx_i r2)), (0, .ref (aB 0))]) hx hb dL_isTree_5 rfl hl (by decide) rfl (fun ls hl => ?_)
  refine jx_iconst C dL_isTree_6 ?_
  refine lv_istore_n (lv' := [(2, .int (jx_i 0)), (1, .int (jx_i r2)), (0, .ref (aB 0))]) hx hb dL_isTree_7 rfl hl (by decide) rfl (fun ls hl => ?_)
  refine jx_iconst C dL_isTree_8 ?_
  refine lv_istore_n (lv' := [(3, .int (jx_i 0)), (2, .int (jx_i 0)), (1, .int (jx_i r2)), (0, .ref (aB 0))]) hx hb dL_isTree_9 rfl hl (by decide) rfl (fun ls hl => ?_)
  refine jx_iconst C dL_isTree_10 ?_
  refine lv_istore (lv' := [(4, .int (jx_i 0)), (3, .int (jx_i 0)), (2, .int (jx_i 0)), (1, .int (jx_i r2)), (0, .ref (aB 0))]) hx hb dL_isTree_11 hl (by decide) rfl (fun ls hl => ?_)
  refine jx_iconst C dL_isTree_13 ?_
  refine lv_istore (lv' := [(5, .int (jx_i 1)), (4, .int (jx_i 0)), (3, .int (jx_i 0)), (2, .int (jx_i 0)), (1, .int (jx_i r2)), (0, .ref (aB 0))]) hx hb dL_isTree_14 hl (by decide) rfl (fun ls hl => ?_)
  refine jx_iconst C dL_isTree_16 ?_
  refine lv_istore (lv' := [(6, .int (jx_i 0)), (5, .int (jx_i 1)), (4, .int (jx_i 0)), (3, .int (jx_i 0)), (2, .int (jx_i 0)), (1, .int (jx_i r2)), (0, .ref (aB 0))]) hx hb dL_isTree_17 hl (by decide) rfl (fun ls hl => ?_)
  obtain ⟨n, h⟩ := h
  refine Lo19 r2 _ n sS_2 0 0 0 1 0 h ?_ _ _ hP hD hS ls (lv_sub hl [6, 5, 4, 3, 2, 1, 0] rfl)
  · intro sS l2 l3 l4 l5 h H locs hP hD hS ls hl
    exact J630 sS r2 l2 l3 l4 l5 h _ _ hP hD hS ls (lv_sub hl [0, 1, 2, 3, 4, 5] rfl)
