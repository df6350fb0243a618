set_option maxRecDepth 100000 in
set_option maxHeartbeats 4000000 in
theorem ct_L_isAhead (l : Launch) (D : va_G) (cI cT : ClassId) (aB : Nat → Nat) (aC : Nat → Nat) (aS : Nat → Nat) (aT : Nat → Nat) (aW : Nat → Nat) (aV : Nat → Nat) (aU : Nat → Nat) (aH : Nat → Nat) (hT : Nat → Nat → Nat) (aO : Nat → Nat) (Q : Int → jx_St → jx_St → jx_St → jx_St → jx_St → jx_St → jx_St → jx_St → jx_St → jx_St → jx_St → Prop) (sB : jx_St) (sC : jx_St) (sS : jx_St) (sT : jx_St) (sW : jx_St) (sV : jx_St) (sU : jx_St) (sH : jx_St) (sH0 : jx_St) (sH1 : jx_St) (sH2 : jx_St) (sH3 : jx_St) (sO : jx_St) (l1 : Int) (l2 : Int) (l3 : Int) (l4 : Int) (h : wp_L_isAhead Q sB sC sS sT sW sV sU sH sH0 sH1 sH2 sH3 sO l1 l2 l3 l4) : jx_KI (jx_St × jx_St × jx_St × jx_St × jx_St × jx_St × jx_St × jx_St × jx_St × jx_St × jx_St) l D cI cT yL_isAhead cL_isAhead 23 .boolean 8 202 [.ref (aB 0), .int (jx_i l1), .int (jx_i l2), .int (jx_i l3), .int (jx_i l4)] [(cp_B aB (aT 0) (aS 0) (aC 0) (aU 0) (aV 0) (aW 0) (aH 0) (aO 0), sB), (cp_C aC (aT 0) (aS 0), sC), (cp_S aS (aT 0), sS), (cp_T aT, sT), (cp_C aW (aU 0) (aV 0), sW), (cp_S aV (aU 0), sV), (cp_T aU, sU), (cp_H aH (fun j => hT j 0), sH), (cp_T (hT 0), sH0), (cp_T (hT 1), sH1), (cp_T (hT 2), sH2), (cp_T (hT 3), sH3), (cp_O aO, sO)] (fun u => [(cp_B aB (aT 0) (aS 0) (aC 0) (aU 0) (aV 0) (aW 0) (aH 0) (aO 0), sB), (cp_C aC (aT 0) (aS 0), u.1), (cp_S aS (aT 0), u.2.1), (cp_T aT, u.2.2.1), (cp_C aW (aU 0) (aV 0), u.2.2.2.1), (cp_S aV (aU 0), u.2.2.2.2.1), (cp_T aU, u.2.2.2.2.2.1), (cp_H aH (fun j => hT j 0), u.2.2.2.2.2.2.1), (cp_T (hT 0), u.2.2.2.2.2.2.2.1), (cp_T (hT 1), u.2.2.2.2.2.2.2.2.1), (cp_T (hT 2), u.2.2.2.2.2.2.2.2.2.1), (cp_T (hT 3), u.2.2.2.2.2.2.2.2.2.2), (cp_O aO, sO)]) (fun x u => Q x u.1 u.2.1 u.2.2.1 u.2.2.2.1 u.2.2.2.2.1 u.2.2.2.2.2.1 u.2.2.2.2.2.2.1 u.2.2.2.2.2.2.2.1 u.2.2.2.2.2.2.2.2.1 u.2.2.2.2.2.2.2.2.2.1 u.2.2.2.2.2.2.2.2.2.2) := by
  refine jx_ent (own := RL) (by decide) rfl (Nat.le_of_ble_eq_true rfl) ?_
  intro p e s m args below meth c A QQ C hr hlk hK hAe hA hP hD hS ls hl hQQ
  have hl : lv_has ls 23 [(0, .ref (aB 0)), (1, .int (jx_i l1)), (2, .int (jx_i l2)), (3, .int (jx_i l3)), (4, .int (jx_i l4))] := hl
  have hx := C.1
  have hb := C.2.1
  unfold wp_L_isAhead at h
  have Lo30 : ∀ (sC : jx_St) (sT : jx_St) (sW : jx_St) (sV : jx_St) (sU : jx_St) (sH : jx_St) (sH0 : jx_St) (sH1 : jx_St) (sH2 : jx_St) (sH3 : jx_St) (L5 : Int64) (l7 : Int) (l8 : Int) (K55 : jx_St × Int → Prop) (n : Nat) (sS : jx_St) (l9 : Int), jx_it (fun B30 v => wp_L_isAhead_30 Q sB sO l1 l2 l3 l4 K55 sC sT sW sV sU sH sH0 sH1 sH2 sH3 L5 l7 l8 B30 v.1 v.2) n (sS, l9) → (∀ (sS : jx_St) (l9 : Int), K55 (sS, l9) → ∀ (H : Heap) (locs : List Loc), va_P D vwCl (jx_ws cI cT [(cp_B aB (aT 0) (aS 0) (aC 0) (aU 0) (aV 0) (aW 0) (aH 0) (aO 0), sB), (cp_C aC (aT 0) (aS 0), sC), (cp_S aS (aT 0), sS), (cp_T aT, sT), (cp_C aW (aU 0) (aV 0), sW), (cp_S aV (aU 0), sV), (cp_T aU, sU), (cp_H aH (fun j => hT j 0), sH), (cp_T (hT 0), sH0), (cp_T (hT 1), sH1), (cp_T (hT 2), sH2), (cp_T (hT 3), sH3), (cp_O aO, sO)]) H → va_D A (jx_ws cI cT [(cp_B aB (aT 0) (aS 0) (aC 0) (aU 0) (aV 0) (aW 0) (aH 0) (aO 0), sB), (cp_C aC (aT 0) (aS 0), sC), (cp_S aS (aT 0), sS), (cp_T aT, sT), (cp_C aW (aU 0) (aV 0), sW), (cp_S aV (aU 0), sV), (cp_T aU, sU), (cp_H aH (fun j => hT j 0), sH), (cp_T (hT 0), sH0), (cp_T (hT 1), sH1), (cp_T (hT 2), sH2), (cp_T (hT 3), sH3), (cp_O aO, sO)]) → va_S A s.heap H locs → ∀ ls : Array Slot, lv_has ls 23 [(0, .ref (aB 0)), (1, .int (jx_i l1)), (2, .int (jx_i l2)), (5, .long L5), (7, .int (jx_i l7)), (8, .int (jx_i l8)), (9, .int (jx_i l9))] → W p l e (jx_rm 8 202) s m args below meth c H locs 0 0 QQ (F0 m 55 ls [])) → ∀ (H : Heap) (locs : List Loc), va_P D vwCl (jx_ws cI cT [(cp_B aB (aT 0) (aS 0) (aC 0) (aU 0) (aV 0) (aW 0) (aH 0) (aO 0), sB), (cp_C aC (aT 0) (aS 0), sC), (cp_S aS (aT 0), sS), (cp_T aT, sT), (cp_C aW (aU 0) (aV 0), sW), (cp_S aV (aU 0), sV), (cp_T aU, sU), (cp_H aH (fun j => hT j 0), sH), (cp_T (hT 0), sH0), (cp_T (hT 1), sH1), (cp_T (hT 2), sH2), (cp_T (hT 3), sH3), (cp_O aO, sO)]) H → va_D A (jx_ws cI cT [(cp_B aB (aT 0) (aS 0) (aC 0) (aU 0) (aV 0) (aW 0) (aH 0) (aO 0), sB), (cp_C aC (aT 0) (aS 0), sC), (cp_S aS (aT 0), sS), (cp_T aT, sT), (cp_C aW (aU 0) (aV 0), sW), (cp_S aV (aU 0), sV), (cp_T aU, sU), (cp_H aH (fun j => hT j 0), sH), (cp_T (hT 0), sH0), (cp_T (hT 1), sH1), (cp_T (hT 2), sH2), (cp_T (hT 3), sH3), (cp_O aO, sO)]) → va_S A s.heap H locs → ∀ ls : Array Slot, lv_has ls 23 [(0, .ref (aB 0)), (1, .int (jx_i l1)), (2, .int (jx_i l2)), (5, .long L5), (7, .int (jx_i l7)), (8, .int (jx_i l8)), (9, .int (jx_i l9))] → W p l e (jx_rm 8 202) s m args below meth c H locs 0 0 QQ (F0 m 30 ls []) := by
    intro sC sT sW sV sU sH sH0 sH1 sH2 sH3 L5 l7 l8 K55 n
    induction n with
    | zero =>
      intro sS l9 h
      exact (show False from h).elim
    | succ n ih =>
      intro sS l9 h K55E H locs hP hD hS ls hl
      have h : wp_L_isAhead_30 Q sB sO l1 l2 l3 l4 K55 sC sT sW sV sU sH sH0 sH1 sH2 sH3 L5 l7 l8 (jx_it (fun B30 v => wp_L_isAhead_30 Q sB sO l1 l2 l3 l4 K55 sC sT sW sV sU sH sH0 sH1 sH2 sH3 L5 l7 l8 B30 v.1 v.2) n) sS l9 := h
      have ih := fun sS l9 h => ih sS l9 h K55E
      generalize jx_it (fun B30 v => wp_L_isAhead_30 Q sB sO l1 l2 l3 l4 K55 sC sT sW sV sU sH sH0 sH1 sH2 sH3 L5 l7 l8 B30 v.1 v.2) n = B30 at h ih
      unfold wp_L_isAhead_30 at h
      refine lv_iload hx hb dL_isAhead_30 (lv_at hl 6 rfl) ?_
      refine jx_bipush C dL_isAhead_32 (by decide) ?_
      refine jx_cge C h.1 (jx_inR (by decide) (by decide)) (tgt := 55) dL_isAhead_34 (by decide) (fun hc => ?_) (fun hc => ?_)
      · have h := h.2.2 hc
        exact K55E sS l9 h _ _ hP hD hS ls (lv_sub hl [0, 1, 2, 3, 4, 5, 6] rfl)
      · have h := h.2.1 hc
        refine lv_aload_n hx hb dL_isAhead_37 rfl (lv_at hl 0 rfl) ?_
        refine lv_iload hx hb dL_isAhead_38 (lv_at hl 6 rfl) ?_
        refine jx_iconst C dL_isAhead_40 ?_
        refine jx_callVI C hK hP hD hS hA (ct_B_boxOf l D cI cT aB aC aS aT aW aV aU aH hT aO _ sB sS sT l9 0 h) ms_X7_boxOf lk_L_19 [0, 2, 3] rfl rfl (fun _ => rfl) (cs' := (fun u => [(cp_B aB (aT 0) (aS 0) (aC 0) (aU 0) (aV 0) (aW 0) (aH 0) (aO 0), sB), (cp_C aC (aT 0) (aS 0), sC), (cp_S aS (aT 0), u), (cp_T aT, sT), (cp_C aW (aU 0) (aV 0), sW), (cp_S aV (aU 0), sV), (cp_T aU, sU), (cp_H aH (fun j => hT j 0), sH), (cp_T (hT 0), sH0), (cp_T (hT 1), sH1), (cp_T (hT 2), sH2), (cp_T (hT 3), sH3), (cp_O aO, sO)])) (fun _ => rfl) (fun _ => rfl) 0 0 rfl rfl rfl rfl rfl hl.1 rfl rfl dL_isAhead_41 ⟨Nat.le_refl _, Nat.le_refl _⟩ (fun r41 sS_41 H locs h hP hD hS => ?_)
        have hP : va_P D vwCl (jx_ws cI cT [(cp_B aB (aT 0) (aS 0) (aC 0) (aU 0) (aV 0) (aW 0) (aH 0) (aO 0), sB), (cp_C aC (aT 0) (aS 0), sC), (cp_S aS (aT 0), sS_41), (cp_T aT, sT), (cp_C aW (aU 0) (aV 0), sW), (cp_S aV (aU 0), sV), (cp_T aU, sU), (cp_H aH (fun j => hT j 0), sH), (cp_T (hT 0), sH0), (cp_T (hT 1), sH1), (cp_T (hT 2), sH2), (cp_T (hT 3), sH3), (cp_O aO, sO)]) H := hP
        have hD : va_D A (jx_ws cI cT [(cp_B aB (aT 0) (aS 0) (aC 0) (aU 0) (aV 0) (aW 0) (aH 0) (aO 0), sB), (cp_C aC (aT 0) (aS 0), sC), (cp_S aS (aT 0), sS_41), (cp_T aT, sT), (cp_C aW (aU 0) (aV 0), sW), (cp_S aV (aU 0), sV), (cp_T aU, sU), (cp_H aH (fun j => hT j 0), sH), (cp_T (hT 0), sH0), (cp_T (hT 1), sH1), (cp_T (hT 2), sH2), (cp_T (hT 3), sH3), (cp_O aO, sO)]) := hD
        refine jx_ldc C (-1000004) kc_L_44 dL_isAhead_44 ?_
        refine jx_eeq C h.1 (tgt := 55) dL_isAhead_46 (by decide) (fun hc => ?_) (fun hc => ?_)
        · have h := h.2.1 hc
          exact K55E sS_41 l9 h _ _ hP hD hS ls (lv_sub hl [0, 1, 2, 3, 4, 5, 6] rfl)
        · have h := h.2.2 hc
          refine jx_iinc C (lv' := [(9, .int (jx_i (l9 + 1))), (0, .ref (aB 0)), (1, .int (jx_i l1)), (2, .int (jx_i l2)), (5, .long L5), (7, .int (jx_i l7)), (8, .int (jx_i l8))]) dL_isAhead_49 hl (k := 6) rfl (by decide) rfl (fun ls hl => ?_)
          refine lv_goto (tgt := 30) hx hb dL_isAhead_52 (by decide) ?_
          exact ih sS_41 (l9 + 1) h _ _ hP hD hS ls (lv_sub hl [1, 2, 3, 4, 5, 6, 0] rfl)
  have Lo290 : ∀ (sC : jx_St) (sS : jx_St) (sT : jx_St) (sW : jx_St) (sV : jx_St) (sU : jx_St) (sH : jx_St) (sH0 : jx_St) (sH1 : jx_St) (sH2 : jx_St) (sH3 : jx_St) (L5 : Int64) (l9 : Int) (l12 : Int) (l13 : Int) (K395 : Int → Prop) (n : Nat) (l17 : Int) (l18 : Int), jx_it (fun B290 v => wp_L_isAhead_290 Q sB sO l1 l2 l3 l4 K395 sC sS sT sW sV sU sH sH0 sH1 sH2 sH3 L5 l9 l12 l13 B290 v.1 v.2) n (l17, l18) → (∀ (l17 : Int), K395 l17 → ∀ (H : Heap) (locs : List Loc), va_P D vwCl (jx_ws cI cT [(cp_B aB (aT 0) (aS 0) (aC 0) (aU 0) (aV 0) (aW 0) (aH 0) (aO 0), sB), (cp_C aC (aT 0) (aS 0), sC), (cp_S aS (aT 0), sS), (cp_T aT, sT), (cp_C aW (aU 0) (aV 0), sW), (cp_S aV (aU 0), sV), (cp_T aU, sU), (cp_H aH (fun j => hT j 0), sH), (cp_T (hT 0), sH0), (cp_T (hT 1), sH1), (cp_T (hT 2), sH2), (cp_T (hT 3), sH3), (cp_O aO, sO)]) H → va_D A (jx_ws cI cT [(cp_B aB (aT 0) (aS 0) (aC 0) (aU 0) (aV 0) (aW 0) (aH 0) (aO 0), sB), (cp_C aC (aT 0) (aS 0), sC), (cp_S aS (aT 0), sS), (cp_T aT, sT), (cp_C aW (aU 0) (aV 0), sW), (cp_S aV (aU 0), sV), (cp_T aU, sU), (cp_H aH (fun j => hT j 0), sH), (cp_T (hT 0), sH0), (cp_T (hT 1), sH1), (cp_T (hT 2), sH2), (cp_T (hT 3), sH3), (cp_O aO, sO)]) → va_S A s.heap H locs → ∀ ls : Array Slot, lv_has ls 23 [(0, .ref (aB 0)), (5, .long L5), (9, .int (jx_i l9)), (17, .int (jx_i l17))] → W p l e (jx_rm 8 202) s m args below meth c H locs 0 0 QQ (F0 m 395 ls [])) → ∀ (H : Heap) (locs : List Loc), va_P D vwCl (jx_ws cI cT [(cp_B aB (aT 0) (aS 0) (aC 0) (aU 0) (aV 0) (aW 0) (aH 0) (aO 0), sB), (cp_C aC (aT 0) (aS 0), sC), (cp_S aS (aT 0), sS), (cp_T aT, sT), (cp_C aW (aU 0) (aV 0), sW), (cp_S aV (aU 0), sV), (cp_T aU, sU), (cp_H aH (fun j => hT j 0), sH), (cp_T (hT 0), sH0), (cp_T (hT 1), sH1), (cp_T (hT 2), sH2), (cp_T (hT 3), sH3), (cp_O aO, sO)]) H → va_D A (jx_ws cI cT [(cp_B aB (aT 0) (aS 0) (aC 0) (aU 0) (aV 0) (aW 0) (aH 0) (aO 0), sB), (cp_C aC (aT 0) (aS 0), sC), (cp_S aS (aT 0), sS), (cp_T aT, sT), (cp_C aW (aU 0) (aV 0), sW), (cp_S aV (aU 0), sV), (cp_T aU, sU), (cp_H aH (fun j => hT j 0), sH), (cp_T (hT 0), sH0), (cp_T (hT 1), sH1), (cp_T (hT 2), sH2), (cp_T (hT 3), sH3), (cp_O aO, sO)]) → va_S A s.heap H locs → ∀ ls : Array Slot, lv_has ls 23 [(0, .ref (aB 0)), (5, .long L5), (9, .int (jx_i l9)), (12, .int (jx_i l12)), (13, .int (jx_i l13)), (17, .int (jx_i l17)), (18, .int (jx_i l18))] → W p l e (jx_rm 8 202) s m args below meth c H locs 0 0 QQ (F0 m 290 ls []) := by
    intro sC sS sT sW sV sU sH sH0 sH1 sH2 sH3 L5 l9 l12 l13 K395 n
    induction n with
    | zero =>
      intro l17 l18 h
      exact (show False from h).elim
    | succ n ih =>
      intro l17 l18 h K395E H locs hP hD hS ls hl
      have h : wp_L_isAhead_290 Q sB sO l1 l2 l3 l4 K395 sC sS sT sW sV sU sH sH0 sH1 sH2 sH3 L5 l9 l12 l13 (jx_it (fun B290 v => wp_L_isAhead_290 Q sB sO l1 l2 l3 l4 K395 sC sS sT sW sV sU sH sH0 sH1 sH2 sH3 L5 l9 l12 l13 B290 v.1 v.2) n) l17 l18 := h
      have ih := fun l17 l18 h => ih l17 l18 h K395E
      generalize jx_it (fun B290 v => wp_L_isAhead_290 Q sB sO l1 l2 l3 l4 K395 sC sS sT sW sV sU sH sH0 sH1 sH2 sH3 L5 l9 l12 l13 B290 v.1 v.2) n = B290 at h ih
      unfold wp_L_isAhead_290 at h
      have Lo347 : ∀ (sC : jx_St) (sS : jx_St) (sT : jx_St) (sW : jx_St) (sV : jx_St) (sU : jx_St) (sH : jx_St) (sH0 : jx_St) (sH1 : jx_St) (sH2 : jx_St) (sH3 : jx_St) (L5 : Int64) (l9 : Int) (l12 : Int) (l13 : Int) (l18 : Int) (K389 : Int → Prop) (n : Nat) (l17 : Int) (l19 : Int), jx_it (fun B347 v => wp_L_isAhead_347 Q sB sO l1 l2 l3 l4 K389 sC sS sT sW sV sU sH sH0 sH1 sH2 sH3 L5 l9 l12 l13 l18 B347 v.1 v.2) n (l17, l19) → (∀ (l17 : Int), K389 l17 → ∀ (H : Heap) (locs : List Loc), va_P D vwCl (jx_ws cI cT [(cp_B aB (aT 0) (aS 0) (aC 0) (aU 0) (aV 0) (aW 0) (aH 0) (aO 0), sB), (cp_C aC (aT 0) (aS 0), sC), (cp_S aS (aT 0), sS), (cp_T aT, sT), (cp_C aW (aU 0) (aV 0), sW), (cp_S aV (aU 0), sV), (cp_T aU, sU), (cp_H aH (fun j => hT j 0), sH), (cp_T (hT 0), sH0), (cp_T (hT 1), sH1), (cp_T (hT 2), sH2), (cp_T (hT 3), sH3), (cp_O aO, sO)]) H → va_D A (jx_ws cI cT [(cp_B aB (aT 0) (aS 0) (aC 0) (aU 0) (aV 0) (aW 0) (aH 0) (aO 0), sB), (cp_C aC (aT 0) (aS 0), sC), (cp_S aS (aT 0), sS), (cp_T aT, sT), (cp_C aW (aU 0) (aV 0), sW), (cp_S aV (aU 0), sV), (cp_T aU, sU), (cp_H aH (fun j => hT j 0), sH), (cp_T (hT 0), sH0), (cp_T (hT 1), sH1), (cp_T (hT 2), sH2), (cp_T (hT 3), sH3), (cp_O aO, sO)]) → va_S A s.heap H locs → ∀ ls : Array Slot, lv_has ls 23 [(0, .ref (aB 0)), (5, .long L5), (9, .int (jx_i l9)), (12, .int (jx_i l12)), (13, .int (jx_i l13)), (17, .int (jx_i l17)), (18, .int (jx_i l18))] → W p l e (jx_rm 8 202) s m args below meth c H locs 0 0 QQ (F0 m 389 ls [])) → ∀ (H : Heap) (locs : List Loc), va_P D vwCl (jx_ws cI cT [(cp_B aB (aT 0) (aS 0) (aC 0) (aU 0) (aV 0) (aW 0) (aH 0) (aO 0), sB), (cp_C aC (aT 0) (aS 0), sC), (cp_S aS (aT 0), sS), (cp_T aT, sT), (cp_C aW (aU 0) (aV 0), sW), (cp_S aV (aU 0), sV), (cp_T aU, sU), (cp_H aH (fun j => hT j 0), sH), (cp_T (hT 0), sH0), (cp_T (hT 1), sH1), (cp_T (hT 2), sH2), (cp_T (hT 3), sH3), (cp_O aO, sO)]) H → va_D A (jx_ws cI cT [(cp_B aB (aT 0) (aS 0) (aC 0) (aU 0) (aV 0) (aW 0) (aH 0) (aO 0), sB), (cp_C aC (aT 0) (aS 0), sC), (cp_S aS (aT 0), sS), (cp_T aT, sT), (cp_C aW (aU 0) (aV 0), sW), (cp_S aV (aU 0), sV), (cp_T aU, sU), (cp_H aH (fun j => hT j 0), sH), (cp_T (hT 0), sH0), (cp_T (hT 1), sH1), (cp_T (hT 2), sH2), (cp_T (hT 3), sH3), (cp_O aO, sO)]) → va_S A s.heap H locs → ∀ ls : Array Slot, lv_has ls 23 [(0, .ref (aB 0)), (5, .long L5), (9, .int (jx_i l9)), (12, .int (jx_i l12)), (13, .int (jx_i l13)), (17, .int (jx_i l17)), (18, .int (jx_i l18)), (19, .int (jx_i l19))] → W p l e (jx_rm 8 202) s m args below meth c H locs 0 0 QQ (F0 m 347 ls []) := by
        intro sC sS sT sW sV sU sH sH0 sH1 sH2 sH3 L5 l9 l12 l13 l18 K389 n
        induction n with
        | zero =>
          intro l17 l19 h
          exact (show False from h).elim
        | succ n ih =>
          intro l17 l19 h K389E H locs hP hD hS ls hl
          have h : wp_L_isAhead_347 Q sB sO l1 l2 l3 l4 K389 sC sS sT sW sV sU sH sH0 sH1 sH2 sH3 L5 l9 l12 l13 l18 (jx_it (fun B347 v => wp_L_isAhead_347 Q sB sO l1 l2 l3 l4 K389 sC sS sT sW sV sU sH sH0 sH1 sH2 sH3 L5 l9 l12 l13 l18 B347 v.1 v.2) n) l17 l19 := h
          have ih := fun l17 l19 h => ih l17 l19 h K389E
          generalize jx_it (fun B347 v => wp_L_isAhead_347 Q sB sO l1 l2 l3 l4 K389 sC sS sT sW sV sU sH sH0 sH1 sH2 sH3 L5 l9 l12 l13 l18 B347 v.1 v.2) n = B347 at h ih
          unfold wp_L_isAhead_347 at h
          have J381 : ∀ (l19 : Int) (t0 : Int), wp_L_isAhead_381 Q sB sO l1 l2 l3 l4 B347 K389 sC sS sT sW sV sU sH sH0 sH1 sH2 sH3 L5 l9 l12 l13 l18 l19 t0 → ∀ (H : Heap) (locs : List Loc), va_P D vwCl (jx_ws cI cT [(cp_B aB (aT 0) (aS 0) (aC 0) (aU 0) (aV 0) (aW 0) (aH 0) (aO 0), sB), (cp_C aC (aT 0) (aS 0), sC), (cp_S aS (aT 0), sS), (cp_T aT, sT), (cp_C aW (aU 0) (aV 0), sW), (cp_S aV (aU 0), sV), (cp_T aU, sU), (cp_H aH (fun j => hT j 0), sH), (cp_T (hT 0), sH0), (cp_T (hT 1), sH1), (cp_T (hT 2), sH2), (cp_T (hT 3), sH3), (cp_O aO, sO)]) H → va_D A (jx_ws cI cT [(cp_B aB (aT 0) (aS 0) (aC 0) (aU 0) (aV 0) (aW 0) (aH 0) (aO 0), sB), (cp_C aC (aT 0) (aS 0), sC), (cp_S aS (aT 0), sS), (cp_T aT, sT), (cp_C aW (aU 0) (aV 0), sW), (cp_S aV (aU 0), sV), (cp_T aU, sU), (cp_H aH (fun j => hT j 0), sH), (cp_T (hT 0), sH0), (cp_T (hT 1), sH1), (cp_T (hT 2), sH2), (cp_T (hT 3), sH3), (cp_O aO, sO)]) → va_S A s.heap H locs → ∀ ls : Array Slot, lv_has ls 23 [(0, .ref (aB 0)), (5, .long L5), (9, .int (jx_i l9)), (12, .int (jx_i l12)), (13, .int (jx_i l13)), (18, .int (jx_i l18)), (19, .int (jx_i l19))] → W p l e (jx_rm 8 202) s m args below meth c H locs 0 0 QQ (F0 m 381 ls [.int (jx_i t0)]) := by
            intro l19 t0 h H locs hP hD hS ls hl
            unfold wp_L_isAhead_381 at h
            refine lv_istore (lv' := [(17, .int (jx_i t0)), (0, .ref (aB 0)), (5, .long L5), (9, .int (jx_i l9)), (12, .int (jx_i l12)), (13, .int (jx_i l13)), (18, .int (jx_i l18)), (19, .int (jx_i l19))]) hx hb dL_isAhead_381 hl (by decide) rfl (fun ls hl => ?_)
            refine jx_iinc C (lv' := [(19, .int (jx_i (l19 + 1))), (17, .int (jx_i t0)), (0, .ref (aB 0)), (5, .long L5), (9, .int (jx_i l9)), (12, .int (jx_i l12)), (13, .int (jx_i l13)), (18, .int (jx_i l18))]) dL_isAhead_383 hl (k := 7) rfl (by decide) rfl (fun ls hl => ?_)
            refine lv_goto (tgt := 347) hx hb dL_isAhead_386 (by decide) ?_
            exact ih t0 (l19 + 1) h _ _ hP hD hS ls (lv_sub hl [2, 3, 4, 5, 6, 1, 7, 0] rfl)
          have J380 : ∀ (l19 : Int), wp_L_isAhead_380 Q sB sO l1 l2 l3 l4 B347 K389 sC sS sT sW sV sU sH sH0 sH1 sH2 sH3 L5 l9 l12 l13 l18 l19 → ∀ (H : Heap) (locs : List Loc), va_P D vwCl (jx_ws cI cT [(cp_B aB (aT 0) (aS 0) (aC 0) (aU 0) (aV 0) (aW 0) (aH 0) (aO 0), sB), (cp_C aC (aT 0) (aS 0), sC), (cp_S aS (aT 0), sS), (cp_T aT, sT), (cp_C aW (aU 0) (aV 0), sW), (cp_S aV (aU 0), sV), (cp_T aU, sU), (cp_H aH (fun j => hT j 0), sH), (cp_T (hT 0), sH0), (cp_T (hT 1), sH1), (cp_T (hT 2), sH2), (cp_T (hT 3), sH3), (cp_O aO, sO)]) H → va_D A (jx_ws cI cT [(cp_B aB (aT 0) (aS 0) (aC 0) (aU 0) (aV 0) (aW 0) (aH 0) (aO 0), sB), (cp_C aC (aT 0) (aS 0), sC), (cp_S aS (aT 0), sS), (cp_T aT, sT), (cp_C aW (aU 0) (aV 0), sW), (cp_S aV (aU 0), sV), (cp_T aU, sU), (cp_H aH (fun j => hT j 0), sH), (cp_T (hT 0), sH0), (cp_T (hT 1), sH1), (cp_T (hT 2), sH2), (cp_T (hT 3), sH3), (cp_O aO, sO)]) → va_S A s.heap H locs → ∀ ls : Array Slot, lv_has ls 23 [(0, .ref (aB 0)), (5, .long L5), (9, .int (jx_i l9)), (12, .int (jx_i l12)), (13, .int (jx_i l13)), (18, .int (jx_i l18)), (19, .int (jx_i l19))] → W p l e (jx_rm 8 202) s m args below meth c H locs 0 0 QQ (F0 m 380 ls []) := by
            intro l19 h H locs hP hD hS ls hl
            unfold wp_L_isAhead_380 at h
            refine jx_iconst C dL_isAhead_380 ?_
            exact J381 l19 0 h _ _ hP hD hS ls (lv_sub hl [0, 1, 2, 3, 4, 5, 6] rfl)
          refine lv_iload hx hb dL_isAhead_347 (lv_at hl 7 rfl) ?_
          refine lv_iload hx hb dL_isAhead_349 (lv_at hl 6 rfl) ?_
          refine jx_cge C h.1 h.2.1 (tgt := 389) dL_isAhead_351 (by decide) (fun hc => ?_) (fun hc => ?_)
          · have h := h.2.2.2 hc
            exact K389E l17 h _ _ hP hD hS ls (lv_sub hl [0, 1, 2, 3, 4, 5, 6] rfl)
          · have h := h.2.2.1 hc
            refine lv_iload hx hb dL_isAhead_354 (lv_at hl 5 rfl) ?_
            refine jx_zeq C h.1 (tgt := 380) dL_isAhead_356 (by decide) (fun hc => ?_) (fun hc => ?_)
            · have h := h.2.1 hc
              exact J380 l19 h _ _ hP hD hS ls (lv_sub hl [0, 1, 2, 3, 4, 6, 7] rfl)
            · have h := h.2.2 hc
              refine lv_aload_n hx hb dL_isAhead_359 rfl (lv_at hl 0 rfl) ?_
              refine lv_iload hx hb dL_isAhead_360 (lv_at hl 7 rfl) ?_
              refine jx_iconst C dL_isAhead_362 ?_
              refine jx_callVI C hK hP hD hS hA (ct_B_court l D cI cT aB aC aS aT aW aV aU aH hT aO _ sB sC l19 0 h) ms_X7_court lk_L_48 [0, 1] rfl rfl (fun _ => rfl) (cs' := (fun _ => [(cp_B aB (aT 0) (aS 0) (aC 0) (aU 0) (aV 0) (aW 0) (aH 0) (aO 0), sB), (cp_C aC (aT 0) (aS 0), sC), (cp_S aS (aT 0), sS), (cp_T aT, sT), (cp_C aW (aU 0) (aV 0), sW), (cp_S aV (aU 0), sV), (cp_T aU, sU), (cp_H aH (fun j => hT j 0), sH), (cp_T (hT 0), sH0), (cp_T (hT 1), sH1), (cp_T (hT 2), sH2), (cp_T (hT 3), sH3), (cp_O aO, sO)])) (fun _ => rfl) (fun _ => rfl) 0 0 rfl rfl rfl rfl rfl hl.1 rfl rfl dL_isAhead_363 ⟨Nat.le_refl _, Nat.le_refl _⟩ (fun r363 _ H locs h hP hD hS => ?_)
              have hP : va_P D vwCl (jx_ws cI cT [(cp_B aB (aT 0) (aS 0) (aC 0) (aU 0) (aV 0) (aW 0) (aH 0) (aO 0), sB), (cp_C aC (aT 0) (aS 0), sC), (cp_S aS (aT 0), sS), (cp_T aT, sT), (cp_C aW (aU 0) (aV 0), sW), (cp_S aV (aU 0), sV), (cp_T aU, sU), (cp_H aH (fun j => hT j 0), sH), (cp_T (hT 0), sH0), (cp_T (hT 1), sH1), (cp_T (hT 2), sH2), (cp_T (hT 3), sH3), (cp_O aO, sO)]) H := hP
              have hD : va_D A (jx_ws cI cT [(cp_B aB (aT 0) (aS 0) (aC 0) (aU 0) (aV 0) (aW 0) (aH 0) (aO 0), sB), (cp_C aC (aT 0) (aS 0), sC), (cp_S aS (aT 0), sS), (cp_T aT, sT), (cp_C aW (aU 0) (aV 0), sW), (cp_S aV (aU 0), sV), (cp_T aU, sU), (cp_H aH (fun j => hT j 0), sH), (cp_T (hT 0), sH0), (cp_T (hT 1), sH1), (cp_T (hT 2), sH2), (cp_T (hT 3), sH3), (cp_O aO, sO)]) := hD
              refine lv_aload_n hx hb dL_isAhead_366 rfl (lv_at hl 0 rfl) ?_
              refine lv_iload hx hb dL_isAhead_367 (lv_at hl 6 rfl) ?_
              refine jx_iconst C dL_isAhead_369 ?_
              refine jx_callVI C hK hP hD hS hA (ct_B_court l D cI cT aB aC aS aT aW aV aU aH hT aO _ sB sC l18 0 h) ms_X7_court lk_L_48 [0, 1] rfl rfl (fun _ => rfl) (cs' := (fun _ => [(cp_B aB (aT 0) (aS 0) (aC 0) (aU 0) (aV 0) (aW 0) (aH 0) (aO 0), sB), (cp_C aC (aT 0) (aS 0), sC), (cp_S aS (aT 0), sS), (cp_T aT, sT), (cp_C aW (aU 0) (aV 0), sW), (cp_S aV (aU 0), sV), (cp_T aU, sU), (cp_H aH (fun j => hT j 0), sH), (cp_T (hT 0), sH0), (cp_T (hT 1), sH1), (cp_T (hT 2), sH2), (cp_T (hT 3), sH3), (cp_O aO, sO)])) (fun _ => rfl) (fun _ => rfl) 0 0 rfl rfl rfl rfl rfl hl.1 rfl rfl dL_isAhead_370 ⟨Nat.le_refl _, Nat.le_refl _⟩ (fun r370 _ H locs h hP hD hS => ?_)
              have hP : va_P D vwCl (jx_ws cI cT [(cp_B aB (aT 0) (aS 0) (aC 0) (aU 0) (aV 0) (aW 0) (aH 0) (aO 0), sB), (cp_C aC (aT 0) (aS 0), sC), (cp_S aS (aT 0), sS), (cp_T aT, sT), (cp_C aW (aU 0) (aV 0), sW), (cp_S aV (aU 0), sV), (cp_T aU, sU), (cp_H aH (fun j => hT j 0), sH), (cp_T (hT 0), sH0), (cp_T (hT 1), sH1), (cp_T (hT 2), sH2), (cp_T (hT 3), sH3), (cp_O aO, sO)]) H := hP
              have hD : va_D A (jx_ws cI cT [(cp_B aB (aT 0) (aS 0) (aC 0) (aU 0) (aV 0) (aW 0) (aH 0) (aO 0), sB), (cp_C aC (aT 0) (aS 0), sC), (cp_S aS (aT 0), sS), (cp_T aT, sT), (cp_C aW (aU 0) (aV 0), sW), (cp_S aV (aU 0), sV), (cp_T aU, sU), (cp_H aH (fun j => hT j 0), sH), (cp_T (hT 0), sH0), (cp_T (hT 1), sH1), (cp_T (hT 2), sH2), (cp_T (hT 3), sH3), (cp_O aO, sO)]) := hD
              refine jx_eeq C h.1 (tgt := 380) dL_isAhead_373 (by decide) (fun hc => ?_) (fun hc => ?_)
              · have h := h.2.1 hc
                exact J380 l19 h _ _ hP hD hS ls (lv_sub hl [0, 1, 2, 3, 4, 6, 7] rfl)
              · have h := h.2.2 hc
                refine jx_iconst C dL_isAhead_376 ?_
                refine lv_goto (tgt := 381) hx hb dL_isAhead_377 (by decide) ?_
                exact J381 l19 1 h _ _ hP hD hS ls (lv_sub hl [0, 1, 2, 3, 4, 6, 7] rfl)
      have J389 : ∀ (l17 : Int) (l18 : Int), wp_L_isAhead_389 Q sB sO l1 l2 l3 l4 B290 K395 sC sS sT sW sV sU sH sH0 sH1 sH2 sH3 L5 l9 l12 l13 l17 l18 → ∀ (H : Heap) (locs : List Loc), va_P D vwCl (jx_ws cI cT [(cp_B aB (aT 0) (aS 0) (aC 0) (aU 0) (aV 0) (aW 0) (aH 0) (aO 0), sB), (cp_C aC (aT 0) (aS 0), sC), (cp_S aS (aT 0), sS), (cp_T aT, sT), (cp_C aW (aU 0) (aV 0), sW), (cp_S aV (aU 0), sV), (cp_T aU, sU), (cp_H aH (fun j => hT j 0), sH), (cp_T (hT 0), sH0), (cp_T (hT 1), sH1), (cp_T (hT 2), sH2), (cp_T (hT 3), sH3), (cp_O aO, sO)]) H → va_D A (jx_ws cI cT [(cp_B aB (aT 0) (aS 0) (aC 0) (aU 0) (aV 0) (aW 0) (aH 0) (aO 0), sB), (cp_C aC (aT 0) (aS 0), sC), (cp_S aS (aT 0), sS), (cp_T aT, sT), (cp_C aW (aU 0) (aV 0), sW), (cp_S aV (aU 0), sV), (cp_T aU, sU), (cp_H aH (fun j => hT j 0), sH), (cp_T (hT 0), sH0), (cp_T (hT 1), sH1), (cp_T (hT 2), sH2), (cp_T (hT 3), sH3), (cp_O aO, sO)]) → va_S A s.heap H locs → ∀ ls : Array Slot, lv_has ls 23 [(0, .ref (aB 0)), (5, .long L5), (9, .int (jx_i l9)), (12, .int (jx_i l12)), (13, .int (jx_i l13)), (17, .int (jx_i l17)), (18, .int (jx_i l18))] → W p l e (jx_rm 8 202) s m args below meth c H locs 0 0 QQ (F0 m 389 ls []) := by
        intro l17 l18 h H locs hP hD hS ls hl
        unfold wp_L_isAhead_389 at h
        refine jx_iinc C (lv' := [(18, .int (jx_i (l18 + 1))), (0, .ref (aB 0)), (5, .long L5), (9, .int (jx_i l9)), (12, .int (jx_i l12)), (13, .int (jx_i l13)), (17, .int (jx_i l17))]) dL_isAhead_389 hl (k := 6) rfl (by decide) rfl (fun ls hl => ?_)
        refine lv_goto (tgt := 290) hx hb dL_isAhead_392 (by decide) ?_
        exact ih l17 (l18 + 1) h _ _ hP hD hS ls (lv_sub hl [1, 2, 3, 4, 5, 6, 0] rfl)
      have J342 : ∀ (l18 : Int) (t0 : Int), wp_L_isAhead_342 Q sB sO l1 l2 l3 l4 B290 K395 sC sS sT sW sV sU sH sH0 sH1 sH2 sH3 L5 l9 l12 l13 l18 t0 → ∀ (H : Heap) (locs : List Loc), va_P D vwCl (jx_ws cI cT [(cp_B aB (aT 0) (aS 0) (aC 0) (aU 0) (aV 0) (aW 0) (aH 0) (aO 0), sB), (cp_C aC (aT 0) (aS 0), sC), (cp_S aS (aT 0), sS), (cp_T aT, sT), (cp_C aW (aU 0) (aV 0), sW), (cp_S aV (aU 0), sV), (cp_T aU, sU), (cp_H aH (fun j => hT j 0), sH), (cp_T (hT 0), sH0), (cp_T (hT 1), sH1), (cp_T (hT 2), sH2), (cp_T (hT 3), sH3), (cp_O aO, sO)]) H → va_D A (jx_ws cI cT [(cp_B aB (aT 0) (aS 0) (aC 0) (aU 0) (aV 0) (aW 0) (aH 0) (aO 0), sB), (cp_C aC (aT 0) (aS 0), sC), (cp_S aS (aT 0), sS), (cp_T aT, sT), (cp_C aW (aU 0) (aV 0), sW), (cp_S aV (aU 0), sV), (cp_T aU, sU), (cp_H aH (fun j => hT j 0), sH), (cp_T (hT 0), sH0), (cp_T (hT 1), sH1), (cp_T (hT 2), sH2), (cp_T (hT 3), sH3), (cp_O aO, sO)]) → va_S A s.heap H locs → ∀ ls : Array Slot, lv_has ls 23 [(0, .ref (aB 0)), (5, .long L5), (9, .int (jx_i l9)), (12, .int (jx_i l12)), (13, .int (jx_i l13)), (18, .int (jx_i l18))] → W p l e (jx_rm 8 202) s m args below meth c H locs 0 0 QQ (F0 m 342 ls [.int (jx_i t0)]) := by
        intro l18 t0 h H locs hP hD hS ls hl
        unfold wp_L_isAhead_342 at h
        refine lv_istore (lv' := [(17, .int (jx_i t0)), (0, .ref (aB 0)), (5, .long L5), (9, .int (jx_i l9)), (12, .int (jx_i l12)), (13, .int (jx_i l13)), (18, .int (jx_i l18))]) hx hb dL_isAhead_342 hl (by decide) rfl (fun ls hl => ?_)
        refine jx_iconst C dL_isAhead_344 ?_
        refine lv_istore (lv' := [(19, .int (jx_i 0)), (17, .int (jx_i t0)), (0, .ref (aB 0)), (5, .long L5), (9, .int (jx_i l9)), (12, .int (jx_i l12)), (13, .int (jx_i l13)), (18, .int (jx_i l18))]) hx hb dL_isAhead_345 hl (by decide) rfl (fun ls hl => ?_)
        obtain ⟨n, h⟩ := h
        refine Lo347 sC sS sT sW sV sU sH sH0 sH1 sH2 sH3 L5 l9 l12 l13 l18 _ n t0 0 h ?_ _ _ hP hD hS ls (lv_sub hl [2, 3, 4, 5, 6, 1, 7, 0] rfl)
        · intro l17 h H locs hP hD hS ls hl
          exact J389 l17 l18 h _ _ hP hD hS ls (lv_sub hl [0, 1, 2, 3, 4, 5, 6] rfl)
      have J341 : ∀ (l18 : Int), wp_L_isAhead_341 Q sB sO l1 l2 l3 l4 B290 K395 sC sS sT sW sV sU sH sH0 sH1 sH2 sH3 L5 l9 l12 l13 l18 → ∀ (H : Heap) (locs : List Loc), va_P D vwCl (jx_ws cI cT [(cp_B aB (aT 0) (aS 0) (aC 0) (aU 0) (aV 0) (aW 0) (aH 0) (aO 0), sB), (cp_C aC (aT 0) (aS 0), sC), (cp_S aS (aT 0), sS), (cp_T aT, sT), (cp_C aW (aU 0) (aV 0), sW), (cp_S aV (aU 0), sV), (cp_T aU, sU), (cp_H aH (fun j => hT j 0), sH), (cp_T (hT 0), sH0), (cp_T (hT 1), sH1), (cp_T (hT 2), sH2), (cp_T (hT 3), sH3), (cp_O aO, sO)]) H → va_D A (jx_ws cI cT [(cp_B aB (aT 0) (aS 0) (aC 0) (aU 0) (aV 0) (aW 0) (aH 0) (aO 0), sB), (cp_C aC (aT 0) (aS 0), sC), (cp_S aS (aT 0), sS), (cp_T aT, sT), (cp_C aW (aU 0) (aV 0), sW), (cp_S aV (aU 0), sV), (cp_T aU, sU), (cp_H aH (fun j => hT j 0), sH), (cp_T (hT 0), sH0), (cp_T (hT 1), sH1), (cp_T (hT 2), sH2), (cp_T (hT 3), sH3), (cp_O aO, sO)]) → va_S A s.heap H locs → ∀ ls : Array Slot, lv_has ls 23 [(0, .ref (aB 0)), (5, .long L5), (9, .int (jx_i l9)), (12, .int (jx_i l12)), (13, .int (jx_i l13)), (18, .int (jx_i l18))] → W p l e (jx_rm 8 202) s m args below meth c H locs 0 0 QQ (F0 m 341 ls []) := by
        intro l18 h H locs hP hD hS ls hl
        unfold wp_L_isAhead_341 at h
        refine jx_iconst C dL_isAhead_341 ?_
        exact J342 l18 0 h _ _ hP hD hS ls (lv_sub hl [0, 1, 2, 3, 4, 5] rfl)
      refine lv_iload hx hb dL_isAhead_290 (lv_at hl 6 rfl) ?_
      refine lv_iload hx hb dL_isAhead_292 (lv_at hl 3 rfl) ?_
      refine jx_cge C h.1 h.2.1 (tgt := 395) dL_isAhead_294 (by decide) (fun hc => ?_) (fun hc => ?_)
      · have h := h.2.2.2 hc
        exact K395E l17 h _ _ hP hD hS ls (lv_sub hl [0, 1, 2, 5] rfl)
      · have h := h.2.2.1 hc
        refine lv_iload hx hb dL_isAhead_297 (lv_at hl 5 rfl) ?_
        refine jx_zeq C h.1 (tgt := 395) dL_isAhead_299 (by decide) (fun hc => ?_) (fun hc => ?_)
        · have h := h.2.1 hc
          exact K395E l17 h _ _ hP hD hS ls (lv_sub hl [0, 1, 2, 5] rfl)
        · have h := h.2.2 hc
          refine lv_aload_n hx hb dL_isAhead_302 rfl (lv_at hl 0 rfl) ?_
          refine lv_iload hx hb dL_isAhead_303 (lv_at hl 6 rfl) ?_
          refine jx_iconst C dL_isAhead_305 ?_
          refine jx_callVI C hK hP hD hS hA (ct_B_court l D cI cT aB aC aS aT aW aV aU aH hT aO _ sB sC l18 0 h) ms_X7_court lk_L_48 [0, 1] rfl rfl (fun _ => rfl) (cs' := (fun _ => [(cp_B aB (aT 0) (aS 0) (aC 0) (aU 0) (aV 0) (aW 0) (aH 0) (aO 0), sB), (cp_C aC (aT 0) (aS 0), sC), (cp_S aS (aT 0), sS), (cp_T aT, sT), (cp_C aW (aU 0) (aV 0), sW), (cp_S aV (aU 0), sV), (cp_T aU, sU), (cp_H aH (fun j => hT j 0), sH), (cp_T (hT 0), sH0), (cp_T (hT 1), sH1), (cp_T (hT 2), sH2), (cp_T (hT 3), sH3), (cp_O aO, sO)])) (fun _ => rfl) (fun _ => rfl) 0 0 rfl rfl rfl rfl rfl hl.1 rfl rfl dL_isAhead_306 ⟨Nat.le_refl _, Nat.le_refl _⟩ (fun r306 _ H locs h hP hD hS => ?_)
          have hP : va_P D vwCl (jx_ws cI cT [(cp_B aB (aT 0) (aS 0) (aC 0) (aU 0) (aV 0) (aW 0) (aH 0) (aO 0), sB), (cp_C aC (aT 0) (aS 0), sC), (cp_S aS (aT 0), sS), (cp_T aT, sT), (cp_C aW (aU 0) (aV 0), sW), (cp_S aV (aU 0), sV), (cp_T aU, sU), (cp_H aH (fun j => hT j 0), sH), (cp_T (hT 0), sH0), (cp_T (hT 1), sH1), (cp_T (hT 2), sH2), (cp_T (hT 3), sH3), (cp_O aO, sO)]) H := hP
          have hD : va_D A (jx_ws cI cT [(cp_B aB (aT 0) (aS 0) (aC 0) (aU 0) (aV 0) (aW 0) (aH 0) (aO 0), sB), (cp_C aC (aT 0) (aS 0), sC), (cp_S aS (aT 0), sS), (cp_T aT, sT), (cp_C aW (aU 0) (aV 0), sW), (cp_S aV (aU 0), sV), (cp_T aU, sU), (cp_H aH (fun j => hT j 0), sH), (cp_T (hT 0), sH0), (cp_T (hT 1), sH1), (cp_T (hT 2), sH2), (cp_T (hT 3), sH3), (cp_O aO, sO)]) := hD
          refine jx_zlt C h.1 (tgt := 341) dL_isAhead_309 (by decide) (fun hc => ?_) (fun hc => ?_)
          · have h := h.2.1 hc
            exact J341 l18 h _ _ hP hD hS ls (lv_sub hl [0, 1, 2, 3, 4, 6] rfl)
          · have h := h.2.2 hc
            refine lv_aload_n hx hb dL_isAhead_312 rfl (lv_at hl 0 rfl) ?_
            refine lv_iload hx hb dL_isAhead_313 (lv_at hl 6 rfl) ?_
            refine jx_iconst C dL_isAhead_315 ?_
            refine jx_callVI C hK hP hD hS hA (ct_B_court l D cI cT aB aC aS aT aW aV aU aH hT aO _ sB sC l18 0 h) ms_X7_court lk_L_48 [0, 1] rfl rfl (fun _ => rfl) (cs' := (fun _ => [(cp_B aB (aT 0) (aS 0) (aC 0) (aU 0) (aV 0) (aW 0) (aH 0) (aO 0), sB), (cp_C aC (aT 0) (aS 0), sC), (cp_S aS (aT 0), sS), (cp_T aT, sT), (cp_C aW (aU 0) (aV 0), sW), (cp_S aV (aU 0), sV), (cp_T aU, sU), (cp_H aH (fun j => hT j 0), sH), (cp_T (hT 0), sH0), (cp_T (hT 1), sH1), (cp_T (hT 2), sH2), (cp_T (hT 3), sH3), (cp_O aO, sO)])) (fun _ => rfl) (fun _ => rfl) 0 0 rfl rfl rfl rfl rfl hl.1 rfl rfl dL_isAhead_316 ⟨Nat.le_refl _, Nat.le_refl _⟩ (fun r316 _ H locs h hP hD hS => ?_)
            have hP : va_P D vwCl (jx_ws cI cT [(cp_B aB (aT 0) (aS 0) (aC 0) (aU 0) (aV 0) (aW 0) (aH 0) (aO 0), sB), (cp_C aC (aT 0) (aS 0), sC), (cp_S aS (aT 0), sS), (cp_T aT, sT), (cp_C aW (aU 0) (aV 0), sW), (cp_S aV (aU 0), sV), (cp_T aU, sU), (cp_H aH (fun j => hT j 0), sH), (cp_T (hT 0), sH0), (cp_T (hT 1), sH1), (cp_T (hT 2), sH2), (cp_T (hT 3), sH3), (cp_O aO, sO)]) H := hP
            have hD : va_D A (jx_ws cI cT [(cp_B aB (aT 0) (aS 0) (aC 0) (aU 0) (aV 0) (aW 0) (aH 0) (aO 0), sB), (cp_C aC (aT 0) (aS 0), sC), (cp_S aS (aT 0), sS), (cp_T aT, sT), (cp_C aW (aU 0) (aV 0), sW), (cp_S aV (aU 0), sV), (cp_T aU, sU), (cp_H aH (fun j => hT j 0), sH), (cp_T (hT 0), sH0), (cp_T (hT 1), sH1), (cp_T (hT 2), sH2), (cp_T (hT 3), sH3), (cp_O aO, sO)]) := hD
            refine lv_iload hx hb dL_isAhead_319 (lv_at hl 4 rfl) ?_
            refine jx_iconst C dL_isAhead_321 ?_
            refine jx_isub C dL_isAhead_322 ?_
            refine jx_cge C h.1 h.2.1 (tgt := 341) dL_isAhead_323 (by decide) (fun hc => ?_) (fun hc => ?_)
            · have h := h.2.2.2 hc
              exact J341 l18 h _ _ hP hD hS ls (lv_sub hl [0, 1, 2, 3, 4, 6] rfl)
            · have h := h.2.2.1 hc
              refine lv_aload_n hx hb dL_isAhead_326 rfl (lv_at hl 0 rfl) ?_
              refine lv_iload hx hb dL_isAhead_327 (lv_at hl 6 rfl) ?_
              refine jx_iconst C dL_isAhead_329 ?_
              refine jx_callVI C hK hP hD hS hA (ct_B_court l D cI cT aB aC aS aT aW aV aU aH hT aO _ sB sC l18 1 h) ms_X7_court lk_L_48 [0, 1] rfl rfl (fun _ => rfl) (cs' := (fun _ => [(cp_B aB (aT 0) (aS 0) (aC 0) (aU 0) (aV 0) (aW 0) (aH 0) (aO 0), sB), (cp_C aC (aT 0) (aS 0), sC), (cp_S aS (aT 0), sS), (cp_T aT, sT), (cp_C aW (aU 0) (aV 0), sW), (cp_S aV (aU 0), sV), (cp_T aU, sU), (cp_H aH (fun j => hT j 0), sH), (cp_T (hT 0), sH0), (cp_T (hT 1), sH1), (cp_T (hT 2), sH2), (cp_T (hT 3), sH3), (cp_O aO, sO)])) (fun _ => rfl) (fun _ => rfl) 0 0 rfl rfl rfl rfl rfl hl.1 rfl rfl dL_isAhead_330 ⟨Nat.le_refl _, Nat.le_refl _⟩ (fun r330 _ H locs h hP hD hS => ?_)
              have hP : va_P D vwCl (jx_ws cI cT [(cp_B aB (aT 0) (aS 0) (aC 0) (aU 0) (aV 0) (aW 0) (aH 0) (aO 0), sB), (cp_C aC (aT 0) (aS 0), sC), (cp_S aS (aT 0), sS), (cp_T aT, sT), (cp_C aW (aU 0) (aV 0), sW), (cp_S aV (aU 0), sV), (cp_T aU, sU), (cp_H aH (fun j => hT j 0), sH), (cp_T (hT 0), sH0), (cp_T (hT 1), sH1), (cp_T (hT 2), sH2), (cp_T (hT 3), sH3), (cp_O aO, sO)]) H := hP
              have hD : va_D A (jx_ws cI cT [(cp_B aB (aT 0) (aS 0) (aC 0) (aU 0) (aV 0) (aW 0) (aH 0) (aO 0), sB), (cp_C aC (aT 0) (aS 0), sC), (cp_S aS (aT 0), sS), (cp_T aT, sT), (cp_C aW (aU 0) (aV 0), sW), (cp_S aV (aU 0), sV), (cp_T aU, sU), (cp_H aH (fun j => hT j 0), sH), (cp_T (hT 0), sH0), (cp_T (hT 1), sH1), (cp_T (hT 2), sH2), (cp_T (hT 3), sH3), (cp_O aO, sO)]) := hD
              refine jx_iconst C dL_isAhead_333 ?_
              refine jx_clt C h.1 (jx_inR (by decide) (by decide)) (tgt := 341) dL_isAhead_334 (by decide) (fun hc => ?_) (fun hc => ?_)
              · have h := h.2.1 hc
                exact J341 l18 h _ _ hP hD hS ls (lv_sub hl [0, 1, 2, 3, 4, 6] rfl)
              · have h := h.2.2 hc
                refine jx_iconst C dL_isAhead_337 ?_
                refine lv_goto (tgt := 342) hx hb dL_isAhead_338 (by decide) ?_
                exact J342 l18 1 h _ _ hP hD hS ls (lv_sub hl [0, 1, 2, 3, 4, 6] rfl)
  have J395 : ∀ (sC : jx_St) (sS : jx_St) (sT : jx_St) (sW : jx_St) (sV : jx_St) (sU : jx_St) (sH : jx_St) (sH0 : jx_St) (sH1 : jx_St) (sH2 : jx_St) (sH3 : jx_St) (L5 : Int64) (l9 : Int) (l17 : Int), wp_L_isAhead_395 Q sB sO l1 l2 l3 l4 sC sS sT sW sV sU sH sH0 sH1 sH2 sH3 L5 l9 l17 → ∀ (H : Heap) (locs : List Loc), va_P D vwCl (jx_ws cI cT [(cp_B aB (aT 0) (aS 0) (aC 0) (aU 0) (aV 0) (aW 0) (aH 0) (aO 0), sB), (cp_C aC (aT 0) (aS 0), sC), (cp_S aS (aT 0), sS), (cp_T aT, sT), (cp_C aW (aU 0) (aV 0), sW), (cp_S aV (aU 0), sV), (cp_T aU, sU), (cp_H aH (fun j => hT j 0), sH), (cp_T (hT 0), sH0), (cp_T (hT 1), sH1), (cp_T (hT 2), sH2), (cp_T (hT 3), sH3), (cp_O aO, sO)]) H → va_D A (jx_ws cI cT [(cp_B aB (aT 0) (aS 0) (aC 0) (aU 0) (aV 0) (aW 0) (aH 0) (aO 0), sB), (cp_C aC (aT 0) (aS 0), sC), (cp_S aS (aT 0), sS), (cp_T aT, sT), (cp_C aW (aU 0) (aV 0), sW), (cp_S aV (aU 0), sV), (cp_T aU, sU), (cp_H aH (fun j => hT j 0), sH), (cp_T (hT 0), sH0), (cp_T (hT 1), sH1), (cp_T (hT 2), sH2), (cp_T (hT 3), sH3), (cp_O aO, sO)]) → va_S A s.heap H locs → ∀ ls : Array Slot, lv_has ls 23 [(0, .ref (aB 0)), (5, .long L5), (9, .int (jx_i l9)), (17, .int (jx_i l17))] → W p l e (jx_rm 8 202) s m args below meth c H locs 0 0 QQ (F0 m 395 ls []) := by
    intro sC sS sT sW sV sU sH sH0 sH1 sH2 sH3 L5 l9 l17 h H locs hP hD hS ls hl
    unfold wp_L_isAhead_395 at h
    refine lv_aload_n hx hb dL_isAhead_395 rfl (lv_at hl 0 rfl) ?_
    refine lv_iload hx hb dL_isAhead_396 (lv_at hl 2 rfl) ?_
    refine jx_iconst C dL_isAhead_398 ?_
    refine jx_callVI C hK hP hD hS hA (ct_B_wouldTake l D cI cT aB aC aS aT aW aV aU aH hT aO _ sB sT sW sV sU l9 0 h) ms_X7_wouldTake lk_L_61 [0, 3, 4, 5, 6] rfl rfl (fun _ => rfl) (cs' := (fun u => [(cp_B aB (aT 0) (aS 0) (aC 0) (aU 0) (aV 0) (aW 0) (aH 0) (aO 0), sB), (cp_C aC (aT 0) (aS 0), sC), (cp_S aS (aT 0), sS), (cp_T aT, sT), (cp_C aW (aU 0) (aV 0), u.1), (cp_S aV (aU 0), u.2.1), (cp_T aU, u.2.2), (cp_H aH (fun j => hT j 0), sH), (cp_T (hT 0), sH0), (cp_T (hT 1), sH1), (cp_T (hT 2), sH2), (cp_T (hT 3), sH3), (cp_O aO, sO)])) (fun _ => rfl) (fun _ => rfl) 0 0 rfl rfl rfl rfl rfl hl.1 rfl rfl dL_isAhead_399 ⟨Nat.le_refl _, Nat.le_refl _⟩ (fun r399 u H locs h hP hD hS => ?_)
    obtain ⟨sW_399, sV_399, sU_399⟩ := u
    dsimp only at h
    have hP : va_P D vwCl (jx_ws cI cT [(cp_B aB (aT 0) (aS 0) (aC 0) (aU 0) (aV 0) (aW 0) (aH 0) (aO 0), sB), (cp_C aC (aT 0) (aS 0), sC), (cp_S aS (aT 0), sS), (cp_T aT, sT), (cp_C aW (aU 0) (aV 0), sW_399), (cp_S aV (aU 0), sV_399), (cp_T aU, sU_399), (cp_H aH (fun j => hT j 0), sH), (cp_T (hT 0), sH0), (cp_T (hT 1), sH1), (cp_T (hT 2), sH2), (cp_T (hT 3), sH3), (cp_O aO, sO)]) H := hP
    have hD : va_D A (jx_ws cI cT [(cp_B aB (aT 0) (aS 0) (aC 0) (aU 0) (aV 0) (aW 0) (aH 0) (aO 0), sB), (cp_C aC (aT 0) (aS 0), sC), (cp_S aS (aT 0), sS), (cp_T aT, sT), (cp_C aW (aU 0) (aV 0), sW_399), (cp_S aV (aU 0), sV_399), (cp_T aU, sU_399), (cp_H aH (fun j => hT j 0), sH), (cp_T (hT 0), sH0), (cp_T (hT 1), sH1), (cp_T (hT 2), sH2), (cp_T (hT 3), sH3), (cp_O aO, sO)]) := hD
    refine lv_istore (lv' := [(18, .int (jx_i r399)), (0, .ref (aB 0)), (5, .long L5), (9, .int (jx_i l9)), (17, .int (jx_i l17))]) hx hb dL_isAhead_402 hl (by decide) rfl (fun ls hl => ?_)
    refine lv_aload_n hx hb dL_isAhead_404 rfl (lv_at hl 1 rfl) ?_
    refine lv_iload hx hb dL_isAhead_405 (lv_at hl 3 rfl) ?_
    refine jx_iconst C dL_isAhead_407 ?_
    refine jx_callVI C hK hP hD hS hA (ct_B_wouldTake l D cI cT aB aC aS aT aW aV aU aH hT aO _ sB sT sW_399 sV_399 sU_399 l9 2 h) ms_X7_wouldTake lk_L_61 [0, 3, 4, 5, 6] rfl rfl (fun _ => rfl) (cs' := (fun u => [(cp_B aB (aT 0) (aS 0) (aC 0) (aU 0) (aV 0) (aW 0) (aH 0) (aO 0), sB), (cp_C aC (aT 0) (aS 0), sC), (cp_S aS (aT 0), sS), (cp_T aT, sT), (cp_C aW (aU 0) (aV 0), u.1), (cp_S aV (aU 0), u.2.1), (cp_T aU, u.2.2), (cp_H aH (fun j => hT j 0), sH), (cp_T (hT 0), sH0), (cp_T (hT 1), sH1), (cp_T (hT 2), sH2), (cp_T (hT 3), sH3), (cp_O aO, sO)])) (fun _ => rfl) (fun _ => rfl) 0 0 rfl rfl rfl rfl rfl hl.1 rfl rfl dL_isAhead_408 ⟨Nat.le_refl _, Nat.le_refl _⟩ (fun r408 u H locs h hP hD hS => ?_)
    obtain ⟨sW_408, sV_408, sU_408⟩ := u
    dsimp only at h
    have hP : va_P D vwCl (jx_ws cI cT [(cp_B aB (aT 0) (aS 0) (aC 0) (aU 0) (aV 0) (aW 0) (aH 0) (aO 0), sB), (cp_C aC (aT 0) (aS 0), sC), (cp_S aS (aT 0), sS), (cp_T aT, sT), (cp_C aW (aU 0) (aV 0), sW_408), (cp_S aV (aU 0), sV_408), (cp_T aU, sU_408), (cp_H aH (fun j => hT j 0), sH), (cp_T (hT 0), sH0), (cp_T (hT 1), sH1), (cp_T (hT 2), sH2), (cp_T (hT 3), sH3), (cp_O aO, sO)]) H := hP
    have hD : va_D A (jx_ws cI cT [(cp_B aB (aT 0) (aS 0) (aC 0) (aU 0) (aV 0) (aW 0) (aH 0) (aO 0), sB), (cp_C aC (aT 0) (aS 0), sC), (cp_S aS (aT 0), sS), (cp_T aT, sT), (cp_C aW (aU 0) (aV 0), sW_408), (cp_S aV (aU 0), sV_408), (cp_T aU, sU_408), (cp_H aH (fun j => hT j 0), sH), (cp_T (hT 0), sH0), (cp_T (hT 1), sH1), (cp_T (hT 2), sH2), (cp_T (hT 3), sH3), (cp_O aO, sO)]) := hD
    refine lv_istore (lv' := [(19, .int (jx_i r408)), (18, .int (jx_i r399)), (0, .ref (aB 0)), (5, .long L5), (9, .int (jx_i l9)), (17, .int (jx_i l17))]) hx hb dL_isAhead_411 hl (by decide) rfl (fun ls hl => ?_)
    refine lv_aload_n hx hb dL_isAhead_413 rfl (lv_at hl 2 rfl) ?_
    refine lv_iload hx hb dL_isAhead_414 (lv_at hl 4 rfl) ?_
    refine jx_iconst C dL_isAhead_416 ?_
    refine jx_callVI C hK hP hD hS hA (ct_B_wouldTake l D cI cT aB aC aS aT aW aV aU aH hT aO _ sB sT sW_408 sV_408 sU_408 l9 3 h) ms_X7_wouldTake lk_L_61 [0, 3, 4, 5, 6] rfl rfl (fun _ => rfl) (cs' := (fun u => [(cp_B aB (aT 0) (aS 0) (aC 0) (aU 0) (aV 0) (aW 0) (aH 0) (aO 0), sB), (cp_C aC (aT 0) (aS 0), sC), (cp_S aS (aT 0), sS), (cp_T aT, sT), (cp_C aW (aU 0) (aV 0), u.1), (cp_S aV (aU 0), u.2.1), (cp_T aU, u.2.2), (cp_H aH (fun j => hT j 0), sH), (cp_T (hT 0), sH0), (cp_T (hT 1), sH1), (cp_T (hT 2), sH2), (cp_T (hT 3), sH3), (cp_O aO, sO)])) (fun _ => rfl) (fun _ => rfl) 0 0 rfl rfl rfl rfl rfl hl.1 rfl rfl dL_isAhead_417 ⟨Nat.le_refl _, Nat.le_refl _⟩ (fun r417 u H locs h hP hD hS => ?_)
    obtain ⟨sW_417, sV_417, sU_417⟩ := u
    dsimp only at h
    have hP : va_P D vwCl (jx_ws cI cT [(cp_B aB (aT 0) (aS 0) (aC 0) (aU 0) (aV 0) (aW 0) (aH 0) (aO 0), sB), (cp_C aC (aT 0) (aS 0), sC), (cp_S aS (aT 0), sS), (cp_T aT, sT), (cp_C aW (aU 0) (aV 0), sW_417), (cp_S aV (aU 0), sV_417), (cp_T aU, sU_417), (cp_H aH (fun j => hT j 0), sH), (cp_T (hT 0), sH0), (cp_T (hT 1), sH1), (cp_T (hT 2), sH2), (cp_T (hT 3), sH3), (cp_O aO, sO)]) H := hP
    have hD : va_D A (jx_ws cI cT [(cp_B aB (aT 0) (aS 0) (aC 0) (aU 0) (aV 0) (aW 0) (aH 0) (aO 0), sB), (cp_C aC (aT 0) (aS 0), sC), (cp_S aS (aT 0), sS), (cp_T aT, sT), (cp_C aW (aU 0) (aV 0), sW_417), (cp_S aV (aU 0), sV_417), (cp_T aU, sU_417), (cp_H aH (fun j => hT j 0), sH), (cp_T (hT 0), sH0), (cp_T (hT 1), sH1), (cp_T (hT 2), sH2), (cp_T (hT 3), sH3), (cp_O aO, sO)]) := hD
    refine lv_istore (lv' := [(20, .int (jx_i r417)), (19, .int (jx_i r408)), (18, .int (jx_i r399)), (0, .ref (aB 0)), (5, .long L5), (9, .int (jx_i l9)), (17, .int (jx_i l17))]) hx hb dL_isAhead_420 hl (by decide) rfl (fun ls hl => ?_)
    refine lv_aload_n hx hb dL_isAhead_422 rfl (lv_at hl 3 rfl) ?_
    refine lv_iload hx hb dL_isAhead_423 (lv_at hl 5 rfl) ?_
    refine jx_iconst C dL_isAhead_425 ?_
    refine jx_callVI C hK hP hD hS hA (ct_B_wouldTake l D cI cT aB aC aS aT aW aV aU aH hT aO _ sB sT sW_417 sV_417 sU_417 l9 1 h) ms_X7_wouldTake lk_L_61 [0, 3, 4, 5, 6] rfl rfl (fun _ => rfl) (cs' := (fun u => [(cp_B aB (aT 0) (aS 0) (aC 0) (aU 0) (aV 0) (aW 0) (aH 0) (aO 0), sB), (cp_C aC (aT 0) (aS 0), sC), (cp_S aS (aT 0), sS), (cp_T aT, sT), (cp_C aW (aU 0) (aV 0), u.1), (cp_S aV (aU 0), u.2.1), (cp_T aU, u.2.2), (cp_H aH (fun j => hT j 0), sH), (cp_T (hT 0), sH0), (cp_T (hT 1), sH1), (cp_T (hT 2), sH2), (cp_T (hT 3), sH3), (cp_O aO, sO)])) (fun _ => rfl) (fun _ => rfl) 0 0 rfl rfl rfl rfl rfl hl.1 rfl rfl dL_isAhead_426 ⟨Nat.le_refl _, Nat.le_refl _⟩ (fun r426 u H locs h hP hD hS => ?_)
    obtain ⟨sW_426, sV_426, sU_426⟩ := u
    dsimp only at h
    have hP : va_P D vwCl (jx_ws cI cT [(cp_B aB (aT 0) (aS 0) (aC 0) (aU 0) (aV 0) (aW 0) (aH 0) (aO 0), sB), (cp_C aC (aT 0) (aS 0), sC), (cp_S aS (aT 0), sS), (cp_T aT, sT), (cp_C aW (aU 0) (aV 0), sW_426), (cp_S aV (aU 0), sV_426), (cp_T aU, sU_426), (cp_H aH (fun j => hT j 0), sH), (cp_T (hT 0), sH0), (cp_T (hT 1), sH1), (cp_T (hT 2), sH2), (cp_T (hT 3), sH3), (cp_O aO, sO)]) H := hP
    have hD : va_D A (jx_ws cI cT [(cp_B aB (aT 0) (aS 0) (aC 0) (aU 0) (aV 0) (aW 0) (aH 0) (aO 0), sB), (cp_C aC (aT 0) (aS 0), sC), (cp_S aS (aT 0), sS), (cp_T aT, sT), (cp_C aW (aU 0) (aV 0), sW_426), (cp_S aV (aU 0), sV_426), (cp_T aU, sU_426), (cp_H aH (fun j => hT j 0), sH), (cp_T (hT 0), sH0), (cp_T (hT 1), sH1), (cp_T (hT 2), sH2), (cp_T (hT 3), sH3), (cp_O aO, sO)]) := hD
    refine lv_istore (lv' := [(21, .int (jx_i r426)), (20, .int (jx_i r417)), (19, .int (jx_i r408)), (18, .int (jx_i r399)), (0, .ref (aB 0)), (5, .long L5), (9, .int (jx_i l9)), (17, .int (jx_i l17))]) hx hb dL_isAhead_429 hl (by decide) rfl (fun ls hl => ?_)
    refine lv_aload_n hx hb dL_isAhead_431 rfl (lv_at hl 4 rfl) ?_
    refine jx_bipush C dL_isAhead_432 (by decide) ?_
    refine jx_callVI C hK hP hD hS hA (ct_B_count l D cI cT aB aC aS aT aW aV aU aH hT aO _ sB sC sS sT sH sO 7 h) ms_X7_count lk_L_13 [0, 1, 2, 3, 7, 12] rfl rfl (fun _ => rfl) (cs' := (fun u => [(cp_B aB (aT 0) (aS 0) (aC 0) (aU 0) (aV 0) (aW 0) (aH 0) (aO 0), sB), (cp_C aC (aT 0) (aS 0), sC), (cp_S aS (aT 0), u), (cp_T aT, sT), (cp_C aW (aU 0) (aV 0), sW_426), (cp_S aV (aU 0), sV_426), (cp_T aU, sU_426), (cp_H aH (fun j => hT j 0), sH), (cp_T (hT 0), sH0), (cp_T (hT 1), sH1), (cp_T (hT 2), sH2), (cp_T (hT 3), sH3), (cp_O aO, sO)])) (fun _ => rfl) (fun _ => rfl) 0 0 rfl rfl rfl rfl rfl hl.1 rfl rfl dL_isAhead_434 ⟨Nat.le_refl _, Nat.le_refl _⟩ (fun r434 sS_434 H locs h hP hD hS => ?_)
    have hP : va_P D vwCl (jx_ws cI cT [(cp_B aB (aT 0) (aS 0) (aC 0) (aU 0) (aV 0) (aW 0) (aH 0) (aO 0), sB), (cp_C aC (aT 0) (aS 0), sC), (cp_S aS (aT 0), sS_434), (cp_T aT, sT), (cp_C aW (aU 0) (aV 0), sW_426), (cp_S aV (aU 0), sV_426), (cp_T aU, sU_426), (cp_H aH (fun j => hT j 0), sH), (cp_T (hT 0), sH0), (cp_T (hT 1), sH1), (cp_T (hT 2), sH2), (cp_T (hT 3), sH3), (cp_O aO, sO)]) H := hP
    have hD : va_D A (jx_ws cI cT [(cp_B aB (aT 0) (aS 0) (aC 0) (aU 0) (aV 0) (aW 0) (aH 0) (aO 0), sB), (cp_C aC (aT 0) (aS 0), sC), (cp_S aS (aT 0), sS_434), (cp_T aT, sT), (cp_C aW (aU 0) (aV 0), sW_426), (cp_S aV (aU 0), sV_426), (cp_T aU, sU_426), (cp_H aH (fun j => hT j 0), sH), (cp_T (hT 0), sH0), (cp_T (hT 1), sH1), (cp_T (hT 2), sH2), (cp_T (hT 3), sH3), (cp_O aO, sO)]) := hD
    refine lv_istore (lv' := [(22, .int (jx_i r434)), (21, .int (jx_i r426)), (20, .int (jx_i r417)), (19, .int (jx_i r408)), (18, .int (jx_i r399)), (0, .ref (aB 0)), (5, .long L5), (9, .int (jx_i l9)), (17, .int (jx_i l17))]) hx hb dL_isAhead_437 hl (by decide) rfl (fun ls hl => ?_)
    refine lv_iload hx hb dL_isAhead_439 (lv_at hl 8 rfl) ?_
    refine jx_zeq C h.1 (tgt := 534) dL_isAhead_441 (by decide) (fun hc => ?_) (fun hc => ?_)
    · have h := h.2.1 hc
      refine jx_iconst C dL_isAhead_534 ?_
      exact jx_rZ C hr hlk hAe hS hQQ (by decide) (sC, sS_434, sT, sW_426, sV_426, sU_426, sH, sH0, sH1, sH2, sH3) hP h dL_isAhead_535
    · have h := h.2.2 hc
      refine lv_aload_n hx hb dL_isAhead_444 rfl (lv_at hl 5 rfl) ?_
      refine lv_iload hx hb dL_isAhead_445 (lv_at hl 7 rfl) ?_
      refine jx_callVI C hK hP hD hS hA (ct_B_take l D cI cT aB aC aS aT aW aV aU aH hT aO _ sB sC sS_434 sT sH sH0 sH1 sH2 sH3 l9 h) ms_X7_take lk_L_41 [0, 1, 2, 3, 7, 8, 9, 10, 11] rfl rfl (fun _ => rfl) (cs' := (fun u => [(cp_B aB (aT 0) (aS 0) (aC 0) (aU 0) (aV 0) (aW 0) (aH 0) (aO 0), sB), (cp_C aC (aT 0) (aS 0), u.1), (cp_S aS (aT 0), u.2.1), (cp_T aT, u.2.2.1), (cp_C aW (aU 0) (aV 0), sW_426), (cp_S aV (aU 0), sV_426), (cp_T aU, sU_426), (cp_H aH (fun j => hT j 0), u.2.2.2.1), (cp_T (hT 0), u.2.2.2.2.1), (cp_T (hT 1), u.2.2.2.2.2.1), (cp_T (hT 2), u.2.2.2.2.2.2.1), (cp_T (hT 3), u.2.2.2.2.2.2.2), (cp_O aO, sO)])) (fun _ => rfl) (fun _ => rfl) 0 0 rfl rfl rfl rfl rfl hl.1 rfl rfl dL_isAhead_447 ⟨Nat.le_refl _, Nat.le_refl _⟩ (fun r447 u H locs h hP hD hS => ?_)
      obtain ⟨sC_447, sS_447, sT_447, sH_447, sH0_447, sH1_447, sH2_447, sH3_447⟩ := u
      dsimp only at h
      have hP : va_P D vwCl (jx_ws cI cT [(cp_B aB (aT 0) (aS 0) (aC 0) (aU 0) (aV 0) (aW 0) (aH 0) (aO 0), sB), (cp_C aC (aT 0) (aS 0), sC_447), (cp_S aS (aT 0), sS_447), (cp_T aT, sT_447), (cp_C aW (aU 0) (aV 0), sW_426), (cp_S aV (aU 0), sV_426), (cp_T aU, sU_426), (cp_H aH (fun j => hT j 0), sH_447), (cp_T (hT 0), sH0_447), (cp_T (hT 1), sH1_447), (cp_T (hT 2), sH2_447), (cp_T (hT 3), sH3_447), (cp_O aO, sO)]) H := hP
      have hD : va_D A (jx_ws cI cT [(cp_B aB (aT 0) (aS 0) (aC 0) (aU 0) (aV 0) (aW 0) (aH 0) (aO 0), sB), (cp_C aC (aT 0) (aS 0), sC_447), (cp_S aS (aT 0), sS_447), (cp_T aT, sT_447), (cp_C aW (aU 0) (aV 0), sW_426), (cp_S aV (aU 0), sV_426), (cp_T aU, sU_426), (cp_H aH (fun j => hT j 0), sH_447), (cp_T (hT 0), sH0_447), (cp_T (hT 1), sH1_447), (cp_T (hT 2), sH2_447), (cp_T (hT 3), sH3_447), (cp_O aO, sO)]) := hD
      refine lv_iload hx hb dL_isAhead_450 (lv_at hl 3 rfl) ?_
      refine jx_ene C h.1 (tgt := 534) dL_isAhead_452 (by decide) (fun hc => ?_) (fun hc => ?_)
      · have h := h.2.2 hc
        refine jx_iconst C dL_isAhead_534 ?_
        exact jx_rZ C hr hlk hAe hS hQQ (by decide) (sC_447, sS_447, sT_447, sW_426, sV_426, sU_426, sH_447, sH0_447, sH1_447, sH2_447, sH3_447) hP h dL_isAhead_535
      · have h := h.2.1 hc
        refine lv_aload_n hx hb dL_isAhead_455 rfl (lv_at hl 5 rfl) ?_
        refine jx_bipush C dL_isAhead_456 (by decide) ?_
        refine jx_callVI C hK hP hD hS hA (ct_B_count l D cI cT aB aC aS aT aW aV aU aH hT aO _ sB sC_447 sS_447 sT_447 sH_447 sO 7 h) ms_X7_count lk_L_13 [0, 1, 2, 3, 7, 12] rfl rfl (fun _ => rfl) (cs' := (fun u => [(cp_B aB (aT 0) (aS 0) (aC 0) (aU 0) (aV 0) (aW 0) (aH 0) (aO 0), sB), (cp_C aC (aT 0) (aS 0), sC_447), (cp_S aS (aT 0), u), (cp_T aT, sT_447), (cp_C aW (aU 0) (aV 0), sW_426), (cp_S aV (aU 0), sV_426), (cp_T aU, sU_426), (cp_H aH (fun j => hT j 0), sH_447), (cp_T (hT 0), sH0_447), (cp_T (hT 1), sH1_447), (cp_T (hT 2), sH2_447), (cp_T (hT 3), sH3_447), (cp_O aO, sO)])) (fun _ => rfl) (fun _ => rfl) 0 0 rfl rfl rfl rfl rfl hl.1 rfl rfl dL_isAhead_458 ⟨Nat.le_refl _, Nat.le_refl _⟩ (fun r458 sS_458 H locs h hP hD hS => ?_)
        have hP : va_P D vwCl (jx_ws cI cT [(cp_B aB (aT 0) (aS 0) (aC 0) (aU 0) (aV 0) (aW 0) (aH 0) (aO 0), sB), (cp_C aC (aT 0) (aS 0), sC_447), (cp_S aS (aT 0), sS_458), (cp_T aT, sT_447), (cp_C aW (aU 0) (aV 0), sW_426), (cp_S aV (aU 0), sV_426), (cp_T aU, sU_426), (cp_H aH (fun j => hT j 0), sH_447), (cp_T (hT 0), sH0_447), (cp_T (hT 1), sH1_447), (cp_T (hT 2), sH2_447), (cp_T (hT 3), sH3_447), (cp_O aO, sO)]) H := hP
        have hD : va_D A (jx_ws cI cT [(cp_B aB (aT 0) (aS 0) (aC 0) (aU 0) (aV 0) (aW 0) (aH 0) (aO 0), sB), (cp_C aC (aT 0) (aS 0), sC_447), (cp_S aS (aT 0), sS_458), (cp_T aT, sT_447), (cp_C aW (aU 0) (aV 0), sW_426), (cp_S aV (aU 0), sV_426), (cp_T aU, sU_426), (cp_H aH (fun j => hT j 0), sH_447), (cp_T (hT 0), sH0_447), (cp_T (hT 1), sH1_447), (cp_T (hT 2), sH2_447), (cp_T (hT 3), sH3_447), (cp_O aO, sO)]) := hD
        refine lv_iload hx hb dL_isAhead_461 (lv_at hl 0 rfl) ?_
        refine lv_iload hx hb dL_isAhead_463 (lv_at hl 4 rfl) ?_
        refine jx_iadd C dL_isAhead_465 ?_
        refine jx_ene C h.1 (tgt := 534) dL_isAhead_466 (by decide) (fun hc => ?_) (fun hc => ?_)
        · have h := h.2.2 hc
          refine jx_iconst C dL_isAhead_534 ?_
          exact jx_rZ C hr hlk hAe hS hQQ (by decide) (sC_447, sS_458, sT_447, sW_426, sV_426, sU_426, sH_447, sH0_447, sH1_447, sH2_447, sH3_447) hP h dL_isAhead_535
        · have h := h.2.1 hc
          refine lv_aload_n hx hb dL_isAhead_469 rfl (lv_at hl 5 rfl) ?_
          refine jx_iconst C dL_isAhead_470 ?_
          refine jx_callVI C hK hP hD hS hA (ct_B_count l D cI cT aB aC aS aT aW aV aU aH hT aO _ sB sC_447 sS_458 sT_447 sH_447 sO 4 h) ms_X7_count lk_L_13 [0, 1, 2, 3, 7, 12] rfl rfl (fun _ => rfl) (cs' := (fun u => [(cp_B aB (aT 0) (aS 0) (aC 0) (aU 0) (aV 0) (aW 0) (aH 0) (aO 0), sB), (cp_C aC (aT 0) (aS 0), sC_447), (cp_S aS (aT 0), u), (cp_T aT, sT_447), (cp_C aW (aU 0) (aV 0), sW_426), (cp_S aV (aU 0), sV_426), (cp_T aU, sU_426), (cp_H aH (fun j => hT j 0), sH_447), (cp_T (hT 0), sH0_447), (cp_T (hT 1), sH1_447), (cp_T (hT 2), sH2_447), (cp_T (hT 3), sH3_447), (cp_O aO, sO)])) (fun _ => rfl) (fun _ => rfl) 0 0 rfl rfl rfl rfl rfl hl.1 rfl rfl dL_isAhead_471 ⟨Nat.le_refl _, Nat.le_refl _⟩ (fun r471 sS_471 H locs h hP hD hS => ?_)
          have hP : va_P D vwCl (jx_ws cI cT [(cp_B aB (aT 0) (aS 0) (aC 0) (aU 0) (aV 0) (aW 0) (aH 0) (aO 0), sB), (cp_C aC (aT 0) (aS 0), sC_447), (cp_S aS (aT 0), sS_471), (cp_T aT, sT_447), (cp_C aW (aU 0) (aV 0), sW_426), (cp_S aV (aU 0), sV_426), (cp_T aU, sU_426), (cp_H aH (fun j => hT j 0), sH_447), (cp_T (hT 0), sH0_447), (cp_T (hT 1), sH1_447), (cp_T (hT 2), sH2_447), (cp_T (hT 3), sH3_447), (cp_O aO, sO)]) H := hP
          have hD : va_D A (jx_ws cI cT [(cp_B aB (aT 0) (aS 0) (aC 0) (aU 0) (aV 0) (aW 0) (aH 0) (aO 0), sB), (cp_C aC (aT 0) (aS 0), sC_447), (cp_S aS (aT 0), sS_471), (cp_T aT, sT_447), (cp_C aW (aU 0) (aV 0), sW_426), (cp_S aV (aU 0), sV_426), (cp_T aU, sU_426), (cp_H aH (fun j => hT j 0), sH_447), (cp_T (hT 0), sH0_447), (cp_T (hT 1), sH1_447), (cp_T (hT 2), sH2_447), (cp_T (hT 3), sH3_447), (cp_O aO, sO)]) := hD
          refine lv_iload hx hb dL_isAhead_474 (lv_at hl 1 rfl) ?_
          refine jx_ene C h.1 (tgt := 534) dL_isAhead_476 (by decide) (fun hc => ?_) (fun hc => ?_)
          · have h := h.2.2 hc
            refine jx_iconst C dL_isAhead_534 ?_
            exact jx_rZ C hr hlk hAe hS hQQ (by decide) (sC_447, sS_471, sT_447, sW_426, sV_426, sU_426, sH_447, sH0_447, sH1_447, sH2_447, sH3_447) hP h dL_isAhead_535
          · have h := h.2.1 hc
            refine lv_aload_n hx hb dL_isAhead_479 rfl (lv_at hl 5 rfl) ?_
            refine jx_iconst C dL_isAhead_480 ?_
            refine jx_callVI C hK hP hD hS hA (ct_B_overlaps l D cI cT aB aC aS aT aW aV aU aH hT aO _ sB sS_471 sT_447 0 h) ms_X7_overlaps lk_L_27 [0, 2, 3] rfl rfl (fun _ => rfl) (cs' := (fun u => [(cp_B aB (aT 0) (aS 0) (aC 0) (aU 0) (aV 0) (aW 0) (aH 0) (aO 0), sB), (cp_C aC (aT 0) (aS 0), sC_447), (cp_S aS (aT 0), u), (cp_T aT, sT_447), (cp_C aW (aU 0) (aV 0), sW_426), (cp_S aV (aU 0), sV_426), (cp_T aU, sU_426), (cp_H aH (fun j => hT j 0), sH_447), (cp_T (hT 0), sH0_447), (cp_T (hT 1), sH1_447), (cp_T (hT 2), sH2_447), (cp_T (hT 3), sH3_447), (cp_O aO, sO)])) (fun _ => rfl) (fun _ => rfl) 0 0 rfl rfl rfl rfl rfl hl.1 rfl rfl dL_isAhead_481 ⟨Nat.le_refl _, Nat.le_refl _⟩ (fun r481 sS_481 H locs h hP hD hS => ?_)
            have hP : va_P D vwCl (jx_ws cI cT [(cp_B aB (aT 0) (aS 0) (aC 0) (aU 0) (aV 0) (aW 0) (aH 0) (aO 0), sB), (cp_C aC (aT 0) (aS 0), sC_447), (cp_S aS (aT 0), sS_481), (cp_T aT, sT_447), (cp_C aW (aU 0) (aV 0), sW_426), (cp_S aV (aU 0), sV_426), (cp_T aU, sU_426), (cp_H aH (fun j => hT j 0), sH_447), (cp_T (hT 0), sH0_447), (cp_T (hT 1), sH1_447), (cp_T (hT 2), sH2_447), (cp_T (hT 3), sH3_447), (cp_O aO, sO)]) H := hP
            have hD : va_D A (jx_ws cI cT [(cp_B aB (aT 0) (aS 0) (aC 0) (aU 0) (aV 0) (aW 0) (aH 0) (aO 0), sB), (cp_C aC (aT 0) (aS 0), sC_447), (cp_S aS (aT 0), sS_481), (cp_T aT, sT_447), (cp_C aW (aU 0) (aV 0), sW_426), (cp_S aV (aU 0), sV_426), (cp_T aU, sU_426), (cp_H aH (fun j => hT j 0), sH_447), (cp_T (hT 0), sH0_447), (cp_T (hT 1), sH1_447), (cp_T (hT 2), sH2_447), (cp_T (hT 3), sH3_447), (cp_O aO, sO)]) := hD
            refine lv_iload hx hb dL_isAhead_484 (lv_at hl 2 rfl) ?_
            refine jx_ene C h.1 (tgt := 534) dL_isAhead_486 (by decide) (fun hc => ?_) (fun hc => ?_)
            · have h := h.2.2 hc
              refine jx_iconst C dL_isAhead_534 ?_
              exact jx_rZ C hr hlk hAe hS hQQ (by decide) (sC_447, sS_481, sT_447, sW_426, sV_426, sU_426, sH_447, sH0_447, sH1_447, sH2_447, sH3_447) hP h dL_isAhead_535
            · have h := h.2.1 hc
              refine lv_aload_n hx hb dL_isAhead_489 rfl (lv_at hl 5 rfl) ?_
              refine jx_callSI C hK hP hD hS hA (ct_L_isTree l D cI cT aB aC aS aT aW aV aU aH hT aO _ sB sC_447 sS_481 sT_447 sH_447 sO  h) ms_L_isTree lk_L_77 [0, 1, 2, 3, 7, 12] rfl rfl (fun _ => rfl) (cs' := (fun u => [(cp_B aB (aT 0) (aS 0) (aC 0) (aU 0) (aV 0) (aW 0) (aH 0) (aO 0), sB), (cp_C aC (aT 0) (aS 0), sC_447), (cp_S aS (aT 0), u), (cp_T aT, sT_447), (cp_C aW (aU 0) (aV 0), sW_426), (cp_S aV (aU 0), sV_426), (cp_T aU, sU_426), (cp_H aH (fun j => hT j 0), sH_447), (cp_T (hT 0), sH0_447), (cp_T (hT 1), sH1_447), (cp_T (hT 2), sH2_447), (cp_T (hT 3), sH3_447), (cp_O aO, sO)])) (fun _ => rfl) (fun _ => rfl) rfl rfl hl.1 rfl rfl dL_isAhead_490 ⟨Nat.le_refl _, Nat.le_refl _⟩ (fun r490 sS_490 H locs h hP hD hS => ?_)
              have hP : va_P D vwCl (jx_ws cI cT [(cp_B aB (aT 0) (aS 0) (aC 0) (aU 0) (aV 0) (aW 0) (aH 0) (aO 0), sB), (cp_C aC (aT 0) (aS 0), sC_447), (cp_S aS (aT 0), sS_490), (cp_T aT, sT_447), (cp_C aW (aU 0) (aV 0), sW_426), (cp_S aV (aU 0), sV_426), (cp_T aU, sU_426), (cp_H aH (fun j => hT j 0), sH_447), (cp_T (hT 0), sH0_447), (cp_T (hT 1), sH1_447), (cp_T (hT 2), sH2_447), (cp_T (hT 3), sH3_447), (cp_O aO, sO)]) H := hP
              have hD : va_D A (jx_ws cI cT [(cp_B aB (aT 0) (aS 0) (aC 0) (aU 0) (aV 0) (aW 0) (aH 0) (aO 0), sB), (cp_C aC (aT 0) (aS 0), sC_447), (cp_S aS (aT 0), sS_490), (cp_T aT, sT_447), (cp_C aW (aU 0) (aV 0), sW_426), (cp_S aV (aU 0), sV_426), (cp_T aU, sU_426), (cp_H aH (fun j => hT j 0), sH_447), (cp_T (hT 0), sH0_447), (cp_T (hT 1), sH1_447), (cp_T (hT 2), sH2_447), (cp_T (hT 3), sH3_447), (cp_O aO, sO)]) := hD
              refine jx_zeq C h.1 (tgt := 534) dL_isAhead_493 (by decide) (fun hc => ?_) (fun hc => ?_)
              · have h := h.2.1 hc
                refine jx_iconst C dL_isAhead_534 ?_
                exact jx_rZ C hr hlk hAe hS hQQ (by decide) (sC_447, sS_490, sT_447, sW_426, sV_426, sU_426, sH_447, sH0_447, sH1_447, sH2_447, sH3_447) hP h dL_isAhead_535
              · have h := h.2.2 hc
                refine lv_aload_n hx hb dL_isAhead_496 rfl (lv_at hl 5 rfl) ?_
                refine jx_callVI C hK hP hD hS hA (ct_B_undo l D cI cT aB aC aS aT aW aV aU aH hT aO _ sB sT_447 sH_447 sH0_447 sH1_447 sH2_447 sH3_447  h) ms_X7_undo lk_L_81 [0, 3, 7, 8, 9, 10, 11] rfl rfl (fun _ => rfl) (cs' := (fun u => [(cp_B aB (aT 0) (aS 0) (aC 0) (aU 0) (aV 0) (aW 0) (aH 0) (aO 0), sB), (cp_C aC (aT 0) (aS 0), sC_447), (cp_S aS (aT 0), sS_490), (cp_T aT, u.1), (cp_C aW (aU 0) (aV 0), sW_426), (cp_S aV (aU 0), sV_426), (cp_T aU, sU_426), (cp_H aH (fun j => hT j 0), u.2), (cp_T (hT 0), sH0_447), (cp_T (hT 1), sH1_447), (cp_T (hT 2), sH2_447), (cp_T (hT 3), sH3_447), (cp_O aO, sO)])) (fun _ => rfl) (fun _ => rfl) 0 0 rfl rfl rfl rfl rfl hl.1 rfl rfl dL_isAhead_497 ⟨Nat.le_refl _, Nat.le_refl _⟩ (fun r497 u H locs h hP hD hS => ?_)
                obtain ⟨sT_497, sH_497⟩ := u
                dsimp only at h
                have hP : va_P D vwCl (jx_ws cI cT [(cp_B aB (aT 0) (aS 0) (aC 0) (aU 0) (aV 0) (aW 0) (aH 0) (aO 0), sB), (cp_C aC (aT 0) (aS 0), sC_447), (cp_S aS (aT 0), sS_490), (cp_T aT, sT_497), (cp_C aW (aU 0) (aV 0), sW_426), (cp_S aV (aU 0), sV_426), (cp_T aU, sU_426), (cp_H aH (fun j => hT j 0), sH_497), (cp_T (hT 0), sH0_447), (cp_T (hT 1), sH1_447), (cp_T (hT 2), sH2_447), (cp_T (hT 3), sH3_447), (cp_O aO, sO)]) H := hP
                have hD : va_D A (jx_ws cI cT [(cp_B aB (aT 0) (aS 0) (aC 0) (aU 0) (aV 0) (aW 0) (aH 0) (aO 0), sB), (cp_C aC (aT 0) (aS 0), sC_447), (cp_S aS (aT 0), sS_490), (cp_T aT, sT_497), (cp_C aW (aU 0) (aV 0), sW_426), (cp_S aV (aU 0), sV_426), (cp_T aU, sU_426), (cp_H aH (fun j => hT j 0), sH_497), (cp_T (hT 0), sH0_447), (cp_T (hT 1), sH1_447), (cp_T (hT 2), sH2_447), (cp_T (hT 3), sH3_447), (cp_O aO, sO)]) := hD
                refine jx_zlt C h.1 (tgt := 534) dL_isAhead_500 (by decide) (fun hc => ?_) (fun hc => ?_)
                · have h := h.2.1 hc
                  refine jx_iconst C dL_isAhead_534 ?_
                  exact jx_rZ C hr hlk hAe hS hQQ (by decide) (sC_447, sS_490, sT_497, sW_426, sV_426, sU_426, sH_497, sH0_447, sH1_447, sH2_447, sH3_447) hP h dL_isAhead_535
                · have h := h.2.2 hc
                  refine lv_aload_n hx hb dL_isAhead_503 rfl (lv_at hl 5 rfl) ?_
                  refine jx_callVI C hK hP hD hS hA (ct_B_undo l D cI cT aB aC aS aT aW aV aU aH hT aO _ sB sT_497 sH_497 sH0_447 sH1_447 sH2_447 sH3_447  h) ms_X7_undo lk_L_81 [0, 3, 7, 8, 9, 10, 11] rfl rfl (fun _ => rfl) (cs' := (fun u => [(cp_B aB (aT 0) (aS 0) (aC 0) (aU 0) (aV 0) (aW 0) (aH 0) (aO 0), sB), (cp_C aC (aT 0) (aS 0), sC_447), (cp_S aS (aT 0), sS_490), (cp_T aT, u.1), (cp_C aW (aU 0) (aV 0), sW_426), (cp_S aV (aU 0), sV_426), (cp_T aU, sU_426), (cp_H aH (fun j => hT j 0), u.2), (cp_T (hT 0), sH0_447), (cp_T (hT 1), sH1_447), (cp_T (hT 2), sH2_447), (cp_T (hT 3), sH3_447), (cp_O aO, sO)])) (fun _ => rfl) (fun _ => rfl) 0 0 rfl rfl rfl rfl rfl hl.1 rfl rfl dL_isAhead_504 ⟨Nat.le_refl _, Nat.le_refl _⟩ (fun r504 u H locs h hP hD hS => ?_)
                  obtain ⟨sT_504, sH_504⟩ := u
                  dsimp only at h
                  have hP : va_P D vwCl (jx_ws cI cT [(cp_B aB (aT 0) (aS 0) (aC 0) (aU 0) (aV 0) (aW 0) (aH 0) (aO 0), sB), (cp_C aC (aT 0) (aS 0), sC_447), (cp_S aS (aT 0), sS_490), (cp_T aT, sT_504), (cp_C aW (aU 0) (aV 0), sW_426), (cp_S aV (aU 0), sV_426), (cp_T aU, sU_426), (cp_H aH (fun j => hT j 0), sH_504), (cp_T (hT 0), sH0_447), (cp_T (hT 1), sH1_447), (cp_T (hT 2), sH2_447), (cp_T (hT 3), sH3_447), (cp_O aO, sO)]) H := hP
                  have hD : va_D A (jx_ws cI cT [(cp_B aB (aT 0) (aS 0) (aC 0) (aU 0) (aV 0) (aW 0) (aH 0) (aO 0), sB), (cp_C aC (aT 0) (aS 0), sC_447), (cp_S aS (aT 0), sS_490), (cp_T aT, sT_504), (cp_C aW (aU 0) (aV 0), sW_426), (cp_S aV (aU 0), sV_426), (cp_T aU, sU_426), (cp_H aH (fun j => hT j 0), sH_504), (cp_T (hT 0), sH0_447), (cp_T (hT 1), sH1_447), (cp_T (hT 2), sH2_447), (cp_T (hT 3), sH3_447), (cp_O aO, sO)]) := hD
                  refine jx_zlt C h.1 (tgt := 534) dL_isAhead_507 (by decide) (fun hc => ?_) (fun hc => ?_)
                  · have h := h.2.1 hc
                    refine jx_iconst C dL_isAhead_534 ?_
                    exact jx_rZ C hr hlk hAe hS hQQ (by decide) (sC_447, sS_490, sT_504, sW_426, sV_426, sU_426, sH_504, sH0_447, sH1_447, sH2_447, sH3_447) hP h dL_isAhead_535
                  · have h := h.2.2 hc
                    refine lv_aload_n hx hb dL_isAhead_510 rfl (lv_at hl 5 rfl) ?_
                    refine jx_callSL C hK hP hD hS hA (ct_L_print l D cI cT aB aC aS aT aW aV aU aH hT aO _ sB sC_447 sS_490 sT_504 sH_504 sO  h) ms_L_print lk_L_30 [0, 1, 2, 3, 7, 12] rfl rfl (fun _ => rfl) (cs' := (fun u => [(cp_B aB (aT 0) (aS 0) (aC 0) (aU 0) (aV 0) (aW 0) (aH 0) (aO 0), sB), (cp_C aC (aT 0) (aS 0), sC_447), (cp_S aS (aT 0), u), (cp_T aT, sT_504), (cp_C aW (aU 0) (aV 0), sW_426), (cp_S aV (aU 0), sV_426), (cp_T aU, sU_426), (cp_H aH (fun j => hT j 0), sH_504), (cp_T (hT 0), sH0_447), (cp_T (hT 1), sH1_447), (cp_T (hT 2), sH2_447), (cp_T (hT 3), sH3_447), (cp_O aO, sO)])) (fun _ => rfl) (fun _ => rfl) rfl rfl hl.1 rfl rfl dL_isAhead_511 ⟨Nat.le_refl _, Nat.le_refl _⟩ (fun r511 sS_511 H locs h hP hD hS => ?_)
                    have hP : va_P D vwCl (jx_ws cI cT [(cp_B aB (aT 0) (aS 0) (aC 0) (aU 0) (aV 0) (aW 0) (aH 0) (aO 0), sB), (cp_C aC (aT 0) (aS 0), sC_447), (cp_S aS (aT 0), sS_511), (cp_T aT, sT_504), (cp_C aW (aU 0) (aV 0), sW_426), (cp_S aV (aU 0), sV_426), (cp_T aU, sU_426), (cp_H aH (fun j => hT j 0), sH_504), (cp_T (hT 0), sH0_447), (cp_T (hT 1), sH1_447), (cp_T (hT 2), sH2_447), (cp_T (hT 3), sH3_447), (cp_O aO, sO)]) H := hP
                    have hD : va_D A (jx_ws cI cT [(cp_B aB (aT 0) (aS 0) (aC 0) (aU 0) (aV 0) (aW 0) (aH 0) (aO 0), sB), (cp_C aC (aT 0) (aS 0), sC_447), (cp_S aS (aT 0), sS_511), (cp_T aT, sT_504), (cp_C aW (aU 0) (aV 0), sW_426), (cp_S aV (aU 0), sV_426), (cp_T aU, sU_426), (cp_H aH (fun j => hT j 0), sH_504), (cp_T (hT 0), sH0_447), (cp_T (hT 1), sH1_447), (cp_T (hT 2), sH2_447), (cp_T (hT 3), sH3_447), (cp_O aO, sO)]) := hD
                    refine lv_lload hx hb dL_isAhead_514 (lv_at hl 6 rfl) ?_
                    refine jx_lcmp C dL_isAhead_516 ?_
                    refine jx_zne C h.1 (tgt := 534) dL_isAhead_517 (by decide) (fun hc => ?_) (fun hc => ?_)
                    · have h := h.2.2 hc
                      refine jx_iconst C dL_isAhead_534 ?_
                      exact jx_rZ C hr hlk hAe hS hQQ (by decide) (sC_447, sS_511, sT_504, sW_426, sV_426, sU_426, sH_504, sH0_447, sH1_447, sH2_447, sH3_447) hP h dL_isAhead_535
                    · have h := h.2.1 hc
                      refine lv_aload_n hx hb dL_isAhead_520 rfl (lv_at hl 5 rfl) ?_
                      refine jx_iconst C dL_isAhead_521 ?_
                      refine jx_callVI C hK hP hD hS hA (ct_B_count l D cI cT aB aC aS aT aW aV aU aH hT aO _ sB sC_447 sS_511 sT_504 sH_504 sO 4 h) ms_X7_count lk_L_13 [0, 1, 2, 3, 7, 12] rfl rfl (fun _ => rfl) (cs' := (fun u => [(cp_B aB (aT 0) (aS 0) (aC 0) (aU 0) (aV 0) (aW 0) (aH 0) (aO 0), sB), (cp_C aC (aT 0) (aS 0), sC_447), (cp_S aS (aT 0), u), (cp_T aT, sT_504), (cp_C aW (aU 0) (aV 0), sW_426), (cp_S aV (aU 0), sV_426), (cp_T aU, sU_426), (cp_H aH (fun j => hT j 0), sH_504), (cp_T (hT 0), sH0_447), (cp_T (hT 1), sH1_447), (cp_T (hT 2), sH2_447), (cp_T (hT 3), sH3_447), (cp_O aO, sO)])) (fun _ => rfl) (fun _ => rfl) 0 0 rfl rfl rfl rfl rfl hl.1 rfl rfl dL_isAhead_522 ⟨Nat.le_refl _, Nat.le_refl _⟩ (fun r522 sS_522 H locs h hP hD hS => ?_)
                      have hP : va_P D vwCl (jx_ws cI cT [(cp_B aB (aT 0) (aS 0) (aC 0) (aU 0) (aV 0) (aW 0) (aH 0) (aO 0), sB), (cp_C aC (aT 0) (aS 0), sC_447), (cp_S aS (aT 0), sS_522), (cp_T aT, sT_504), (cp_C aW (aU 0) (aV 0), sW_426), (cp_S aV (aU 0), sV_426), (cp_T aU, sU_426), (cp_H aH (fun j => hT j 0), sH_504), (cp_T (hT 0), sH0_447), (cp_T (hT 1), sH1_447), (cp_T (hT 2), sH2_447), (cp_T (hT 3), sH3_447), (cp_O aO, sO)]) H := hP
                      have hD : va_D A (jx_ws cI cT [(cp_B aB (aT 0) (aS 0) (aC 0) (aU 0) (aV 0) (aW 0) (aH 0) (aO 0), sB), (cp_C aC (aT 0) (aS 0), sC_447), (cp_S aS (aT 0), sS_522), (cp_T aT, sT_504), (cp_C aW (aU 0) (aV 0), sW_426), (cp_S aV (aU 0), sV_426), (cp_T aU, sU_426), (cp_H aH (fun j => hT j 0), sH_504), (cp_T (hT 0), sH0_447), (cp_T (hT 1), sH1_447), (cp_T (hT 2), sH2_447), (cp_T (hT 3), sH3_447), (cp_O aO, sO)]) := hD
                      refine lv_iload hx hb dL_isAhead_525 (lv_at hl 1 rfl) ?_
                      refine jx_ene C h.1 (tgt := 534) dL_isAhead_527 (by decide) (fun hc => ?_) (fun hc => ?_)
                      · have h := h.2.2 hc
                        refine jx_iconst C dL_isAhead_534 ?_
                        exact jx_rZ C hr hlk hAe hS hQQ (by decide) (sC_447, sS_522, sT_504, sW_426, sV_426, sU_426, sH_504, sH0_447, sH1_447, sH2_447, sH3_447) hP h dL_isAhead_535
                      · have h := h.2.1 hc
                        refine jx_iconst C dL_isAhead_530 ?_
                        refine lv_goto (tgt := 535) hx hb dL_isAhead_531 (by decide) ?_
                        exact jx_rZ C hr hlk hAe hS hQQ (by decide) (sC_447, sS_522, sT_504, sW_426, sV_426, sU_426, sH_504, sH0_447, sH1_447, sH2_447, sH3_447) hP h dL_isAhead_535
  have J285 : ∀ (sC : jx_St) (sS : jx_St) (sT : jx_St) (sW : jx_St) (sV : jx_St) (sU : jx_St) (sH : jx_St) (sH0 : jx_St) (sH1 : jx_St) (sH2 : jx_St) (sH3 : jx_St) (L5 : Int64) (l9 : Int) (l12 : Int) (l13 : Int) (t0 : Int), wp_L_isAhead_285 Q sB sO l1 l2 l3 l4 sC sS sT sW sV sU sH sH0 sH1 sH2 sH3 L5 l9 l12 l13 t0 → ∀ (H : Heap) (locs : List Loc), va_P D vwCl (jx_ws cI cT [(cp_B aB (aT 0) (aS 0) (aC 0) (aU 0) (aV 0) (aW 0) (aH 0) (aO 0), sB), (cp_C aC (aT 0) (aS 0), sC), (cp_S aS (aT 0), sS), (cp_T aT, sT), (cp_C aW (aU 0) (aV 0), sW), (cp_S aV (aU 0), sV), (cp_T aU, sU), (cp_H aH (fun j => hT j 0), sH), (cp_T (hT 0), sH0), (cp_T (hT 1), sH1), (cp_T (hT 2), sH2), (cp_T (hT 3), sH3), (cp_O aO, sO)]) H → va_D A (jx_ws cI cT [(cp_B aB (aT 0) (aS 0) (aC 0) (aU 0) (aV 0) (aW 0) (aH 0) (aO 0), sB), (cp_C aC (aT 0) (aS 0), sC), (cp_S aS (aT 0), sS), (cp_T aT, sT), (cp_C aW (aU 0) (aV 0), sW), (cp_S aV (aU 0), sV), (cp_T aU, sU), (cp_H aH (fun j => hT j 0), sH), (cp_T (hT 0), sH0), (cp_T (hT 1), sH1), (cp_T (hT 2), sH2), (cp_T (hT 3), sH3), (cp_O aO, sO)]) → va_S A s.heap H locs → ∀ ls : Array Slot, lv_has ls 23 [(0, .ref (aB 0)), (5, .long L5), (9, .int (jx_i l9)), (12, .int (jx_i l12)), (13, .int (jx_i l13))] → W p l e (jx_rm 8 202) s m args below meth c H locs 0 0 QQ (F0 m 285 ls [.int (jx_i t0)]) := by
    intro sC sS sT sW sV sU sH sH0 sH1 sH2 sH3 L5 l9 l12 l13 t0 h H locs hP hD hS ls hl
    unfold wp_L_isAhead_285 at h
    refine lv_istore (lv' := [(17, .int (jx_i t0)), (0, .ref (aB 0)), (5, .long L5), (9, .int (jx_i l9)), (12, .int (jx_i l12)), (13, .int (jx_i l13))]) hx hb dL_isAhead_285 hl (by decide) rfl (fun ls hl => ?_)
    refine jx_iconst C dL_isAhead_287 ?_
    refine lv_istore (lv' := [(18, .int (jx_i 0)), (17, .int (jx_i t0)), (0, .ref (aB 0)), (5, .long L5), (9, .int (jx_i l9)), (12, .int (jx_i l12)), (13, .int (jx_i l13))]) hx hb dL_isAhead_288 hl (by decide) rfl (fun ls hl => ?_)
    obtain ⟨n, h⟩ := h
    refine Lo290 sC sS sT sW sV sU sH sH0 sH1 sH2 sH3 L5 l9 l12 l13 _ n t0 0 h ?_ _ _ hP hD hS ls (lv_sub hl [2, 3, 4, 5, 6, 1, 0] rfl)
    · intro l17 h H locs hP hD hS ls hl
      exact J395 sC sS sT sW sV sU sH sH0 sH1 sH2 sH3 L5 l9 l17 h _ _ hP hD hS ls (lv_sub hl [0, 1, 2, 3] rfl)
  have J284 : ∀ (sC : jx_St) (sS : jx_St) (sT : jx_St) (sW : jx_St) (sV : jx_St) (sU : jx_St) (sH : jx_St) (sH0 : jx_St) (sH1 : jx_St) (sH2 : jx_St) (sH3 : jx_St) (L5 : Int64) (l9 : Int) (l12 : Int) (l13 : Int), wp_L_isAhead_284 Q sB sO l1 l2 l3 l4 sC sS sT sW sV sU sH sH0 sH1 sH2 sH3 L5 l9 l12 l13 → ∀ (H : Heap) (locs : List Loc), va_P D vwCl (jx_ws cI cT [(cp_B aB (aT 0) (aS 0) (aC 0) (aU 0) (aV 0) (aW 0) (aH 0) (aO 0), sB), (cp_C aC (aT 0) (aS 0), sC), (cp_S aS (aT 0), sS), (cp_T aT, sT), (cp_C aW (aU 0) (aV 0), sW), (cp_S aV (aU 0), sV), (cp_T aU, sU), (cp_H aH (fun j => hT j 0), sH), (cp_T (hT 0), sH0), (cp_T (hT 1), sH1), (cp_T (hT 2), sH2), (cp_T (hT 3), sH3), (cp_O aO, sO)]) H → va_D A (jx_ws cI cT [(cp_B aB (aT 0) (aS 0) (aC 0) (aU 0) (aV 0) (aW 0) (aH 0) (aO 0), sB), (cp_C aC (aT 0) (aS 0), sC), (cp_S aS (aT 0), sS), (cp_T aT, sT), (cp_C aW (aU 0) (aV 0), sW), (cp_S aV (aU 0), sV), (cp_T aU, sU), (cp_H aH (fun j => hT j 0), sH), (cp_T (hT 0), sH0), (cp_T (hT 1), sH1), (cp_T (hT 2), sH2), (cp_T (hT 3), sH3), (cp_O aO, sO)]) → va_S A s.heap H locs → ∀ ls : Array Slot, lv_has ls 23 [(0, .ref (aB 0)), (5, .long L5), (9, .int (jx_i l9)), (12, .int (jx_i l12)), (13, .int (jx_i l13))] → W p l e (jx_rm 8 202) s m args below meth c H locs 0 0 QQ (F0 m 284 ls []) := by
    intro sC sS sT sW sV sU sH sH0 sH1 sH2 sH3 L5 l9 l12 l13 h H locs hP hD hS ls hl
    unfold wp_L_isAhead_284 at h
    refine jx_iconst C dL_isAhead_284 ?_
    exact J285 sC sS sT sW sV sU sH sH0 sH1 sH2 sH3 L5 l9 l12 l13 0 h _ _ hP hD hS ls (lv_sub hl [0, 1, 2, 3, 4] rfl)
  have J280 : ∀ (sC : jx_St) (sS : jx_St) (sT : jx_St) (sW : jx_St) (sV : jx_St) (sU : jx_St) (sH : jx_St) (sH0 : jx_St) (sH1 : jx_St) (sH2 : jx_St) (sH3 : jx_St) (L5 : Int64) (l9 : Int) (l12 : Int) (l13 : Int), wp_L_isAhead_280 Q sB sO l1 l2 l3 l4 sC sS sT sW sV sU sH sH0 sH1 sH2 sH3 L5 l9 l12 l13 → ∀ (H : Heap) (locs : List Loc), va_P D vwCl (jx_ws cI cT [(cp_B aB (aT 0) (aS 0) (aC 0) (aU 0) (aV 0) (aW 0) (aH 0) (aO 0), sB), (cp_C aC (aT 0) (aS 0), sC), (cp_S aS (aT 0), sS), (cp_T aT, sT), (cp_C aW (aU 0) (aV 0), sW), (cp_S aV (aU 0), sV), (cp_T aU, sU), (cp_H aH (fun j => hT j 0), sH), (cp_T (hT 0), sH0), (cp_T (hT 1), sH1), (cp_T (hT 2), sH2), (cp_T (hT 3), sH3), (cp_O aO, sO)]) H → va_D A (jx_ws cI cT [(cp_B aB (aT 0) (aS 0) (aC 0) (aU 0) (aV 0) (aW 0) (aH 0) (aO 0), sB), (cp_C aC (aT 0) (aS 0), sC), (cp_S aS (aT 0), sS), (cp_T aT, sT), (cp_C aW (aU 0) (aV 0), sW), (cp_S aV (aU 0), sV), (cp_T aU, sU), (cp_H aH (fun j => hT j 0), sH), (cp_T (hT 0), sH0), (cp_T (hT 1), sH1), (cp_T (hT 2), sH2), (cp_T (hT 3), sH3), (cp_O aO, sO)]) → va_S A s.heap H locs → ∀ ls : Array Slot, lv_has ls 23 [(0, .ref (aB 0)), (5, .long L5), (9, .int (jx_i l9)), (12, .int (jx_i l12)), (13, .int (jx_i l13))] → W p l e (jx_rm 8 202) s m args below meth c H locs 0 0 QQ (F0 m 280 ls []) := by
    intro sC sS sT sW sV sU sH sH0 sH1 sH2 sH3 L5 l9 l12 l13 h H locs hP hD hS ls hl
    unfold wp_L_isAhead_280 at h
    refine jx_iconst C dL_isAhead_280 ?_
    refine lv_goto (tgt := 285) hx hb dL_isAhead_281 (by decide) ?_
    exact J285 sC sS sT sW sV sU sH sH0 sH1 sH2 sH3 L5 l9 l12 l13 1 h _ _ hP hD hS ls (lv_sub hl [0, 1, 2, 3, 4] rfl)
  have J183 : ∀ (sC : jx_St) (sS : jx_St) (sT : jx_St) (sW : jx_St) (sV : jx_St) (sU : jx_St) (sH : jx_St) (sH0 : jx_St) (sH1 : jx_St) (sH2 : jx_St) (sH3 : jx_St) (L5 : Int64) (l7 : Int) (l8 : Int) (l9 : Int) (l10 : Int) (l11 : Int) (l12 : Int) (l13 : Int) (l14 : Int) (l15 : Int) (l16 : Int) (t0 : Int) (t1 : Int), wp_L_isAhead_183 Q sB sO l1 l2 l3 l4 sC sS sT sW sV sU sH sH0 sH1 sH2 sH3 L5 l7 l8 l9 l10 l11 l12 l13 l14 l15 l16 t0 t1 → ∀ (H : Heap) (locs : List Loc), va_P D vwCl (jx_ws cI cT [(cp_B aB (aT 0) (aS 0) (aC 0) (aU 0) (aV 0) (aW 0) (aH 0) (aO 0), sB), (cp_C aC (aT 0) (aS 0), sC), (cp_S aS (aT 0), sS), (cp_T aT, sT), (cp_C aW (aU 0) (aV 0), sW), (cp_S aV (aU 0), sV), (cp_T aU, sU), (cp_H aH (fun j => hT j 0), sH), (cp_T (hT 0), sH0), (cp_T (hT 1), sH1), (cp_T (hT 2), sH2), (cp_T (hT 3), sH3), (cp_O aO, sO)]) H → va_D A (jx_ws cI cT [(cp_B aB (aT 0) (aS 0) (aC 0) (aU 0) (aV 0) (aW 0) (aH 0) (aO 0), sB), (cp_C aC (aT 0) (aS 0), sC), (cp_S aS (aT 0), sS), (cp_T aT, sT), (cp_C aW (aU 0) (aV 0), sW), (cp_S aV (aU 0), sV), (cp_T aU, sU), (cp_H aH (fun j => hT j 0), sH), (cp_T (hT 0), sH0), (cp_T (hT 1), sH1), (cp_T (hT 2), sH2), (cp_T (hT 3), sH3), (cp_O aO, sO)]) → va_S A s.heap H locs → ∀ ls : Array Slot, lv_has ls 23 [(0, .ref (aB 0)), (1, .int (jx_i l1)), (2, .int (jx_i l2)), (5, .long L5), (7, .int (jx_i l7)), (8, .int (jx_i l8)), (9, .int (jx_i l9)), (10, .int (jx_i l10)), (11, .int (jx_i l11)), (12, .int (jx_i l12)), (13, .int (jx_i l13)), (14, .int (jx_i l14)), (15, .int (jx_i l15)), (16, .int (jx_i l16))] → W p l e (jx_rm 8 202) s m args below meth c H locs 0 0 QQ (F0 m 183 ls [.int (jx_i t1), .int (jx_i t0)]) := by
    intro sC sS sT sW sV sU sH sH0 sH1 sH2 sH3 L5 l7 l8 l9 l10 l11 l12 l13 l14 l15 l16 t0 t1 h H locs hP hD hS ls hl
    unfold wp_L_isAhead_183 at h
    refine jx_ene C h.1 (tgt := 284) dL_isAhead_183 (by decide) (fun hc => ?_) (fun hc => ?_)
    · have h := h.2.2 hc
      exact J284 sC sS sT sW sV sU sH sH0 sH1 sH2 sH3 L5 l9 l12 l13 h _ _ hP hD hS ls (lv_sub hl [0, 3, 6, 9, 10] rfl)
    · have h := h.2.1 hc
      refine lv_aload_n hx hb dL_isAhead_186 rfl (lv_at hl 0 rfl) ?_
      refine lv_iload hx hb dL_isAhead_187 (lv_at hl 6 rfl) ?_
      refine lv_iload_n hx hb dL_isAhead_189 rfl (lv_at hl 1 rfl) ?_
      refine lv_iload_n hx hb dL_isAhead_190 rfl (lv_at hl 2 rfl) ?_
      refine lv_iload hx hb dL_isAhead_191 (lv_at hl 4 rfl) ?_
      refine lv_iload hx hb dL_isAhead_193 (lv_at hl 5 rfl) ?_
      refine jx_callVI C hK hP hD hS hA (ct_B_put l D cI cT aB aC aS aT aW aV aU aH hT aO _ sB sC sS sT sH sH0 sH1 sH2 sH3 l9 l1 l2 l7 l8 h) ms_X7_put lk_L_36 [0, 1, 2, 3, 7, 8, 9, 10, 11] rfl rfl (fun _ => rfl) (cs' := (fun u => [(cp_B aB (aT 0) (aS 0) (aC 0) (aU 0) (aV 0) (aW 0) (aH 0) (aO 0), sB), (cp_C aC (aT 0) (aS 0), u.1), (cp_S aS (aT 0), u.2.1), (cp_T aT, u.2.2.1), (cp_C aW (aU 0) (aV 0), sW), (cp_S aV (aU 0), sV), (cp_T aU, sU), (cp_H aH (fun j => hT j 0), u.2.2.2.1), (cp_T (hT 0), u.2.2.2.2.1), (cp_T (hT 1), u.2.2.2.2.2.1), (cp_T (hT 2), u.2.2.2.2.2.2.1), (cp_T (hT 3), u.2.2.2.2.2.2.2), (cp_O aO, sO)])) (fun _ => rfl) (fun _ => rfl) 0 0 rfl rfl rfl rfl rfl hl.1 rfl rfl dL_isAhead_195 ⟨Nat.le_refl _, Nat.le_refl _⟩ (fun r195 u H locs h hP hD hS => ?_)
      obtain ⟨sC_195, sS_195, sT_195, sH_195, sH0_195, sH1_195, sH2_195, sH3_195⟩ := u
      dsimp only at h
      have hP : va_P D vwCl (jx_ws cI cT [(cp_B aB (aT 0) (aS 0) (aC 0) (aU 0) (aV 0) (aW 0) (aH 0) (aO 0), sB), (cp_C aC (aT 0) (aS 0), sC_195), (cp_S aS (aT 0), sS_195), (cp_T aT, sT_195), (cp_C aW (aU 0) (aV 0), sW), (cp_S aV (aU 0), sV), (cp_T aU, sU), (cp_H aH (fun j => hT j 0), sH_195), (cp_T (hT 0), sH0_195), (cp_T (hT 1), sH1_195), (cp_T (hT 2), sH2_195), (cp_T (hT 3), sH3_195), (cp_O aO, sO)]) H := hP
      have hD : va_D A (jx_ws cI cT [(cp_B aB (aT 0) (aS 0) (aC 0) (aU 0) (aV 0) (aW 0) (aH 0) (aO 0), sB), (cp_C aC (aT 0) (aS 0), sC_195), (cp_S aS (aT 0), sS_195), (cp_T aT, sT_195), (cp_C aW (aU 0) (aV 0), sW), (cp_S aV (aU 0), sV), (cp_T aU, sU), (cp_H aH (fun j => hT j 0), sH_195), (cp_T (hT 0), sH0_195), (cp_T (hT 1), sH1_195), (cp_T (hT 2), sH2_195), (cp_T (hT 3), sH3_195), (cp_O aO, sO)]) := hD
      refine lv_iload hx hb dL_isAhead_198 (lv_at hl 10 rfl) ?_
      refine jx_ene C h.1 (tgt := 284) dL_isAhead_200 (by decide) (fun hc => ?_) (fun hc => ?_)
      · have h := h.2.2 hc
        exact J284 sC_195 sS_195 sT_195 sW sV sU sH_195 sH0_195 sH1_195 sH2_195 sH3_195 L5 l9 l12 l13 h _ _ hP hD hS ls (lv_sub hl [0, 3, 6, 9, 10] rfl)
      · have h := h.2.1 hc
        refine lv_aload_n hx hb dL_isAhead_203 rfl (lv_at hl 0 rfl) ?_
        refine jx_iconst C dL_isAhead_204 ?_
        refine jx_callVI C hK hP hD hS hA (ct_B_count l D cI cT aB aC aS aT aW aV aU aH hT aO _ sB sC_195 sS_195 sT_195 sH_195 sO 1 h) ms_X7_count lk_L_13 [0, 1, 2, 3, 7, 12] rfl rfl (fun _ => rfl) (cs' := (fun u => [(cp_B aB (aT 0) (aS 0) (aC 0) (aU 0) (aV 0) (aW 0) (aH 0) (aO 0), sB), (cp_C aC (aT 0) (aS 0), sC_195), (cp_S aS (aT 0), u), (cp_T aT, sT_195), (cp_C aW (aU 0) (aV 0), sW), (cp_S aV (aU 0), sV), (cp_T aU, sU), (cp_H aH (fun j => hT j 0), sH_195), (cp_T (hT 0), sH0_195), (cp_T (hT 1), sH1_195), (cp_T (hT 2), sH2_195), (cp_T (hT 3), sH3_195), (cp_O aO, sO)])) (fun _ => rfl) (fun _ => rfl) 0 0 rfl rfl rfl rfl rfl hl.1 rfl rfl dL_isAhead_205 ⟨Nat.le_refl _, Nat.le_refl _⟩ (fun r205 sS_205 H locs h hP hD hS => ?_)
        have hP : va_P D vwCl (jx_ws cI cT [(cp_B aB (aT 0) (aS 0) (aC 0) (aU 0) (aV 0) (aW 0) (aH 0) (aO 0), sB), (cp_C aC (aT 0) (aS 0), sC_195), (cp_S aS (aT 0), sS_205), (cp_T aT, sT_195), (cp_C aW (aU 0) (aV 0), sW), (cp_S aV (aU 0), sV), (cp_T aU, sU), (cp_H aH (fun j => hT j 0), sH_195), (cp_T (hT 0), sH0_195), (cp_T (hT 1), sH1_195), (cp_T (hT 2), sH2_195), (cp_T (hT 3), sH3_195), (cp_O aO, sO)]) H := hP
        have hD : va_D A (jx_ws cI cT [(cp_B aB (aT 0) (aS 0) (aC 0) (aU 0) (aV 0) (aW 0) (aH 0) (aO 0), sB), (cp_C aC (aT 0) (aS 0), sC_195), (cp_S aS (aT 0), sS_205), (cp_T aT, sT_195), (cp_C aW (aU 0) (aV 0), sW), (cp_S aV (aU 0), sV), (cp_T aU, sU), (cp_H aH (fun j => hT j 0), sH_195), (cp_T (hT 0), sH0_195), (cp_T (hT 1), sH1_195), (cp_T (hT 2), sH2_195), (cp_T (hT 3), sH3_195), (cp_O aO, sO)]) := hD
        refine lv_iload hx hb dL_isAhead_208 (lv_at hl 10 rfl) ?_
        refine jx_ene C h.1 (tgt := 284) dL_isAhead_210 (by decide) (fun hc => ?_) (fun hc => ?_)
        · have h := h.2.2 hc
          exact J284 sC_195 sS_205 sT_195 sW sV sU sH_195 sH0_195 sH1_195 sH2_195 sH3_195 L5 l9 l12 l13 h _ _ hP hD hS ls (lv_sub hl [0, 3, 6, 9, 10] rfl)
        · have h := h.2.1 hc
          refine lv_aload_n hx hb dL_isAhead_213 rfl (lv_at hl 0 rfl) ?_
          refine jx_iconst C dL_isAhead_214 ?_
          refine jx_callVI C hK hP hD hS hA (ct_B_count l D cI cT aB aC aS aT aW aV aU aH hT aO _ sB sC_195 sS_205 sT_195 sH_195 sO 4 h) ms_X7_count lk_L_13 [0, 1, 2, 3, 7, 12] rfl rfl (fun _ => rfl) (cs' := (fun u => [(cp_B aB (aT 0) (aS 0) (aC 0) (aU 0) (aV 0) (aW 0) (aH 0) (aO 0), sB), (cp_C aC (aT 0) (aS 0), sC_195), (cp_S aS (aT 0), u), (cp_T aT, sT_195), (cp_C aW (aU 0) (aV 0), sW), (cp_S aV (aU 0), sV), (cp_T aU, sU), (cp_H aH (fun j => hT j 0), sH_195), (cp_T (hT 0), sH0_195), (cp_T (hT 1), sH1_195), (cp_T (hT 2), sH2_195), (cp_T (hT 3), sH3_195), (cp_O aO, sO)])) (fun _ => rfl) (fun _ => rfl) 0 0 rfl rfl rfl rfl rfl hl.1 rfl rfl dL_isAhead_215 ⟨Nat.le_refl _, Nat.le_refl _⟩ (fun r215 sS_215 H locs h hP hD hS => ?_)
          have hP : va_P D vwCl (jx_ws cI cT [(cp_B aB (aT 0) (aS 0) (aC 0) (aU 0) (aV 0) (aW 0) (aH 0) (aO 0), sB), (cp_C aC (aT 0) (aS 0), sC_195), (cp_S aS (aT 0), sS_215), (cp_T aT, sT_195), (cp_C aW (aU 0) (aV 0), sW), (cp_S aV (aU 0), sV), (cp_T aU, sU), (cp_H aH (fun j => hT j 0), sH_195), (cp_T (hT 0), sH0_195), (cp_T (hT 1), sH1_195), (cp_T (hT 2), sH2_195), (cp_T (hT 3), sH3_195), (cp_O aO, sO)]) H := hP
          have hD : va_D A (jx_ws cI cT [(cp_B aB (aT 0) (aS 0) (aC 0) (aU 0) (aV 0) (aW 0) (aH 0) (aO 0), sB), (cp_C aC (aT 0) (aS 0), sC_195), (cp_S aS (aT 0), sS_215), (cp_T aT, sT_195), (cp_C aW (aU 0) (aV 0), sW), (cp_S aV (aU 0), sV), (cp_T aU, sU), (cp_H aH (fun j => hT j 0), sH_195), (cp_T (hT 0), sH0_195), (cp_T (hT 1), sH1_195), (cp_T (hT 2), sH2_195), (cp_T (hT 3), sH3_195), (cp_O aO, sO)]) := hD
          refine lv_iload hx hb dL_isAhead_218 (lv_at hl 9 rfl) ?_
          refine jx_ene C h.1 (tgt := 284) dL_isAhead_220 (by decide) (fun hc => ?_) (fun hc => ?_)
          · have h := h.2.2 hc
            exact J284 sC_195 sS_215 sT_195 sW sV sU sH_195 sH0_195 sH1_195 sH2_195 sH3_195 L5 l9 l12 l13 h _ _ hP hD hS ls (lv_sub hl [0, 3, 6, 9, 10] rfl)
          · have h := h.2.1 hc
            refine lv_aload_n hx hb dL_isAhead_223 rfl (lv_at hl 0 rfl) ?_
            refine jx_iconst C dL_isAhead_224 ?_
            refine jx_callVI C hK hP hD hS hA (ct_B_count l D cI cT aB aC aS aT aW aV aU aH hT aO _ sB sC_195 sS_215 sT_195 sH_195 sO 5 h) ms_X7_count lk_L_13 [0, 1, 2, 3, 7, 12] rfl rfl (fun _ => rfl) (cs' := (fun u => [(cp_B aB (aT 0) (aS 0) (aC 0) (aU 0) (aV 0) (aW 0) (aH 0) (aO 0), sB), (cp_C aC (aT 0) (aS 0), sC_195), (cp_S aS (aT 0), u), (cp_T aT, sT_195), (cp_C aW (aU 0) (aV 0), sW), (cp_S aV (aU 0), sV), (cp_T aU, sU), (cp_H aH (fun j => hT j 0), sH_195), (cp_T (hT 0), sH0_195), (cp_T (hT 1), sH1_195), (cp_T (hT 2), sH2_195), (cp_T (hT 3), sH3_195), (cp_O aO, sO)])) (fun _ => rfl) (fun _ => rfl) 0 0 rfl rfl rfl rfl rfl hl.1 rfl rfl dL_isAhead_225 ⟨Nat.le_refl _, Nat.le_refl _⟩ (fun r225 sS_225 H locs h hP hD hS => ?_)
            have hP : va_P D vwCl (jx_ws cI cT [(cp_B aB (aT 0) (aS 0) (aC 0) (aU 0) (aV 0) (aW 0) (aH 0) (aO 0), sB), (cp_C aC (aT 0) (aS 0), sC_195), (cp_S aS (aT 0), sS_225), (cp_T aT, sT_195), (cp_C aW (aU 0) (aV 0), sW), (cp_S aV (aU 0), sV), (cp_T aU, sU), (cp_H aH (fun j => hT j 0), sH_195), (cp_T (hT 0), sH0_195), (cp_T (hT 1), sH1_195), (cp_T (hT 2), sH2_195), (cp_T (hT 3), sH3_195), (cp_O aO, sO)]) H := hP
            have hD : va_D A (jx_ws cI cT [(cp_B aB (aT 0) (aS 0) (aC 0) (aU 0) (aV 0) (aW 0) (aH 0) (aO 0), sB), (cp_C aC (aT 0) (aS 0), sC_195), (cp_S aS (aT 0), sS_225), (cp_T aT, sT_195), (cp_C aW (aU 0) (aV 0), sW), (cp_S aV (aU 0), sV), (cp_T aU, sU), (cp_H aH (fun j => hT j 0), sH_195), (cp_T (hT 0), sH0_195), (cp_T (hT 1), sH1_195), (cp_T (hT 2), sH2_195), (cp_T (hT 3), sH3_195), (cp_O aO, sO)]) := hD
            refine lv_iload hx hb dL_isAhead_228 (lv_at hl 12 rfl) ?_
            refine lv_iload hx hb dL_isAhead_230 (lv_at hl 9 rfl) ?_
            refine jx_iadd C dL_isAhead_232 ?_
            refine jx_ene C h.1 (tgt := 284) dL_isAhead_233 (by decide) (fun hc => ?_) (fun hc => ?_)
            · have h := h.2.2 hc
              exact J284 sC_195 sS_225 sT_195 sW sV sU sH_195 sH0_195 sH1_195 sH2_195 sH3_195 L5 l9 l12 l13 h _ _ hP hD hS ls (lv_sub hl [0, 3, 6, 9, 10] rfl)
            · have h := h.2.1 hc
              refine lv_aload_n hx hb dL_isAhead_236 rfl (lv_at hl 0 rfl) ?_
              refine jx_iconst C dL_isAhead_237 ?_
              refine jx_callVI C hK hP hD hS hA (ct_B_overlaps l D cI cT aB aC aS aT aW aV aU aH hT aO _ sB sS_225 sT_195 0 h) ms_X7_overlaps lk_L_27 [0, 2, 3] rfl rfl (fun _ => rfl) (cs' := (fun u => [(cp_B aB (aT 0) (aS 0) (aC 0) (aU 0) (aV 0) (aW 0) (aH 0) (aO 0), sB), (cp_C aC (aT 0) (aS 0), sC_195), (cp_S aS (aT 0), u), (cp_T aT, sT_195), (cp_C aW (aU 0) (aV 0), sW), (cp_S aV (aU 0), sV), (cp_T aU, sU), (cp_H aH (fun j => hT j 0), sH_195), (cp_T (hT 0), sH0_195), (cp_T (hT 1), sH1_195), (cp_T (hT 2), sH2_195), (cp_T (hT 3), sH3_195), (cp_O aO, sO)])) (fun _ => rfl) (fun _ => rfl) 0 0 rfl rfl rfl rfl rfl hl.1 rfl rfl dL_isAhead_238 ⟨Nat.le_refl _, Nat.le_refl _⟩ (fun r238 sS_238 H locs h hP hD hS => ?_)
              have hP : va_P D vwCl (jx_ws cI cT [(cp_B aB (aT 0) (aS 0) (aC 0) (aU 0) (aV 0) (aW 0) (aH 0) (aO 0), sB), (cp_C aC (aT 0) (aS 0), sC_195), (cp_S aS (aT 0), sS_238), (cp_T aT, sT_195), (cp_C aW (aU 0) (aV 0), sW), (cp_S aV (aU 0), sV), (cp_T aU, sU), (cp_H aH (fun j => hT j 0), sH_195), (cp_T (hT 0), sH0_195), (cp_T (hT 1), sH1_195), (cp_T (hT 2), sH2_195), (cp_T (hT 3), sH3_195), (cp_O aO, sO)]) H := hP
              have hD : va_D A (jx_ws cI cT [(cp_B aB (aT 0) (aS 0) (aC 0) (aU 0) (aV 0) (aW 0) (aH 0) (aO 0), sB), (cp_C aC (aT 0) (aS 0), sC_195), (cp_S aS (aT 0), sS_238), (cp_T aT, sT_195), (cp_C aW (aU 0) (aV 0), sW), (cp_S aV (aU 0), sV), (cp_T aU, sU), (cp_H aH (fun j => hT j 0), sH_195), (cp_T (hT 0), sH0_195), (cp_T (hT 1), sH1_195), (cp_T (hT 2), sH2_195), (cp_T (hT 3), sH3_195), (cp_O aO, sO)]) := hD
              refine lv_iload hx hb dL_isAhead_241 (lv_at hl 11 rfl) ?_
              refine jx_ene C h.1 (tgt := 284) dL_isAhead_243 (by decide) (fun hc => ?_) (fun hc => ?_)
              · have h := h.2.2 hc
                exact J284 sC_195 sS_238 sT_195 sW sV sU sH_195 sH0_195 sH1_195 sH2_195 sH3_195 L5 l9 l12 l13 h _ _ hP hD hS ls (lv_sub hl [0, 3, 6, 9, 10] rfl)
              · have h := h.2.1 hc
                refine lv_iload hx hb dL_isAhead_246 (lv_at hl 8 rfl) ?_
                refine jx_iconst C dL_isAhead_248 ?_
                refine jx_eeq C h.1 (tgt := 280) dL_isAhead_249 (by decide) (fun hc => ?_) (fun hc => ?_)
                · have h := h.2.1 hc
                  exact J280 sC_195 sS_238 sT_195 sW sV sU sH_195 sH0_195 sH1_195 sH2_195 sH3_195 L5 l9 l12 l13 h _ _ hP hD hS ls (lv_sub hl [0, 3, 6, 9, 10] rfl)
                · have h := h.2.2 hc
                  refine lv_iload hx hb dL_isAhead_252 (lv_at hl 9 rfl) ?_
                  refine jx_zne C h.1 (tgt := 284) dL_isAhead_254 (by decide) (fun hc => ?_) (fun hc => ?_)
                  · have h := h.2.2 hc
                    exact J284 sC_195 sS_238 sT_195 sW sV sU sH_195 sH0_195 sH1_195 sH2_195 sH3_195 L5 l9 l12 l13 h _ _ hP hD hS ls (lv_sub hl [0, 3, 6, 9, 10] rfl)
                  · have h := h.2.1 hc
                    refine lv_aload_n hx hb dL_isAhead_257 rfl (lv_at hl 0 rfl) ?_
                    refine jx_bipush C dL_isAhead_258 (by decide) ?_
                    refine jx_callVI C hK hP hD hS hA (ct_B_count l D cI cT aB aC aS aT aW aV aU aH hT aO _ sB sC_195 sS_238 sT_195 sH_195 sO 6 h) ms_X7_count lk_L_13 [0, 1, 2, 3, 7, 12] rfl rfl (fun _ => rfl) (cs' := (fun u => [(cp_B aB (aT 0) (aS 0) (aC 0) (aU 0) (aV 0) (aW 0) (aH 0) (aO 0), sB), (cp_C aC (aT 0) (aS 0), sC_195), (cp_S aS (aT 0), u), (cp_T aT, sT_195), (cp_C aW (aU 0) (aV 0), sW), (cp_S aV (aU 0), sV), (cp_T aU, sU), (cp_H aH (fun j => hT j 0), sH_195), (cp_T (hT 0), sH0_195), (cp_T (hT 1), sH1_195), (cp_T (hT 2), sH2_195), (cp_T (hT 3), sH3_195), (cp_O aO, sO)])) (fun _ => rfl) (fun _ => rfl) 0 0 rfl rfl rfl rfl rfl hl.1 rfl rfl dL_isAhead_260 ⟨Nat.le_refl _, Nat.le_refl _⟩ (fun r260 sS_260 H locs h hP hD hS => ?_)
                    have hP : va_P D vwCl (jx_ws cI cT [(cp_B aB (aT 0) (aS 0) (aC 0) (aU 0) (aV 0) (aW 0) (aH 0) (aO 0), sB), (cp_C aC (aT 0) (aS 0), sC_195), (cp_S aS (aT 0), sS_260), (cp_T aT, sT_195), (cp_C aW (aU 0) (aV 0), sW), (cp_S aV (aU 0), sV), (cp_T aU, sU), (cp_H aH (fun j => hT j 0), sH_195), (cp_T (hT 0), sH0_195), (cp_T (hT 1), sH1_195), (cp_T (hT 2), sH2_195), (cp_T (hT 3), sH3_195), (cp_O aO, sO)]) H := hP
                    have hD : va_D A (jx_ws cI cT [(cp_B aB (aT 0) (aS 0) (aC 0) (aU 0) (aV 0) (aW 0) (aH 0) (aO 0), sB), (cp_C aC (aT 0) (aS 0), sC_195), (cp_S aS (aT 0), sS_260), (cp_T aT, sT_195), (cp_C aW (aU 0) (aV 0), sW), (cp_S aV (aU 0), sV), (cp_T aU, sU), (cp_H aH (fun j => hT j 0), sH_195), (cp_T (hT 0), sH0_195), (cp_T (hT 1), sH1_195), (cp_T (hT 2), sH2_195), (cp_T (hT 3), sH3_195), (cp_O aO, sO)]) := hD
                    refine lv_iload hx hb dL_isAhead_263 (lv_at hl 13 rfl) ?_
                    refine jx_ene C h.1 (tgt := 284) dL_isAhead_265 (by decide) (fun hc => ?_) (fun hc => ?_)
                    · have h := h.2.2 hc
                      exact J284 sC_195 sS_260 sT_195 sW sV sU sH_195 sH0_195 sH1_195 sH2_195 sH3_195 L5 l9 l12 l13 h _ _ hP hD hS ls (lv_sub hl [0, 3, 6, 9, 10] rfl)
                    · have h := h.2.1 hc
                      refine lv_aload_n hx hb dL_isAhead_268 rfl (lv_at hl 0 rfl) ?_
                      refine lv_iload hx hb dL_isAhead_269 (lv_at hl 6 rfl) ?_
                      refine jx_iconst C dL_isAhead_271 ?_
                      refine jx_callVI C hK hP hD hS hA (ct_B_boxOf l D cI cT aB aC aS aT aW aV aU aH hT aO _ sB sS_260 sT_195 l9 4 h) ms_X7_boxOf lk_L_19 [0, 2, 3] rfl rfl (fun _ => rfl) (cs' := (fun u => [(cp_B aB (aT 0) (aS 0) (aC 0) (aU 0) (aV 0) (aW 0) (aH 0) (aO 0), sB), (cp_C aC (aT 0) (aS 0), sC_195), (cp_S aS (aT 0), u), (cp_T aT, sT_195), (cp_C aW (aU 0) (aV 0), sW), (cp_S aV (aU 0), sV), (cp_T aU, sU), (cp_H aH (fun j => hT j 0), sH_195), (cp_T (hT 0), sH0_195), (cp_T (hT 1), sH1_195), (cp_T (hT 2), sH2_195), (cp_T (hT 3), sH3_195), (cp_O aO, sO)])) (fun _ => rfl) (fun _ => rfl) 0 0 rfl rfl rfl rfl rfl hl.1 rfl rfl dL_isAhead_272 ⟨Nat.le_refl _, Nat.le_refl _⟩ (fun r272 sS_272 H locs h hP hD hS => ?_)
                      have hP : va_P D vwCl (jx_ws cI cT [(cp_B aB (aT 0) (aS 0) (aC 0) (aU 0) (aV 0) (aW 0) (aH 0) (aO 0), sB), (cp_C aC (aT 0) (aS 0), sC_195), (cp_S aS (aT 0), sS_272), (cp_T aT, sT_195), (cp_C aW (aU 0) (aV 0), sW), (cp_S aV (aU 0), sV), (cp_T aU, sU), (cp_H aH (fun j => hT j 0), sH_195), (cp_T (hT 0), sH0_195), (cp_T (hT 1), sH1_195), (cp_T (hT 2), sH2_195), (cp_T (hT 3), sH3_195), (cp_O aO, sO)]) H := hP
                      have hD : va_D A (jx_ws cI cT [(cp_B aB (aT 0) (aS 0) (aC 0) (aU 0) (aV 0) (aW 0) (aH 0) (aO 0), sB), (cp_C aC (aT 0) (aS 0), sC_195), (cp_S aS (aT 0), sS_272), (cp_T aT, sT_195), (cp_C aW (aU 0) (aV 0), sW), (cp_S aV (aU 0), sV), (cp_T aU, sU), (cp_H aH (fun j => hT j 0), sH_195), (cp_T (hT 0), sH0_195), (cp_T (hT 1), sH1_195), (cp_T (hT 2), sH2_195), (cp_T (hT 3), sH3_195), (cp_O aO, sO)]) := hD
                      refine lv_iload hx hb dL_isAhead_275 (lv_at hl 7 rfl) ?_
                      refine jx_ene C h.1 (tgt := 284) dL_isAhead_277 (by decide) (fun hc => ?_) (fun hc => ?_)
                      · have h := h.2.2 hc
                        exact J284 sC_195 sS_272 sT_195 sW sV sU sH_195 sH0_195 sH1_195 sH2_195 sH3_195 L5 l9 l12 l13 h _ _ hP hD hS ls (lv_sub hl [0, 3, 6, 9, 10] rfl)
                      · have h := h.2.1 hc
                        exact J280 sC_195 sS_272 sT_195 sW sV sU sH_195 sH0_195 sH1_195 sH2_195 sH3_195 L5 l9 l12 l13 h _ _ hP hD hS ls (lv_sub hl [0, 3, 6, 9, 10] rfl)
  have J55 : ∀ (sC : jx_St) (sS : jx_St) (sT : jx_St) (sW : jx_St) (sV : jx_St) (sU : jx_St) (sH : jx_St) (sH0 : jx_St) (sH1 : jx_St) (sH2 : jx_St) (sH3 : jx_St) (L5 : Int64) (l7 : Int) (l8 : Int) (l9 : Int), wp_L_isAhead_55 Q sB sO l1 l2 l3 l4 sC sS sT sW sV sU sH sH0 sH1 sH2 sH3 L5 l7 l8 l9 → ∀ (H : Heap) (locs : List Loc), va_P D vwCl (jx_ws cI cT [(cp_B aB (aT 0) (aS 0) (aC 0) (aU 0) (aV 0) (aW 0) (aH 0) (aO 0), sB), (cp_C aC (aT 0) (aS 0), sC), (cp_S aS (aT 0), sS), (cp_T aT, sT), (cp_C aW (aU 0) (aV 0), sW), (cp_S aV (aU 0), sV), (cp_T aU, sU), (cp_H aH (fun j => hT j 0), sH), (cp_T (hT 0), sH0), (cp_T (hT 1), sH1), (cp_T (hT 2), sH2), (cp_T (hT 3), sH3), (cp_O aO, sO)]) H → va_D A (jx_ws cI cT [(cp_B aB (aT 0) (aS 0) (aC 0) (aU 0) (aV 0) (aW 0) (aH 0) (aO 0), sB), (cp_C aC (aT 0) (aS 0), sC), (cp_S aS (aT 0), sS), (cp_T aT, sT), (cp_C aW (aU 0) (aV 0), sW), (cp_S aV (aU 0), sV), (cp_T aU, sU), (cp_H aH (fun j => hT j 0), sH), (cp_T (hT 0), sH0), (cp_T (hT 1), sH1), (cp_T (hT 2), sH2), (cp_T (hT 3), sH3), (cp_O aO, sO)]) → va_S A s.heap H locs → ∀ ls : Array Slot, lv_has ls 23 [(0, .ref (aB 0)), (1, .int (jx_i l1)), (2, .int (jx_i l2)), (5, .long L5), (7, .int (jx_i l7)), (8, .int (jx_i l8)), (9, .int (jx_i l9))] → W p l e (jx_rm 8 202) s m args below meth c H locs 0 0 QQ (F0 m 55 ls []) := by
    intro sC sS sT sW sV sU sH sH0 sH1 sH2 sH3 L5 l7 l8 l9 h H locs hP hD hS ls hl
    unfold wp_L_isAhead_55 at h
    refine lv_iload hx hb dL_isAhead_55 (lv_at hl 6 rfl) ?_
    refine jx_bipush C dL_isAhead_57 (by decide) ?_
    refine jx_ene C h.1 (tgt := 84) dL_isAhead_59 (by decide) (fun hc => ?_) (fun hc => ?_)
    · have h := h.2.2 hc
      refine lv_aload_n hx hb dL_isAhead_84 rfl (lv_at hl 0 rfl) ?_
      refine lv_iload_n hx hb dL_isAhead_85 rfl (lv_at hl 1 rfl) ?_
      refine lv_iload_n hx hb dL_isAhead_86 rfl (lv_at hl 2 rfl) ?_
      refine lv_iload hx hb dL_isAhead_87 (lv_at hl 4 rfl) ?_
      refine lv_iload hx hb dL_isAhead_89 (lv_at hl 5 rfl) ?_
      refine jx_iconst C dL_isAhead_91 ?_
      refine jx_callVI C hK hP hD hS hA (ct_B_would l D cI cT aB aC aS aT aW aV aU aH hT aO _ sB sS sT sW sV sU l1 l2 l7 l8 0 h) ms_X7_would lk_L_58 [0, 2, 3, 4, 5, 6] rfl rfl (fun _ => rfl) (cs' := (fun u => [(cp_B aB (aT 0) (aS 0) (aC 0) (aU 0) (aV 0) (aW 0) (aH 0) (aO 0), sB), (cp_C aC (aT 0) (aS 0), sC), (cp_S aS (aT 0), u.1), (cp_T aT, sT), (cp_C aW (aU 0) (aV 0), u.2.1), (cp_S aV (aU 0), u.2.2.1), (cp_T aU, u.2.2.2), (cp_H aH (fun j => hT j 0), sH), (cp_T (hT 0), sH0), (cp_T (hT 1), sH1), (cp_T (hT 2), sH2), (cp_T (hT 3), sH3), (cp_O aO, sO)])) (fun _ => rfl) (fun _ => rfl) 0 0 rfl rfl rfl rfl rfl hl.1 rfl rfl dL_isAhead_92 ⟨Nat.le_refl _, Nat.le_refl _⟩ (fun r92 u H locs h hP hD hS => ?_)
      obtain ⟨sS_92, sW_92, sV_92, sU_92⟩ := u
      dsimp only at h
      have hP : va_P D vwCl (jx_ws cI cT [(cp_B aB (aT 0) (aS 0) (aC 0) (aU 0) (aV 0) (aW 0) (aH 0) (aO 0), sB), (cp_C aC (aT 0) (aS 0), sC), (cp_S aS (aT 0), sS_92), (cp_T aT, sT), (cp_C aW (aU 0) (aV 0), sW_92), (cp_S aV (aU 0), sV_92), (cp_T aU, sU_92), (cp_H aH (fun j => hT j 0), sH), (cp_T (hT 0), sH0), (cp_T (hT 1), sH1), (cp_T (hT 2), sH2), (cp_T (hT 3), sH3), (cp_O aO, sO)]) H := hP
      have hD : va_D A (jx_ws cI cT [(cp_B aB (aT 0) (aS 0) (aC 0) (aU 0) (aV 0) (aW 0) (aH 0) (aO 0), sB), (cp_C aC (aT 0) (aS 0), sC), (cp_S aS (aT 0), sS_92), (cp_T aT, sT), (cp_C aW (aU 0) (aV 0), sW_92), (cp_S aV (aU 0), sV_92), (cp_T aU, sU_92), (cp_H aH (fun j => hT j 0), sH), (cp_T (hT 0), sH0), (cp_T (hT 1), sH1), (cp_T (hT 2), sH2), (cp_T (hT 3), sH3), (cp_O aO, sO)]) := hD
      refine lv_istore (lv' := [(10, .int (jx_i r92)), (0, .ref (aB 0)), (1, .int (jx_i l1)), (2, .int (jx_i l2)), (5, .long L5), (7, .int (jx_i l7)), (8, .int (jx_i l8)), (9, .int (jx_i l9))]) hx hb dL_isAhead_95 hl (by decide) rfl (fun ls hl => ?_)
      refine lv_aload_n hx hb dL_isAhead_97 rfl (lv_at hl 1 rfl) ?_
      refine lv_iload_n hx hb dL_isAhead_98 rfl (lv_at hl 2 rfl) ?_
      refine lv_iload_n hx hb dL_isAhead_99 rfl (lv_at hl 3 rfl) ?_
      refine lv_iload hx hb dL_isAhead_100 (lv_at hl 5 rfl) ?_
      refine lv_iload hx hb dL_isAhead_102 (lv_at hl 6 rfl) ?_
      refine jx_iconst C dL_isAhead_104 ?_
      refine jx_callVI C hK hP hD hS hA (ct_B_would l D cI cT aB aC aS aT aW aV aU aH hT aO _ sB sS_92 sT sW_92 sV_92 sU_92 l1 l2 l7 l8 1 h) ms_X7_would lk_L_58 [0, 2, 3, 4, 5, 6] rfl rfl (fun _ => rfl) (cs' := (fun u => [(cp_B aB (aT 0) (aS 0) (aC 0) (aU 0) (aV 0) (aW 0) (aH 0) (aO 0), sB), (cp_C aC (aT 0) (aS 0), sC), (cp_S aS (aT 0), u.1), (cp_T aT, sT), (cp_C aW (aU 0) (aV 0), u.2.1), (cp_S aV (aU 0), u.2.2.1), (cp_T aU, u.2.2.2), (cp_H aH (fun j => hT j 0), sH), (cp_T (hT 0), sH0), (cp_T (hT 1), sH1), (cp_T (hT 2), sH2), (cp_T (hT 3), sH3), (cp_O aO, sO)])) (fun _ => rfl) (fun _ => rfl) 0 0 rfl rfl rfl rfl rfl hl.1 rfl rfl dL_isAhead_105 ⟨Nat.le_refl _, Nat.le_refl _⟩ (fun r105 u H locs h hP hD hS => ?_)
      obtain ⟨sS_105, sW_105, sV_105, sU_105⟩ := u
      dsimp only at h
      have hP : va_P D vwCl (jx_ws cI cT [(cp_B aB (aT 0) (aS 0) (aC 0) (aU 0) (aV 0) (aW 0) (aH 0) (aO 0), sB), (cp_C aC (aT 0) (aS 0), sC), (cp_S aS (aT 0), sS_105), (cp_T aT, sT), (cp_C aW (aU 0) (aV 0), sW_105), (cp_S aV (aU 0), sV_105), (cp_T aU, sU_105), (cp_H aH (fun j => hT j 0), sH), (cp_T (hT 0), sH0), (cp_T (hT 1), sH1), (cp_T (hT 2), sH2), (cp_T (hT 3), sH3), (cp_O aO, sO)]) H := hP
      have hD : va_D A (jx_ws cI cT [(cp_B aB (aT 0) (aS 0) (aC 0) (aU 0) (aV 0) (aW 0) (aH 0) (aO 0), sB), (cp_C aC (aT 0) (aS 0), sC), (cp_S aS (aT 0), sS_105), (cp_T aT, sT), (cp_C aW (aU 0) (aV 0), sW_105), (cp_S aV (aU 0), sV_105), (cp_T aU, sU_105), (cp_H aH (fun j => hT j 0), sH), (cp_T (hT 0), sH0), (cp_T (hT 1), sH1), (cp_T (hT 2), sH2), (cp_T (hT 3), sH3), (cp_O aO, sO)]) := hD
      refine lv_istore (lv' := [(11, .int (jx_i r105)), (10, .int (jx_i r92)), (0, .ref (aB 0)), (1, .int (jx_i l1)), (2, .int (jx_i l2)), (5, .long L5), (7, .int (jx_i l7)), (8, .int (jx_i l8)), (9, .int (jx_i l9))]) hx hb dL_isAhead_108 hl (by decide) rfl (fun ls hl => ?_)
      refine lv_aload_n hx hb dL_isAhead_110 rfl (lv_at hl 2 rfl) ?_
      refine lv_iload_n hx hb dL_isAhead_111 rfl (lv_at hl 3 rfl) ?_
      refine lv_iload_n hx hb dL_isAhead_112 rfl (lv_at hl 4 rfl) ?_
      refine lv_iload hx hb dL_isAhead_113 (lv_at hl 6 rfl) ?_
      refine lv_iload hx hb dL_isAhead_115 (lv_at hl 7 rfl) ?_
      refine jx_iconst C dL_isAhead_117 ?_
      refine jx_callVI C hK hP hD hS hA (ct_B_would l D cI cT aB aC aS aT aW aV aU aH hT aO _ sB sS_105 sT sW_105 sV_105 sU_105 l1 l2 l7 l8 2 h) ms_X7_would lk_L_58 [0, 2, 3, 4, 5, 6] rfl rfl (fun _ => rfl) (cs' := (fun u => [(cp_B aB (aT 0) (aS 0) (aC 0) (aU 0) (aV 0) (aW 0) (aH 0) (aO 0), sB), (cp_C aC (aT 0) (aS 0), sC), (cp_S aS (aT 0), u.1), (cp_T aT, sT), (cp_C aW (aU 0) (aV 0), u.2.1), (cp_S aV (aU 0), u.2.2.1), (cp_T aU, u.2.2.2), (cp_H aH (fun j => hT j 0), sH), (cp_T (hT 0), sH0), (cp_T (hT 1), sH1), (cp_T (hT 2), sH2), (cp_T (hT 3), sH3), (cp_O aO, sO)])) (fun _ => rfl) (fun _ => rfl) 0 0 rfl rfl rfl rfl rfl hl.1 rfl rfl dL_isAhead_118 ⟨Nat.le_refl _, Nat.le_refl _⟩ (fun r118 u H locs h hP hD hS => ?_)
      obtain ⟨sS_118, sW_118, sV_118, sU_118⟩ := u
      dsimp only at h
      have hP : va_P D vwCl (jx_ws cI cT [(cp_B aB (aT 0) (aS 0) (aC 0) (aU 0) (aV 0) (aW 0) (aH 0) (aO 0), sB), (cp_C aC (aT 0) (aS 0), sC), (cp_S aS (aT 0), sS_118), (cp_T aT, sT), (cp_C aW (aU 0) (aV 0), sW_118), (cp_S aV (aU 0), sV_118), (cp_T aU, sU_118), (cp_H aH (fun j => hT j 0), sH), (cp_T (hT 0), sH0), (cp_T (hT 1), sH1), (cp_T (hT 2), sH2), (cp_T (hT 3), sH3), (cp_O aO, sO)]) H := hP
      have hD : va_D A (jx_ws cI cT [(cp_B aB (aT 0) (aS 0) (aC 0) (aU 0) (aV 0) (aW 0) (aH 0) (aO 0), sB), (cp_C aC (aT 0) (aS 0), sC), (cp_S aS (aT 0), sS_118), (cp_T aT, sT), (cp_C aW (aU 0) (aV 0), sW_118), (cp_S aV (aU 0), sV_118), (cp_T aU, sU_118), (cp_H aH (fun j => hT j 0), sH), (cp_T (hT 0), sH0), (cp_T (hT 1), sH1), (cp_T (hT 2), sH2), (cp_T (hT 3), sH3), (cp_O aO, sO)]) := hD
      refine lv_istore (lv' := [(12, .int (jx_i r118)), (11, .int (jx_i r105)), (10, .int (jx_i r92)), (0, .ref (aB 0)), (1, .int (jx_i l1)), (2, .int (jx_i l2)), (5, .long L5), (7, .int (jx_i l7)), (8, .int (jx_i l8)), (9, .int (jx_i l9))]) hx hb dL_isAhead_121 hl (by decide) rfl (fun ls hl => ?_)
      refine lv_aload_n hx hb dL_isAhead_123 rfl (lv_at hl 3 rfl) ?_
      refine lv_iload_n hx hb dL_isAhead_124 rfl (lv_at hl 4 rfl) ?_
      refine lv_iload_n hx hb dL_isAhead_125 rfl (lv_at hl 5 rfl) ?_
      refine lv_iload hx hb dL_isAhead_126 (lv_at hl 7 rfl) ?_
      refine lv_iload hx hb dL_isAhead_128 (lv_at hl 8 rfl) ?_
      refine jx_iconst C dL_isAhead_130 ?_
      refine jx_callVI C hK hP hD hS hA (ct_B_would l D cI cT aB aC aS aT aW aV aU aH hT aO _ sB sS_118 sT sW_118 sV_118 sU_118 l1 l2 l7 l8 3 h) ms_X7_would lk_L_58 [0, 2, 3, 4, 5, 6] rfl rfl (fun _ => rfl) (cs' := (fun u => [(cp_B aB (aT 0) (aS 0) (aC 0) (aU 0) (aV 0) (aW 0) (aH 0) (aO 0), sB), (cp_C aC (aT 0) (aS 0), sC), (cp_S aS (aT 0), u.1), (cp_T aT, sT), (cp_C aW (aU 0) (aV 0), u.2.1), (cp_S aV (aU 0), u.2.2.1), (cp_T aU, u.2.2.2), (cp_H aH (fun j => hT j 0), sH), (cp_T (hT 0), sH0), (cp_T (hT 1), sH1), (cp_T (hT 2), sH2), (cp_T (hT 3), sH3), (cp_O aO, sO)])) (fun _ => rfl) (fun _ => rfl) 0 0 rfl rfl rfl rfl rfl hl.1 rfl rfl dL_isAhead_131 ⟨Nat.le_refl _, Nat.le_refl _⟩ (fun r131 u H locs h hP hD hS => ?_)
      obtain ⟨sS_131, sW_131, sV_131, sU_131⟩ := u
      dsimp only at h
      have hP : va_P D vwCl (jx_ws cI cT [(cp_B aB (aT 0) (aS 0) (aC 0) (aU 0) (aV 0) (aW 0) (aH 0) (aO 0), sB), (cp_C aC (aT 0) (aS 0), sC), (cp_S aS (aT 0), sS_131), (cp_T aT, sT), (cp_C aW (aU 0) (aV 0), sW_131), (cp_S aV (aU 0), sV_131), (cp_T aU, sU_131), (cp_H aH (fun j => hT j 0), sH), (cp_T (hT 0), sH0), (cp_T (hT 1), sH1), (cp_T (hT 2), sH2), (cp_T (hT 3), sH3), (cp_O aO, sO)]) H := hP
      have hD : va_D A (jx_ws cI cT [(cp_B aB (aT 0) (aS 0) (aC 0) (aU 0) (aV 0) (aW 0) (aH 0) (aO 0), sB), (cp_C aC (aT 0) (aS 0), sC), (cp_S aS (aT 0), sS_131), (cp_T aT, sT), (cp_C aW (aU 0) (aV 0), sW_131), (cp_S aV (aU 0), sV_131), (cp_T aU, sU_131), (cp_H aH (fun j => hT j 0), sH), (cp_T (hT 0), sH0), (cp_T (hT 1), sH1), (cp_T (hT 2), sH2), (cp_T (hT 3), sH3), (cp_O aO, sO)]) := hD
      refine lv_istore (lv' := [(13, .int (jx_i r131)), (12, .int (jx_i r118)), (11, .int (jx_i r105)), (10, .int (jx_i r92)), (0, .ref (aB 0)), (1, .int (jx_i l1)), (2, .int (jx_i l2)), (5, .long L5), (7, .int (jx_i l7)), (8, .int (jx_i l8)), (9, .int (jx_i l9))]) hx hb dL_isAhead_134 hl (by decide) rfl (fun ls hl => ?_)
      refine lv_aload_n hx hb dL_isAhead_136 rfl (lv_at hl 4 rfl) ?_
      refine lv_iload_n hx hb dL_isAhead_137 rfl (lv_at hl 5 rfl) ?_
      refine lv_iload_n hx hb dL_isAhead_138 rfl (lv_at hl 6 rfl) ?_
      refine lv_iload hx hb dL_isAhead_139 (lv_at hl 8 rfl) ?_
      refine lv_iload hx hb dL_isAhead_141 (lv_at hl 9 rfl) ?_
      refine jx_iconst C dL_isAhead_143 ?_
      refine jx_callVI C hK hP hD hS hA (ct_B_would l D cI cT aB aC aS aT aW aV aU aH hT aO _ sB sS_131 sT sW_131 sV_131 sU_131 l1 l2 l7 l8 4 h) ms_X7_would lk_L_58 [0, 2, 3, 4, 5, 6] rfl rfl (fun _ => rfl) (cs' := (fun u => [(cp_B aB (aT 0) (aS 0) (aC 0) (aU 0) (aV 0) (aW 0) (aH 0) (aO 0), sB), (cp_C aC (aT 0) (aS 0), sC), (cp_S aS (aT 0), u.1), (cp_T aT, sT), (cp_C aW (aU 0) (aV 0), u.2.1), (cp_S aV (aU 0), u.2.2.1), (cp_T aU, u.2.2.2), (cp_H aH (fun j => hT j 0), sH), (cp_T (hT 0), sH0), (cp_T (hT 1), sH1), (cp_T (hT 2), sH2), (cp_T (hT 3), sH3), (cp_O aO, sO)])) (fun _ => rfl) (fun _ => rfl) 0 0 rfl rfl rfl rfl rfl hl.1 rfl rfl dL_isAhead_144 ⟨Nat.le_refl _, Nat.le_refl _⟩ (fun r144 u H locs h hP hD hS => ?_)
      obtain ⟨sS_144, sW_144, sV_144, sU_144⟩ := u
      dsimp only at h
      have hP : va_P D vwCl (jx_ws cI cT [(cp_B aB (aT 0) (aS 0) (aC 0) (aU 0) (aV 0) (aW 0) (aH 0) (aO 0), sB), (cp_C aC (aT 0) (aS 0), sC), (cp_S aS (aT 0), sS_144), (cp_T aT, sT), (cp_C aW (aU 0) (aV 0), sW_144), (cp_S aV (aU 0), sV_144), (cp_T aU, sU_144), (cp_H aH (fun j => hT j 0), sH), (cp_T (hT 0), sH0), (cp_T (hT 1), sH1), (cp_T (hT 2), sH2), (cp_T (hT 3), sH3), (cp_O aO, sO)]) H := hP
      have hD : va_D A (jx_ws cI cT [(cp_B aB (aT 0) (aS 0) (aC 0) (aU 0) (aV 0) (aW 0) (aH 0) (aO 0), sB), (cp_C aC (aT 0) (aS 0), sC), (cp_S aS (aT 0), sS_144), (cp_T aT, sT), (cp_C aW (aU 0) (aV 0), sW_144), (cp_S aV (aU 0), sV_144), (cp_T aU, sU_144), (cp_H aH (fun j => hT j 0), sH), (cp_T (hT 0), sH0), (cp_T (hT 1), sH1), (cp_T (hT 2), sH2), (cp_T (hT 3), sH3), (cp_O aO, sO)]) := hD
      refine lv_istore (lv' := [(14, .int (jx_i r144)), (13, .int (jx_i r131)), (12, .int (jx_i r118)), (11, .int (jx_i r105)), (10, .int (jx_i r92)), (0, .ref (aB 0)), (1, .int (jx_i l1)), (2, .int (jx_i l2)), (5, .long L5), (7, .int (jx_i l7)), (8, .int (jx_i l8)), (9, .int (jx_i l9))]) hx hb dL_isAhead_147 hl (by decide) rfl (fun ls hl => ?_)
      refine lv_aload_n hx hb dL_isAhead_149 rfl (lv_at hl 5 rfl) ?_
      refine jx_iconst C dL_isAhead_150 ?_
      refine jx_callVI C hK hP hD hS hA (ct_B_count l D cI cT aB aC aS aT aW aV aU aH hT aO _ sB sC sS_144 sT sH sO 5 h) ms_X7_count lk_L_13 [0, 1, 2, 3, 7, 12] rfl rfl (fun _ => rfl) (cs' := (fun u => [(cp_B aB (aT 0) (aS 0) (aC 0) (aU 0) (aV 0) (aW 0) (aH 0) (aO 0), sB), (cp_C aC (aT 0) (aS 0), sC), (cp_S aS (aT 0), u), (cp_T aT, sT), (cp_C aW (aU 0) (aV 0), sW_144), (cp_S aV (aU 0), sV_144), (cp_T aU, sU_144), (cp_H aH (fun j => hT j 0), sH), (cp_T (hT 0), sH0), (cp_T (hT 1), sH1), (cp_T (hT 2), sH2), (cp_T (hT 3), sH3), (cp_O aO, sO)])) (fun _ => rfl) (fun _ => rfl) 0 0 rfl rfl rfl rfl rfl hl.1 rfl rfl dL_isAhead_151 ⟨Nat.le_refl _, Nat.le_refl _⟩ (fun r151 sS_151 H locs h hP hD hS => ?_)
      have hP : va_P D vwCl (jx_ws cI cT [(cp_B aB (aT 0) (aS 0) (aC 0) (aU 0) (aV 0) (aW 0) (aH 0) (aO 0), sB), (cp_C aC (aT 0) (aS 0), sC), (cp_S aS (aT 0), sS_151), (cp_T aT, sT), (cp_C aW (aU 0) (aV 0), sW_144), (cp_S aV (aU 0), sV_144), (cp_T aU, sU_144), (cp_H aH (fun j => hT j 0), sH), (cp_T (hT 0), sH0), (cp_T (hT 1), sH1), (cp_T (hT 2), sH2), (cp_T (hT 3), sH3), (cp_O aO, sO)]) H := hP
      have hD : va_D A (jx_ws cI cT [(cp_B aB (aT 0) (aS 0) (aC 0) (aU 0) (aV 0) (aW 0) (aH 0) (aO 0), sB), (cp_C aC (aT 0) (aS 0), sC), (cp_S aS (aT 0), sS_151), (cp_T aT, sT), (cp_C aW (aU 0) (aV 0), sW_144), (cp_S aV (aU 0), sV_144), (cp_T aU, sU_144), (cp_H aH (fun j => hT j 0), sH), (cp_T (hT 0), sH0), (cp_T (hT 1), sH1), (cp_T (hT 2), sH2), (cp_T (hT 3), sH3), (cp_O aO, sO)]) := hD
      refine lv_istore (lv' := [(15, .int (jx_i r151)), (14, .int (jx_i r144)), (13, .int (jx_i r131)), (12, .int (jx_i r118)), (11, .int (jx_i r105)), (10, .int (jx_i r92)), (0, .ref (aB 0)), (1, .int (jx_i l1)), (2, .int (jx_i l2)), (5, .long L5), (7, .int (jx_i l7)), (8, .int (jx_i l8)), (9, .int (jx_i l9))]) hx hb dL_isAhead_154 hl (by decide) rfl (fun ls hl => ?_)
      refine lv_aload_n hx hb dL_isAhead_156 rfl (lv_at hl 6 rfl) ?_
      refine jx_bipush C dL_isAhead_157 (by decide) ?_
      refine jx_callVI C hK hP hD hS hA (ct_B_count l D cI cT aB aC aS aT aW aV aU aH hT aO _ sB sC sS_151 sT sH sO 6 h) ms_X7_count lk_L_13 [0, 1, 2, 3, 7, 12] rfl rfl (fun _ => rfl) (cs' := (fun u => [(cp_B aB (aT 0) (aS 0) (aC 0) (aU 0) (aV 0) (aW 0) (aH 0) (aO 0), sB), (cp_C aC (aT 0) (aS 0), sC), (cp_S aS (aT 0), u), (cp_T aT, sT), (cp_C aW (aU 0) (aV 0), sW_144), (cp_S aV (aU 0), sV_144), (cp_T aU, sU_144), (cp_H aH (fun j => hT j 0), sH), (cp_T (hT 0), sH0), (cp_T (hT 1), sH1), (cp_T (hT 2), sH2), (cp_T (hT 3), sH3), (cp_O aO, sO)])) (fun _ => rfl) (fun _ => rfl) 0 0 rfl rfl rfl rfl rfl hl.1 rfl rfl dL_isAhead_159 ⟨Nat.le_refl _, Nat.le_refl _⟩ (fun r159 sS_159 H locs h hP hD hS => ?_)
      have hP : va_P D vwCl (jx_ws cI cT [(cp_B aB (aT 0) (aS 0) (aC 0) (aU 0) (aV 0) (aW 0) (aH 0) (aO 0), sB), (cp_C aC (aT 0) (aS 0), sC), (cp_S aS (aT 0), sS_159), (cp_T aT, sT), (cp_C aW (aU 0) (aV 0), sW_144), (cp_S aV (aU 0), sV_144), (cp_T aU, sU_144), (cp_H aH (fun j => hT j 0), sH), (cp_T (hT 0), sH0), (cp_T (hT 1), sH1), (cp_T (hT 2), sH2), (cp_T (hT 3), sH3), (cp_O aO, sO)]) H := hP
      have hD : va_D A (jx_ws cI cT [(cp_B aB (aT 0) (aS 0) (aC 0) (aU 0) (aV 0) (aW 0) (aH 0) (aO 0), sB), (cp_C aC (aT 0) (aS 0), sC), (cp_S aS (aT 0), sS_159), (cp_T aT, sT), (cp_C aW (aU 0) (aV 0), sW_144), (cp_S aV (aU 0), sV_144), (cp_T aU, sU_144), (cp_H aH (fun j => hT j 0), sH), (cp_T (hT 0), sH0), (cp_T (hT 1), sH1), (cp_T (hT 2), sH2), (cp_T (hT 3), sH3), (cp_O aO, sO)]) := hD
      refine lv_istore (lv' := [(16, .int (jx_i r159)), (15, .int (jx_i r151)), (14, .int (jx_i r144)), (13, .int (jx_i r131)), (12, .int (jx_i r118)), (11, .int (jx_i r105)), (10, .int (jx_i r92)), (0, .ref (aB 0)), (1, .int (jx_i l1)), (2, .int (jx_i l2)), (5, .long L5), (7, .int (jx_i l7)), (8, .int (jx_i l8)), (9, .int (jx_i l9))]) hx hb dL_isAhead_162 hl (by decide) rfl (fun ls hl => ?_)
      refine lv_iload hx hb dL_isAhead_164 (lv_at hl 5 rfl) ?_
      refine lv_aload_n hx hb dL_isAhead_166 rfl (lv_at hl 7 rfl) ?_
      refine jx_iconst C dL_isAhead_167 ?_
      refine lv_iload hx hb dL_isAhead_168 (lv_at hl 6 rfl) ?_
      refine jx_iconst C dL_isAhead_170 ?_
      refine jx_callVI C hK hP hD hS hA (ct_B_nodeOf l D cI cT aB aC aS aT aW aV aU aH hT aO _ sB sS_159 sT 0 r92 4 h) ms_X7_nodeOf lk_L_23 [0, 2, 3] rfl rfl (fun _ => rfl) (cs' := (fun u => [(cp_B aB (aT 0) (aS 0) (aC 0) (aU 0) (aV 0) (aW 0) (aH 0) (aO 0), sB), (cp_C aC (aT 0) (aS 0), sC), (cp_S aS (aT 0), u), (cp_T aT, sT), (cp_C aW (aU 0) (aV 0), sW_144), (cp_S aV (aU 0), sV_144), (cp_T aU, sU_144), (cp_H aH (fun j => hT j 0), sH), (cp_T (hT 0), sH0), (cp_T (hT 1), sH1), (cp_T (hT 2), sH2), (cp_T (hT 3), sH3), (cp_O aO, sO)])) (fun _ => rfl) (fun _ => rfl) 0 0 rfl rfl rfl rfl rfl hl.1 rfl rfl dL_isAhead_171 ⟨Nat.le_refl _, Nat.le_refl _⟩ (fun r171 sS_171 H locs h hP hD hS => ?_)
      have hP : va_P D vwCl (jx_ws cI cT [(cp_B aB (aT 0) (aS 0) (aC 0) (aU 0) (aV 0) (aW 0) (aH 0) (aO 0), sB), (cp_C aC (aT 0) (aS 0), sC), (cp_S aS (aT 0), sS_171), (cp_T aT, sT), (cp_C aW (aU 0) (aV 0), sW_144), (cp_S aV (aU 0), sV_144), (cp_T aU, sU_144), (cp_H aH (fun j => hT j 0), sH), (cp_T (hT 0), sH0), (cp_T (hT 1), sH1), (cp_T (hT 2), sH2), (cp_T (hT 3), sH3), (cp_O aO, sO)]) H := hP
      have hD : va_D A (jx_ws cI cT [(cp_B aB (aT 0) (aS 0) (aC 0) (aU 0) (aV 0) (aW 0) (aH 0) (aO 0), sB), (cp_C aC (aT 0) (aS 0), sC), (cp_S aS (aT 0), sS_171), (cp_T aT, sT), (cp_C aW (aU 0) (aV 0), sW_144), (cp_S aV (aU 0), sV_144), (cp_T aU, sU_144), (cp_H aH (fun j => hT j 0), sH), (cp_T (hT 0), sH0), (cp_T (hT 1), sH1), (cp_T (hT 2), sH2), (cp_T (hT 3), sH3), (cp_O aO, sO)]) := hD
      refine jx_iconst C dL_isAhead_174 ?_
      refine jx_ene C h.1 (tgt := 182) dL_isAhead_175 (by decide) (fun hc => ?_) (fun hc => ?_)
      · have h := h.2.2 hc
        refine jx_iconst C dL_isAhead_182 ?_
        exact J183 sC sS_171 sT sW_144 sV_144 sU_144 sH sH0 sH1 sH2 sH3 L5 l7 l8 l9 r92 r105 r118 r131 r144 r151 r159 r105 0 h _ _ hP hD hS ls (lv_sub hl [7, 8, 9, 10, 11, 12, 13, 6, 5, 4, 3, 2, 1, 0] rfl)
      · have h := h.2.1 hc
        refine jx_iconst C dL_isAhead_178 ?_
        refine lv_goto (tgt := 183) hx hb dL_isAhead_179 (by decide) ?_
        exact J183 sC sS_171 sT sW_144 sV_144 sU_144 sH sH0 sH1 sH2 sH3 L5 l7 l8 l9 r92 r105 r118 r131 r144 r151 r159 r105 1 h _ _ hP hD hS ls (lv_sub hl [7, 8, 9, 10, 11, 12, 13, 6, 5, 4, 3, 2, 1, 0] rfl)
    · have h := h.2.1 hc
      refine lv_aload_n hx hb dL_isAhead_62 rfl (lv_at hl 0 rfl) ?_
      refine lv_iload_n hx hb dL_isAhead_63 rfl (lv_at hl 1 rfl) ?_
      refine lv_iload_n hx hb dL_isAhead_64 rfl (lv_at hl 2 rfl) ?_
      refine lv_iload hx hb dL_isAhead_65 (lv_at hl 4 rfl) ?_
      refine lv_iload hx hb dL_isAhead_67 (lv_at hl 5 rfl) ?_
      refine jx_iconst C dL_isAhead_69 ?_
      refine jx_callVI C hK hP hD hS hA (ct_B_would l D cI cT aB aC aS aT aW aV aU aH hT aO _ sB sS sT sW sV sU l1 l2 l7 l8 0 h) ms_X7_would lk_L_58 [0, 2, 3, 4, 5, 6] rfl rfl (fun _ => rfl) (cs' := (fun u => [(cp_B aB (aT 0) (aS 0) (aC 0) (aU 0) (aV 0) (aW 0) (aH 0) (aO 0), sB), (cp_C aC (aT 0) (aS 0), sC), (cp_S aS (aT 0), u.1), (cp_T aT, sT), (cp_C aW (aU 0) (aV 0), u.2.1), (cp_S aV (aU 0), u.2.2.1), (cp_T aU, u.2.2.2), (cp_H aH (fun j => hT j 0), sH), (cp_T (hT 0), sH0), (cp_T (hT 1), sH1), (cp_T (hT 2), sH2), (cp_T (hT 3), sH3), (cp_O aO, sO)])) (fun _ => rfl) (fun _ => rfl) 0 0 rfl rfl rfl rfl rfl hl.1 rfl rfl dL_isAhead_70 ⟨Nat.le_refl _, Nat.le_refl _⟩ (fun r70 u H locs h hP hD hS => ?_)
      obtain ⟨sS_70, sW_70, sV_70, sU_70⟩ := u
      dsimp only at h
      have hP : va_P D vwCl (jx_ws cI cT [(cp_B aB (aT 0) (aS 0) (aC 0) (aU 0) (aV 0) (aW 0) (aH 0) (aO 0), sB), (cp_C aC (aT 0) (aS 0), sC), (cp_S aS (aT 0), sS_70), (cp_T aT, sT), (cp_C aW (aU 0) (aV 0), sW_70), (cp_S aV (aU 0), sV_70), (cp_T aU, sU_70), (cp_H aH (fun j => hT j 0), sH), (cp_T (hT 0), sH0), (cp_T (hT 1), sH1), (cp_T (hT 2), sH2), (cp_T (hT 3), sH3), (cp_O aO, sO)]) H := hP
      have hD : va_D A (jx_ws cI cT [(cp_B aB (aT 0) (aS 0) (aC 0) (aU 0) (aV 0) (aW 0) (aH 0) (aO 0), sB), (cp_C aC (aT 0) (aS 0), sC), (cp_S aS (aT 0), sS_70), (cp_T aT, sT), (cp_C aW (aU 0) (aV 0), sW_70), (cp_S aV (aU 0), sV_70), (cp_T aU, sU_70), (cp_H aH (fun j => hT j 0), sH), (cp_T (hT 0), sH0), (cp_T (hT 1), sH1), (cp_T (hT 2), sH2), (cp_T (hT 3), sH3), (cp_O aO, sO)]) := hD
      refine jx_ldc C (-1000002) kc_L_70 dL_isAhead_73 ?_
      refine jx_ene C h.1 (tgt := 82) dL_isAhead_75 (by decide) (fun hc => ?_) (fun hc => ?_)
      · have h := h.2.2 hc
        refine jx_iconst C dL_isAhead_82 ?_
        exact jx_rZ C hr hlk hAe hS hQQ (by decide) (sC, sS_70, sT, sW_70, sV_70, sU_70, sH, sH0, sH1, sH2, sH3) hP h dL_isAhead_83
      · have h := h.2.1 hc
        refine jx_iconst C dL_isAhead_78 ?_
        refine lv_goto (tgt := 83) hx hb dL_isAhead_79 (by decide) ?_
        exact jx_rZ C hr hlk hAe hS hQQ (by decide) (sC, sS_70, sT, sW_70, sV_70, sU_70, sH, sH0, sH1, sH2, sH3) hP h dL_isAhead_83
  refine lv_aload_n hx hb dL_isAhead_0 rfl (lv_at hl 0 rfl) ?_
  refine jx_callSL C hK hP hD hS hA (ct_L_print l D cI cT aB aC aS aT aW aV aU aH hT aO _ sB sC sS sT sH sO  h) ms_L_print lk_L_30 [0, 1, 2, 3, 7, 12] rfl rfl (fun _ => rfl) (cs' := (fun u => [(cp_B aB (aT 0) (aS 0) (aC 0) (aU 0) (aV 0) (aW 0) (aH 0) (aO 0), sB), (cp_C aC (aT 0) (aS 0), sC), (cp_S aS (aT 0), u), (cp_T aT, sT), (cp_C aW (aU 0) (aV 0), sW), (cp_S aV (aU 0), sV), (cp_T aU, sU), (cp_H aH (fun j => hT j 0), sH), (cp_T (hT 0), sH0), (cp_T (hT 1), sH1), (cp_T (hT 2), sH2), (cp_T (hT 3), sH3), (cp_O aO, sO)])) (fun _ => rfl) (fun _ => rfl) rfl rfl hl.1 rfl rfl dL_isAhead_1 ⟨Nat.le_refl _, Nat.le_refl _⟩ (fun r1 sS_1 H locs h hP hD hS => ?_)
  have hP : va_P D vwCl (jx_ws cI cT [(cp_B aB (aT 0) (aS 0) (aC 0) (aU 0) (aV 0) (aW 0) (aH 0) (aO 0), sB), (cp_C aC (aT 0) (aS 0), sC), (cp_S aS (aT 0), sS_1), (cp_T aT, sT), (cp_C aW (aU 0) (aV 0), sW), (cp_S aV (aU 0), sV), (cp_T aU, sU), (cp_H aH (fun j => hT j 0), sH), (cp_T (hT 0), sH0), (cp_T (hT 1), sH1), (cp_T (hT 2), sH2), (cp_T (hT 3), sH3), (cp_O aO, sO)]) H := hP
  have hD : va_D A (jx_ws cI cT [(cp_B aB (aT 0) (aS 0) (aC 0) (aU 0) (aV 0) (aW 0) (aH 0) (aO 0), sB), (cp_C aC (aT 0) (aS 0), sC), (cp_S aS (aT 0), sS_1), (cp_T aT, sT), (cp_C aW (aU 0) (aV 0), sW), (cp_S aV (aU 0), sV), (cp_T aU, sU), (cp_H aH (fun j => hT j 0), sH), (cp_T (hT 0), sH0), (cp_T (hT 1), sH1), (cp_T (hT 2), sH2), (cp_T (hT 3), sH3), (cp_O aO, sO)]) := hD
  refine lv_lstore (lv' := [(5, .long r1), (0, .ref (aB 0)), (1, .int (jx_i l1)), (2, .int (jx_i l2)), (3, .int (jx_i l3)), (4, .int (jx_i l4))]) hx hb dL_isAhead_4 hl (by decide) rfl (fun ls hl => ?_)
  refine jx_bipush C dL_isAhead_6 (by decide) ?_
  refine lv_iload_n hx hb dL_isAhead_8 rfl (lv_at hl 2 rfl) ?_
  refine lv_iload_n hx hb dL_isAhead_9 rfl (lv_at hl 4 rfl) ?_
  refine jx_iadd C dL_isAhead_10 ?_
  refine jx_callSI C hK hP hD hS hA (ct_L_lesser l D cI cT  _  99 (l1 + l3) h) ms_L_lesser lk_L_71 [] rfl rfl (fun _ => rfl) (cs' := (fun _ => [(cp_B aB (aT 0) (aS 0) (aC 0) (aU 0) (aV 0) (aW 0) (aH 0) (aO 0), sB), (cp_C aC (aT 0) (aS 0), sC), (cp_S aS (aT 0), sS_1), (cp_T aT, sT), (cp_C aW (aU 0) (aV 0), sW), (cp_S aV (aU 0), sV), (cp_T aU, sU), (cp_H aH (fun j => hT j 0), sH), (cp_T (hT 0), sH0), (cp_T (hT 1), sH1), (cp_T (hT 2), sH2), (cp_T (hT 3), sH3), (cp_O aO, sO)])) (fun _ => rfl) (fun _ => rfl) rfl rfl hl.1 rfl rfl dL_isAhead_11 ⟨Nat.le_refl _, Nat.le_refl _⟩ (fun r11 _ H locs h hP hD hS => ?_)
  have hP : va_P D vwCl (jx_ws cI cT [(cp_B aB (aT 0) (aS 0) (aC 0) (aU 0) (aV 0) (aW 0) (aH 0) (aO 0), sB), (cp_C aC (aT 0) (aS 0), sC), (cp_S aS (aT 0), sS_1), (cp_T aT, sT), (cp_C aW (aU 0) (aV 0), sW), (cp_S aV (aU 0), sV), (cp_T aU, sU), (cp_H aH (fun j => hT j 0), sH), (cp_T (hT 0), sH0), (cp_T (hT 1), sH1), (cp_T (hT 2), sH2), (cp_T (hT 3), sH3), (cp_O aO, sO)]) H := hP
  have hD : va_D A (jx_ws cI cT [(cp_B aB (aT 0) (aS 0) (aC 0) (aU 0) (aV 0) (aW 0) (aH 0) (aO 0), sB), (cp_C aC (aT 0) (aS 0), sC), (cp_S aS (aT 0), sS_1), (cp_T aT, sT), (cp_C aW (aU 0) (aV 0), sW), (cp_S aV (aU 0), sV), (cp_T aU, sU), (cp_H aH (fun j => hT j 0), sH), (cp_T (hT 0), sH0), (cp_T (hT 1), sH1), (cp_T (hT 2), sH2), (cp_T (hT 3), sH3), (cp_O aO, sO)]) := hD
  refine lv_istore (lv' := [(7, .int (jx_i r11)), (5, .long r1), (0, .ref (aB 0)), (1, .int (jx_i l1)), (2, .int (jx_i l2)), (3, .int (jx_i l3)), (4, .int (jx_i l4))]) hx hb dL_isAhead_14 hl (by decide) rfl (fun ls hl => ?_)
  refine jx_bipush C dL_isAhead_16 (by decide) ?_
  refine lv_iload_n hx hb dL_isAhead_18 rfl (lv_at hl 4 rfl) ?_
  refine lv_iload hx hb dL_isAhead_19 (lv_at hl 6 rfl) ?_
  refine jx_iadd C dL_isAhead_21 ?_
  refine jx_callSI C hK hP hD hS hA (ct_L_lesser l D cI cT  _  99 (l2 + l4) h) ms_L_lesser lk_L_71 [] rfl rfl (fun _ => rfl) (cs' := (fun _ => [(cp_B aB (aT 0) (aS 0) (aC 0) (aU 0) (aV 0) (aW 0) (aH 0) (aO 0), sB), (cp_C aC (aT 0) (aS 0), sC), (cp_S aS (aT 0), sS_1), (cp_T aT, sT), (cp_C aW (aU 0) (aV 0), sW), (cp_S aV (aU 0), sV), (cp_T aU, sU), (cp_H aH (fun j => hT j 0), sH), (cp_T (hT 0), sH0), (cp_T (hT 1), sH1), (cp_T (hT 2), sH2), (cp_T (hT 3), sH3), (cp_O aO, sO)])) (fun _ => rfl) (fun _ => rfl) rfl rfl hl.1 rfl rfl dL_isAhead_22 ⟨Nat.le_refl _, Nat.le_refl _⟩ (fun r22 _ H locs h hP hD hS => ?_)
  have hP : va_P D vwCl (jx_ws cI cT [(cp_B aB (aT 0) (aS 0) (aC 0) (aU 0) (aV 0) (aW 0) (aH 0) (aO 0), sB), (cp_C aC (aT 0) (aS 0), sC), (cp_S aS (aT 0), sS_1), (cp_T aT, sT), (cp_C aW (aU 0) (aV 0), sW), (cp_S aV (aU 0), sV), (cp_T aU, sU), (cp_H aH (fun j => hT j 0), sH), (cp_T (hT 0), sH0), (cp_T (hT 1), sH1), (cp_T (hT 2), sH2), (cp_T (hT 3), sH3), (cp_O aO, sO)]) H := hP
  have hD : va_D A (jx_ws cI cT [(cp_B aB (aT 0) (aS 0) (aC 0) (aU 0) (aV 0) (aW 0) (aH 0) (aO 0), sB), (cp_C aC (aT 0) (aS 0), sC), (cp_S aS (aT 0), sS_1), (cp_T aT, sT), (cp_C aW (aU 0) (aV 0), sW), (cp_S aV (aU 0), sV), (cp_T aU, sU), (cp_H aH (fun j => hT j 0), sH), (cp_T (hT 0), sH0), (cp_T (hT 1), sH1), (cp_T (hT 2), sH2), (cp_T (hT 3), sH3), (cp_O aO, sO)]) := hD
  refine lv_istore (lv' := [(8, .int (jx_i r22)), (7, .int (jx_i r11)), (5, .long r1), (0, .ref (aB 0)), (1, .int (jx_i l1)), (2, .int (jx_i l2)), (3, .int (jx_i l3)), (4, .int (jx_i l4))]) hx hb dL_isAhead_25 hl (by decide) rfl (fun ls hl => ?_)
  refine jx_iconst C dL_isAhead_27 ?_
  refine lv_istore (lv' := [(9, .int (jx_i 0)), (8, .int (jx_i r22)), (7, .int (jx_i r11)), (5, .long r1), (0, .ref (aB 0)), (1, .int (jx_i l1)), (2, .int (jx_i l2)), (3, .int (jx_i l3)), (4, .int (jx_i l4))]) hx hb dL_isAhead_28 hl (by decide) rfl (fun ls hl => ?_)
  obtain ⟨n, h⟩ := h
  refine Lo30 sC sT sW sV sU sH sH0 sH1 sH2 sH3 r1 r11 r22 _ n sS_1 0 h ?_ _ _ hP hD hS ls (lv_sub hl [4, 5, 6, 3, 2, 1, 0] rfl)
  · intro sS l9 h H locs hP hD hS ls hl
    exact J55 sC sS sT sW sV sU sH sH0 sH1 sH2 sH3 r1 r11 r22 l9 h _ _ hP hD hS ls (lv_sub hl [0, 1, 2, 3, 4, 5, 6] rfl)
