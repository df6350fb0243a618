set_option maxRecDepth 100000 in
set_option maxHeartbeats 4000000 in
theorem ct_L_refused (l : Launch) (D : va_G) (cI cT : ClassId) (aB : Nat → Nat) (aC : Nat → Nat) (aS : Nat → Nat) (aT : Nat → Nat) (aW : Nat → Nat) (aV : Nat → Nat) (aU : Nat → Nat) (aH : Nat → Nat) (hT : Nat → Nat → Nat) (aO : Nat → Nat) (Q : Int → jx_St → jx_St → jx_St → jx_St → jx_St → jx_St → jx_St → jx_St → jx_St → jx_St → jx_St → jx_St → jx_St → Prop) (sB : jx_St) (sC : jx_St) (sS : jx_St) (sT : jx_St) (sW : jx_St) (sV : jx_St) (sU : jx_St) (sH : jx_St) (sH0 : jx_St) (sH1 : jx_St) (sH2 : jx_St) (sH3 : jx_St) (sO : jx_St) (l1 : Int) (h : wp_L_refused Q sB sC sS sT sW sV sU sH sH0 sH1 sH2 sH3 sO l1) : jx_KI (jx_St × jx_St × jx_St × jx_St × jx_St × jx_St × jx_St × jx_St × jx_St × jx_St × jx_St × jx_St × jx_St) l D cI cT yL_refused cL_refused 8 .boolean 8 202 [.ref (aB 0), .int (jx_i l1)] [(cp_B aB (aT 0) (aS 0) (aC 0) (aU 0) (aV 0) (aW 0) (aH 0) (aO 0), sB), (cp_C aC (aT 0) (aS 0), sC), (cp_S aS (aT 0), sS), (cp_T aT, sT), (cp_C aW (aU 0) (aV 0), sW), (cp_S aV (aU 0), sV), (cp_T aU, sU), (cp_H aH (fun j => hT j 0), sH), (cp_T (hT 0), sH0), (cp_T (hT 1), sH1), (cp_T (hT 2), sH2), (cp_T (hT 3), sH3), (cp_O aO, sO)] (fun u => [(cp_B aB (aT 0) (aS 0) (aC 0) (aU 0) (aV 0) (aW 0) (aH 0) (aO 0), u.1), (cp_C aC (aT 0) (aS 0), u.2.1), (cp_S aS (aT 0), u.2.2.1), (cp_T aT, u.2.2.2.1), (cp_C aW (aU 0) (aV 0), u.2.2.2.2.1), (cp_S aV (aU 0), u.2.2.2.2.2.1), (cp_T aU, u.2.2.2.2.2.2.1), (cp_H aH (fun j => hT j 0), u.2.2.2.2.2.2.2.1), (cp_T (hT 0), u.2.2.2.2.2.2.2.2.1), (cp_T (hT 1), u.2.2.2.2.2.2.2.2.2.1), (cp_T (hT 2), u.2.2.2.2.2.2.2.2.2.2.1), (cp_T (hT 3), u.2.2.2.2.2.2.2.2.2.2.2.1), (cp_O aO, u.2.2.2.2.2.2.2.2.2.2.2.2)]) (fun x u => Q x u.1 u.2.1 u.2.2.1 u.2.2.2.1 u.2.2.2.2.1 u.2.2.2.2.2.1 u.2.2.2.2.2.2.1 u.2.2.2.2.2.2.2.1 u.2.2.2.2.2.2.2.2.1 u.2.2.2.2.2.2.2.2.2.1 u.2.2.2.2.2.2.2.2.2.2.1 u.2.2.2.2.2.2.2.2.2.2.2.1 u.2.2.2.2.2.2.2.2.2.2.2.2) := by
  refine jx_ent (own := RL) (by decide) rfl (Nat.le_of_ble_eq_true rfl) ?_
  intro p e s m args below meth c A QQ C hr hlk hK hAe hA hP hD hS ls hl hQQ
  have hl : lv_has ls 8 [(0, .ref (aB 0)), (1, .int (jx_i l1))] := hl
  have hx := C.1
  have hb := C.2.1
  unfold wp_L_refused at h
  have J551 : ∀ (sB : jx_St) (sC : jx_St) (sS : jx_St) (sT : jx_St) (sW : jx_St) (sV : jx_St) (sU : jx_St) (sH : jx_St) (sH0 : jx_St) (sH1 : jx_St) (sH2 : jx_St) (sH3 : jx_St) (sO : jx_St) (L2 : Int64) (l4 : Int) (l5 : Int) (l7 : Int), wp_L_refused_551 Q l1 sB sC sS sT sW sV sU sH sH0 sH1 sH2 sH3 sO L2 l4 l5 l7 → ∀ (H : Heap) (locs : List Loc), va_P D vwCl (jx_ws cI cT [(cp_B aB (aT 0) (aS 0) (aC 0) (aU 0) (aV 0) (aW 0) (aH 0) (aO 0), sB), (cp_C aC (aT 0) (aS 0), sC), (cp_S aS (aT 0), sS), (cp_T aT, sT), (cp_C aW (aU 0) (aV 0), sW), (cp_S aV (aU 0), sV), (cp_T aU, sU), (cp_H aH (fun j => hT j 0), sH), (cp_T (hT 0), sH0), (cp_T (hT 1), sH1), (cp_T (hT 2), sH2), (cp_T (hT 3), sH3), (cp_O aO, sO)]) H → va_D A (jx_ws cI cT [(cp_B aB (aT 0) (aS 0) (aC 0) (aU 0) (aV 0) (aW 0) (aH 0) (aO 0), sB), (cp_C aC (aT 0) (aS 0), sC), (cp_S aS (aT 0), sS), (cp_T aT, sT), (cp_C aW (aU 0) (aV 0), sW), (cp_S aV (aU 0), sV), (cp_T aU, sU), (cp_H aH (fun j => hT j 0), sH), (cp_T (hT 0), sH0), (cp_T (hT 1), sH1), (cp_T (hT 2), sH2), (cp_T (hT 3), sH3), (cp_O aO, sO)]) → va_S A s.heap H locs → ∀ ls : Array Slot, lv_has ls 8 [(0, .ref (aB 0)), (2, .long L2), (4, .int (jx_i l4)), (5, .int (jx_i l5)), (7, .int (jx_i l7))] → W p l e (jx_rm 8 202) s m args below meth c H locs 0 0 QQ (F0 m 551 ls []) := by
    intro sB sC sS sT sW sV sU sH sH0 sH1 sH2 sH3 sO L2 l4 l5 l7 h H locs hP hD hS ls hl
    unfold wp_L_refused_551 at h
    refine lv_iload hx hb dL_refused_551 (lv_at hl 4 rfl) ?_
    refine jx_zeq C h.1 (tgt := 590) dL_refused_553 (by decide) (fun hc => ?_) (fun hc => ?_)
    · have h := h.2.1 hc
      refine jx_iconst C dL_refused_590 ?_
      exact jx_rZ C hr hlk hAe hS hQQ (by decide) (sB, sC, sS, sT, sW, sV, sU, sH, sH0, sH1, sH2, sH3, sO) hP h dL_refused_591
    · have h := h.2.2 hc
      refine lv_aload_n hx hb dL_refused_556 rfl (lv_at hl 0 rfl) ?_
      refine jx_bipush C dL_refused_557 (by decide) ?_
      refine jx_callVI C hK hP hD hS hA (ct_B_count l D cI cT aB aC aS aT aW aV aU aH hT aO _ sB sC sS sT sH sO 8 h) ms_X7_count lk_L_13 [0, 1, 2, 3, 7, 12] rfl rfl (fun _ => rfl) (cs' := (fun u => [(cp_B aB (aT 0) (aS 0) (aC 0) (aU 0) (aV 0) (aW 0) (aH 0) (aO 0), sB), (cp_C aC (aT 0) (aS 0), sC), (cp_S aS (aT 0), u), (cp_T aT, sT), (cp_C aW (aU 0) (aV 0), sW), (cp_S aV (aU 0), sV), (cp_T aU, sU), (cp_H aH (fun j => hT j 0), sH), (cp_T (hT 0), sH0), (cp_T (hT 1), sH1), (cp_T (hT 2), sH2), (cp_T (hT 3), sH3), (cp_O aO, sO)])) (fun _ => rfl) (fun _ => rfl) 0 0 rfl rfl rfl rfl rfl hl.1 rfl rfl dL_refused_559 ⟨Nat.le_refl _, Nat.le_refl _⟩ (fun r559 sS_559 H locs h hP hD hS => ?_)
      have hP : va_P D vwCl (jx_ws cI cT [(cp_B aB (aT 0) (aS 0) (aC 0) (aU 0) (aV 0) (aW 0) (aH 0) (aO 0), sB), (cp_C aC (aT 0) (aS 0), sC), (cp_S aS (aT 0), sS_559), (cp_T aT, sT), (cp_C aW (aU 0) (aV 0), sW), (cp_S aV (aU 0), sV), (cp_T aU, sU), (cp_H aH (fun j => hT j 0), sH), (cp_T (hT 0), sH0), (cp_T (hT 1), sH1), (cp_T (hT 2), sH2), (cp_T (hT 3), sH3), (cp_O aO, sO)]) H := hP
      have hD : va_D A (jx_ws cI cT [(cp_B aB (aT 0) (aS 0) (aC 0) (aU 0) (aV 0) (aW 0) (aH 0) (aO 0), sB), (cp_C aC (aT 0) (aS 0), sC), (cp_S aS (aT 0), sS_559), (cp_T aT, sT), (cp_C aW (aU 0) (aV 0), sW), (cp_S aV (aU 0), sV), (cp_T aU, sU), (cp_H aH (fun j => hT j 0), sH), (cp_T (hT 0), sH0), (cp_T (hT 1), sH1), (cp_T (hT 2), sH2), (cp_T (hT 3), sH3), (cp_O aO, sO)]) := hD
      refine lv_iload hx hb dL_refused_562 (lv_at hl 2 rfl) ?_
      refine jx_ene C h.1 (tgt := 590) dL_refused_564 (by decide) (fun hc => ?_) (fun hc => ?_)
      · have h := h.2.2 hc
        refine jx_iconst C dL_refused_590 ?_
        exact jx_rZ C hr hlk hAe hS hQQ (by decide) (sB, sC, sS_559, sT, sW, sV, sU, sH, sH0, sH1, sH2, sH3, sO) hP h dL_refused_591
      · have h := h.2.1 hc
        refine lv_aload_n hx hb dL_refused_567 rfl (lv_at hl 0 rfl) ?_
        refine jx_iconst C dL_refused_568 ?_
        refine jx_callVI C hK hP hD hS hA (ct_B_count l D cI cT aB aC aS aT aW aV aU aH hT aO _ sB sC sS_559 sT sH sO 4 h) ms_X7_count lk_L_13 [0, 1, 2, 3, 7, 12] rfl rfl (fun _ => rfl) (cs' := (fun u => [(cp_B aB (aT 0) (aS 0) (aC 0) (aU 0) (aV 0) (aW 0) (aH 0) (aO 0), sB), (cp_C aC (aT 0) (aS 0), sC), (cp_S aS (aT 0), u), (cp_T aT, sT), (cp_C aW (aU 0) (aV 0), sW), (cp_S aV (aU 0), sV), (cp_T aU, sU), (cp_H aH (fun j => hT j 0), sH), (cp_T (hT 0), sH0), (cp_T (hT 1), sH1), (cp_T (hT 2), sH2), (cp_T (hT 3), sH3), (cp_O aO, sO)])) (fun _ => rfl) (fun _ => rfl) 0 0 rfl rfl rfl rfl rfl hl.1 rfl rfl dL_refused_569 ⟨Nat.le_refl _, Nat.le_refl _⟩ (fun r569 sS_569 H locs h hP hD hS => ?_)
        have hP : va_P D vwCl (jx_ws cI cT [(cp_B aB (aT 0) (aS 0) (aC 0) (aU 0) (aV 0) (aW 0) (aH 0) (aO 0), sB), (cp_C aC (aT 0) (aS 0), sC), (cp_S aS (aT 0), sS_569), (cp_T aT, sT), (cp_C aW (aU 0) (aV 0), sW), (cp_S aV (aU 0), sV), (cp_T aU, sU), (cp_H aH (fun j => hT j 0), sH), (cp_T (hT 0), sH0), (cp_T (hT 1), sH1), (cp_T (hT 2), sH2), (cp_T (hT 3), sH3), (cp_O aO, sO)]) H := hP
        have hD : va_D A (jx_ws cI cT [(cp_B aB (aT 0) (aS 0) (aC 0) (aU 0) (aV 0) (aW 0) (aH 0) (aO 0), sB), (cp_C aC (aT 0) (aS 0), sC), (cp_S aS (aT 0), sS_569), (cp_T aT, sT), (cp_C aW (aU 0) (aV 0), sW), (cp_S aV (aU 0), sV), (cp_T aU, sU), (cp_H aH (fun j => hT j 0), sH), (cp_T (hT 0), sH0), (cp_T (hT 1), sH1), (cp_T (hT 2), sH2), (cp_T (hT 3), sH3), (cp_O aO, sO)]) := hD
        refine lv_iload hx hb dL_refused_572 (lv_at hl 3 rfl) ?_
        refine jx_ene C h.1 (tgt := 590) dL_refused_574 (by decide) (fun hc => ?_) (fun hc => ?_)
        · have h := h.2.2 hc
          refine jx_iconst C dL_refused_590 ?_
          exact jx_rZ C hr hlk hAe hS hQQ (by decide) (sB, sC, sS_569, sT, sW, sV, sU, sH, sH0, sH1, sH2, sH3, sO) hP h dL_refused_591
        · have h := h.2.1 hc
          refine lv_aload_n hx hb dL_refused_577 rfl (lv_at hl 0 rfl) ?_
          refine jx_callSL C hK hP hD hS hA (ct_L_print l D cI cT aB aC aS aT aW aV aU aH hT aO _ sB sC sS_569 sT sH sO  h) ms_L_print lk_L_30 [0, 1, 2, 3, 7, 12] rfl rfl (fun _ => rfl) (cs' := (fun u => [(cp_B aB (aT 0) (aS 0) (aC 0) (aU 0) (aV 0) (aW 0) (aH 0) (aO 0), sB), (cp_C aC (aT 0) (aS 0), sC), (cp_S aS (aT 0), u), (cp_T aT, sT), (cp_C aW (aU 0) (aV 0), sW), (cp_S aV (aU 0), sV), (cp_T aU, sU), (cp_H aH (fun j => hT j 0), sH), (cp_T (hT 0), sH0), (cp_T (hT 1), sH1), (cp_T (hT 2), sH2), (cp_T (hT 3), sH3), (cp_O aO, sO)])) (fun _ => rfl) (fun _ => rfl) rfl rfl hl.1 rfl rfl dL_refused_578 ⟨Nat.le_refl _, Nat.le_refl _⟩ (fun r578 sS_578 H locs h hP hD hS => ?_)
          have hP : va_P D vwCl (jx_ws cI cT [(cp_B aB (aT 0) (aS 0) (aC 0) (aU 0) (aV 0) (aW 0) (aH 0) (aO 0), sB), (cp_C aC (aT 0) (aS 0), sC), (cp_S aS (aT 0), sS_578), (cp_T aT, sT), (cp_C aW (aU 0) (aV 0), sW), (cp_S aV (aU 0), sV), (cp_T aU, sU), (cp_H aH (fun j => hT j 0), sH), (cp_T (hT 0), sH0), (cp_T (hT 1), sH1), (cp_T (hT 2), sH2), (cp_T (hT 3), sH3), (cp_O aO, sO)]) H := hP
          have hD : va_D A (jx_ws cI cT [(cp_B aB (aT 0) (aS 0) (aC 0) (aU 0) (aV 0) (aW 0) (aH 0) (aO 0), sB), (cp_C aC (aT 0) (aS 0), sC), (cp_S aS (aT 0), sS_578), (cp_T aT, sT), (cp_C aW (aU 0) (aV 0), sW), (cp_S aV (aU 0), sV), (cp_T aU, sU), (cp_H aH (fun j => hT j 0), sH), (cp_T (hT 0), sH0), (cp_T (hT 1), sH1), (cp_T (hT 2), sH2), (cp_T (hT 3), sH3), (cp_O aO, sO)]) := hD
          refine lv_lload_n hx hb dL_refused_581 rfl (lv_at hl 1 rfl) ?_
          refine jx_lcmp C dL_refused_582 ?_
          refine jx_zne C h.1 (tgt := 590) dL_refused_583 (by decide) (fun hc => ?_) (fun hc => ?_)
          · have h := h.2.2 hc
            refine jx_iconst C dL_refused_590 ?_
            exact jx_rZ C hr hlk hAe hS hQQ (by decide) (sB, sC, sS_578, sT, sW, sV, sU, sH, sH0, sH1, sH2, sH3, sO) hP h dL_refused_591
          · have h := h.2.1 hc
            refine jx_iconst C dL_refused_586 ?_
            refine lv_goto (tgt := 591) hx hb dL_refused_587 (by decide) ?_
            exact jx_rZ C hr hlk hAe hS hQQ (by decide) (sB, sC, sS_578, sT, sW, sV, sU, sH, sH0, sH1, sH2, sH3, sO) hP h dL_refused_591
  have J549 : ∀ (sB : jx_St) (sC : jx_St) (sS : jx_St) (sT : jx_St) (sW : jx_St) (sV : jx_St) (sU : jx_St) (sH : jx_St) (sH0 : jx_St) (sH1 : jx_St) (sH2 : jx_St) (sH3 : jx_St) (sO : jx_St) (L2 : Int64) (l4 : Int) (l5 : Int) (t0 : Int), wp_L_refused_549 Q l1 sB sC sS sT sW sV sU sH sH0 sH1 sH2 sH3 sO L2 l4 l5 t0 → ∀ (H : Heap) (locs : List Loc), va_P D vwCl (jx_ws cI cT [(cp_B aB (aT 0) (aS 0) (aC 0) (aU 0) (aV 0) (aW 0) (aH 0) (aO 0), sB), (cp_C aC (aT 0) (aS 0), sC), (cp_S aS (aT 0), sS), (cp_T aT, sT), (cp_C aW (aU 0) (aV 0), sW), (cp_S aV (aU 0), sV), (cp_T aU, sU), (cp_H aH (fun j => hT j 0), sH), (cp_T (hT 0), sH0), (cp_T (hT 1), sH1), (cp_T (hT 2), sH2), (cp_T (hT 3), sH3), (cp_O aO, sO)]) H → va_D A (jx_ws cI cT [(cp_B aB (aT 0) (aS 0) (aC 0) (aU 0) (aV 0) (aW 0) (aH 0) (aO 0), sB), (cp_C aC (aT 0) (aS 0), sC), (cp_S aS (aT 0), sS), (cp_T aT, sT), (cp_C aW (aU 0) (aV 0), sW), (cp_S aV (aU 0), sV), (cp_T aU, sU), (cp_H aH (fun j => hT j 0), sH), (cp_T (hT 0), sH0), (cp_T (hT 1), sH1), (cp_T (hT 2), sH2), (cp_T (hT 3), sH3), (cp_O aO, sO)]) → va_S A s.heap H locs → ∀ ls : Array Slot, lv_has ls 8 [(0, .ref (aB 0)), (2, .long L2), (4, .int (jx_i l4)), (5, .int (jx_i l5))] → W p l e (jx_rm 8 202) s m args below meth c H locs 0 0 QQ (F0 m 549 ls [.int (jx_i t0)]) := by
    intro sB sC sS sT sW sV sU sH sH0 sH1 sH2 sH3 sO L2 l4 l5 t0 h H locs hP hD hS ls hl
    unfold wp_L_refused_549 at h
    refine lv_istore (lv' := [(7, .int (jx_i t0)), (0, .ref (aB 0)), (2, .long L2), (4, .int (jx_i l4)), (5, .int (jx_i l5))]) hx hb dL_refused_549 hl (by decide) rfl (fun ls hl => ?_)
    exact J551 sB sC sS sT sW sV sU sH sH0 sH1 sH2 sH3 sO L2 l4 l5 t0 h _ _ hP hD hS ls (lv_sub hl [1, 2, 3, 4, 0] rfl)
  have J548 : ∀ (sB : jx_St) (sC : jx_St) (sS : jx_St) (sT : jx_St) (sW : jx_St) (sV : jx_St) (sU : jx_St) (sH : jx_St) (sH0 : jx_St) (sH1 : jx_St) (sH2 : jx_St) (sH3 : jx_St) (sO : jx_St) (L2 : Int64) (l4 : Int) (l5 : Int), wp_L_refused_548 Q l1 sB sC sS sT sW sV sU sH sH0 sH1 sH2 sH3 sO L2 l4 l5 → ∀ (H : Heap) (locs : List Loc), va_P D vwCl (jx_ws cI cT [(cp_B aB (aT 0) (aS 0) (aC 0) (aU 0) (aV 0) (aW 0) (aH 0) (aO 0), sB), (cp_C aC (aT 0) (aS 0), sC), (cp_S aS (aT 0), sS), (cp_T aT, sT), (cp_C aW (aU 0) (aV 0), sW), (cp_S aV (aU 0), sV), (cp_T aU, sU), (cp_H aH (fun j => hT j 0), sH), (cp_T (hT 0), sH0), (cp_T (hT 1), sH1), (cp_T (hT 2), sH2), (cp_T (hT 3), sH3), (cp_O aO, sO)]) H → va_D A (jx_ws cI cT [(cp_B aB (aT 0) (aS 0) (aC 0) (aU 0) (aV 0) (aW 0) (aH 0) (aO 0), sB), (cp_C aC (aT 0) (aS 0), sC), (cp_S aS (aT 0), sS), (cp_T aT, sT), (cp_C aW (aU 0) (aV 0), sW), (cp_S aV (aU 0), sV), (cp_T aU, sU), (cp_H aH (fun j => hT j 0), sH), (cp_T (hT 0), sH0), (cp_T (hT 1), sH1), (cp_T (hT 2), sH2), (cp_T (hT 3), sH3), (cp_O aO, sO)]) → va_S A s.heap H locs → ∀ ls : Array Slot, lv_has ls 8 [(0, .ref (aB 0)), (2, .long L2), (4, .int (jx_i l4)), (5, .int (jx_i l5))] → W p l e (jx_rm 8 202) s m args below meth c H locs 0 0 QQ (F0 m 548 ls []) := by
    intro sB sC sS sT sW sV sU sH sH0 sH1 sH2 sH3 sO L2 l4 l5 h H locs hP hD hS ls hl
    unfold wp_L_refused_548 at h
    refine jx_iconst C dL_refused_548 ?_
    exact J549 sB sC sS sT sW sV sU sH sH0 sH1 sH2 sH3 sO L2 l4 l5 0 h _ _ hP hD hS ls (lv_sub hl [0, 1, 2, 3] rfl)
  have J520 : ∀ (sB : jx_St) (sC : jx_St) (sS : jx_St) (sT : jx_St) (sW : jx_St) (sV : jx_St) (sU : jx_St) (sH : jx_St) (sH0 : jx_St) (sH1 : jx_St) (sH2 : jx_St) (sH3 : jx_St) (sO : jx_St) (L2 : Int64) (l4 : Int) (l5 : Int) (t0 : Int), wp_L_refused_520 Q l1 sB sC sS sT sW sV sU sH sH0 sH1 sH2 sH3 sO L2 l4 l5 t0 → ∀ (H : Heap) (locs : List Loc), va_P D vwCl (jx_ws cI cT [(cp_B aB (aT 0) (aS 0) (aC 0) (aU 0) (aV 0) (aW 0) (aH 0) (aO 0), sB), (cp_C aC (aT 0) (aS 0), sC), (cp_S aS (aT 0), sS), (cp_T aT, sT), (cp_C aW (aU 0) (aV 0), sW), (cp_S aV (aU 0), sV), (cp_T aU, sU), (cp_H aH (fun j => hT j 0), sH), (cp_T (hT 0), sH0), (cp_T (hT 1), sH1), (cp_T (hT 2), sH2), (cp_T (hT 3), sH3), (cp_O aO, sO)]) H → va_D A (jx_ws cI cT [(cp_B aB (aT 0) (aS 0) (aC 0) (aU 0) (aV 0) (aW 0) (aH 0) (aO 0), sB), (cp_C aC (aT 0) (aS 0), sC), (cp_S aS (aT 0), sS), (cp_T aT, sT), (cp_C aW (aU 0) (aV 0), sW), (cp_S aV (aU 0), sV), (cp_T aU, sU), (cp_H aH (fun j => hT j 0), sH), (cp_T (hT 0), sH0), (cp_T (hT 1), sH1), (cp_T (hT 2), sH2), (cp_T (hT 3), sH3), (cp_O aO, sO)]) → va_S A s.heap H locs → ∀ ls : Array Slot, lv_has ls 8 [(0, .ref (aB 0)), (2, .long L2), (4, .int (jx_i l4)), (5, .int (jx_i l5))] → W p l e (jx_rm 8 202) s m args below meth c H locs 0 0 QQ (F0 m 520 ls [.int (jx_i t0)]) := by
    intro sB sC sS sT sW sV sU sH sH0 sH1 sH2 sH3 sO L2 l4 l5 t0 h H locs hP hD hS ls hl
    unfold wp_L_refused_520 at h
    refine lv_istore (lv' := [(7, .int (jx_i t0)), (0, .ref (aB 0)), (2, .long L2), (4, .int (jx_i l4)), (5, .int (jx_i l5))]) hx hb dL_refused_520 hl (by decide) rfl (fun ls hl => ?_)
    refine lv_goto (tgt := 551) hx hb dL_refused_522 (by decide) ?_
    exact J551 sB sC sS sT sW sV sU sH sH0 sH1 sH2 sH3 sO L2 l4 l5 t0 h _ _ hP hD hS ls (lv_sub hl [1, 2, 3, 4, 0] rfl)
  have J519 : ∀ (sB : jx_St) (sC : jx_St) (sS : jx_St) (sT : jx_St) (sW : jx_St) (sV : jx_St) (sU : jx_St) (sH : jx_St) (sH0 : jx_St) (sH1 : jx_St) (sH2 : jx_St) (sH3 : jx_St) (sO : jx_St) (L2 : Int64) (l4 : Int) (l5 : Int), wp_L_refused_519 Q l1 sB sC sS sT sW sV sU sH sH0 sH1 sH2 sH3 sO L2 l4 l5 → ∀ (H : Heap) (locs : List Loc), va_P D vwCl (jx_ws cI cT [(cp_B aB (aT 0) (aS 0) (aC 0) (aU 0) (aV 0) (aW 0) (aH 0) (aO 0), sB), (cp_C aC (aT 0) (aS 0), sC), (cp_S aS (aT 0), sS), (cp_T aT, sT), (cp_C aW (aU 0) (aV 0), sW), (cp_S aV (aU 0), sV), (cp_T aU, sU), (cp_H aH (fun j => hT j 0), sH), (cp_T (hT 0), sH0), (cp_T (hT 1), sH1), (cp_T (hT 2), sH2), (cp_T (hT 3), sH3), (cp_O aO, sO)]) H → va_D A (jx_ws cI cT [(cp_B aB (aT 0) (aS 0) (aC 0) (aU 0) (aV 0) (aW 0) (aH 0) (aO 0), sB), (cp_C aC (aT 0) (aS 0), sC), (cp_S aS (aT 0), sS), (cp_T aT, sT), (cp_C aW (aU 0) (aV 0), sW), (cp_S aV (aU 0), sV), (cp_T aU, sU), (cp_H aH (fun j => hT j 0), sH), (cp_T (hT 0), sH0), (cp_T (hT 1), sH1), (cp_T (hT 2), sH2), (cp_T (hT 3), sH3), (cp_O aO, sO)]) → va_S A s.heap H locs → ∀ ls : Array Slot, lv_has ls 8 [(0, .ref (aB 0)), (2, .long L2), (4, .int (jx_i l4)), (5, .int (jx_i l5))] → W p l e (jx_rm 8 202) s m args below meth c H locs 0 0 QQ (F0 m 519 ls []) := by
    intro sB sC sS sT sW sV sU sH sH0 sH1 sH2 sH3 sO L2 l4 l5 h H locs hP hD hS ls hl
    unfold wp_L_refused_519 at h
    refine jx_iconst C dL_refused_519 ?_
    exact J520 sB sC sS sT sW sV sU sH sH0 sH1 sH2 sH3 sO L2 l4 l5 0 h _ _ hP hD hS ls (lv_sub hl [0, 1, 2, 3] rfl)
  have J465 : ∀ (sB : jx_St) (sC : jx_St) (sS : jx_St) (sT : jx_St) (sW : jx_St) (sV : jx_St) (sU : jx_St) (sH : jx_St) (sH0 : jx_St) (sH1 : jx_St) (sH2 : jx_St) (sH3 : jx_St) (sO : jx_St) (L2 : Int64) (l4 : Int) (l5 : Int) (t0 : Int), wp_L_refused_465 Q l1 sB sC sS sT sW sV sU sH sH0 sH1 sH2 sH3 sO L2 l4 l5 t0 → ∀ (H : Heap) (locs : List Loc), va_P D vwCl (jx_ws cI cT [(cp_B aB (aT 0) (aS 0) (aC 0) (aU 0) (aV 0) (aW 0) (aH 0) (aO 0), sB), (cp_C aC (aT 0) (aS 0), sC), (cp_S aS (aT 0), sS), (cp_T aT, sT), (cp_C aW (aU 0) (aV 0), sW), (cp_S aV (aU 0), sV), (cp_T aU, sU), (cp_H aH (fun j => hT j 0), sH), (cp_T (hT 0), sH0), (cp_T (hT 1), sH1), (cp_T (hT 2), sH2), (cp_T (hT 3), sH3), (cp_O aO, sO)]) H → va_D A (jx_ws cI cT [(cp_B aB (aT 0) (aS 0) (aC 0) (aU 0) (aV 0) (aW 0) (aH 0) (aO 0), sB), (cp_C aC (aT 0) (aS 0), sC), (cp_S aS (aT 0), sS), (cp_T aT, sT), (cp_C aW (aU 0) (aV 0), sW), (cp_S aV (aU 0), sV), (cp_T aU, sU), (cp_H aH (fun j => hT j 0), sH), (cp_T (hT 0), sH0), (cp_T (hT 1), sH1), (cp_T (hT 2), sH2), (cp_T (hT 3), sH3), (cp_O aO, sO)]) → va_S A s.heap H locs → ∀ ls : Array Slot, lv_has ls 8 [(0, .ref (aB 0)), (1, .int (jx_i l1)), (2, .long L2), (4, .int (jx_i l4)), (5, .int (jx_i l5))] → W p l e (jx_rm 8 202) s m args below meth c H locs 0 0 QQ (F0 m 465 ls [.int (jx_i t0)]) := by
    intro sB sC sS sT sW sV sU sH sH0 sH1 sH2 sH3 sO L2 l4 l5 t0 h H locs hP hD hS ls hl
    unfold wp_L_refused_465 at h
    refine lv_istore (lv' := [(7, .int (jx_i t0)), (0, .ref (aB 0)), (1, .int (jx_i l1)), (2, .long L2), (4, .int (jx_i l4)), (5, .int (jx_i l5))]) hx hb dL_refused_465 hl (by decide) rfl (fun ls hl => ?_)
    refine lv_aload_n hx hb dL_refused_467 rfl (lv_at hl 1 rfl) ?_
    refine lv_iload_n hx hb dL_refused_468 rfl (lv_at hl 2 rfl) ?_
    refine jx_iconst C dL_refused_469 ?_
    refine jx_callVI C hK hP hD hS hA (ct_B_boxOf l D cI cT aB aC aS aT aW aV aU aH hT aO _ sB sS sT l1 0 h) ms_X7_boxOf lk_L_19 [0, 2, 3] rfl rfl (fun _ => rfl) (cs' := (fun u => [(cp_B aB (aT 0) (aS 0) (aC 0) (aU 0) (aV 0) (aW 0) (aH 0) (aO 0), sB), (cp_C aC (aT 0) (aS 0), sC), (cp_S aS (aT 0), u), (cp_T aT, sT), (cp_C aW (aU 0) (aV 0), sW), (cp_S aV (aU 0), sV), (cp_T aU, sU), (cp_H aH (fun j => hT j 0), sH), (cp_T (hT 0), sH0), (cp_T (hT 1), sH1), (cp_T (hT 2), sH2), (cp_T (hT 3), sH3), (cp_O aO, sO)])) (fun _ => rfl) (fun _ => rfl) 0 0 rfl rfl rfl rfl rfl hl.1 rfl rfl dL_refused_470 ⟨Nat.le_refl _, Nat.le_refl _⟩ (fun r470 sS_470 H locs h hP hD hS => ?_)
    have hP : va_P D vwCl (jx_ws cI cT [(cp_B aB (aT 0) (aS 0) (aC 0) (aU 0) (aV 0) (aW 0) (aH 0) (aO 0), sB), (cp_C aC (aT 0) (aS 0), sC), (cp_S aS (aT 0), sS_470), (cp_T aT, sT), (cp_C aW (aU 0) (aV 0), sW), (cp_S aV (aU 0), sV), (cp_T aU, sU), (cp_H aH (fun j => hT j 0), sH), (cp_T (hT 0), sH0), (cp_T (hT 1), sH1), (cp_T (hT 2), sH2), (cp_T (hT 3), sH3), (cp_O aO, sO)]) H := hP
    have hD : va_D A (jx_ws cI cT [(cp_B aB (aT 0) (aS 0) (aC 0) (aU 0) (aV 0) (aW 0) (aH 0) (aO 0), sB), (cp_C aC (aT 0) (aS 0), sC), (cp_S aS (aT 0), sS_470), (cp_T aT, sT), (cp_C aW (aU 0) (aV 0), sW), (cp_S aV (aU 0), sV), (cp_T aU, sU), (cp_H aH (fun j => hT j 0), sH), (cp_T (hT 0), sH0), (cp_T (hT 1), sH1), (cp_T (hT 2), sH2), (cp_T (hT 3), sH3), (cp_O aO, sO)]) := hD
    refine jx_ldc C (-1000004) kc_L_44 dL_refused_473 ?_
    refine jx_ene C h.1 (tgt := 525) dL_refused_475 (by decide) (fun hc => ?_) (fun hc => ?_)
    · have h := h.2.2 hc
      refine lv_iload hx hb dL_refused_525 (lv_at hl 0 rfl) ?_
      refine jx_zeq C h.1 (tgt := 548) dL_refused_527 (by decide) (fun hc => ?_) (fun hc => ?_)
      · have h := h.2.1 hc
        exact J548 sB sC sS_470 sT sW sV sU sH sH0 sH1 sH2 sH3 sO L2 l4 l5 h _ _ hP hD hS ls (lv_sub hl [1, 3, 4, 5] rfl)
      · have h := h.2.2 hc
        refine lv_aload_n hx hb dL_refused_530 rfl (lv_at hl 1 rfl) ?_
        refine lv_iload_n hx hb dL_refused_531 rfl (lv_at hl 2 rfl) ?_
        refine jx_iconst C dL_refused_532 ?_
        refine jx_iconst C dL_refused_533 ?_
        refine jx_iconst C dL_refused_534 ?_
        refine jx_iconst C dL_refused_535 ?_
        refine jx_callVI C hK hP hD hS hA (ct_B_put l D cI cT aB aC aS aT aW aV aU aH hT aO _ sB sC sS_470 sT sH sH0 sH1 sH2 sH3 l1 0 0 1 1 h) ms_X7_put lk_L_36 [0, 1, 2, 3, 7, 8, 9, 10, 11] rfl rfl (fun _ => rfl) (cs' := (fun u => [(cp_B aB (aT 0) (aS 0) (aC 0) (aU 0) (aV 0) (aW 0) (aH 0) (aO 0), sB), (cp_C aC (aT 0) (aS 0), u.1), (cp_S aS (aT 0), u.2.1), (cp_T aT, u.2.2.1), (cp_C aW (aU 0) (aV 0), sW), (cp_S aV (aU 0), sV), (cp_T aU, sU), (cp_H aH (fun j => hT j 0), u.2.2.2.1), (cp_T (hT 0), u.2.2.2.2.1), (cp_T (hT 1), u.2.2.2.2.2.1), (cp_T (hT 2), u.2.2.2.2.2.2.1), (cp_T (hT 3), u.2.2.2.2.2.2.2), (cp_O aO, sO)])) (fun _ => rfl) (fun _ => rfl) 0 0 rfl rfl rfl rfl rfl hl.1 rfl rfl dL_refused_536 ⟨Nat.le_refl _, Nat.le_refl _⟩ (fun r536 u H locs h hP hD hS => ?_)
        obtain ⟨sC_536, sS_536, sT_536, sH_536, sH0_536, sH1_536, sH2_536, sH3_536⟩ := u
        dsimp only at h
        have hP : va_P D vwCl (jx_ws cI cT [(cp_B aB (aT 0) (aS 0) (aC 0) (aU 0) (aV 0) (aW 0) (aH 0) (aO 0), sB), (cp_C aC (aT 0) (aS 0), sC_536), (cp_S aS (aT 0), sS_536), (cp_T aT, sT_536), (cp_C aW (aU 0) (aV 0), sW), (cp_S aV (aU 0), sV), (cp_T aU, sU), (cp_H aH (fun j => hT j 0), sH_536), (cp_T (hT 0), sH0_536), (cp_T (hT 1), sH1_536), (cp_T (hT 2), sH2_536), (cp_T (hT 3), sH3_536), (cp_O aO, sO)]) H := hP
        have hD : va_D A (jx_ws cI cT [(cp_B aB (aT 0) (aS 0) (aC 0) (aU 0) (aV 0) (aW 0) (aH 0) (aO 0), sB), (cp_C aC (aT 0) (aS 0), sC_536), (cp_S aS (aT 0), sS_536), (cp_T aT, sT_536), (cp_C aW (aU 0) (aV 0), sW), (cp_S aV (aU 0), sV), (cp_T aU, sU), (cp_H aH (fun j => hT j 0), sH_536), (cp_T (hT 0), sH0_536), (cp_T (hT 1), sH1_536), (cp_T (hT 2), sH2_536), (cp_T (hT 3), sH3_536), (cp_O aO, sO)]) := hD
        refine jx_ldc C (-1000002) kc_L_70 dL_refused_539 ?_
        refine jx_ene C h.1 (tgt := 548) dL_refused_541 (by decide) (fun hc => ?_) (fun hc => ?_)
        · have h := h.2.2 hc
          exact J548 sB sC_536 sS_536 sT_536 sW sV sU sH_536 sH0_536 sH1_536 sH2_536 sH3_536 sO L2 l4 l5 h _ _ hP hD hS ls (lv_sub hl [1, 3, 4, 5] rfl)
        · have h := h.2.1 hc
          refine jx_iconst C dL_refused_544 ?_
          refine lv_goto (tgt := 549) hx hb dL_refused_545 (by decide) ?_
          exact J549 sB sC_536 sS_536 sT_536 sW sV sU sH_536 sH0_536 sH1_536 sH2_536 sH3_536 sO L2 l4 l5 1 h _ _ hP hD hS ls (lv_sub hl [1, 3, 4, 5] rfl)
    · have h := h.2.1 hc
      refine lv_iload hx hb dL_refused_478 (lv_at hl 0 rfl) ?_
      refine jx_zeq C h.1 (tgt := 519) dL_refused_480 (by decide) (fun hc => ?_) (fun hc => ?_)
      · have h := h.2.1 hc
        exact J519 sB sC sS_470 sT sW sV sU sH sH0 sH1 sH2 sH3 sO L2 l4 l5 h _ _ hP hD hS ls (lv_sub hl [1, 3, 4, 5] rfl)
      · have h := h.2.2 hc
        refine lv_aload_n hx hb dL_refused_483 rfl (lv_at hl 1 rfl) ?_
        refine lv_iload_n hx hb dL_refused_484 rfl (lv_at hl 2 rfl) ?_
        refine jx_callVI C hK hP hD hS hA (ct_B_take l D cI cT aB aC aS aT aW aV aU aH hT aO _ sB sC sS_470 sT sH sH0 sH1 sH2 sH3 l1 h) ms_X7_take lk_L_41 [0, 1, 2, 3, 7, 8, 9, 10, 11] rfl rfl (fun _ => rfl) (cs' := (fun u => [(cp_B aB (aT 0) (aS 0) (aC 0) (aU 0) (aV 0) (aW 0) (aH 0) (aO 0), sB), (cp_C aC (aT 0) (aS 0), u.1), (cp_S aS (aT 0), u.2.1), (cp_T aT, u.2.2.1), (cp_C aW (aU 0) (aV 0), sW), (cp_S aV (aU 0), sV), (cp_T aU, sU), (cp_H aH (fun j => hT j 0), u.2.2.2.1), (cp_T (hT 0), u.2.2.2.2.1), (cp_T (hT 1), u.2.2.2.2.2.1), (cp_T (hT 2), u.2.2.2.2.2.2.1), (cp_T (hT 3), u.2.2.2.2.2.2.2), (cp_O aO, sO)])) (fun _ => rfl) (fun _ => rfl) 0 0 rfl rfl rfl rfl rfl hl.1 rfl rfl dL_refused_485 ⟨Nat.le_refl _, Nat.le_refl _⟩ (fun r485 u H locs h hP hD hS => ?_)
        obtain ⟨sC_485, sS_485, sT_485, sH_485, sH0_485, sH1_485, sH2_485, sH3_485⟩ := u
        dsimp only at h
        have hP : va_P D vwCl (jx_ws cI cT [(cp_B aB (aT 0) (aS 0) (aC 0) (aU 0) (aV 0) (aW 0) (aH 0) (aO 0), sB), (cp_C aC (aT 0) (aS 0), sC_485), (cp_S aS (aT 0), sS_485), (cp_T aT, sT_485), (cp_C aW (aU 0) (aV 0), sW), (cp_S aV (aU 0), sV), (cp_T aU, sU), (cp_H aH (fun j => hT j 0), sH_485), (cp_T (hT 0), sH0_485), (cp_T (hT 1), sH1_485), (cp_T (hT 2), sH2_485), (cp_T (hT 3), sH3_485), (cp_O aO, sO)]) H := hP
        have hD : va_D A (jx_ws cI cT [(cp_B aB (aT 0) (aS 0) (aC 0) (aU 0) (aV 0) (aW 0) (aH 0) (aO 0), sB), (cp_C aC (aT 0) (aS 0), sC_485), (cp_S aS (aT 0), sS_485), (cp_T aT, sT_485), (cp_C aW (aU 0) (aV 0), sW), (cp_S aV (aU 0), sV), (cp_T aU, sU), (cp_H aH (fun j => hT j 0), sH_485), (cp_T (hT 0), sH0_485), (cp_T (hT 1), sH1_485), (cp_T (hT 2), sH2_485), (cp_T (hT 3), sH3_485), (cp_O aO, sO)]) := hD
        refine jx_ldc C (-1000002) kc_L_70 dL_refused_488 ?_
        refine jx_ene C h.1 (tgt := 519) dL_refused_490 (by decide) (fun hc => ?_) (fun hc => ?_)
        · have h := h.2.2 hc
          exact J519 sB sC_485 sS_485 sT_485 sW sV sU sH_485 sH0_485 sH1_485 sH2_485 sH3_485 sO L2 l4 l5 h _ _ hP hD hS ls (lv_sub hl [1, 3, 4, 5] rfl)
        · have h := h.2.1 hc
          refine lv_aload_n hx hb dL_refused_493 rfl (lv_at hl 1 rfl) ?_
          refine lv_iload_n hx hb dL_refused_494 rfl (lv_at hl 2 rfl) ?_
          refine jx_iconst C dL_refused_495 ?_
          refine jx_callVI C hK hP hD hS hA (ct_B_wouldTake l D cI cT aB aC aS aT aW aV aU aH hT aO _ sB sT_485 sW sV sU l1 0 h) ms_X7_wouldTake lk_L_61 [0, 3, 4, 5, 6] rfl rfl (fun _ => rfl) (cs' := (fun u => [(cp_B aB (aT 0) (aS 0) (aC 0) (aU 0) (aV 0) (aW 0) (aH 0) (aO 0), sB), (cp_C aC (aT 0) (aS 0), sC_485), (cp_S aS (aT 0), sS_485), (cp_T aT, sT_485), (cp_C aW (aU 0) (aV 0), u.1), (cp_S aV (aU 0), u.2.1), (cp_T aU, u.2.2), (cp_H aH (fun j => hT j 0), sH_485), (cp_T (hT 0), sH0_485), (cp_T (hT 1), sH1_485), (cp_T (hT 2), sH2_485), (cp_T (hT 3), sH3_485), (cp_O aO, sO)])) (fun _ => rfl) (fun _ => rfl) 0 0 rfl rfl rfl rfl rfl hl.1 rfl rfl dL_refused_496 ⟨Nat.le_refl _, Nat.le_refl _⟩ (fun r496 u H locs h hP hD hS => ?_)
          obtain ⟨sW_496, sV_496, sU_496⟩ := u
          dsimp only at h
          have hP : va_P D vwCl (jx_ws cI cT [(cp_B aB (aT 0) (aS 0) (aC 0) (aU 0) (aV 0) (aW 0) (aH 0) (aO 0), sB), (cp_C aC (aT 0) (aS 0), sC_485), (cp_S aS (aT 0), sS_485), (cp_T aT, sT_485), (cp_C aW (aU 0) (aV 0), sW_496), (cp_S aV (aU 0), sV_496), (cp_T aU, sU_496), (cp_H aH (fun j => hT j 0), sH_485), (cp_T (hT 0), sH0_485), (cp_T (hT 1), sH1_485), (cp_T (hT 2), sH2_485), (cp_T (hT 3), sH3_485), (cp_O aO, sO)]) H := hP
          have hD : va_D A (jx_ws cI cT [(cp_B aB (aT 0) (aS 0) (aC 0) (aU 0) (aV 0) (aW 0) (aH 0) (aO 0), sB), (cp_C aC (aT 0) (aS 0), sC_485), (cp_S aS (aT 0), sS_485), (cp_T aT, sT_485), (cp_C aW (aU 0) (aV 0), sW_496), (cp_S aV (aU 0), sV_496), (cp_T aU, sU_496), (cp_H aH (fun j => hT j 0), sH_485), (cp_T (hT 0), sH0_485), (cp_T (hT 1), sH1_485), (cp_T (hT 2), sH2_485), (cp_T (hT 3), sH3_485), (cp_O aO, sO)]) := hD
          refine jx_ldc C (-1000004) kc_L_44 dL_refused_499 ?_
          refine jx_ene C h.1 (tgt := 519) dL_refused_501 (by decide) (fun hc => ?_) (fun hc => ?_)
          · have h := h.2.2 hc
            exact J519 sB sC_485 sS_485 sT_485 sW_496 sV_496 sU_496 sH_485 sH0_485 sH1_485 sH2_485 sH3_485 sO L2 l4 l5 h _ _ hP hD hS ls (lv_sub hl [1, 3, 4, 5] rfl)
          · have h := h.2.1 hc
            refine lv_aload_n hx hb dL_refused_504 rfl (lv_at hl 1 rfl) ?_
            refine lv_iload_n hx hb dL_refused_505 rfl (lv_at hl 2 rfl) ?_
            refine jx_iconst C dL_refused_506 ?_
            refine jx_callVI C hK hP hD hS hA (ct_B_overlap l D cI cT aB aC aS aT aW aV aU aH hT aO _ sB sT_485 l1 0 h) ms_X7_overlap lk_L_45 [0, 3] rfl rfl (fun _ => rfl) (cs' := (fun _ => [(cp_B aB (aT 0) (aS 0) (aC 0) (aU 0) (aV 0) (aW 0) (aH 0) (aO 0), sB), (cp_C aC (aT 0) (aS 0), sC_485), (cp_S aS (aT 0), sS_485), (cp_T aT, sT_485), (cp_C aW (aU 0) (aV 0), sW_496), (cp_S aV (aU 0), sV_496), (cp_T aU, sU_496), (cp_H aH (fun j => hT j 0), sH_485), (cp_T (hT 0), sH0_485), (cp_T (hT 1), sH1_485), (cp_T (hT 2), sH2_485), (cp_T (hT 3), sH3_485), (cp_O aO, sO)])) (fun _ => rfl) (fun _ => rfl) 0 0 rfl rfl rfl rfl rfl hl.1 rfl rfl dL_refused_507 ⟨Nat.le_refl _, Nat.le_refl _⟩ (fun r507 _ H locs h hP hD hS => ?_)
            have hP : va_P D vwCl (jx_ws cI cT [(cp_B aB (aT 0) (aS 0) (aC 0) (aU 0) (aV 0) (aW 0) (aH 0) (aO 0), sB), (cp_C aC (aT 0) (aS 0), sC_485), (cp_S aS (aT 0), sS_485), (cp_T aT, sT_485), (cp_C aW (aU 0) (aV 0), sW_496), (cp_S aV (aU 0), sV_496), (cp_T aU, sU_496), (cp_H aH (fun j => hT j 0), sH_485), (cp_T (hT 0), sH0_485), (cp_T (hT 1), sH1_485), (cp_T (hT 2), sH2_485), (cp_T (hT 3), sH3_485), (cp_O aO, sO)]) H := hP
            have hD : va_D A (jx_ws cI cT [(cp_B aB (aT 0) (aS 0) (aC 0) (aU 0) (aV 0) (aW 0) (aH 0) (aO 0), sB), (cp_C aC (aT 0) (aS 0), sC_485), (cp_S aS (aT 0), sS_485), (cp_T aT, sT_485), (cp_C aW (aU 0) (aV 0), sW_496), (cp_S aV (aU 0), sV_496), (cp_T aU, sU_496), (cp_H aH (fun j => hT j 0), sH_485), (cp_T (hT 0), sH0_485), (cp_T (hT 1), sH1_485), (cp_T (hT 2), sH2_485), (cp_T (hT 3), sH3_485), (cp_O aO, sO)]) := hD
            refine jx_ldc C (-1000004) kc_L_44 dL_refused_510 ?_
            refine jx_ene C h.1 (tgt := 519) dL_refused_512 (by decide) (fun hc => ?_) (fun hc => ?_)
            · have h := h.2.2 hc
              exact J519 sB sC_485 sS_485 sT_485 sW_496 sV_496 sU_496 sH_485 sH0_485 sH1_485 sH2_485 sH3_485 sO L2 l4 l5 h _ _ hP hD hS ls (lv_sub hl [1, 3, 4, 5] rfl)
            · have h := h.2.1 hc
              refine jx_iconst C dL_refused_515 ?_
              refine lv_goto (tgt := 520) hx hb dL_refused_516 (by decide) ?_
              exact J520 sB sC_485 sS_485 sT_485 sW_496 sV_496 sU_496 sH_485 sH0_485 sH1_485 sH2_485 sH3_485 sO L2 l4 l5 1 h _ _ hP hD hS ls (lv_sub hl [1, 3, 4, 5] rfl)
  have J464 : ∀ (sB : jx_St) (sC : jx_St) (sS : jx_St) (sT : jx_St) (sW : jx_St) (sV : jx_St) (sU : jx_St) (sH : jx_St) (sH0 : jx_St) (sH1 : jx_St) (sH2 : jx_St) (sH3 : jx_St) (sO : jx_St) (L2 : Int64) (l4 : Int) (l5 : Int), wp_L_refused_464 Q l1 sB sC sS sT sW sV sU sH sH0 sH1 sH2 sH3 sO L2 l4 l5 → ∀ (H : Heap) (locs : List Loc), va_P D vwCl (jx_ws cI cT [(cp_B aB (aT 0) (aS 0) (aC 0) (aU 0) (aV 0) (aW 0) (aH 0) (aO 0), sB), (cp_C aC (aT 0) (aS 0), sC), (cp_S aS (aT 0), sS), (cp_T aT, sT), (cp_C aW (aU 0) (aV 0), sW), (cp_S aV (aU 0), sV), (cp_T aU, sU), (cp_H aH (fun j => hT j 0), sH), (cp_T (hT 0), sH0), (cp_T (hT 1), sH1), (cp_T (hT 2), sH2), (cp_T (hT 3), sH3), (cp_O aO, sO)]) H → va_D A (jx_ws cI cT [(cp_B aB (aT 0) (aS 0) (aC 0) (aU 0) (aV 0) (aW 0) (aH 0) (aO 0), sB), (cp_C aC (aT 0) (aS 0), sC), (cp_S aS (aT 0), sS), (cp_T aT, sT), (cp_C aW (aU 0) (aV 0), sW), (cp_S aV (aU 0), sV), (cp_T aU, sU), (cp_H aH (fun j => hT j 0), sH), (cp_T (hT 0), sH0), (cp_T (hT 1), sH1), (cp_T (hT 2), sH2), (cp_T (hT 3), sH3), (cp_O aO, sO)]) → va_S A s.heap H locs → ∀ ls : Array Slot, lv_has ls 8 [(0, .ref (aB 0)), (1, .int (jx_i l1)), (2, .long L2), (4, .int (jx_i l4)), (5, .int (jx_i l5))] → W p l e (jx_rm 8 202) s m args below meth c H locs 0 0 QQ (F0 m 464 ls []) := by
    intro sB sC sS sT sW sV sU sH sH0 sH1 sH2 sH3 sO L2 l4 l5 h H locs hP hD hS ls hl
    unfold wp_L_refused_464 at h
    refine jx_iconst C dL_refused_464 ?_
    exact J465 sB sC sS sT sW sV sU sH sH0 sH1 sH2 sH3 sO L2 l4 l5 0 h _ _ hP hD hS ls (lv_sub hl [0, 1, 2, 3, 4] rfl)
  have J286 : ∀ (sB : jx_St) (sC : jx_St) (sS : jx_St) (sT : jx_St) (sW : jx_St) (sV : jx_St) (sU : jx_St) (sH : jx_St) (sH0 : jx_St) (sH1 : jx_St) (sH2 : jx_St) (sH3 : jx_St) (sO : jx_St) (L2 : Int64) (l4 : Int) (l5 : Int) (t0 : Int), wp_L_refused_286 Q l1 sB sC sS sT sW sV sU sH sH0 sH1 sH2 sH3 sO L2 l4 l5 t0 → ∀ (H : Heap) (locs : List Loc), va_P D vwCl (jx_ws cI cT [(cp_B aB (aT 0) (aS 0) (aC 0) (aU 0) (aV 0) (aW 0) (aH 0) (aO 0), sB), (cp_C aC (aT 0) (aS 0), sC), (cp_S aS (aT 0), sS), (cp_T aT, sT), (cp_C aW (aU 0) (aV 0), sW), (cp_S aV (aU 0), sV), (cp_T aU, sU), (cp_H aH (fun j => hT j 0), sH), (cp_T (hT 0), sH0), (cp_T (hT 1), sH1), (cp_T (hT 2), sH2), (cp_T (hT 3), sH3), (cp_O aO, sO)]) H → va_D A (jx_ws cI cT [(cp_B aB (aT 0) (aS 0) (aC 0) (aU 0) (aV 0) (aW 0) (aH 0) (aO 0), sB), (cp_C aC (aT 0) (aS 0), sC), (cp_S aS (aT 0), sS), (cp_T aT, sT), (cp_C aW (aU 0) (aV 0), sW), (cp_S aV (aU 0), sV), (cp_T aU, sU), (cp_H aH (fun j => hT j 0), sH), (cp_T (hT 0), sH0), (cp_T (hT 1), sH1), (cp_T (hT 2), sH2), (cp_T (hT 3), sH3), (cp_O aO, sO)]) → va_S A s.heap H locs → ∀ ls : Array Slot, lv_has ls 8 [(0, .ref (aB 0)), (1, .int (jx_i l1)), (2, .long L2), (4, .int (jx_i l4)), (5, .int (jx_i l5))] → W p l e (jx_rm 8 202) s m args below meth c H locs 0 0 QQ (F0 m 286 ls [.int (jx_i t0)]) := by
    intro sB sC sS sT sW sV sU sH sH0 sH1 sH2 sH3 sO L2 l4 l5 t0 h H locs hP hD hS ls hl
    unfold wp_L_refused_286 at h
    refine lv_istore (lv' := [(7, .int (jx_i t0)), (0, .ref (aB 0)), (1, .int (jx_i l1)), (2, .long L2), (4, .int (jx_i l4)), (5, .int (jx_i l5))]) hx hb dL_refused_286 hl (by decide) rfl (fun ls hl => ?_)
    refine lv_iload hx hb dL_refused_288 (lv_at hl 0 rfl) ?_
    refine jx_zeq C h.1 (tgt := 464) dL_refused_290 (by decide) (fun hc => ?_) (fun hc => ?_)
    · have h := h.2.1 hc
      exact J464 sB sC sS sT sW sV sU sH sH0 sH1 sH2 sH3 sO L2 l4 l5 h _ _ hP hD hS ls (lv_sub hl [1, 2, 3, 4, 5] rfl)
    · have h := h.2.2 hc
      refine lv_aload_n hx hb dL_refused_293 rfl (lv_at hl 1 rfl) ?_
      refine jx_iconst C dL_refused_294 ?_
      refine jx_iconst C dL_refused_295 ?_
      refine jx_iconst C dL_refused_296 ?_
      refine jx_iconst C dL_refused_297 ?_
      refine jx_iconst C dL_refused_298 ?_
      refine jx_callVI C hK hP hD hS hA (ct_B_window l D cI cT aB aC aS aT aW aV aU aH hT aO _ sB sS sT 0 0 1 1 2 h) ms_X7_window lk_L_51 [0, 2, 3] rfl rfl (fun _ => rfl) (cs' := (fun u => [(cp_B aB (aT 0) (aS 0) (aC 0) (aU 0) (aV 0) (aW 0) (aH 0) (aO 0), sB), (cp_C aC (aT 0) (aS 0), sC), (cp_S aS (aT 0), u), (cp_T aT, sT), (cp_C aW (aU 0) (aV 0), sW), (cp_S aV (aU 0), sV), (cp_T aU, sU), (cp_H aH (fun j => hT j 0), sH), (cp_T (hT 0), sH0), (cp_T (hT 1), sH1), (cp_T (hT 2), sH2), (cp_T (hT 3), sH3), (cp_O aO, sO)])) (fun _ => rfl) (fun _ => rfl) 0 0 rfl rfl rfl rfl rfl hl.1 rfl rfl dL_refused_299 ⟨Nat.le_refl _, Nat.le_refl _⟩ (fun r299 sS_299 H locs h hP hD hS => ?_)
      have hP : va_P D vwCl (jx_ws cI cT [(cp_B aB (aT 0) (aS 0) (aC 0) (aU 0) (aV 0) (aW 0) (aH 0) (aO 0), sB), (cp_C aC (aT 0) (aS 0), sC), (cp_S aS (aT 0), sS_299), (cp_T aT, sT), (cp_C aW (aU 0) (aV 0), sW), (cp_S aV (aU 0), sV), (cp_T aU, sU), (cp_H aH (fun j => hT j 0), sH), (cp_T (hT 0), sH0), (cp_T (hT 1), sH1), (cp_T (hT 2), sH2), (cp_T (hT 3), sH3), (cp_O aO, sO)]) H := hP
      have hD : va_D A (jx_ws cI cT [(cp_B aB (aT 0) (aS 0) (aC 0) (aU 0) (aV 0) (aW 0) (aH 0) (aO 0), sB), (cp_C aC (aT 0) (aS 0), sC), (cp_S aS (aT 0), sS_299), (cp_T aT, sT), (cp_C aW (aU 0) (aV 0), sW), (cp_S aV (aU 0), sV), (cp_T aU, sU), (cp_H aH (fun j => hT j 0), sH), (cp_T (hT 0), sH0), (cp_T (hT 1), sH1), (cp_T (hT 2), sH2), (cp_T (hT 3), sH3), (cp_O aO, sO)]) := hD
      refine jx_ldc C (-1000001) kc_L_40 dL_refused_302 ?_
      refine jx_ene C h.1 (tgt := 464) dL_refused_304 (by decide) (fun hc => ?_) (fun hc => ?_)
      · have h := h.2.2 hc
        exact J464 sB sC sS_299 sT sW sV sU sH sH0 sH1 sH2 sH3 sO L2 l4 l5 h _ _ hP hD hS ls (lv_sub hl [1, 2, 3, 4, 5] rfl)
      · have h := h.2.1 hc
        refine lv_aload_n hx hb dL_refused_307 rfl (lv_at hl 1 rfl) ?_
        refine jx_iconst C dL_refused_308 ?_
        refine jx_iconst C dL_refused_309 ?_
        refine jx_iconst C dL_refused_310 ?_
        refine jx_iconst C dL_refused_311 ?_
        refine jx_iconst C dL_refused_312 ?_
        refine jx_callVI C hK hP hD hS hA (ct_B_window l D cI cT aB aC aS aT aW aV aU aH hT aO _ sB sS_299 sT 1 0 0 1 0 h) ms_X7_window lk_L_51 [0, 2, 3] rfl rfl (fun _ => rfl) (cs' := (fun u => [(cp_B aB (aT 0) (aS 0) (aC 0) (aU 0) (aV 0) (aW 0) (aH 0) (aO 0), sB), (cp_C aC (aT 0) (aS 0), sC), (cp_S aS (aT 0), u), (cp_T aT, sT), (cp_C aW (aU 0) (aV 0), sW), (cp_S aV (aU 0), sV), (cp_T aU, sU), (cp_H aH (fun j => hT j 0), sH), (cp_T (hT 0), sH0), (cp_T (hT 1), sH1), (cp_T (hT 2), sH2), (cp_T (hT 3), sH3), (cp_O aO, sO)])) (fun _ => rfl) (fun _ => rfl) 0 0 rfl rfl rfl rfl rfl hl.1 rfl rfl dL_refused_313 ⟨Nat.le_refl _, Nat.le_refl _⟩ (fun r313 sS_313 H locs h hP hD hS => ?_)
        have hP : va_P D vwCl (jx_ws cI cT [(cp_B aB (aT 0) (aS 0) (aC 0) (aU 0) (aV 0) (aW 0) (aH 0) (aO 0), sB), (cp_C aC (aT 0) (aS 0), sC), (cp_S aS (aT 0), sS_313), (cp_T aT, sT), (cp_C aW (aU 0) (aV 0), sW), (cp_S aV (aU 0), sV), (cp_T aU, sU), (cp_H aH (fun j => hT j 0), sH), (cp_T (hT 0), sH0), (cp_T (hT 1), sH1), (cp_T (hT 2), sH2), (cp_T (hT 3), sH3), (cp_O aO, sO)]) H := hP
        have hD : va_D A (jx_ws cI cT [(cp_B aB (aT 0) (aS 0) (aC 0) (aU 0) (aV 0) (aW 0) (aH 0) (aO 0), sB), (cp_C aC (aT 0) (aS 0), sC), (cp_S aS (aT 0), sS_313), (cp_T aT, sT), (cp_C aW (aU 0) (aV 0), sW), (cp_S aV (aU 0), sV), (cp_T aU, sU), (cp_H aH (fun j => hT j 0), sH), (cp_T (hT 0), sH0), (cp_T (hT 1), sH1), (cp_T (hT 2), sH2), (cp_T (hT 3), sH3), (cp_O aO, sO)]) := hD
        refine jx_ldc C (-1000001) kc_L_40 dL_refused_316 ?_
        refine jx_ene C h.1 (tgt := 464) dL_refused_318 (by decide) (fun hc => ?_) (fun hc => ?_)
        · have h := h.2.2 hc
          exact J464 sB sC sS_313 sT sW sV sU sH sH0 sH1 sH2 sH3 sO L2 l4 l5 h _ _ hP hD hS ls (lv_sub hl [1, 2, 3, 4, 5] rfl)
        · have h := h.2.1 hc
          refine lv_aload_n hx hb dL_refused_321 rfl (lv_at hl 1 rfl) ?_
          refine jx_bipush C dL_refused_322 (by decide) ?_
          refine jx_iconst C dL_refused_324 ?_
          refine jx_iconst C dL_refused_325 ?_
          refine jx_iconst C dL_refused_326 ?_
          refine jx_callVI C hK hP hD hS hA (ct_B_nearest l D cI cT aB aC aS aT aW aV aU aH hT aO _ sB sS_313 sT 100 0 0 0 h) ms_X7_nearest lk_L_54 [0, 2, 3] rfl rfl (fun _ => rfl) (cs' := (fun u => [(cp_B aB (aT 0) (aS 0) (aC 0) (aU 0) (aV 0) (aW 0) (aH 0) (aO 0), u.1), (cp_C aC (aT 0) (aS 0), sC), (cp_S aS (aT 0), u.2), (cp_T aT, sT), (cp_C aW (aU 0) (aV 0), sW), (cp_S aV (aU 0), sV), (cp_T aU, sU), (cp_H aH (fun j => hT j 0), sH), (cp_T (hT 0), sH0), (cp_T (hT 1), sH1), (cp_T (hT 2), sH2), (cp_T (hT 3), sH3), (cp_O aO, sO)])) (fun _ => rfl) (fun _ => rfl) 0 0 rfl rfl rfl rfl rfl hl.1 rfl rfl dL_refused_327 ⟨Nat.le_refl _, Nat.le_refl _⟩ (fun r327 u H locs h hP hD hS => ?_)
          obtain ⟨sB_327, sS_327⟩ := u
          dsimp only at h
          have hP : va_P D vwCl (jx_ws cI cT [(cp_B aB (aT 0) (aS 0) (aC 0) (aU 0) (aV 0) (aW 0) (aH 0) (aO 0), sB_327), (cp_C aC (aT 0) (aS 0), sC), (cp_S aS (aT 0), sS_327), (cp_T aT, sT), (cp_C aW (aU 0) (aV 0), sW), (cp_S aV (aU 0), sV), (cp_T aU, sU), (cp_H aH (fun j => hT j 0), sH), (cp_T (hT 0), sH0), (cp_T (hT 1), sH1), (cp_T (hT 2), sH2), (cp_T (hT 3), sH3), (cp_O aO, sO)]) H := hP
          have hD : va_D A (jx_ws cI cT [(cp_B aB (aT 0) (aS 0) (aC 0) (aU 0) (aV 0) (aW 0) (aH 0) (aO 0), sB_327), (cp_C aC (aT 0) (aS 0), sC), (cp_S aS (aT 0), sS_327), (cp_T aT, sT), (cp_C aW (aU 0) (aV 0), sW), (cp_S aV (aU 0), sV), (cp_T aU, sU), (cp_H aH (fun j => hT j 0), sH), (cp_T (hT 0), sH0), (cp_T (hT 1), sH1), (cp_T (hT 2), sH2), (cp_T (hT 3), sH3), (cp_O aO, sO)]) := hD
          refine jx_ldc C (-1000001) kc_L_40 dL_refused_330 ?_
          refine jx_ene C h.1 (tgt := 464) dL_refused_332 (by decide) (fun hc => ?_) (fun hc => ?_)
          · have h := h.2.2 hc
            exact J464 sB_327 sC sS_327 sT sW sV sU sH sH0 sH1 sH2 sH3 sO L2 l4 l5 h _ _ hP hD hS ls (lv_sub hl [1, 2, 3, 4, 5] rfl)
          · have h := h.2.1 hc
            refine lv_aload_n hx hb dL_refused_335 rfl (lv_at hl 1 rfl) ?_
            refine jx_iconst C dL_refused_336 ?_
            refine jx_iconst C dL_refused_337 ?_
            refine jx_iconst C dL_refused_338 ?_
            refine jx_iconst C dL_refused_339 ?_
            refine jx_callVI C hK hP hD hS hA (ct_B_nearest l D cI cT aB aC aS aT aW aV aU aH hT aO _ sB_327 sS_327 sT 0 0 (-1) 0 h) ms_X7_nearest lk_L_54 [0, 2, 3] rfl rfl (fun _ => rfl) (cs' := (fun u => [(cp_B aB (aT 0) (aS 0) (aC 0) (aU 0) (aV 0) (aW 0) (aH 0) (aO 0), u.1), (cp_C aC (aT 0) (aS 0), sC), (cp_S aS (aT 0), u.2), (cp_T aT, sT), (cp_C aW (aU 0) (aV 0), sW), (cp_S aV (aU 0), sV), (cp_T aU, sU), (cp_H aH (fun j => hT j 0), sH), (cp_T (hT 0), sH0), (cp_T (hT 1), sH1), (cp_T (hT 2), sH2), (cp_T (hT 3), sH3), (cp_O aO, sO)])) (fun _ => rfl) (fun _ => rfl) 0 0 rfl rfl rfl rfl rfl hl.1 rfl rfl dL_refused_340 ⟨Nat.le_refl _, Nat.le_refl _⟩ (fun r340 u H locs h hP hD hS => ?_)
            obtain ⟨sB_340, sS_340⟩ := u
            dsimp only at h
            have hP : va_P D vwCl (jx_ws cI cT [(cp_B aB (aT 0) (aS 0) (aC 0) (aU 0) (aV 0) (aW 0) (aH 0) (aO 0), sB_340), (cp_C aC (aT 0) (aS 0), sC), (cp_S aS (aT 0), sS_340), (cp_T aT, sT), (cp_C aW (aU 0) (aV 0), sW), (cp_S aV (aU 0), sV), (cp_T aU, sU), (cp_H aH (fun j => hT j 0), sH), (cp_T (hT 0), sH0), (cp_T (hT 1), sH1), (cp_T (hT 2), sH2), (cp_T (hT 3), sH3), (cp_O aO, sO)]) H := hP
            have hD : va_D A (jx_ws cI cT [(cp_B aB (aT 0) (aS 0) (aC 0) (aU 0) (aV 0) (aW 0) (aH 0) (aO 0), sB_340), (cp_C aC (aT 0) (aS 0), sC), (cp_S aS (aT 0), sS_340), (cp_T aT, sT), (cp_C aW (aU 0) (aV 0), sW), (cp_S aV (aU 0), sV), (cp_T aU, sU), (cp_H aH (fun j => hT j 0), sH), (cp_T (hT 0), sH0), (cp_T (hT 1), sH1), (cp_T (hT 2), sH2), (cp_T (hT 3), sH3), (cp_O aO, sO)]) := hD
            refine jx_ldc C (-1000001) kc_L_40 dL_refused_343 ?_
            refine jx_ene C h.1 (tgt := 464) dL_refused_345 (by decide) (fun hc => ?_) (fun hc => ?_)
            · have h := h.2.2 hc
              exact J464 sB_340 sC sS_340 sT sW sV sU sH sH0 sH1 sH2 sH3 sO L2 l4 l5 h _ _ hP hD hS ls (lv_sub hl [1, 2, 3, 4, 5] rfl)
            · have h := h.2.1 hc
              refine lv_aload_n hx hb dL_refused_348 rfl (lv_at hl 1 rfl) ?_
              refine jx_iconst C dL_refused_349 ?_
              refine jx_iconst C dL_refused_350 ?_
              refine jx_iconst C dL_refused_351 ?_
              refine jx_iconst C dL_refused_352 ?_
              refine jx_callVI C hK hP hD hS hA (ct_B_nearest l D cI cT aB aC aS aT aW aV aU aH hT aO _ sB_340 sS_340 sT 0 0 0 3 h) ms_X7_nearest lk_L_54 [0, 2, 3] rfl rfl (fun _ => rfl) (cs' := (fun u => [(cp_B aB (aT 0) (aS 0) (aC 0) (aU 0) (aV 0) (aW 0) (aH 0) (aO 0), u.1), (cp_C aC (aT 0) (aS 0), sC), (cp_S aS (aT 0), u.2), (cp_T aT, sT), (cp_C aW (aU 0) (aV 0), sW), (cp_S aV (aU 0), sV), (cp_T aU, sU), (cp_H aH (fun j => hT j 0), sH), (cp_T (hT 0), sH0), (cp_T (hT 1), sH1), (cp_T (hT 2), sH2), (cp_T (hT 3), sH3), (cp_O aO, sO)])) (fun _ => rfl) (fun _ => rfl) 0 0 rfl rfl rfl rfl rfl hl.1 rfl rfl dL_refused_353 ⟨Nat.le_refl _, Nat.le_refl _⟩ (fun r353 u H locs h hP hD hS => ?_)
              obtain ⟨sB_353, sS_353⟩ := u
              dsimp only at h
              have hP : va_P D vwCl (jx_ws cI cT [(cp_B aB (aT 0) (aS 0) (aC 0) (aU 0) (aV 0) (aW 0) (aH 0) (aO 0), sB_353), (cp_C aC (aT 0) (aS 0), sC), (cp_S aS (aT 0), sS_353), (cp_T aT, sT), (cp_C aW (aU 0) (aV 0), sW), (cp_S aV (aU 0), sV), (cp_T aU, sU), (cp_H aH (fun j => hT j 0), sH), (cp_T (hT 0), sH0), (cp_T (hT 1), sH1), (cp_T (hT 2), sH2), (cp_T (hT 3), sH3), (cp_O aO, sO)]) H := hP
              have hD : va_D A (jx_ws cI cT [(cp_B aB (aT 0) (aS 0) (aC 0) (aU 0) (aV 0) (aW 0) (aH 0) (aO 0), sB_353), (cp_C aC (aT 0) (aS 0), sC), (cp_S aS (aT 0), sS_353), (cp_T aT, sT), (cp_C aW (aU 0) (aV 0), sW), (cp_S aV (aU 0), sV), (cp_T aU, sU), (cp_H aH (fun j => hT j 0), sH), (cp_T (hT 0), sH0), (cp_T (hT 1), sH1), (cp_T (hT 2), sH2), (cp_T (hT 3), sH3), (cp_O aO, sO)]) := hD
              refine jx_ldc C (-1000001) kc_L_40 dL_refused_356 ?_
              refine jx_ene C h.1 (tgt := 464) dL_refused_358 (by decide) (fun hc => ?_) (fun hc => ?_)
              · have h := h.2.2 hc
                exact J464 sB_353 sC sS_353 sT sW sV sU sH sH0 sH1 sH2 sH3 sO L2 l4 l5 h _ _ hP hD hS ls (lv_sub hl [1, 2, 3, 4, 5] rfl)
              · have h := h.2.1 hc
                refine lv_aload_n hx hb dL_refused_361 rfl (lv_at hl 1 rfl) ?_
                refine jx_iconst C dL_refused_362 ?_
                refine jx_iconst C dL_refused_363 ?_
                refine lv_aload_n hx hb dL_refused_364 rfl (lv_at hl 1 rfl) ?_
                refine jx_iconst C dL_refused_365 ?_
                refine jx_callVI C hK hP hD hS hA (ct_B_count l D cI cT aB aC aS aT aW aV aU aH hT aO _ sB_353 sC sS_353 sT sH sO 0 h) ms_X7_count lk_L_13 [0, 1, 2, 3, 7, 12] rfl rfl (fun _ => rfl) (cs' := (fun u => [(cp_B aB (aT 0) (aS 0) (aC 0) (aU 0) (aV 0) (aW 0) (aH 0) (aO 0), sB_353), (cp_C aC (aT 0) (aS 0), sC), (cp_S aS (aT 0), u), (cp_T aT, sT), (cp_C aW (aU 0) (aV 0), sW), (cp_S aV (aU 0), sV), (cp_T aU, sU), (cp_H aH (fun j => hT j 0), sH), (cp_T (hT 0), sH0), (cp_T (hT 1), sH1), (cp_T (hT 2), sH2), (cp_T (hT 3), sH3), (cp_O aO, sO)])) (fun _ => rfl) (fun _ => rfl) 0 0 rfl rfl rfl rfl rfl hl.1 rfl rfl dL_refused_366 ⟨Nat.le_refl _, Nat.le_refl _⟩ (fun r366 sS_366 H locs h hP hD hS => ?_)
                have hP : va_P D vwCl (jx_ws cI cT [(cp_B aB (aT 0) (aS 0) (aC 0) (aU 0) (aV 0) (aW 0) (aH 0) (aO 0), sB_353), (cp_C aC (aT 0) (aS 0), sC), (cp_S aS (aT 0), sS_366), (cp_T aT, sT), (cp_C aW (aU 0) (aV 0), sW), (cp_S aV (aU 0), sV), (cp_T aU, sU), (cp_H aH (fun j => hT j 0), sH), (cp_T (hT 0), sH0), (cp_T (hT 1), sH1), (cp_T (hT 2), sH2), (cp_T (hT 3), sH3), (cp_O aO, sO)]) H := hP
                have hD : va_D A (jx_ws cI cT [(cp_B aB (aT 0) (aS 0) (aC 0) (aU 0) (aV 0) (aW 0) (aH 0) (aO 0), sB_353), (cp_C aC (aT 0) (aS 0), sC), (cp_S aS (aT 0), sS_366), (cp_T aT, sT), (cp_C aW (aU 0) (aV 0), sW), (cp_S aV (aU 0), sV), (cp_T aU, sU), (cp_H aH (fun j => hT j 0), sH), (cp_T (hT 0), sH0), (cp_T (hT 1), sH1), (cp_T (hT 2), sH2), (cp_T (hT 3), sH3), (cp_O aO, sO)]) := hD
                refine jx_iconst C dL_refused_369 ?_
                refine jx_callVI C hK hP hD hS hA (ct_B_nearest l D cI cT aB aC aS aT aW aV aU aH hT aO _ sB_353 sS_366 sT 0 0 r366 0 h) ms_X7_nearest lk_L_54 [0, 2, 3] rfl rfl (fun _ => rfl) (cs' := (fun u => [(cp_B aB (aT 0) (aS 0) (aC 0) (aU 0) (aV 0) (aW 0) (aH 0) (aO 0), u.1), (cp_C aC (aT 0) (aS 0), sC), (cp_S aS (aT 0), u.2), (cp_T aT, sT), (cp_C aW (aU 0) (aV 0), sW), (cp_S aV (aU 0), sV), (cp_T aU, sU), (cp_H aH (fun j => hT j 0), sH), (cp_T (hT 0), sH0), (cp_T (hT 1), sH1), (cp_T (hT 2), sH2), (cp_T (hT 3), sH3), (cp_O aO, sO)])) (fun _ => rfl) (fun _ => rfl) 0 0 rfl rfl rfl rfl rfl hl.1 rfl rfl dL_refused_370 ⟨Nat.le_refl _, Nat.le_refl _⟩ (fun r370 u H locs h hP hD hS => ?_)
                obtain ⟨sB_370, sS_370⟩ := u
                dsimp only at h
                have hP : va_P D vwCl (jx_ws cI cT [(cp_B aB (aT 0) (aS 0) (aC 0) (aU 0) (aV 0) (aW 0) (aH 0) (aO 0), sB_370), (cp_C aC (aT 0) (aS 0), sC), (cp_S aS (aT 0), sS_370), (cp_T aT, sT), (cp_C aW (aU 0) (aV 0), sW), (cp_S aV (aU 0), sV), (cp_T aU, sU), (cp_H aH (fun j => hT j 0), sH), (cp_T (hT 0), sH0), (cp_T (hT 1), sH1), (cp_T (hT 2), sH2), (cp_T (hT 3), sH3), (cp_O aO, sO)]) H := hP
                have hD : va_D A (jx_ws cI cT [(cp_B aB (aT 0) (aS 0) (aC 0) (aU 0) (aV 0) (aW 0) (aH 0) (aO 0), sB_370), (cp_C aC (aT 0) (aS 0), sC), (cp_S aS (aT 0), sS_370), (cp_T aT, sT), (cp_C aW (aU 0) (aV 0), sW), (cp_S aV (aU 0), sV), (cp_T aU, sU), (cp_H aH (fun j => hT j 0), sH), (cp_T (hT 0), sH0), (cp_T (hT 1), sH1), (cp_T (hT 2), sH2), (cp_T (hT 3), sH3), (cp_O aO, sO)]) := hD
                refine jx_ldc C (-1000004) kc_L_44 dL_refused_373 ?_
                refine jx_ene C h.1 (tgt := 464) dL_refused_375 (by decide) (fun hc => ?_) (fun hc => ?_)
                · have h := h.2.2 hc
                  exact J464 sB_370 sC sS_370 sT sW sV sU sH sH0 sH1 sH2 sH3 sO L2 l4 l5 h _ _ hP hD hS ls (lv_sub hl [1, 2, 3, 4, 5] rfl)
                · have h := h.2.1 hc
                  refine lv_aload_n hx hb dL_refused_378 rfl (lv_at hl 1 rfl) ?_
                  refine jx_iconst C dL_refused_379 ?_
                  refine jx_iconst C dL_refused_380 ?_
                  refine jx_iconst C dL_refused_381 ?_
                  refine jx_iconst C dL_refused_382 ?_
                  refine jx_iconst C dL_refused_383 ?_
                  refine jx_callVI C hK hP hD hS hA (ct_B_would l D cI cT aB aC aS aT aW aV aU aH hT aO _ sB_370 sS_370 sT sW sV sU 0 0 1 1 5 h) ms_X7_would lk_L_58 [0, 2, 3, 4, 5, 6] rfl rfl (fun _ => rfl) (cs' := (fun u => [(cp_B aB (aT 0) (aS 0) (aC 0) (aU 0) (aV 0) (aW 0) (aH 0) (aO 0), sB_370), (cp_C aC (aT 0) (aS 0), sC), (cp_S aS (aT 0), u.1), (cp_T aT, sT), (cp_C aW (aU 0) (aV 0), u.2.1), (cp_S aV (aU 0), u.2.2.1), (cp_T aU, u.2.2.2), (cp_H aH (fun j => hT j 0), sH), (cp_T (hT 0), sH0), (cp_T (hT 1), sH1), (cp_T (hT 2), sH2), (cp_T (hT 3), sH3), (cp_O aO, sO)])) (fun _ => rfl) (fun _ => rfl) 0 0 rfl rfl rfl rfl rfl hl.1 rfl rfl dL_refused_384 ⟨Nat.le_refl _, Nat.le_refl _⟩ (fun r384 u H locs h hP hD hS => ?_)
                  obtain ⟨sS_384, sW_384, sV_384, sU_384⟩ := u
                  dsimp only at h
                  have hP : va_P D vwCl (jx_ws cI cT [(cp_B aB (aT 0) (aS 0) (aC 0) (aU 0) (aV 0) (aW 0) (aH 0) (aO 0), sB_370), (cp_C aC (aT 0) (aS 0), sC), (cp_S aS (aT 0), sS_384), (cp_T aT, sT), (cp_C aW (aU 0) (aV 0), sW_384), (cp_S aV (aU 0), sV_384), (cp_T aU, sU_384), (cp_H aH (fun j => hT j 0), sH), (cp_T (hT 0), sH0), (cp_T (hT 1), sH1), (cp_T (hT 2), sH2), (cp_T (hT 3), sH3), (cp_O aO, sO)]) H := hP
                  have hD : va_D A (jx_ws cI cT [(cp_B aB (aT 0) (aS 0) (aC 0) (aU 0) (aV 0) (aW 0) (aH 0) (aO 0), sB_370), (cp_C aC (aT 0) (aS 0), sC), (cp_S aS (aT 0), sS_384), (cp_T aT, sT), (cp_C aW (aU 0) (aV 0), sW_384), (cp_S aV (aU 0), sV_384), (cp_T aU, sU_384), (cp_H aH (fun j => hT j 0), sH), (cp_T (hT 0), sH0), (cp_T (hT 1), sH1), (cp_T (hT 2), sH2), (cp_T (hT 3), sH3), (cp_O aO, sO)]) := hD
                  refine jx_ldc C (-1000001) kc_L_40 dL_refused_387 ?_
                  refine jx_ene C h.1 (tgt := 464) dL_refused_389 (by decide) (fun hc => ?_) (fun hc => ?_)
                  · have h := h.2.2 hc
                    exact J464 sB_370 sC sS_384 sT sW_384 sV_384 sU_384 sH sH0 sH1 sH2 sH3 sO L2 l4 l5 h _ _ hP hD hS ls (lv_sub hl [1, 2, 3, 4, 5] rfl)
                  · have h := h.2.1 hc
                    refine lv_aload_n hx hb dL_refused_392 rfl (lv_at hl 1 rfl) ?_
                    refine jx_iconst C dL_refused_393 ?_
                    refine jx_iconst C dL_refused_394 ?_
                    refine jx_iconst C dL_refused_395 ?_
                    refine jx_iconst C dL_refused_396 ?_
                    refine jx_iconst C dL_refused_397 ?_
                    refine jx_callVI C hK hP hD hS hA (ct_B_would l D cI cT aB aC aS aT aW aV aU aH hT aO _ sB_370 sS_384 sT sW_384 sV_384 sU_384 3 0 1 1 0 h) ms_X7_would lk_L_58 [0, 2, 3, 4, 5, 6] rfl rfl (fun _ => rfl) (cs' := (fun u => [(cp_B aB (aT 0) (aS 0) (aC 0) (aU 0) (aV 0) (aW 0) (aH 0) (aO 0), sB_370), (cp_C aC (aT 0) (aS 0), sC), (cp_S aS (aT 0), u.1), (cp_T aT, sT), (cp_C aW (aU 0) (aV 0), u.2.1), (cp_S aV (aU 0), u.2.2.1), (cp_T aU, u.2.2.2), (cp_H aH (fun j => hT j 0), sH), (cp_T (hT 0), sH0), (cp_T (hT 1), sH1), (cp_T (hT 2), sH2), (cp_T (hT 3), sH3), (cp_O aO, sO)])) (fun _ => rfl) (fun _ => rfl) 0 0 rfl rfl rfl rfl rfl hl.1 rfl rfl dL_refused_398 ⟨Nat.le_refl _, Nat.le_refl _⟩ (fun r398 u H locs h hP hD hS => ?_)
                    obtain ⟨sS_398, sW_398, sV_398, sU_398⟩ := u
                    dsimp only at h
                    have hP : va_P D vwCl (jx_ws cI cT [(cp_B aB (aT 0) (aS 0) (aC 0) (aU 0) (aV 0) (aW 0) (aH 0) (aO 0), sB_370), (cp_C aC (aT 0) (aS 0), sC), (cp_S aS (aT 0), sS_398), (cp_T aT, sT), (cp_C aW (aU 0) (aV 0), sW_398), (cp_S aV (aU 0), sV_398), (cp_T aU, sU_398), (cp_H aH (fun j => hT j 0), sH), (cp_T (hT 0), sH0), (cp_T (hT 1), sH1), (cp_T (hT 2), sH2), (cp_T (hT 3), sH3), (cp_O aO, sO)]) H := hP
                    have hD : va_D A (jx_ws cI cT [(cp_B aB (aT 0) (aS 0) (aC 0) (aU 0) (aV 0) (aW 0) (aH 0) (aO 0), sB_370), (cp_C aC (aT 0) (aS 0), sC), (cp_S aS (aT 0), sS_398), (cp_T aT, sT), (cp_C aW (aU 0) (aV 0), sW_398), (cp_S aV (aU 0), sV_398), (cp_T aU, sU_398), (cp_H aH (fun j => hT j 0), sH), (cp_T (hT 0), sH0), (cp_T (hT 1), sH1), (cp_T (hT 2), sH2), (cp_T (hT 3), sH3), (cp_O aO, sO)]) := hD
                    refine jx_ldc C (-1000001) kc_L_40 dL_refused_401 ?_
                    refine jx_ene C h.1 (tgt := 464) dL_refused_403 (by decide) (fun hc => ?_) (fun hc => ?_)
                    · have h := h.2.2 hc
                      exact J464 sB_370 sC sS_398 sT sW_398 sV_398 sU_398 sH sH0 sH1 sH2 sH3 sO L2 l4 l5 h _ _ hP hD hS ls (lv_sub hl [1, 2, 3, 4, 5] rfl)
                    · have h := h.2.1 hc
                      refine lv_aload_n hx hb dL_refused_406 rfl (lv_at hl 1 rfl) ?_
                      refine jx_iconst C dL_refused_407 ?_
                      refine jx_iconst C dL_refused_408 ?_
                      refine jx_callVI C hK hP hD hS hA (ct_B_wouldTake l D cI cT aB aC aS aT aW aV aU aH hT aO _ sB_370 sT sW_398 sV_398 sU_398 (-1) 0 h) ms_X7_wouldTake lk_L_61 [0, 3, 4, 5, 6] rfl rfl (fun _ => rfl) (cs' := (fun u => [(cp_B aB (aT 0) (aS 0) (aC 0) (aU 0) (aV 0) (aW 0) (aH 0) (aO 0), sB_370), (cp_C aC (aT 0) (aS 0), sC), (cp_S aS (aT 0), sS_398), (cp_T aT, sT), (cp_C aW (aU 0) (aV 0), u.1), (cp_S aV (aU 0), u.2.1), (cp_T aU, u.2.2), (cp_H aH (fun j => hT j 0), sH), (cp_T (hT 0), sH0), (cp_T (hT 1), sH1), (cp_T (hT 2), sH2), (cp_T (hT 3), sH3), (cp_O aO, sO)])) (fun _ => rfl) (fun _ => rfl) 0 0 rfl rfl rfl rfl rfl hl.1 rfl rfl dL_refused_409 ⟨Nat.le_refl _, Nat.le_refl _⟩ (fun r409 u H locs h hP hD hS => ?_)
                      obtain ⟨sW_409, sV_409, sU_409⟩ := u
                      dsimp only at h
                      have hP : va_P D vwCl (jx_ws cI cT [(cp_B aB (aT 0) (aS 0) (aC 0) (aU 0) (aV 0) (aW 0) (aH 0) (aO 0), sB_370), (cp_C aC (aT 0) (aS 0), sC), (cp_S aS (aT 0), sS_398), (cp_T aT, sT), (cp_C aW (aU 0) (aV 0), sW_409), (cp_S aV (aU 0), sV_409), (cp_T aU, sU_409), (cp_H aH (fun j => hT j 0), sH), (cp_T (hT 0), sH0), (cp_T (hT 1), sH1), (cp_T (hT 2), sH2), (cp_T (hT 3), sH3), (cp_O aO, sO)]) H := hP
                      have hD : va_D A (jx_ws cI cT [(cp_B aB (aT 0) (aS 0) (aC 0) (aU 0) (aV 0) (aW 0) (aH 0) (aO 0), sB_370), (cp_C aC (aT 0) (aS 0), sC), (cp_S aS (aT 0), sS_398), (cp_T aT, sT), (cp_C aW (aU 0) (aV 0), sW_409), (cp_S aV (aU 0), sV_409), (cp_T aU, sU_409), (cp_H aH (fun j => hT j 0), sH), (cp_T (hT 0), sH0), (cp_T (hT 1), sH1), (cp_T (hT 2), sH2), (cp_T (hT 3), sH3), (cp_O aO, sO)]) := hD
                      refine jx_ldc C (-1000001) kc_L_40 dL_refused_412 ?_
                      refine jx_ene C h.1 (tgt := 464) dL_refused_414 (by decide) (fun hc => ?_) (fun hc => ?_)
                      · have h := h.2.2 hc
                        exact J464 sB_370 sC sS_398 sT sW_409 sV_409 sU_409 sH sH0 sH1 sH2 sH3 sO L2 l4 l5 h _ _ hP hD hS ls (lv_sub hl [1, 2, 3, 4, 5] rfl)
                      · have h := h.2.1 hc
                        refine lv_aload_n hx hb dL_refused_417 rfl (lv_at hl 1 rfl) ?_
                        refine lv_iload_n hx hb dL_refused_418 rfl (lv_at hl 2 rfl) ?_
                        refine jx_iconst C dL_refused_419 ?_
                        refine jx_callVI C hK hP hD hS hA (ct_B_wouldTake l D cI cT aB aC aS aT aW aV aU aH hT aO _ sB_370 sT sW_409 sV_409 sU_409 l1 4 h) ms_X7_wouldTake lk_L_61 [0, 3, 4, 5, 6] rfl rfl (fun _ => rfl) (cs' := (fun u => [(cp_B aB (aT 0) (aS 0) (aC 0) (aU 0) (aV 0) (aW 0) (aH 0) (aO 0), sB_370), (cp_C aC (aT 0) (aS 0), sC), (cp_S aS (aT 0), sS_398), (cp_T aT, sT), (cp_C aW (aU 0) (aV 0), u.1), (cp_S aV (aU 0), u.2.1), (cp_T aU, u.2.2), (cp_H aH (fun j => hT j 0), sH), (cp_T (hT 0), sH0), (cp_T (hT 1), sH1), (cp_T (hT 2), sH2), (cp_T (hT 3), sH3), (cp_O aO, sO)])) (fun _ => rfl) (fun _ => rfl) 0 0 rfl rfl rfl rfl rfl hl.1 rfl rfl dL_refused_420 ⟨Nat.le_refl _, Nat.le_refl _⟩ (fun r420 u H locs h hP hD hS => ?_)
                        obtain ⟨sW_420, sV_420, sU_420⟩ := u
                        dsimp only at h
                        have hP : va_P D vwCl (jx_ws cI cT [(cp_B aB (aT 0) (aS 0) (aC 0) (aU 0) (aV 0) (aW 0) (aH 0) (aO 0), sB_370), (cp_C aC (aT 0) (aS 0), sC), (cp_S aS (aT 0), sS_398), (cp_T aT, sT), (cp_C aW (aU 0) (aV 0), sW_420), (cp_S aV (aU 0), sV_420), (cp_T aU, sU_420), (cp_H aH (fun j => hT j 0), sH), (cp_T (hT 0), sH0), (cp_T (hT 1), sH1), (cp_T (hT 2), sH2), (cp_T (hT 3), sH3), (cp_O aO, sO)]) H := hP
                        have hD : va_D A (jx_ws cI cT [(cp_B aB (aT 0) (aS 0) (aC 0) (aU 0) (aV 0) (aW 0) (aH 0) (aO 0), sB_370), (cp_C aC (aT 0) (aS 0), sC), (cp_S aS (aT 0), sS_398), (cp_T aT, sT), (cp_C aW (aU 0) (aV 0), sW_420), (cp_S aV (aU 0), sV_420), (cp_T aU, sU_420), (cp_H aH (fun j => hT j 0), sH), (cp_T (hT 0), sH0), (cp_T (hT 1), sH1), (cp_T (hT 2), sH2), (cp_T (hT 3), sH3), (cp_O aO, sO)]) := hD
                        refine jx_ldc C (-1000001) kc_L_40 dL_refused_423 ?_
                        refine jx_ene C h.1 (tgt := 464) dL_refused_425 (by decide) (fun hc => ?_) (fun hc => ?_)
                        · have h := h.2.2 hc
                          exact J464 sB_370 sC sS_398 sT sW_420 sV_420 sU_420 sH sH0 sH1 sH2 sH3 sO L2 l4 l5 h _ _ hP hD hS ls (lv_sub hl [1, 2, 3, 4, 5] rfl)
                        · have h := h.2.1 hc
                          refine lv_aload_n hx hb dL_refused_428 rfl (lv_at hl 1 rfl) ?_
                          refine jx_bipush C dL_refused_429 (by decide) ?_
                          refine jx_callVI C hK hP hD hS hA (ct_B_count l D cI cT aB aC aS aT aW aV aU aH hT aO _ sB_370 sC sS_398 sT sH sO 11 h) ms_X7_count lk_L_13 [0, 1, 2, 3, 7, 12] rfl rfl (fun _ => rfl) (cs' := (fun u => [(cp_B aB (aT 0) (aS 0) (aC 0) (aU 0) (aV 0) (aW 0) (aH 0) (aO 0), sB_370), (cp_C aC (aT 0) (aS 0), sC), (cp_S aS (aT 0), u), (cp_T aT, sT), (cp_C aW (aU 0) (aV 0), sW_420), (cp_S aV (aU 0), sV_420), (cp_T aU, sU_420), (cp_H aH (fun j => hT j 0), sH), (cp_T (hT 0), sH0), (cp_T (hT 1), sH1), (cp_T (hT 2), sH2), (cp_T (hT 3), sH3), (cp_O aO, sO)])) (fun _ => rfl) (fun _ => rfl) 0 0 rfl rfl rfl rfl rfl hl.1 rfl rfl dL_refused_431 ⟨Nat.le_refl _, Nat.le_refl _⟩ (fun r431 sS_431 H locs h hP hD hS => ?_)
                          have hP : va_P D vwCl (jx_ws cI cT [(cp_B aB (aT 0) (aS 0) (aC 0) (aU 0) (aV 0) (aW 0) (aH 0) (aO 0), sB_370), (cp_C aC (aT 0) (aS 0), sC), (cp_S aS (aT 0), sS_431), (cp_T aT, sT), (cp_C aW (aU 0) (aV 0), sW_420), (cp_S aV (aU 0), sV_420), (cp_T aU, sU_420), (cp_H aH (fun j => hT j 0), sH), (cp_T (hT 0), sH0), (cp_T (hT 1), sH1), (cp_T (hT 2), sH2), (cp_T (hT 3), sH3), (cp_O aO, sO)]) H := hP
                          have hD : va_D A (jx_ws cI cT [(cp_B aB (aT 0) (aS 0) (aC 0) (aU 0) (aV 0) (aW 0) (aH 0) (aO 0), sB_370), (cp_C aC (aT 0) (aS 0), sC), (cp_S aS (aT 0), sS_431), (cp_T aT, sT), (cp_C aW (aU 0) (aV 0), sW_420), (cp_S aV (aU 0), sV_420), (cp_T aU, sU_420), (cp_H aH (fun j => hT j 0), sH), (cp_T (hT 0), sH0), (cp_T (hT 1), sH1), (cp_T (hT 2), sH2), (cp_T (hT 3), sH3), (cp_O aO, sO)]) := hD
                          refine jx_ldc C (-1000001) kc_L_40 dL_refused_434 ?_
                          refine jx_ene C h.1 (tgt := 464) dL_refused_436 (by decide) (fun hc => ?_) (fun hc => ?_)
                          · have h := h.2.2 hc
                            exact J464 sB_370 sC sS_431 sT sW_420 sV_420 sU_420 sH sH0 sH1 sH2 sH3 sO L2 l4 l5 h _ _ hP hD hS ls (lv_sub hl [1, 2, 3, 4, 5] rfl)
                          · have h := h.2.1 hc
                            refine lv_aload_n hx hb dL_refused_439 rfl (lv_at hl 1 rfl) ?_
                            refine jx_bipush C dL_refused_440 (by decide) ?_
                            refine jx_callVI C hK hP hD hS hA (ct_B_type l D cI cT aB aC aS aT aW aV aU aH hT aO _ sB_370 sO 31 h) ms_X7_type lk_L_64 [0, 12] rfl rfl (fun _ => rfl) (cs' := (fun u => [(cp_B aB (aT 0) (aS 0) (aC 0) (aU 0) (aV 0) (aW 0) (aH 0) (aO 0), sB_370), (cp_C aC (aT 0) (aS 0), sC), (cp_S aS (aT 0), sS_431), (cp_T aT, sT), (cp_C aW (aU 0) (aV 0), sW_420), (cp_S aV (aU 0), sV_420), (cp_T aU, sU_420), (cp_H aH (fun j => hT j 0), sH), (cp_T (hT 0), sH0), (cp_T (hT 1), sH1), (cp_T (hT 2), sH2), (cp_T (hT 3), sH3), (cp_O aO, u)])) (fun _ => rfl) (fun _ => rfl) 0 0 rfl rfl rfl rfl rfl hl.1 rfl rfl dL_refused_442 ⟨Nat.le_refl _, Nat.le_refl _⟩ (fun r442 sO_442 H locs h hP hD hS => ?_)
                            have hP : va_P D vwCl (jx_ws cI cT [(cp_B aB (aT 0) (aS 0) (aC 0) (aU 0) (aV 0) (aW 0) (aH 0) (aO 0), sB_370), (cp_C aC (aT 0) (aS 0), sC), (cp_S aS (aT 0), sS_431), (cp_T aT, sT), (cp_C aW (aU 0) (aV 0), sW_420), (cp_S aV (aU 0), sV_420), (cp_T aU, sU_420), (cp_H aH (fun j => hT j 0), sH), (cp_T (hT 0), sH0), (cp_T (hT 1), sH1), (cp_T (hT 2), sH2), (cp_T (hT 3), sH3), (cp_O aO, sO_442)]) H := hP
                            have hD : va_D A (jx_ws cI cT [(cp_B aB (aT 0) (aS 0) (aC 0) (aU 0) (aV 0) (aW 0) (aH 0) (aO 0), sB_370), (cp_C aC (aT 0) (aS 0), sC), (cp_S aS (aT 0), sS_431), (cp_T aT, sT), (cp_C aW (aU 0) (aV 0), sW_420), (cp_S aV (aU 0), sV_420), (cp_T aU, sU_420), (cp_H aH (fun j => hT j 0), sH), (cp_T (hT 0), sH0), (cp_T (hT 1), sH1), (cp_T (hT 2), sH2), (cp_T (hT 3), sH3), (cp_O aO, sO_442)]) := hD
                            refine jx_ldc C (-1000001) kc_L_40 dL_refused_445 ?_
                            refine jx_ene C h.1 (tgt := 464) dL_refused_447 (by decide) (fun hc => ?_) (fun hc => ?_)
                            · have h := h.2.2 hc
                              exact J464 sB_370 sC sS_431 sT sW_420 sV_420 sU_420 sH sH0 sH1 sH2 sH3 sO_442 L2 l4 l5 h _ _ hP hD hS ls (lv_sub hl [1, 2, 3, 4, 5] rfl)
                            · have h := h.2.1 hc
                              refine lv_aload_n hx hb dL_refused_450 rfl (lv_at hl 1 rfl) ?_
                              refine jx_iconst C dL_refused_451 ?_
                              refine jx_callVI C hK hP hD hS hA (ct_B_fault l D cI cT aB aC aS aT aW aV aU aH hT aO _ sB_370 sT sO_442 3 h) ms_X7_fault lk_L_67 [0, 3, 12] rfl rfl (fun _ => rfl) (cs' := (fun u => [(cp_B aB (aT 0) (aS 0) (aC 0) (aU 0) (aV 0) (aW 0) (aH 0) (aO 0), sB_370), (cp_C aC (aT 0) (aS 0), sC), (cp_S aS (aT 0), sS_431), (cp_T aT, sT), (cp_C aW (aU 0) (aV 0), sW_420), (cp_S aV (aU 0), sV_420), (cp_T aU, sU_420), (cp_H aH (fun j => hT j 0), sH), (cp_T (hT 0), sH0), (cp_T (hT 1), sH1), (cp_T (hT 2), sH2), (cp_T (hT 3), sH3), (cp_O aO, u)])) (fun _ => rfl) (fun _ => rfl) 0 0 rfl rfl rfl rfl rfl hl.1 rfl rfl dL_refused_452 ⟨Nat.le_refl _, Nat.le_refl _⟩ (fun r452 sO_452 H locs h hP hD hS => ?_)
                              have hP : va_P D vwCl (jx_ws cI cT [(cp_B aB (aT 0) (aS 0) (aC 0) (aU 0) (aV 0) (aW 0) (aH 0) (aO 0), sB_370), (cp_C aC (aT 0) (aS 0), sC), (cp_S aS (aT 0), sS_431), (cp_T aT, sT), (cp_C aW (aU 0) (aV 0), sW_420), (cp_S aV (aU 0), sV_420), (cp_T aU, sU_420), (cp_H aH (fun j => hT j 0), sH), (cp_T (hT 0), sH0), (cp_T (hT 1), sH1), (cp_T (hT 2), sH2), (cp_T (hT 3), sH3), (cp_O aO, sO_452)]) H := hP
                              have hD : va_D A (jx_ws cI cT [(cp_B aB (aT 0) (aS 0) (aC 0) (aU 0) (aV 0) (aW 0) (aH 0) (aO 0), sB_370), (cp_C aC (aT 0) (aS 0), sC), (cp_S aS (aT 0), sS_431), (cp_T aT, sT), (cp_C aW (aU 0) (aV 0), sW_420), (cp_S aV (aU 0), sV_420), (cp_T aU, sU_420), (cp_H aH (fun j => hT j 0), sH), (cp_T (hT 0), sH0), (cp_T (hT 1), sH1), (cp_T (hT 2), sH2), (cp_T (hT 3), sH3), (cp_O aO, sO_452)]) := hD
                              refine jx_ldc C (-1000001) kc_L_40 dL_refused_455 ?_
                              refine jx_ene C h.1 (tgt := 464) dL_refused_457 (by decide) (fun hc => ?_) (fun hc => ?_)
                              · have h := h.2.2 hc
                                exact J464 sB_370 sC sS_431 sT sW_420 sV_420 sU_420 sH sH0 sH1 sH2 sH3 sO_452 L2 l4 l5 h _ _ hP hD hS ls (lv_sub hl [1, 2, 3, 4, 5] rfl)
                              · have h := h.2.1 hc
                                refine jx_iconst C dL_refused_460 ?_
                                refine lv_goto (tgt := 465) hx hb dL_refused_461 (by decide) ?_
                                exact J465 sB_370 sC sS_431 sT sW_420 sV_420 sU_420 sH sH0 sH1 sH2 sH3 sO_452 L2 l4 l5 1 h _ _ hP hD hS ls (lv_sub hl [1, 2, 3, 4, 5] rfl)
  have J285 : ∀ (sB : jx_St) (sC : jx_St) (sS : jx_St) (sT : jx_St) (sW : jx_St) (sV : jx_St) (sU : jx_St) (sH : jx_St) (sH0 : jx_St) (sH1 : jx_St) (sH2 : jx_St) (sH3 : jx_St) (sO : jx_St) (L2 : Int64) (l4 : Int) (l5 : Int), wp_L_refused_285 Q l1 sB sC sS sT sW sV sU sH sH0 sH1 sH2 sH3 sO L2 l4 l5 → ∀ (H : Heap) (locs : List Loc), va_P D vwCl (jx_ws cI cT [(cp_B aB (aT 0) (aS 0) (aC 0) (aU 0) (aV 0) (aW 0) (aH 0) (aO 0), sB), (cp_C aC (aT 0) (aS 0), sC), (cp_S aS (aT 0), sS), (cp_T aT, sT), (cp_C aW (aU 0) (aV 0), sW), (cp_S aV (aU 0), sV), (cp_T aU, sU), (cp_H aH (fun j => hT j 0), sH), (cp_T (hT 0), sH0), (cp_T (hT 1), sH1), (cp_T (hT 2), sH2), (cp_T (hT 3), sH3), (cp_O aO, sO)]) H → va_D A (jx_ws cI cT [(cp_B aB (aT 0) (aS 0) (aC 0) (aU 0) (aV 0) (aW 0) (aH 0) (aO 0), sB), (cp_C aC (aT 0) (aS 0), sC), (cp_S aS (aT 0), sS), (cp_T aT, sT), (cp_C aW (aU 0) (aV 0), sW), (cp_S aV (aU 0), sV), (cp_T aU, sU), (cp_H aH (fun j => hT j 0), sH), (cp_T (hT 0), sH0), (cp_T (hT 1), sH1), (cp_T (hT 2), sH2), (cp_T (hT 3), sH3), (cp_O aO, sO)]) → va_S A s.heap H locs → ∀ ls : Array Slot, lv_has ls 8 [(0, .ref (aB 0)), (1, .int (jx_i l1)), (2, .long L2), (4, .int (jx_i l4)), (5, .int (jx_i l5))] → W p l e (jx_rm 8 202) s m args below meth c H locs 0 0 QQ (F0 m 285 ls []) := by
    intro sB sC sS sT sW sV sU sH sH0 sH1 sH2 sH3 sO L2 l4 l5 h H locs hP hD hS ls hl
    unfold wp_L_refused_285 at h
    refine jx_iconst C dL_refused_285 ?_
    exact J286 sB sC sS sT sW sV sU sH sH0 sH1 sH2 sH3 sO L2 l4 l5 0 h _ _ hP hD hS ls (lv_sub hl [0, 1, 2, 3, 4] rfl)
  refine lv_aload_n hx hb dL_refused_0 rfl (lv_at hl 0 rfl) ?_
  refine jx_callSL C hK hP hD hS hA (ct_L_print l D cI cT aB aC aS aT aW aV aU aH hT aO _ sB sC sS sT sH sO  h) ms_L_print lk_L_30 [0, 1, 2, 3, 7, 12] rfl rfl (fun _ => rfl) (cs' := (fun u => [(cp_B aB (aT 0) (aS 0) (aC 0) (aU 0) (aV 0) (aW 0) (aH 0) (aO 0), sB), (cp_C aC (aT 0) (aS 0), sC), (cp_S aS (aT 0), u), (cp_T aT, sT), (cp_C aW (aU 0) (aV 0), sW), (cp_S aV (aU 0), sV), (cp_T aU, sU), (cp_H aH (fun j => hT j 0), sH), (cp_T (hT 0), sH0), (cp_T (hT 1), sH1), (cp_T (hT 2), sH2), (cp_T (hT 3), sH3), (cp_O aO, sO)])) (fun _ => rfl) (fun _ => rfl) rfl rfl hl.1 rfl rfl dL_refused_1 ⟨Nat.le_refl _, Nat.le_refl _⟩ (fun r1 sS_1 H locs h hP hD hS => ?_)
  have hP : va_P D vwCl (jx_ws cI cT [(cp_B aB (aT 0) (aS 0) (aC 0) (aU 0) (aV 0) (aW 0) (aH 0) (aO 0), sB), (cp_C aC (aT 0) (aS 0), sC), (cp_S aS (aT 0), sS_1), (cp_T aT, sT), (cp_C aW (aU 0) (aV 0), sW), (cp_S aV (aU 0), sV), (cp_T aU, sU), (cp_H aH (fun j => hT j 0), sH), (cp_T (hT 0), sH0), (cp_T (hT 1), sH1), (cp_T (hT 2), sH2), (cp_T (hT 3), sH3), (cp_O aO, sO)]) H := hP
  have hD : va_D A (jx_ws cI cT [(cp_B aB (aT 0) (aS 0) (aC 0) (aU 0) (aV 0) (aW 0) (aH 0) (aO 0), sB), (cp_C aC (aT 0) (aS 0), sC), (cp_S aS (aT 0), sS_1), (cp_T aT, sT), (cp_C aW (aU 0) (aV 0), sW), (cp_S aV (aU 0), sV), (cp_T aU, sU), (cp_H aH (fun j => hT j 0), sH), (cp_T (hT 0), sH0), (cp_T (hT 1), sH1), (cp_T (hT 2), sH2), (cp_T (hT 3), sH3), (cp_O aO, sO)]) := hD
  refine lv_lstore_n (lv' := [(2, .long r1), (0, .ref (aB 0)), (1, .int (jx_i l1))]) hx hb dL_refused_4 rfl hl (by decide) rfl (fun ls hl => ?_)
  refine lv_aload_n hx hb dL_refused_5 rfl (lv_at hl 1 rfl) ?_
  refine jx_bipush C dL_refused_6 (by decide) ?_
  refine jx_callVI C hK hP hD hS hA (ct_B_count l D cI cT aB aC aS aT aW aV aU aH hT aO _ sB sC sS_1 sT sH sO 8 h) ms_X7_count lk_L_13 [0, 1, 2, 3, 7, 12] rfl rfl (fun _ => rfl) (cs' := (fun u => [(cp_B aB (aT 0) (aS 0) (aC 0) (aU 0) (aV 0) (aW 0) (aH 0) (aO 0), sB), (cp_C aC (aT 0) (aS 0), sC), (cp_S aS (aT 0), u), (cp_T aT, sT), (cp_C aW (aU 0) (aV 0), sW), (cp_S aV (aU 0), sV), (cp_T aU, sU), (cp_H aH (fun j => hT j 0), sH), (cp_T (hT 0), sH0), (cp_T (hT 1), sH1), (cp_T (hT 2), sH2), (cp_T (hT 3), sH3), (cp_O aO, sO)])) (fun _ => rfl) (fun _ => rfl) 0 0 rfl rfl rfl rfl rfl hl.1 rfl rfl dL_refused_8 ⟨Nat.le_refl _, Nat.le_refl _⟩ (fun r8 sS_8 H locs h hP hD hS => ?_)
  have hP : va_P D vwCl (jx_ws cI cT [(cp_B aB (aT 0) (aS 0) (aC 0) (aU 0) (aV 0) (aW 0) (aH 0) (aO 0), sB), (cp_C aC (aT 0) (aS 0), sC), (cp_S aS (aT 0), sS_8), (cp_T aT, sT), (cp_C aW (aU 0) (aV 0), sW), (cp_S aV (aU 0), sV), (cp_T aU, sU), (cp_H aH (fun j => hT j 0), sH), (cp_T (hT 0), sH0), (cp_T (hT 1), sH1), (cp_T (hT 2), sH2), (cp_T (hT 3), sH3), (cp_O aO, sO)]) H := hP
  have hD : va_D A (jx_ws cI cT [(cp_B aB (aT 0) (aS 0) (aC 0) (aU 0) (aV 0) (aW 0) (aH 0) (aO 0), sB), (cp_C aC (aT 0) (aS 0), sC), (cp_S aS (aT 0), sS_8), (cp_T aT, sT), (cp_C aW (aU 0) (aV 0), sW), (cp_S aV (aU 0), sV), (cp_T aU, sU), (cp_H aH (fun j => hT j 0), sH), (cp_T (hT 0), sH0), (cp_T (hT 1), sH1), (cp_T (hT 2), sH2), (cp_T (hT 3), sH3), (cp_O aO, sO)]) := hD
  refine lv_istore (lv' := [(4, .int (jx_i r8)), (2, .long r1), (0, .ref (aB 0)), (1, .int (jx_i l1))]) hx hb dL_refused_11 hl (by decide) rfl (fun ls hl => ?_)
  refine lv_aload_n hx hb dL_refused_13 rfl (lv_at hl 2 rfl) ?_
  refine jx_iconst C dL_refused_14 ?_
  refine jx_callVI C hK hP hD hS hA (ct_B_count l D cI cT aB aC aS aT aW aV aU aH hT aO _ sB sC sS_8 sT sH sO 4 h) ms_X7_count lk_L_13 [0, 1, 2, 3, 7, 12] rfl rfl (fun _ => rfl) (cs' := (fun u => [(cp_B aB (aT 0) (aS 0) (aC 0) (aU 0) (aV 0) (aW 0) (aH 0) (aO 0), sB), (cp_C aC (aT 0) (aS 0), sC), (cp_S aS (aT 0), u), (cp_T aT, sT), (cp_C aW (aU 0) (aV 0), sW), (cp_S aV (aU 0), sV), (cp_T aU, sU), (cp_H aH (fun j => hT j 0), sH), (cp_T (hT 0), sH0), (cp_T (hT 1), sH1), (cp_T (hT 2), sH2), (cp_T (hT 3), sH3), (cp_O aO, sO)])) (fun _ => rfl) (fun _ => rfl) 0 0 rfl rfl rfl rfl rfl hl.1 rfl rfl dL_refused_15 ⟨Nat.le_refl _, Nat.le_refl _⟩ (fun r15 sS_15 H locs h hP hD hS => ?_)
  have hP : va_P D vwCl (jx_ws cI cT [(cp_B aB (aT 0) (aS 0) (aC 0) (aU 0) (aV 0) (aW 0) (aH 0) (aO 0), sB), (cp_C aC (aT 0) (aS 0), sC), (cp_S aS (aT 0), sS_15), (cp_T aT, sT), (cp_C aW (aU 0) (aV 0), sW), (cp_S aV (aU 0), sV), (cp_T aU, sU), (cp_H aH (fun j => hT j 0), sH), (cp_T (hT 0), sH0), (cp_T (hT 1), sH1), (cp_T (hT 2), sH2), (cp_T (hT 3), sH3), (cp_O aO, sO)]) H := hP
  have hD : va_D A (jx_ws cI cT [(cp_B aB (aT 0) (aS 0) (aC 0) (aU 0) (aV 0) (aW 0) (aH 0) (aO 0), sB), (cp_C aC (aT 0) (aS 0), sC), (cp_S aS (aT 0), sS_15), (cp_T aT, sT), (cp_C aW (aU 0) (aV 0), sW), (cp_S aV (aU 0), sV), (cp_T aU, sU), (cp_H aH (fun j => hT j 0), sH), (cp_T (hT 0), sH0), (cp_T (hT 1), sH1), (cp_T (hT 2), sH2), (cp_T (hT 3), sH3), (cp_O aO, sO)]) := hD
  refine lv_istore (lv' := [(5, .int (jx_i r15)), (4, .int (jx_i r8)), (2, .long r1), (0, .ref (aB 0)), (1, .int (jx_i l1))]) hx hb dL_refused_18 hl (by decide) rfl (fun ls hl => ?_)
  refine lv_aload_n hx hb dL_refused_20 rfl (lv_at hl 3 rfl) ?_
  refine jx_iconst C dL_refused_21 ?_
  refine jx_callVI C hK hP hD hS hA (ct_B_count l D cI cT aB aC aS aT aW aV aU aH hT aO _ sB sC sS_15 sT sH sO 1 h) ms_X7_count lk_L_13 [0, 1, 2, 3, 7, 12] rfl rfl (fun _ => rfl) (cs' := (fun u => [(cp_B aB (aT 0) (aS 0) (aC 0) (aU 0) (aV 0) (aW 0) (aH 0) (aO 0), sB), (cp_C aC (aT 0) (aS 0), sC), (cp_S aS (aT 0), u), (cp_T aT, sT), (cp_C aW (aU 0) (aV 0), sW), (cp_S aV (aU 0), sV), (cp_T aU, sU), (cp_H aH (fun j => hT j 0), sH), (cp_T (hT 0), sH0), (cp_T (hT 1), sH1), (cp_T (hT 2), sH2), (cp_T (hT 3), sH3), (cp_O aO, sO)])) (fun _ => rfl) (fun _ => rfl) 0 0 rfl rfl rfl rfl rfl hl.1 rfl rfl dL_refused_22 ⟨Nat.le_refl _, Nat.le_refl _⟩ (fun r22 sS_22 H locs h hP hD hS => ?_)
  have hP : va_P D vwCl (jx_ws cI cT [(cp_B aB (aT 0) (aS 0) (aC 0) (aU 0) (aV 0) (aW 0) (aH 0) (aO 0), sB), (cp_C aC (aT 0) (aS 0), sC), (cp_S aS (aT 0), sS_22), (cp_T aT, sT), (cp_C aW (aU 0) (aV 0), sW), (cp_S aV (aU 0), sV), (cp_T aU, sU), (cp_H aH (fun j => hT j 0), sH), (cp_T (hT 0), sH0), (cp_T (hT 1), sH1), (cp_T (hT 2), sH2), (cp_T (hT 3), sH3), (cp_O aO, sO)]) H := hP
  have hD : va_D A (jx_ws cI cT [(cp_B aB (aT 0) (aS 0) (aC 0) (aU 0) (aV 0) (aW 0) (aH 0) (aO 0), sB), (cp_C aC (aT 0) (aS 0), sC), (cp_S aS (aT 0), sS_22), (cp_T aT, sT), (cp_C aW (aU 0) (aV 0), sW), (cp_S aV (aU 0), sV), (cp_T aU, sU), (cp_H aH (fun j => hT j 0), sH), (cp_T (hT 0), sH0), (cp_T (hT 1), sH1), (cp_T (hT 2), sH2), (cp_T (hT 3), sH3), (cp_O aO, sO)]) := hD
  refine lv_istore (lv' := [(6, .int (jx_i r22)), (5, .int (jx_i r15)), (4, .int (jx_i r8)), (2, .long r1), (0, .ref (aB 0)), (1, .int (jx_i l1))]) hx hb dL_refused_25 hl (by decide) rfl (fun ls hl => ?_)
  refine lv_aload_n hx hb dL_refused_27 rfl (lv_at hl 4 rfl) ?_
  refine jx_bipush C dL_refused_28 (by decide) ?_
  refine jx_iconst C dL_refused_30 ?_
  refine jx_iconst C dL_refused_31 ?_
  refine jx_iconst C dL_refused_32 ?_
  refine jx_iconst C dL_refused_33 ?_
  refine jx_callVI C hK hP hD hS hA (ct_B_put l D cI cT aB aC aS aT aW aV aU aH hT aO _ sB sC sS_22 sT sH sH0 sH1 sH2 sH3 31 0 0 1 1 h) ms_X7_put lk_L_36 [0, 1, 2, 3, 7, 8, 9, 10, 11] rfl rfl (fun _ => rfl) (cs' := (fun u => [(cp_B aB (aT 0) (aS 0) (aC 0) (aU 0) (aV 0) (aW 0) (aH 0) (aO 0), sB), (cp_C aC (aT 0) (aS 0), u.1), (cp_S aS (aT 0), u.2.1), (cp_T aT, u.2.2.1), (cp_C aW (aU 0) (aV 0), sW), (cp_S aV (aU 0), sV), (cp_T aU, sU), (cp_H aH (fun j => hT j 0), u.2.2.2.1), (cp_T (hT 0), u.2.2.2.2.1), (cp_T (hT 1), u.2.2.2.2.2.1), (cp_T (hT 2), u.2.2.2.2.2.2.1), (cp_T (hT 3), u.2.2.2.2.2.2.2), (cp_O aO, sO)])) (fun _ => rfl) (fun _ => rfl) 0 0 rfl rfl rfl rfl rfl hl.1 rfl rfl dL_refused_34 ⟨Nat.le_refl _, Nat.le_refl _⟩ (fun r34 u H locs h hP hD hS => ?_)
  obtain ⟨sC_34, sS_34, sT_34, sH_34, sH0_34, sH1_34, sH2_34, sH3_34⟩ := u
  dsimp only at h
  have hP : va_P D vwCl (jx_ws cI cT [(cp_B aB (aT 0) (aS 0) (aC 0) (aU 0) (aV 0) (aW 0) (aH 0) (aO 0), sB), (cp_C aC (aT 0) (aS 0), sC_34), (cp_S aS (aT 0), sS_34), (cp_T aT, sT_34), (cp_C aW (aU 0) (aV 0), sW), (cp_S aV (aU 0), sV), (cp_T aU, sU), (cp_H aH (fun j => hT j 0), sH_34), (cp_T (hT 0), sH0_34), (cp_T (hT 1), sH1_34), (cp_T (hT 2), sH2_34), (cp_T (hT 3), sH3_34), (cp_O aO, sO)]) H := hP
  have hD : va_D A (jx_ws cI cT [(cp_B aB (aT 0) (aS 0) (aC 0) (aU 0) (aV 0) (aW 0) (aH 0) (aO 0), sB), (cp_C aC (aT 0) (aS 0), sC_34), (cp_S aS (aT 0), sS_34), (cp_T aT, sT_34), (cp_C aW (aU 0) (aV 0), sW), (cp_S aV (aU 0), sV), (cp_T aU, sU), (cp_H aH (fun j => hT j 0), sH_34), (cp_T (hT 0), sH0_34), (cp_T (hT 1), sH1_34), (cp_T (hT 2), sH2_34), (cp_T (hT 3), sH3_34), (cp_O aO, sO)]) := hD
  refine jx_ldc C (-1000001) kc_L_40 dL_refused_37 ?_
  refine jx_ene C h.1 (tgt := 285) dL_refused_39 (by decide) (fun hc => ?_) (fun hc => ?_)
  · have h := h.2.2 hc
    exact J285 sB sC_34 sS_34 sT_34 sW sV sU sH_34 sH0_34 sH1_34 sH2_34 sH3_34 sO r1 r8 r15 h _ _ hP hD hS ls (lv_sub hl [4, 5, 3, 2, 1] rfl)
  · have h := h.2.1 hc
    refine lv_aload_n hx hb dL_refused_42 rfl (lv_at hl 4 rfl) ?_
    refine jx_iconst C dL_refused_43 ?_
    refine jx_iconst C dL_refused_44 ?_
    refine jx_iconst C dL_refused_45 ?_
    refine jx_iconst C dL_refused_46 ?_
    refine jx_iconst C dL_refused_47 ?_
    refine jx_callVI C hK hP hD hS hA (ct_B_put l D cI cT aB aC aS aT aW aV aU aH hT aO _ sB sC_34 sS_34 sT_34 sH_34 sH0_34 sH1_34 sH2_34 sH3_34 (-1) 0 0 1 1 h) ms_X7_put lk_L_36 [0, 1, 2, 3, 7, 8, 9, 10, 11] rfl rfl (fun _ => rfl) (cs' := (fun u => [(cp_B aB (aT 0) (aS 0) (aC 0) (aU 0) (aV 0) (aW 0) (aH 0) (aO 0), sB), (cp_C aC (aT 0) (aS 0), u.1), (cp_S aS (aT 0), u.2.1), (cp_T aT, u.2.2.1), (cp_C aW (aU 0) (aV 0), sW), (cp_S aV (aU 0), sV), (cp_T aU, sU), (cp_H aH (fun j => hT j 0), u.2.2.2.1), (cp_T (hT 0), u.2.2.2.2.1), (cp_T (hT 1), u.2.2.2.2.2.1), (cp_T (hT 2), u.2.2.2.2.2.2.1), (cp_T (hT 3), u.2.2.2.2.2.2.2), (cp_O aO, sO)])) (fun _ => rfl) (fun _ => rfl) 0 0 rfl rfl rfl rfl rfl hl.1 rfl rfl dL_refused_48 ⟨Nat.le_refl _, Nat.le_refl _⟩ (fun r48 u H locs h hP hD hS => ?_)
    obtain ⟨sC_48, sS_48, sT_48, sH_48, sH0_48, sH1_48, sH2_48, sH3_48⟩ := u
    dsimp only at h
    have hP : va_P D vwCl (jx_ws cI cT [(cp_B aB (aT 0) (aS 0) (aC 0) (aU 0) (aV 0) (aW 0) (aH 0) (aO 0), sB), (cp_C aC (aT 0) (aS 0), sC_48), (cp_S aS (aT 0), sS_48), (cp_T aT, sT_48), (cp_C aW (aU 0) (aV 0), sW), (cp_S aV (aU 0), sV), (cp_T aU, sU), (cp_H aH (fun j => hT j 0), sH_48), (cp_T (hT 0), sH0_48), (cp_T (hT 1), sH1_48), (cp_T (hT 2), sH2_48), (cp_T (hT 3), sH3_48), (cp_O aO, sO)]) H := hP
    have hD : va_D A (jx_ws cI cT [(cp_B aB (aT 0) (aS 0) (aC 0) (aU 0) (aV 0) (aW 0) (aH 0) (aO 0), sB), (cp_C aC (aT 0) (aS 0), sC_48), (cp_S aS (aT 0), sS_48), (cp_T aT, sT_48), (cp_C aW (aU 0) (aV 0), sW), (cp_S aV (aU 0), sV), (cp_T aU, sU), (cp_H aH (fun j => hT j 0), sH_48), (cp_T (hT 0), sH0_48), (cp_T (hT 1), sH1_48), (cp_T (hT 2), sH2_48), (cp_T (hT 3), sH3_48), (cp_O aO, sO)]) := hD
    refine jx_ldc C (-1000001) kc_L_40 dL_refused_51 ?_
    refine jx_ene C h.1 (tgt := 285) dL_refused_53 (by decide) (fun hc => ?_) (fun hc => ?_)
    · have h := h.2.2 hc
      exact J285 sB sC_48 sS_48 sT_48 sW sV sU sH_48 sH0_48 sH1_48 sH2_48 sH3_48 sO r1 r8 r15 h _ _ hP hD hS ls (lv_sub hl [4, 5, 3, 2, 1] rfl)
    · have h := h.2.1 hc
      refine lv_aload_n hx hb dL_refused_56 rfl (lv_at hl 4 rfl) ?_
      refine lv_iload_n hx hb dL_refused_57 rfl (lv_at hl 5 rfl) ?_
      refine jx_iconst C dL_refused_58 ?_
      refine jx_iconst C dL_refused_59 ?_
      refine jx_iconst C dL_refused_60 ?_
      refine jx_iconst C dL_refused_61 ?_
      refine jx_callVI C hK hP hD hS hA (ct_B_put l D cI cT aB aC aS aT aW aV aU aH hT aO _ sB sC_48 sS_48 sT_48 sH_48 sH0_48 sH1_48 sH2_48 sH3_48 l1 2 0 1 1 h) ms_X7_put lk_L_36 [0, 1, 2, 3, 7, 8, 9, 10, 11] rfl rfl (fun _ => rfl) (cs' := (fun u => [(cp_B aB (aT 0) (aS 0) (aC 0) (aU 0) (aV 0) (aW 0) (aH 0) (aO 0), sB), (cp_C aC (aT 0) (aS 0), u.1), (cp_S aS (aT 0), u.2.1), (cp_T aT, u.2.2.1), (cp_C aW (aU 0) (aV 0), sW), (cp_S aV (aU 0), sV), (cp_T aU, sU), (cp_H aH (fun j => hT j 0), u.2.2.2.1), (cp_T (hT 0), u.2.2.2.2.1), (cp_T (hT 1), u.2.2.2.2.2.1), (cp_T (hT 2), u.2.2.2.2.2.2.1), (cp_T (hT 3), u.2.2.2.2.2.2.2), (cp_O aO, sO)])) (fun _ => rfl) (fun _ => rfl) 0 0 rfl rfl rfl rfl rfl hl.1 rfl rfl dL_refused_62 ⟨Nat.le_refl _, Nat.le_refl _⟩ (fun r62 u H locs h hP hD hS => ?_)
      obtain ⟨sC_62, sS_62, sT_62, sH_62, sH0_62, sH1_62, sH2_62, sH3_62⟩ := u
      dsimp only at h
      have hP : va_P D vwCl (jx_ws cI cT [(cp_B aB (aT 0) (aS 0) (aC 0) (aU 0) (aV 0) (aW 0) (aH 0) (aO 0), sB), (cp_C aC (aT 0) (aS 0), sC_62), (cp_S aS (aT 0), sS_62), (cp_T aT, sT_62), (cp_C aW (aU 0) (aV 0), sW), (cp_S aV (aU 0), sV), (cp_T aU, sU), (cp_H aH (fun j => hT j 0), sH_62), (cp_T (hT 0), sH0_62), (cp_T (hT 1), sH1_62), (cp_T (hT 2), sH2_62), (cp_T (hT 3), sH3_62), (cp_O aO, sO)]) H := hP
      have hD : va_D A (jx_ws cI cT [(cp_B aB (aT 0) (aS 0) (aC 0) (aU 0) (aV 0) (aW 0) (aH 0) (aO 0), sB), (cp_C aC (aT 0) (aS 0), sC_62), (cp_S aS (aT 0), sS_62), (cp_T aT, sT_62), (cp_C aW (aU 0) (aV 0), sW), (cp_S aV (aU 0), sV), (cp_T aU, sU), (cp_H aH (fun j => hT j 0), sH_62), (cp_T (hT 0), sH0_62), (cp_T (hT 1), sH1_62), (cp_T (hT 2), sH2_62), (cp_T (hT 3), sH3_62), (cp_O aO, sO)]) := hD
      refine jx_ldc C (-1000001) kc_L_40 dL_refused_65 ?_
      refine jx_ene C h.1 (tgt := 285) dL_refused_67 (by decide) (fun hc => ?_) (fun hc => ?_)
      · have h := h.2.2 hc
        exact J285 sB sC_62 sS_62 sT_62 sW sV sU sH_62 sH0_62 sH1_62 sH2_62 sH3_62 sO r1 r8 r15 h _ _ hP hD hS ls (lv_sub hl [4, 5, 3, 2, 1] rfl)
      · have h := h.2.1 hc
        refine lv_aload_n hx hb dL_refused_70 rfl (lv_at hl 4 rfl) ?_
        refine lv_iload_n hx hb dL_refused_71 rfl (lv_at hl 5 rfl) ?_
        refine jx_iconst C dL_refused_72 ?_
        refine jx_iconst C dL_refused_73 ?_
        refine jx_iconst C dL_refused_74 ?_
        refine jx_iconst C dL_refused_75 ?_
        refine jx_callVI C hK hP hD hS hA (ct_B_put l D cI cT aB aC aS aT aW aV aU aH hT aO _ sB sC_62 sS_62 sT_62 sH_62 sH0_62 sH1_62 sH2_62 sH3_62 l1 0 2 1 1 h) ms_X7_put lk_L_36 [0, 1, 2, 3, 7, 8, 9, 10, 11] rfl rfl (fun _ => rfl) (cs' := (fun u => [(cp_B aB (aT 0) (aS 0) (aC 0) (aU 0) (aV 0) (aW 0) (aH 0) (aO 0), sB), (cp_C aC (aT 0) (aS 0), u.1), (cp_S aS (aT 0), u.2.1), (cp_T aT, u.2.2.1), (cp_C aW (aU 0) (aV 0), sW), (cp_S aV (aU 0), sV), (cp_T aU, sU), (cp_H aH (fun j => hT j 0), u.2.2.2.1), (cp_T (hT 0), u.2.2.2.2.1), (cp_T (hT 1), u.2.2.2.2.2.1), (cp_T (hT 2), u.2.2.2.2.2.2.1), (cp_T (hT 3), u.2.2.2.2.2.2.2), (cp_O aO, sO)])) (fun _ => rfl) (fun _ => rfl) 0 0 rfl rfl rfl rfl rfl hl.1 rfl rfl dL_refused_76 ⟨Nat.le_refl _, Nat.le_refl _⟩ (fun r76 u H locs h hP hD hS => ?_)
        obtain ⟨sC_76, sS_76, sT_76, sH_76, sH0_76, sH1_76, sH2_76, sH3_76⟩ := u
        dsimp only at h
        have hP : va_P D vwCl (jx_ws cI cT [(cp_B aB (aT 0) (aS 0) (aC 0) (aU 0) (aV 0) (aW 0) (aH 0) (aO 0), sB), (cp_C aC (aT 0) (aS 0), sC_76), (cp_S aS (aT 0), sS_76), (cp_T aT, sT_76), (cp_C aW (aU 0) (aV 0), sW), (cp_S aV (aU 0), sV), (cp_T aU, sU), (cp_H aH (fun j => hT j 0), sH_76), (cp_T (hT 0), sH0_76), (cp_T (hT 1), sH1_76), (cp_T (hT 2), sH2_76), (cp_T (hT 3), sH3_76), (cp_O aO, sO)]) H := hP
        have hD : va_D A (jx_ws cI cT [(cp_B aB (aT 0) (aS 0) (aC 0) (aU 0) (aV 0) (aW 0) (aH 0) (aO 0), sB), (cp_C aC (aT 0) (aS 0), sC_76), (cp_S aS (aT 0), sS_76), (cp_T aT, sT_76), (cp_C aW (aU 0) (aV 0), sW), (cp_S aV (aU 0), sV), (cp_T aU, sU), (cp_H aH (fun j => hT j 0), sH_76), (cp_T (hT 0), sH0_76), (cp_T (hT 1), sH1_76), (cp_T (hT 2), sH2_76), (cp_T (hT 3), sH3_76), (cp_O aO, sO)]) := hD
        refine jx_ldc C (-1000001) kc_L_40 dL_refused_79 ?_
        refine jx_ene C h.1 (tgt := 285) dL_refused_81 (by decide) (fun hc => ?_) (fun hc => ?_)
        · have h := h.2.2 hc
          exact J285 sB sC_76 sS_76 sT_76 sW sV sU sH_76 sH0_76 sH1_76 sH2_76 sH3_76 sO r1 r8 r15 h _ _ hP hD hS ls (lv_sub hl [4, 5, 3, 2, 1] rfl)
        · have h := h.2.1 hc
          refine lv_aload_n hx hb dL_refused_84 rfl (lv_at hl 4 rfl) ?_
          refine lv_iload_n hx hb dL_refused_85 rfl (lv_at hl 5 rfl) ?_
          refine jx_iconst C dL_refused_86 ?_
          refine jx_iconst C dL_refused_87 ?_
          refine jx_bipush C dL_refused_88 (by decide) ?_
          refine jx_iconst C dL_refused_90 ?_
          refine jx_callVI C hK hP hD hS hA (ct_B_put l D cI cT aB aC aS aT aW aV aU aH hT aO _ sB sC_76 sS_76 sT_76 sH_76 sH0_76 sH1_76 sH2_76 sH3_76 l1 0 0 100 1 h) ms_X7_put lk_L_36 [0, 1, 2, 3, 7, 8, 9, 10, 11] rfl rfl (fun _ => rfl) (cs' := (fun u => [(cp_B aB (aT 0) (aS 0) (aC 0) (aU 0) (aV 0) (aW 0) (aH 0) (aO 0), sB), (cp_C aC (aT 0) (aS 0), u.1), (cp_S aS (aT 0), u.2.1), (cp_T aT, u.2.2.1), (cp_C aW (aU 0) (aV 0), sW), (cp_S aV (aU 0), sV), (cp_T aU, sU), (cp_H aH (fun j => hT j 0), u.2.2.2.1), (cp_T (hT 0), u.2.2.2.2.1), (cp_T (hT 1), u.2.2.2.2.2.1), (cp_T (hT 2), u.2.2.2.2.2.2.1), (cp_T (hT 3), u.2.2.2.2.2.2.2), (cp_O aO, sO)])) (fun _ => rfl) (fun _ => rfl) 0 0 rfl rfl rfl rfl rfl hl.1 rfl rfl dL_refused_91 ⟨Nat.le_refl _, Nat.le_refl _⟩ (fun r91 u H locs h hP hD hS => ?_)
          obtain ⟨sC_91, sS_91, sT_91, sH_91, sH0_91, sH1_91, sH2_91, sH3_91⟩ := u
          dsimp only at h
          have hP : va_P D vwCl (jx_ws cI cT [(cp_B aB (aT 0) (aS 0) (aC 0) (aU 0) (aV 0) (aW 0) (aH 0) (aO 0), sB), (cp_C aC (aT 0) (aS 0), sC_91), (cp_S aS (aT 0), sS_91), (cp_T aT, sT_91), (cp_C aW (aU 0) (aV 0), sW), (cp_S aV (aU 0), sV), (cp_T aU, sU), (cp_H aH (fun j => hT j 0), sH_91), (cp_T (hT 0), sH0_91), (cp_T (hT 1), sH1_91), (cp_T (hT 2), sH2_91), (cp_T (hT 3), sH3_91), (cp_O aO, sO)]) H := hP
          have hD : va_D A (jx_ws cI cT [(cp_B aB (aT 0) (aS 0) (aC 0) (aU 0) (aV 0) (aW 0) (aH 0) (aO 0), sB), (cp_C aC (aT 0) (aS 0), sC_91), (cp_S aS (aT 0), sS_91), (cp_T aT, sT_91), (cp_C aW (aU 0) (aV 0), sW), (cp_S aV (aU 0), sV), (cp_T aU, sU), (cp_H aH (fun j => hT j 0), sH_91), (cp_T (hT 0), sH0_91), (cp_T (hT 1), sH1_91), (cp_T (hT 2), sH2_91), (cp_T (hT 3), sH3_91), (cp_O aO, sO)]) := hD
          refine jx_ldc C (-1000001) kc_L_40 dL_refused_94 ?_
          refine jx_ene C h.1 (tgt := 285) dL_refused_96 (by decide) (fun hc => ?_) (fun hc => ?_)
          · have h := h.2.2 hc
            exact J285 sB sC_91 sS_91 sT_91 sW sV sU sH_91 sH0_91 sH1_91 sH2_91 sH3_91 sO r1 r8 r15 h _ _ hP hD hS ls (lv_sub hl [4, 5, 3, 2, 1] rfl)
          · have h := h.2.1 hc
            refine lv_aload_n hx hb dL_refused_99 rfl (lv_at hl 4 rfl) ?_
            refine lv_iload_n hx hb dL_refused_100 rfl (lv_at hl 5 rfl) ?_
            refine jx_iconst C dL_refused_101 ?_
            refine jx_iconst C dL_refused_102 ?_
            refine jx_iconst C dL_refused_103 ?_
            refine jx_iconst C dL_refused_104 ?_
            refine jx_callVI C hK hP hD hS hA (ct_B_put l D cI cT aB aC aS aT aW aV aU aH hT aO _ sB sC_91 sS_91 sT_91 sH_91 sH0_91 sH1_91 sH2_91 sH3_91 l1 (-1) 0 1 1 h) ms_X7_put lk_L_36 [0, 1, 2, 3, 7, 8, 9, 10, 11] rfl rfl (fun _ => rfl) (cs' := (fun u => [(cp_B aB (aT 0) (aS 0) (aC 0) (aU 0) (aV 0) (aW 0) (aH 0) (aO 0), sB), (cp_C aC (aT 0) (aS 0), u.1), (cp_S aS (aT 0), u.2.1), (cp_T aT, u.2.2.1), (cp_C aW (aU 0) (aV 0), sW), (cp_S aV (aU 0), sV), (cp_T aU, sU), (cp_H aH (fun j => hT j 0), u.2.2.2.1), (cp_T (hT 0), u.2.2.2.2.1), (cp_T (hT 1), u.2.2.2.2.2.1), (cp_T (hT 2), u.2.2.2.2.2.2.1), (cp_T (hT 3), u.2.2.2.2.2.2.2), (cp_O aO, sO)])) (fun _ => rfl) (fun _ => rfl) 0 0 rfl rfl rfl rfl rfl hl.1 rfl rfl dL_refused_105 ⟨Nat.le_refl _, Nat.le_refl _⟩ (fun r105 u H locs h hP hD hS => ?_)
            obtain ⟨sC_105, sS_105, sT_105, sH_105, sH0_105, sH1_105, sH2_105, sH3_105⟩ := u
            dsimp only at h
            have hP : va_P D vwCl (jx_ws cI cT [(cp_B aB (aT 0) (aS 0) (aC 0) (aU 0) (aV 0) (aW 0) (aH 0) (aO 0), sB), (cp_C aC (aT 0) (aS 0), sC_105), (cp_S aS (aT 0), sS_105), (cp_T aT, sT_105), (cp_C aW (aU 0) (aV 0), sW), (cp_S aV (aU 0), sV), (cp_T aU, sU), (cp_H aH (fun j => hT j 0), sH_105), (cp_T (hT 0), sH0_105), (cp_T (hT 1), sH1_105), (cp_T (hT 2), sH2_105), (cp_T (hT 3), sH3_105), (cp_O aO, sO)]) H := hP
            have hD : va_D A (jx_ws cI cT [(cp_B aB (aT 0) (aS 0) (aC 0) (aU 0) (aV 0) (aW 0) (aH 0) (aO 0), sB), (cp_C aC (aT 0) (aS 0), sC_105), (cp_S aS (aT 0), sS_105), (cp_T aT, sT_105), (cp_C aW (aU 0) (aV 0), sW), (cp_S aV (aU 0), sV), (cp_T aU, sU), (cp_H aH (fun j => hT j 0), sH_105), (cp_T (hT 0), sH0_105), (cp_T (hT 1), sH1_105), (cp_T (hT 2), sH2_105), (cp_T (hT 3), sH3_105), (cp_O aO, sO)]) := hD
            refine jx_ldc C (-1000001) kc_L_40 dL_refused_108 ?_
            refine jx_ene C h.1 (tgt := 285) dL_refused_110 (by decide) (fun hc => ?_) (fun hc => ?_)
            · have h := h.2.2 hc
              exact J285 sB sC_105 sS_105 sT_105 sW sV sU sH_105 sH0_105 sH1_105 sH2_105 sH3_105 sO r1 r8 r15 h _ _ hP hD hS ls (lv_sub hl [4, 5, 3, 2, 1] rfl)
            · have h := h.2.1 hc
              refine lv_aload_n hx hb dL_refused_113 rfl (lv_at hl 4 rfl) ?_
              refine jx_bipush C dL_refused_114 (by decide) ?_
              refine jx_callVI C hK hP hD hS hA (ct_B_take l D cI cT aB aC aS aT aW aV aU aH hT aO _ sB sC_105 sS_105 sT_105 sH_105 sH0_105 sH1_105 sH2_105 sH3_105 31 h) ms_X7_take lk_L_41 [0, 1, 2, 3, 7, 8, 9, 10, 11] rfl rfl (fun _ => rfl) (cs' := (fun u => [(cp_B aB (aT 0) (aS 0) (aC 0) (aU 0) (aV 0) (aW 0) (aH 0) (aO 0), sB), (cp_C aC (aT 0) (aS 0), u.1), (cp_S aS (aT 0), u.2.1), (cp_T aT, u.2.2.1), (cp_C aW (aU 0) (aV 0), sW), (cp_S aV (aU 0), sV), (cp_T aU, sU), (cp_H aH (fun j => hT j 0), u.2.2.2.1), (cp_T (hT 0), u.2.2.2.2.1), (cp_T (hT 1), u.2.2.2.2.2.1), (cp_T (hT 2), u.2.2.2.2.2.2.1), (cp_T (hT 3), u.2.2.2.2.2.2.2), (cp_O aO, sO)])) (fun _ => rfl) (fun _ => rfl) 0 0 rfl rfl rfl rfl rfl hl.1 rfl rfl dL_refused_116 ⟨Nat.le_refl _, Nat.le_refl _⟩ (fun r116 u H locs h hP hD hS => ?_)
              obtain ⟨sC_116, sS_116, sT_116, sH_116, sH0_116, sH1_116, sH2_116, sH3_116⟩ := u
              dsimp only at h
              have hP : va_P D vwCl (jx_ws cI cT [(cp_B aB (aT 0) (aS 0) (aC 0) (aU 0) (aV 0) (aW 0) (aH 0) (aO 0), sB), (cp_C aC (aT 0) (aS 0), sC_116), (cp_S aS (aT 0), sS_116), (cp_T aT, sT_116), (cp_C aW (aU 0) (aV 0), sW), (cp_S aV (aU 0), sV), (cp_T aU, sU), (cp_H aH (fun j => hT j 0), sH_116), (cp_T (hT 0), sH0_116), (cp_T (hT 1), sH1_116), (cp_T (hT 2), sH2_116), (cp_T (hT 3), sH3_116), (cp_O aO, sO)]) H := hP
              have hD : va_D A (jx_ws cI cT [(cp_B aB (aT 0) (aS 0) (aC 0) (aU 0) (aV 0) (aW 0) (aH 0) (aO 0), sB), (cp_C aC (aT 0) (aS 0), sC_116), (cp_S aS (aT 0), sS_116), (cp_T aT, sT_116), (cp_C aW (aU 0) (aV 0), sW), (cp_S aV (aU 0), sV), (cp_T aU, sU), (cp_H aH (fun j => hT j 0), sH_116), (cp_T (hT 0), sH0_116), (cp_T (hT 1), sH1_116), (cp_T (hT 2), sH2_116), (cp_T (hT 3), sH3_116), (cp_O aO, sO)]) := hD
              refine jx_ldc C (-1000001) kc_L_40 dL_refused_119 ?_
              refine jx_ene C h.1 (tgt := 285) dL_refused_121 (by decide) (fun hc => ?_) (fun hc => ?_)
              · have h := h.2.2 hc
                exact J285 sB sC_116 sS_116 sT_116 sW sV sU sH_116 sH0_116 sH1_116 sH2_116 sH3_116 sO r1 r8 r15 h _ _ hP hD hS ls (lv_sub hl [4, 5, 3, 2, 1] rfl)
              · have h := h.2.1 hc
                refine lv_aload_n hx hb dL_refused_124 rfl (lv_at hl 4 rfl) ?_
                refine jx_bipush C dL_refused_125 (by decide) ?_
                refine jx_iconst C dL_refused_127 ?_
                refine jx_callVI C hK hP hD hS hA (ct_B_boxOf l D cI cT aB aC aS aT aW aV aU aH hT aO _ sB sS_116 sT_116 31 0 h) ms_X7_boxOf lk_L_19 [0, 2, 3] rfl rfl (fun _ => rfl) (cs' := (fun u => [(cp_B aB (aT 0) (aS 0) (aC 0) (aU 0) (aV 0) (aW 0) (aH 0) (aO 0), sB), (cp_C aC (aT 0) (aS 0), sC_116), (cp_S aS (aT 0), u), (cp_T aT, sT_116), (cp_C aW (aU 0) (aV 0), sW), (cp_S aV (aU 0), sV), (cp_T aU, sU), (cp_H aH (fun j => hT j 0), sH_116), (cp_T (hT 0), sH0_116), (cp_T (hT 1), sH1_116), (cp_T (hT 2), sH2_116), (cp_T (hT 3), sH3_116), (cp_O aO, sO)])) (fun _ => rfl) (fun _ => rfl) 0 0 rfl rfl rfl rfl rfl hl.1 rfl rfl dL_refused_128 ⟨Nat.le_refl _, Nat.le_refl _⟩ (fun r128 sS_128 H locs h hP hD hS => ?_)
                have hP : va_P D vwCl (jx_ws cI cT [(cp_B aB (aT 0) (aS 0) (aC 0) (aU 0) (aV 0) (aW 0) (aH 0) (aO 0), sB), (cp_C aC (aT 0) (aS 0), sC_116), (cp_S aS (aT 0), sS_128), (cp_T aT, sT_116), (cp_C aW (aU 0) (aV 0), sW), (cp_S aV (aU 0), sV), (cp_T aU, sU), (cp_H aH (fun j => hT j 0), sH_116), (cp_T (hT 0), sH0_116), (cp_T (hT 1), sH1_116), (cp_T (hT 2), sH2_116), (cp_T (hT 3), sH3_116), (cp_O aO, sO)]) H := hP
                have hD : va_D A (jx_ws cI cT [(cp_B aB (aT 0) (aS 0) (aC 0) (aU 0) (aV 0) (aW 0) (aH 0) (aO 0), sB), (cp_C aC (aT 0) (aS 0), sC_116), (cp_S aS (aT 0), sS_128), (cp_T aT, sT_116), (cp_C aW (aU 0) (aV 0), sW), (cp_S aV (aU 0), sV), (cp_T aU, sU), (cp_H aH (fun j => hT j 0), sH_116), (cp_T (hT 0), sH0_116), (cp_T (hT 1), sH1_116), (cp_T (hT 2), sH2_116), (cp_T (hT 3), sH3_116), (cp_O aO, sO)]) := hD
                refine jx_ldc C (-1000001) kc_L_40 dL_refused_131 ?_
                refine jx_ene C h.1 (tgt := 285) dL_refused_133 (by decide) (fun hc => ?_) (fun hc => ?_)
                · have h := h.2.2 hc
                  exact J285 sB sC_116 sS_128 sT_116 sW sV sU sH_116 sH0_116 sH1_116 sH2_116 sH3_116 sO r1 r8 r15 h _ _ hP hD hS ls (lv_sub hl [4, 5, 3, 2, 1] rfl)
                · have h := h.2.1 hc
                  refine lv_aload_n hx hb dL_refused_136 rfl (lv_at hl 4 rfl) ?_
                  refine lv_iload_n hx hb dL_refused_137 rfl (lv_at hl 5 rfl) ?_
                  refine jx_bipush C dL_refused_138 (by decide) ?_
                  refine jx_callVI C hK hP hD hS hA (ct_B_boxOf l D cI cT aB aC aS aT aW aV aU aH hT aO _ sB sS_128 sT_116 l1 6 h) ms_X7_boxOf lk_L_19 [0, 2, 3] rfl rfl (fun _ => rfl) (cs' := (fun u => [(cp_B aB (aT 0) (aS 0) (aC 0) (aU 0) (aV 0) (aW 0) (aH 0) (aO 0), sB), (cp_C aC (aT 0) (aS 0), sC_116), (cp_S aS (aT 0), u), (cp_T aT, sT_116), (cp_C aW (aU 0) (aV 0), sW), (cp_S aV (aU 0), sV), (cp_T aU, sU), (cp_H aH (fun j => hT j 0), sH_116), (cp_T (hT 0), sH0_116), (cp_T (hT 1), sH1_116), (cp_T (hT 2), sH2_116), (cp_T (hT 3), sH3_116), (cp_O aO, sO)])) (fun _ => rfl) (fun _ => rfl) 0 0 rfl rfl rfl rfl rfl hl.1 rfl rfl dL_refused_140 ⟨Nat.le_refl _, Nat.le_refl _⟩ (fun r140 sS_140 H locs h hP hD hS => ?_)
                  have hP : va_P D vwCl (jx_ws cI cT [(cp_B aB (aT 0) (aS 0) (aC 0) (aU 0) (aV 0) (aW 0) (aH 0) (aO 0), sB), (cp_C aC (aT 0) (aS 0), sC_116), (cp_S aS (aT 0), sS_140), (cp_T aT, sT_116), (cp_C aW (aU 0) (aV 0), sW), (cp_S aV (aU 0), sV), (cp_T aU, sU), (cp_H aH (fun j => hT j 0), sH_116), (cp_T (hT 0), sH0_116), (cp_T (hT 1), sH1_116), (cp_T (hT 2), sH2_116), (cp_T (hT 3), sH3_116), (cp_O aO, sO)]) H := hP
                  have hD : va_D A (jx_ws cI cT [(cp_B aB (aT 0) (aS 0) (aC 0) (aU 0) (aV 0) (aW 0) (aH 0) (aO 0), sB), (cp_C aC (aT 0) (aS 0), sC_116), (cp_S aS (aT 0), sS_140), (cp_T aT, sT_116), (cp_C aW (aU 0) (aV 0), sW), (cp_S aV (aU 0), sV), (cp_T aU, sU), (cp_H aH (fun j => hT j 0), sH_116), (cp_T (hT 0), sH0_116), (cp_T (hT 1), sH1_116), (cp_T (hT 2), sH2_116), (cp_T (hT 3), sH3_116), (cp_O aO, sO)]) := hD
                  refine jx_ldc C (-1000001) kc_L_40 dL_refused_143 ?_
                  refine jx_ene C h.1 (tgt := 285) dL_refused_145 (by decide) (fun hc => ?_) (fun hc => ?_)
                  · have h := h.2.2 hc
                    exact J285 sB sC_116 sS_140 sT_116 sW sV sU sH_116 sH0_116 sH1_116 sH2_116 sH3_116 sO r1 r8 r15 h _ _ hP hD hS ls (lv_sub hl [4, 5, 3, 2, 1] rfl)
                  · have h := h.2.1 hc
                    refine lv_aload_n hx hb dL_refused_148 rfl (lv_at hl 4 rfl) ?_
                    refine jx_iconst C dL_refused_149 ?_
                    refine jx_iconst C dL_refused_150 ?_
                    refine jx_iconst C dL_refused_151 ?_
                    refine jx_callVI C hK hP hD hS hA (ct_B_nodeOf l D cI cT aB aC aS aT aW aV aU aH hT aO _ sB sS_140 sT_116 (-1) 0 0 h) ms_X7_nodeOf lk_L_23 [0, 2, 3] rfl rfl (fun _ => rfl) (cs' := (fun u => [(cp_B aB (aT 0) (aS 0) (aC 0) (aU 0) (aV 0) (aW 0) (aH 0) (aO 0), sB), (cp_C aC (aT 0) (aS 0), sC_116), (cp_S aS (aT 0), u), (cp_T aT, sT_116), (cp_C aW (aU 0) (aV 0), sW), (cp_S aV (aU 0), sV), (cp_T aU, sU), (cp_H aH (fun j => hT j 0), sH_116), (cp_T (hT 0), sH0_116), (cp_T (hT 1), sH1_116), (cp_T (hT 2), sH2_116), (cp_T (hT 3), sH3_116), (cp_O aO, sO)])) (fun _ => rfl) (fun _ => rfl) 0 0 rfl rfl rfl rfl rfl hl.1 rfl rfl dL_refused_152 ⟨Nat.le_refl _, Nat.le_refl _⟩ (fun r152 sS_152 H locs h hP hD hS => ?_)
                    have hP : va_P D vwCl (jx_ws cI cT [(cp_B aB (aT 0) (aS 0) (aC 0) (aU 0) (aV 0) (aW 0) (aH 0) (aO 0), sB), (cp_C aC (aT 0) (aS 0), sC_116), (cp_S aS (aT 0), sS_152), (cp_T aT, sT_116), (cp_C aW (aU 0) (aV 0), sW), (cp_S aV (aU 0), sV), (cp_T aU, sU), (cp_H aH (fun j => hT j 0), sH_116), (cp_T (hT 0), sH0_116), (cp_T (hT 1), sH1_116), (cp_T (hT 2), sH2_116), (cp_T (hT 3), sH3_116), (cp_O aO, sO)]) H := hP
                    have hD : va_D A (jx_ws cI cT [(cp_B aB (aT 0) (aS 0) (aC 0) (aU 0) (aV 0) (aW 0) (aH 0) (aO 0), sB), (cp_C aC (aT 0) (aS 0), sC_116), (cp_S aS (aT 0), sS_152), (cp_T aT, sT_116), (cp_C aW (aU 0) (aV 0), sW), (cp_S aV (aU 0), sV), (cp_T aU, sU), (cp_H aH (fun j => hT j 0), sH_116), (cp_T (hT 0), sH0_116), (cp_T (hT 1), sH1_116), (cp_T (hT 2), sH2_116), (cp_T (hT 3), sH3_116), (cp_O aO, sO)]) := hD
                    refine jx_ldc C (-1000001) kc_L_40 dL_refused_155 ?_
                    refine jx_ene C h.1 (tgt := 285) dL_refused_157 (by decide) (fun hc => ?_) (fun hc => ?_)
                    · have h := h.2.2 hc
                      exact J285 sB sC_116 sS_152 sT_116 sW sV sU sH_116 sH0_116 sH1_116 sH2_116 sH3_116 sO r1 r8 r15 h _ _ hP hD hS ls (lv_sub hl [4, 5, 3, 2, 1] rfl)
                    · have h := h.2.1 hc
                      refine lv_aload_n hx hb dL_refused_160 rfl (lv_at hl 4 rfl) ?_
                      refine jx_iconst C dL_refused_161 ?_
                      refine jx_iconst C dL_refused_162 ?_
                      refine jx_iconst C dL_refused_163 ?_
                      refine jx_callVI C hK hP hD hS hA (ct_B_nodeOf l D cI cT aB aC aS aT aW aV aU aH hT aO _ sB sS_152 sT_116 0 (-1) 0 h) ms_X7_nodeOf lk_L_23 [0, 2, 3] rfl rfl (fun _ => rfl) (cs' := (fun u => [(cp_B aB (aT 0) (aS 0) (aC 0) (aU 0) (aV 0) (aW 0) (aH 0) (aO 0), sB), (cp_C aC (aT 0) (aS 0), sC_116), (cp_S aS (aT 0), u), (cp_T aT, sT_116), (cp_C aW (aU 0) (aV 0), sW), (cp_S aV (aU 0), sV), (cp_T aU, sU), (cp_H aH (fun j => hT j 0), sH_116), (cp_T (hT 0), sH0_116), (cp_T (hT 1), sH1_116), (cp_T (hT 2), sH2_116), (cp_T (hT 3), sH3_116), (cp_O aO, sO)])) (fun _ => rfl) (fun _ => rfl) 0 0 rfl rfl rfl rfl rfl hl.1 rfl rfl dL_refused_164 ⟨Nat.le_refl _, Nat.le_refl _⟩ (fun r164 sS_164 H locs h hP hD hS => ?_)
                      have hP : va_P D vwCl (jx_ws cI cT [(cp_B aB (aT 0) (aS 0) (aC 0) (aU 0) (aV 0) (aW 0) (aH 0) (aO 0), sB), (cp_C aC (aT 0) (aS 0), sC_116), (cp_S aS (aT 0), sS_164), (cp_T aT, sT_116), (cp_C aW (aU 0) (aV 0), sW), (cp_S aV (aU 0), sV), (cp_T aU, sU), (cp_H aH (fun j => hT j 0), sH_116), (cp_T (hT 0), sH0_116), (cp_T (hT 1), sH1_116), (cp_T (hT 2), sH2_116), (cp_T (hT 3), sH3_116), (cp_O aO, sO)]) H := hP
                      have hD : va_D A (jx_ws cI cT [(cp_B aB (aT 0) (aS 0) (aC 0) (aU 0) (aV 0) (aW 0) (aH 0) (aO 0), sB), (cp_C aC (aT 0) (aS 0), sC_116), (cp_S aS (aT 0), sS_164), (cp_T aT, sT_116), (cp_C aW (aU 0) (aV 0), sW), (cp_S aV (aU 0), sV), (cp_T aU, sU), (cp_H aH (fun j => hT j 0), sH_116), (cp_T (hT 0), sH0_116), (cp_T (hT 1), sH1_116), (cp_T (hT 2), sH2_116), (cp_T (hT 3), sH3_116), (cp_O aO, sO)]) := hD
                      refine jx_ldc C (-1000001) kc_L_40 dL_refused_167 ?_
                      refine jx_ene C h.1 (tgt := 285) dL_refused_169 (by decide) (fun hc => ?_) (fun hc => ?_)
                      · have h := h.2.2 hc
                        exact J285 sB sC_116 sS_164 sT_116 sW sV sU sH_116 sH0_116 sH1_116 sH2_116 sH3_116 sO r1 r8 r15 h _ _ hP hD hS ls (lv_sub hl [4, 5, 3, 2, 1] rfl)
                      · have h := h.2.1 hc
                        refine lv_aload_n hx hb dL_refused_172 rfl (lv_at hl 4 rfl) ?_
                        refine jx_iconst C dL_refused_173 ?_
                        refine jx_iconst C dL_refused_174 ?_
                        refine jx_bipush C dL_refused_175 (by decide) ?_
                        refine jx_callVI C hK hP hD hS hA (ct_B_nodeOf l D cI cT aB aC aS aT aW aV aU aH hT aO _ sB sS_164 sT_116 0 0 6 h) ms_X7_nodeOf lk_L_23 [0, 2, 3] rfl rfl (fun _ => rfl) (cs' := (fun u => [(cp_B aB (aT 0) (aS 0) (aC 0) (aU 0) (aV 0) (aW 0) (aH 0) (aO 0), sB), (cp_C aC (aT 0) (aS 0), sC_116), (cp_S aS (aT 0), u), (cp_T aT, sT_116), (cp_C aW (aU 0) (aV 0), sW), (cp_S aV (aU 0), sV), (cp_T aU, sU), (cp_H aH (fun j => hT j 0), sH_116), (cp_T (hT 0), sH0_116), (cp_T (hT 1), sH1_116), (cp_T (hT 2), sH2_116), (cp_T (hT 3), sH3_116), (cp_O aO, sO)])) (fun _ => rfl) (fun _ => rfl) 0 0 rfl rfl rfl rfl rfl hl.1 rfl rfl dL_refused_177 ⟨Nat.le_refl _, Nat.le_refl _⟩ (fun r177 sS_177 H locs h hP hD hS => ?_)
                        have hP : va_P D vwCl (jx_ws cI cT [(cp_B aB (aT 0) (aS 0) (aC 0) (aU 0) (aV 0) (aW 0) (aH 0) (aO 0), sB), (cp_C aC (aT 0) (aS 0), sC_116), (cp_S aS (aT 0), sS_177), (cp_T aT, sT_116), (cp_C aW (aU 0) (aV 0), sW), (cp_S aV (aU 0), sV), (cp_T aU, sU), (cp_H aH (fun j => hT j 0), sH_116), (cp_T (hT 0), sH0_116), (cp_T (hT 1), sH1_116), (cp_T (hT 2), sH2_116), (cp_T (hT 3), sH3_116), (cp_O aO, sO)]) H := hP
                        have hD : va_D A (jx_ws cI cT [(cp_B aB (aT 0) (aS 0) (aC 0) (aU 0) (aV 0) (aW 0) (aH 0) (aO 0), sB), (cp_C aC (aT 0) (aS 0), sC_116), (cp_S aS (aT 0), sS_177), (cp_T aT, sT_116), (cp_C aW (aU 0) (aV 0), sW), (cp_S aV (aU 0), sV), (cp_T aU, sU), (cp_H aH (fun j => hT j 0), sH_116), (cp_T (hT 0), sH0_116), (cp_T (hT 1), sH1_116), (cp_T (hT 2), sH2_116), (cp_T (hT 3), sH3_116), (cp_O aO, sO)]) := hD
                        refine jx_ldc C (-1000001) kc_L_40 dL_refused_180 ?_
                        refine jx_ene C h.1 (tgt := 285) dL_refused_182 (by decide) (fun hc => ?_) (fun hc => ?_)
                        · have h := h.2.2 hc
                          exact J285 sB sC_116 sS_177 sT_116 sW sV sU sH_116 sH0_116 sH1_116 sH2_116 sH3_116 sO r1 r8 r15 h _ _ hP hD hS ls (lv_sub hl [4, 5, 3, 2, 1] rfl)
                        · have h := h.2.1 hc
                          refine lv_aload_n hx hb dL_refused_185 rfl (lv_at hl 4 rfl) ?_
                          refine lv_iload hx hb dL_refused_186 (lv_at hl 0 rfl) ?_
                          refine jx_iconst C dL_refused_188 ?_
                          refine jx_iconst C dL_refused_189 ?_
                          refine jx_callVI C hK hP hD hS hA (ct_B_nodeOf l D cI cT aB aC aS aT aW aV aU aH hT aO _ sB sS_177 sT_116 r22 0 4 h) ms_X7_nodeOf lk_L_23 [0, 2, 3] rfl rfl (fun _ => rfl) (cs' := (fun u => [(cp_B aB (aT 0) (aS 0) (aC 0) (aU 0) (aV 0) (aW 0) (aH 0) (aO 0), sB), (cp_C aC (aT 0) (aS 0), sC_116), (cp_S aS (aT 0), u), (cp_T aT, sT_116), (cp_C aW (aU 0) (aV 0), sW), (cp_S aV (aU 0), sV), (cp_T aU, sU), (cp_H aH (fun j => hT j 0), sH_116), (cp_T (hT 0), sH0_116), (cp_T (hT 1), sH1_116), (cp_T (hT 2), sH2_116), (cp_T (hT 3), sH3_116), (cp_O aO, sO)])) (fun _ => rfl) (fun _ => rfl) 0 0 rfl rfl rfl rfl rfl hl.1 rfl rfl dL_refused_190 ⟨Nat.le_refl _, Nat.le_refl _⟩ (fun r190 sS_190 H locs h hP hD hS => ?_)
                          have hP : va_P D vwCl (jx_ws cI cT [(cp_B aB (aT 0) (aS 0) (aC 0) (aU 0) (aV 0) (aW 0) (aH 0) (aO 0), sB), (cp_C aC (aT 0) (aS 0), sC_116), (cp_S aS (aT 0), sS_190), (cp_T aT, sT_116), (cp_C aW (aU 0) (aV 0), sW), (cp_S aV (aU 0), sV), (cp_T aU, sU), (cp_H aH (fun j => hT j 0), sH_116), (cp_T (hT 0), sH0_116), (cp_T (hT 1), sH1_116), (cp_T (hT 2), sH2_116), (cp_T (hT 3), sH3_116), (cp_O aO, sO)]) H := hP
                          have hD : va_D A (jx_ws cI cT [(cp_B aB (aT 0) (aS 0) (aC 0) (aU 0) (aV 0) (aW 0) (aH 0) (aO 0), sB), (cp_C aC (aT 0) (aS 0), sC_116), (cp_S aS (aT 0), sS_190), (cp_T aT, sT_116), (cp_C aW (aU 0) (aV 0), sW), (cp_S aV (aU 0), sV), (cp_T aU, sU), (cp_H aH (fun j => hT j 0), sH_116), (cp_T (hT 0), sH0_116), (cp_T (hT 1), sH1_116), (cp_T (hT 2), sH2_116), (cp_T (hT 3), sH3_116), (cp_O aO, sO)]) := hD
                          refine jx_ldc C (-1000004) kc_L_44 dL_refused_193 ?_
                          refine jx_ene C h.1 (tgt := 285) dL_refused_195 (by decide) (fun hc => ?_) (fun hc => ?_)
                          · have h := h.2.2 hc
                            exact J285 sB sC_116 sS_190 sT_116 sW sV sU sH_116 sH0_116 sH1_116 sH2_116 sH3_116 sO r1 r8 r15 h _ _ hP hD hS ls (lv_sub hl [4, 5, 3, 2, 1] rfl)
                          · have h := h.2.1 hc
                            refine lv_aload_n hx hb dL_refused_198 rfl (lv_at hl 4 rfl) ?_
                            refine jx_iconst C dL_refused_199 ?_
                            refine lv_aload_n hx hb dL_refused_200 rfl (lv_at hl 4 rfl) ?_
                            refine jx_iconst C dL_refused_201 ?_
                            refine jx_callVI C hK hP hD hS hA (ct_B_count l D cI cT aB aC aS aT aW aV aU aH hT aO _ sB sC_116 sS_190 sT_116 sH_116 sO 3 h) ms_X7_count lk_L_13 [0, 1, 2, 3, 7, 12] rfl rfl (fun _ => rfl) (cs' := (fun u => [(cp_B aB (aT 0) (aS 0) (aC 0) (aU 0) (aV 0) (aW 0) (aH 0) (aO 0), sB), (cp_C aC (aT 0) (aS 0), sC_116), (cp_S aS (aT 0), u), (cp_T aT, sT_116), (cp_C aW (aU 0) (aV 0), sW), (cp_S aV (aU 0), sV), (cp_T aU, sU), (cp_H aH (fun j => hT j 0), sH_116), (cp_T (hT 0), sH0_116), (cp_T (hT 1), sH1_116), (cp_T (hT 2), sH2_116), (cp_T (hT 3), sH3_116), (cp_O aO, sO)])) (fun _ => rfl) (fun _ => rfl) 0 0 rfl rfl rfl rfl rfl hl.1 rfl rfl dL_refused_202 ⟨Nat.le_refl _, Nat.le_refl _⟩ (fun r202 sS_202 H locs h hP hD hS => ?_)
                            have hP : va_P D vwCl (jx_ws cI cT [(cp_B aB (aT 0) (aS 0) (aC 0) (aU 0) (aV 0) (aW 0) (aH 0) (aO 0), sB), (cp_C aC (aT 0) (aS 0), sC_116), (cp_S aS (aT 0), sS_202), (cp_T aT, sT_116), (cp_C aW (aU 0) (aV 0), sW), (cp_S aV (aU 0), sV), (cp_T aU, sU), (cp_H aH (fun j => hT j 0), sH_116), (cp_T (hT 0), sH0_116), (cp_T (hT 1), sH1_116), (cp_T (hT 2), sH2_116), (cp_T (hT 3), sH3_116), (cp_O aO, sO)]) H := hP
                            have hD : va_D A (jx_ws cI cT [(cp_B aB (aT 0) (aS 0) (aC 0) (aU 0) (aV 0) (aW 0) (aH 0) (aO 0), sB), (cp_C aC (aT 0) (aS 0), sC_116), (cp_S aS (aT 0), sS_202), (cp_T aT, sT_116), (cp_C aW (aU 0) (aV 0), sW), (cp_S aV (aU 0), sV), (cp_T aU, sU), (cp_H aH (fun j => hT j 0), sH_116), (cp_T (hT 0), sH0_116), (cp_T (hT 1), sH1_116), (cp_T (hT 2), sH2_116), (cp_T (hT 3), sH3_116), (cp_O aO, sO)]) := hD
                            refine jx_iconst C dL_refused_205 ?_
                            refine jx_callVI C hK hP hD hS hA (ct_B_nodeOf l D cI cT aB aC aS aT aW aV aU aH hT aO _ sB sS_202 sT_116 0 r202 4 h) ms_X7_nodeOf lk_L_23 [0, 2, 3] rfl rfl (fun _ => rfl) (cs' := (fun u => [(cp_B aB (aT 0) (aS 0) (aC 0) (aU 0) (aV 0) (aW 0) (aH 0) (aO 0), sB), (cp_C aC (aT 0) (aS 0), sC_116), (cp_S aS (aT 0), u), (cp_T aT, sT_116), (cp_C aW (aU 0) (aV 0), sW), (cp_S aV (aU 0), sV), (cp_T aU, sU), (cp_H aH (fun j => hT j 0), sH_116), (cp_T (hT 0), sH0_116), (cp_T (hT 1), sH1_116), (cp_T (hT 2), sH2_116), (cp_T (hT 3), sH3_116), (cp_O aO, sO)])) (fun _ => rfl) (fun _ => rfl) 0 0 rfl rfl rfl rfl rfl hl.1 rfl rfl dL_refused_206 ⟨Nat.le_refl _, Nat.le_refl _⟩ (fun r206 sS_206 H locs h hP hD hS => ?_)
                            have hP : va_P D vwCl (jx_ws cI cT [(cp_B aB (aT 0) (aS 0) (aC 0) (aU 0) (aV 0) (aW 0) (aH 0) (aO 0), sB), (cp_C aC (aT 0) (aS 0), sC_116), (cp_S aS (aT 0), sS_206), (cp_T aT, sT_116), (cp_C aW (aU 0) (aV 0), sW), (cp_S aV (aU 0), sV), (cp_T aU, sU), (cp_H aH (fun j => hT j 0), sH_116), (cp_T (hT 0), sH0_116), (cp_T (hT 1), sH1_116), (cp_T (hT 2), sH2_116), (cp_T (hT 3), sH3_116), (cp_O aO, sO)]) H := hP
                            have hD : va_D A (jx_ws cI cT [(cp_B aB (aT 0) (aS 0) (aC 0) (aU 0) (aV 0) (aW 0) (aH 0) (aO 0), sB), (cp_C aC (aT 0) (aS 0), sC_116), (cp_S aS (aT 0), sS_206), (cp_T aT, sT_116), (cp_C aW (aU 0) (aV 0), sW), (cp_S aV (aU 0), sV), (cp_T aU, sU), (cp_H aH (fun j => hT j 0), sH_116), (cp_T (hT 0), sH0_116), (cp_T (hT 1), sH1_116), (cp_T (hT 2), sH2_116), (cp_T (hT 3), sH3_116), (cp_O aO, sO)]) := hD
                            refine jx_ldc C (-1000004) kc_L_44 dL_refused_209 ?_
                            refine jx_ene C h.1 (tgt := 285) dL_refused_211 (by decide) (fun hc => ?_) (fun hc => ?_)
                            · have h := h.2.2 hc
                              exact J285 sB sC_116 sS_206 sT_116 sW sV sU sH_116 sH0_116 sH1_116 sH2_116 sH3_116 sO r1 r8 r15 h _ _ hP hD hS ls (lv_sub hl [4, 5, 3, 2, 1] rfl)
                            · have h := h.2.1 hc
                              refine lv_aload_n hx hb dL_refused_214 rfl (lv_at hl 4 rfl) ?_
                              refine jx_iconst C dL_refused_215 ?_
                              refine jx_callVI C hK hP hD hS hA (ct_B_overlaps l D cI cT aB aC aS aT aW aV aU aH hT aO _ sB sS_206 sT_116 (-1) h) ms_X7_overlaps lk_L_27 [0, 2, 3] rfl rfl (fun _ => rfl) (cs' := (fun u => [(cp_B aB (aT 0) (aS 0) (aC 0) (aU 0) (aV 0) (aW 0) (aH 0) (aO 0), sB), (cp_C aC (aT 0) (aS 0), sC_116), (cp_S aS (aT 0), u), (cp_T aT, sT_116), (cp_C aW (aU 0) (aV 0), sW), (cp_S aV (aU 0), sV), (cp_T aU, sU), (cp_H aH (fun j => hT j 0), sH_116), (cp_T (hT 0), sH0_116), (cp_T (hT 1), sH1_116), (cp_T (hT 2), sH2_116), (cp_T (hT 3), sH3_116), (cp_O aO, sO)])) (fun _ => rfl) (fun _ => rfl) 0 0 rfl rfl rfl rfl rfl hl.1 rfl rfl dL_refused_216 ⟨Nat.le_refl _, Nat.le_refl _⟩ (fun r216 sS_216 H locs h hP hD hS => ?_)
                              have hP : va_P D vwCl (jx_ws cI cT [(cp_B aB (aT 0) (aS 0) (aC 0) (aU 0) (aV 0) (aW 0) (aH 0) (aO 0), sB), (cp_C aC (aT 0) (aS 0), sC_116), (cp_S aS (aT 0), sS_216), (cp_T aT, sT_116), (cp_C aW (aU 0) (aV 0), sW), (cp_S aV (aU 0), sV), (cp_T aU, sU), (cp_H aH (fun j => hT j 0), sH_116), (cp_T (hT 0), sH0_116), (cp_T (hT 1), sH1_116), (cp_T (hT 2), sH2_116), (cp_T (hT 3), sH3_116), (cp_O aO, sO)]) H := hP
                              have hD : va_D A (jx_ws cI cT [(cp_B aB (aT 0) (aS 0) (aC 0) (aU 0) (aV 0) (aW 0) (aH 0) (aO 0), sB), (cp_C aC (aT 0) (aS 0), sC_116), (cp_S aS (aT 0), sS_216), (cp_T aT, sT_116), (cp_C aW (aU 0) (aV 0), sW), (cp_S aV (aU 0), sV), (cp_T aU, sU), (cp_H aH (fun j => hT j 0), sH_116), (cp_T (hT 0), sH0_116), (cp_T (hT 1), sH1_116), (cp_T (hT 2), sH2_116), (cp_T (hT 3), sH3_116), (cp_O aO, sO)]) := hD
                              refine jx_ldc C (-1000001) kc_L_40 dL_refused_219 ?_
                              refine jx_ene C h.1 (tgt := 285) dL_refused_221 (by decide) (fun hc => ?_) (fun hc => ?_)
                              · have h := h.2.2 hc
                                exact J285 sB sC_116 sS_216 sT_116 sW sV sU sH_116 sH0_116 sH1_116 sH2_116 sH3_116 sO r1 r8 r15 h _ _ hP hD hS ls (lv_sub hl [4, 5, 3, 2, 1] rfl)
                              · have h := h.2.1 hc
                                refine lv_aload_n hx hb dL_refused_224 rfl (lv_at hl 4 rfl) ?_
                                refine lv_iload hx hb dL_refused_225 (lv_at hl 0 rfl) ?_
                                refine jx_callVI C hK hP hD hS hA (ct_B_overlaps l D cI cT aB aC aS aT aW aV aU aH hT aO _ sB sS_216 sT_116 r22 h) ms_X7_overlaps lk_L_27 [0, 2, 3] rfl rfl (fun _ => rfl) (cs' := (fun u => [(cp_B aB (aT 0) (aS 0) (aC 0) (aU 0) (aV 0) (aW 0) (aH 0) (aO 0), sB), (cp_C aC (aT 0) (aS 0), sC_116), (cp_S aS (aT 0), u), (cp_T aT, sT_116), (cp_C aW (aU 0) (aV 0), sW), (cp_S aV (aU 0), sV), (cp_T aU, sU), (cp_H aH (fun j => hT j 0), sH_116), (cp_T (hT 0), sH0_116), (cp_T (hT 1), sH1_116), (cp_T (hT 2), sH2_116), (cp_T (hT 3), sH3_116), (cp_O aO, sO)])) (fun _ => rfl) (fun _ => rfl) 0 0 rfl rfl rfl rfl rfl hl.1 rfl rfl dL_refused_227 ⟨Nat.le_refl _, Nat.le_refl _⟩ (fun r227 sS_227 H locs h hP hD hS => ?_)
                                have hP : va_P D vwCl (jx_ws cI cT [(cp_B aB (aT 0) (aS 0) (aC 0) (aU 0) (aV 0) (aW 0) (aH 0) (aO 0), sB), (cp_C aC (aT 0) (aS 0), sC_116), (cp_S aS (aT 0), sS_227), (cp_T aT, sT_116), (cp_C aW (aU 0) (aV 0), sW), (cp_S aV (aU 0), sV), (cp_T aU, sU), (cp_H aH (fun j => hT j 0), sH_116), (cp_T (hT 0), sH0_116), (cp_T (hT 1), sH1_116), (cp_T (hT 2), sH2_116), (cp_T (hT 3), sH3_116), (cp_O aO, sO)]) H := hP
                                have hD : va_D A (jx_ws cI cT [(cp_B aB (aT 0) (aS 0) (aC 0) (aU 0) (aV 0) (aW 0) (aH 0) (aO 0), sB), (cp_C aC (aT 0) (aS 0), sC_116), (cp_S aS (aT 0), sS_227), (cp_T aT, sT_116), (cp_C aW (aU 0) (aV 0), sW), (cp_S aV (aU 0), sV), (cp_T aU, sU), (cp_H aH (fun j => hT j 0), sH_116), (cp_T (hT 0), sH0_116), (cp_T (hT 1), sH1_116), (cp_T (hT 2), sH2_116), (cp_T (hT 3), sH3_116), (cp_O aO, sO)]) := hD
                                refine jx_ldc C (-1000004) kc_L_44 dL_refused_230 ?_
                                refine jx_ene C h.1 (tgt := 285) dL_refused_232 (by decide) (fun hc => ?_) (fun hc => ?_)
                                · have h := h.2.2 hc
                                  exact J285 sB sC_116 sS_227 sT_116 sW sV sU sH_116 sH0_116 sH1_116 sH2_116 sH3_116 sO r1 r8 r15 h _ _ hP hD hS ls (lv_sub hl [4, 5, 3, 2, 1] rfl)
                                · have h := h.2.1 hc
                                  refine lv_aload_n hx hb dL_refused_235 rfl (lv_at hl 4 rfl) ?_
                                  refine jx_iconst C dL_refused_236 ?_
                                  refine jx_bipush C dL_refused_237 (by decide) ?_
                                  refine jx_callVI C hK hP hD hS hA (ct_B_overlap l D cI cT aB aC aS aT aW aV aU aH hT aO _ sB sT_116 0 31 h) ms_X7_overlap lk_L_45 [0, 3] rfl rfl (fun _ => rfl) (cs' := (fun _ => [(cp_B aB (aT 0) (aS 0) (aC 0) (aU 0) (aV 0) (aW 0) (aH 0) (aO 0), sB), (cp_C aC (aT 0) (aS 0), sC_116), (cp_S aS (aT 0), sS_227), (cp_T aT, sT_116), (cp_C aW (aU 0) (aV 0), sW), (cp_S aV (aU 0), sV), (cp_T aU, sU), (cp_H aH (fun j => hT j 0), sH_116), (cp_T (hT 0), sH0_116), (cp_T (hT 1), sH1_116), (cp_T (hT 2), sH2_116), (cp_T (hT 3), sH3_116), (cp_O aO, sO)])) (fun _ => rfl) (fun _ => rfl) 0 0 rfl rfl rfl rfl rfl hl.1 rfl rfl dL_refused_239 ⟨Nat.le_refl _, Nat.le_refl _⟩ (fun r239 _ H locs h hP hD hS => ?_)
                                  have hP : va_P D vwCl (jx_ws cI cT [(cp_B aB (aT 0) (aS 0) (aC 0) (aU 0) (aV 0) (aW 0) (aH 0) (aO 0), sB), (cp_C aC (aT 0) (aS 0), sC_116), (cp_S aS (aT 0), sS_227), (cp_T aT, sT_116), (cp_C aW (aU 0) (aV 0), sW), (cp_S aV (aU 0), sV), (cp_T aU, sU), (cp_H aH (fun j => hT j 0), sH_116), (cp_T (hT 0), sH0_116), (cp_T (hT 1), sH1_116), (cp_T (hT 2), sH2_116), (cp_T (hT 3), sH3_116), (cp_O aO, sO)]) H := hP
                                  have hD : va_D A (jx_ws cI cT [(cp_B aB (aT 0) (aS 0) (aC 0) (aU 0) (aV 0) (aW 0) (aH 0) (aO 0), sB), (cp_C aC (aT 0) (aS 0), sC_116), (cp_S aS (aT 0), sS_227), (cp_T aT, sT_116), (cp_C aW (aU 0) (aV 0), sW), (cp_S aV (aU 0), sV), (cp_T aU, sU), (cp_H aH (fun j => hT j 0), sH_116), (cp_T (hT 0), sH0_116), (cp_T (hT 1), sH1_116), (cp_T (hT 2), sH2_116), (cp_T (hT 3), sH3_116), (cp_O aO, sO)]) := hD
                                  refine jx_ldc C (-1000001) kc_L_40 dL_refused_242 ?_
                                  refine jx_ene C h.1 (tgt := 285) dL_refused_244 (by decide) (fun hc => ?_) (fun hc => ?_)
                                  · have h := h.2.2 hc
                                    exact J285 sB sC_116 sS_227 sT_116 sW sV sU sH_116 sH0_116 sH1_116 sH2_116 sH3_116 sO r1 r8 r15 h _ _ hP hD hS ls (lv_sub hl [4, 5, 3, 2, 1] rfl)
                                  · have h := h.2.1 hc
                                    refine lv_aload_n hx hb dL_refused_247 rfl (lv_at hl 4 rfl) ?_
                                    refine jx_iconst C dL_refused_248 ?_
                                    refine jx_iconst C dL_refused_249 ?_
                                    refine jx_callVI C hK hP hD hS hA (ct_B_court l D cI cT aB aC aS aT aW aV aU aH hT aO _ sB sC_116 (-1) 0 h) ms_X7_court lk_L_48 [0, 1] rfl rfl (fun _ => rfl) (cs' := (fun _ => [(cp_B aB (aT 0) (aS 0) (aC 0) (aU 0) (aV 0) (aW 0) (aH 0) (aO 0), sB), (cp_C aC (aT 0) (aS 0), sC_116), (cp_S aS (aT 0), sS_227), (cp_T aT, sT_116), (cp_C aW (aU 0) (aV 0), sW), (cp_S aV (aU 0), sV), (cp_T aU, sU), (cp_H aH (fun j => hT j 0), sH_116), (cp_T (hT 0), sH0_116), (cp_T (hT 1), sH1_116), (cp_T (hT 2), sH2_116), (cp_T (hT 3), sH3_116), (cp_O aO, sO)])) (fun _ => rfl) (fun _ => rfl) 0 0 rfl rfl rfl rfl rfl hl.1 rfl rfl dL_refused_250 ⟨Nat.le_refl _, Nat.le_refl _⟩ (fun r250 _ H locs h hP hD hS => ?_)
                                    have hP : va_P D vwCl (jx_ws cI cT [(cp_B aB (aT 0) (aS 0) (aC 0) (aU 0) (aV 0) (aW 0) (aH 0) (aO 0), sB), (cp_C aC (aT 0) (aS 0), sC_116), (cp_S aS (aT 0), sS_227), (cp_T aT, sT_116), (cp_C aW (aU 0) (aV 0), sW), (cp_S aV (aU 0), sV), (cp_T aU, sU), (cp_H aH (fun j => hT j 0), sH_116), (cp_T (hT 0), sH0_116), (cp_T (hT 1), sH1_116), (cp_T (hT 2), sH2_116), (cp_T (hT 3), sH3_116), (cp_O aO, sO)]) H := hP
                                    have hD : va_D A (jx_ws cI cT [(cp_B aB (aT 0) (aS 0) (aC 0) (aU 0) (aV 0) (aW 0) (aH 0) (aO 0), sB), (cp_C aC (aT 0) (aS 0), sC_116), (cp_S aS (aT 0), sS_227), (cp_T aT, sT_116), (cp_C aW (aU 0) (aV 0), sW), (cp_S aV (aU 0), sV), (cp_T aU, sU), (cp_H aH (fun j => hT j 0), sH_116), (cp_T (hT 0), sH0_116), (cp_T (hT 1), sH1_116), (cp_T (hT 2), sH2_116), (cp_T (hT 3), sH3_116), (cp_O aO, sO)]) := hD
                                    refine jx_ldc C (-1000001) kc_L_40 dL_refused_253 ?_
                                    refine jx_ene C h.1 (tgt := 285) dL_refused_255 (by decide) (fun hc => ?_) (fun hc => ?_)
                                    · have h := h.2.2 hc
                                      exact J285 sB sC_116 sS_227 sT_116 sW sV sU sH_116 sH0_116 sH1_116 sH2_116 sH3_116 sO r1 r8 r15 h _ _ hP hD hS ls (lv_sub hl [4, 5, 3, 2, 1] rfl)
                                    · have h := h.2.1 hc
                                      refine lv_aload_n hx hb dL_refused_258 rfl (lv_at hl 4 rfl) ?_
                                      refine jx_iconst C dL_refused_259 ?_
                                      refine jx_iconst C dL_refused_260 ?_
                                      refine jx_callVI C hK hP hD hS hA (ct_B_court l D cI cT aB aC aS aT aW aV aU aH hT aO _ sB sC_116 0 2 h) ms_X7_court lk_L_48 [0, 1] rfl rfl (fun _ => rfl) (cs' := (fun _ => [(cp_B aB (aT 0) (aS 0) (aC 0) (aU 0) (aV 0) (aW 0) (aH 0) (aO 0), sB), (cp_C aC (aT 0) (aS 0), sC_116), (cp_S aS (aT 0), sS_227), (cp_T aT, sT_116), (cp_C aW (aU 0) (aV 0), sW), (cp_S aV (aU 0), sV), (cp_T aU, sU), (cp_H aH (fun j => hT j 0), sH_116), (cp_T (hT 0), sH0_116), (cp_T (hT 1), sH1_116), (cp_T (hT 2), sH2_116), (cp_T (hT 3), sH3_116), (cp_O aO, sO)])) (fun _ => rfl) (fun _ => rfl) 0 0 rfl rfl rfl rfl rfl hl.1 rfl rfl dL_refused_261 ⟨Nat.le_refl _, Nat.le_refl _⟩ (fun r261 _ H locs h hP hD hS => ?_)
                                      have hP : va_P D vwCl (jx_ws cI cT [(cp_B aB (aT 0) (aS 0) (aC 0) (aU 0) (aV 0) (aW 0) (aH 0) (aO 0), sB), (cp_C aC (aT 0) (aS 0), sC_116), (cp_S aS (aT 0), sS_227), (cp_T aT, sT_116), (cp_C aW (aU 0) (aV 0), sW), (cp_S aV (aU 0), sV), (cp_T aU, sU), (cp_H aH (fun j => hT j 0), sH_116), (cp_T (hT 0), sH0_116), (cp_T (hT 1), sH1_116), (cp_T (hT 2), sH2_116), (cp_T (hT 3), sH3_116), (cp_O aO, sO)]) H := hP
                                      have hD : va_D A (jx_ws cI cT [(cp_B aB (aT 0) (aS 0) (aC 0) (aU 0) (aV 0) (aW 0) (aH 0) (aO 0), sB), (cp_C aC (aT 0) (aS 0), sC_116), (cp_S aS (aT 0), sS_227), (cp_T aT, sT_116), (cp_C aW (aU 0) (aV 0), sW), (cp_S aV (aU 0), sV), (cp_T aU, sU), (cp_H aH (fun j => hT j 0), sH_116), (cp_T (hT 0), sH0_116), (cp_T (hT 1), sH1_116), (cp_T (hT 2), sH2_116), (cp_T (hT 3), sH3_116), (cp_O aO, sO)]) := hD
                                      refine jx_ldc C (-1000001) kc_L_40 dL_refused_264 ?_
                                      refine jx_ene C h.1 (tgt := 285) dL_refused_266 (by decide) (fun hc => ?_) (fun hc => ?_)
                                      · have h := h.2.2 hc
                                        exact J285 sB sC_116 sS_227 sT_116 sW sV sU sH_116 sH0_116 sH1_116 sH2_116 sH3_116 sO r1 r8 r15 h _ _ hP hD hS ls (lv_sub hl [4, 5, 3, 2, 1] rfl)
                                      · have h := h.2.1 hc
                                        refine lv_aload_n hx hb dL_refused_269 rfl (lv_at hl 4 rfl) ?_
                                        refine lv_iload hx hb dL_refused_270 (lv_at hl 1 rfl) ?_
                                        refine jx_iconst C dL_refused_272 ?_
                                        refine jx_callVI C hK hP hD hS hA (ct_B_court l D cI cT aB aC aS aT aW aV aU aH hT aO _ sB sC_116 r15 0 h) ms_X7_court lk_L_48 [0, 1] rfl rfl (fun _ => rfl) (cs' := (fun _ => [(cp_B aB (aT 0) (aS 0) (aC 0) (aU 0) (aV 0) (aW 0) (aH 0) (aO 0), sB), (cp_C aC (aT 0) (aS 0), sC_116), (cp_S aS (aT 0), sS_227), (cp_T aT, sT_116), (cp_C aW (aU 0) (aV 0), sW), (cp_S aV (aU 0), sV), (cp_T aU, sU), (cp_H aH (fun j => hT j 0), sH_116), (cp_T (hT 0), sH0_116), (cp_T (hT 1), sH1_116), (cp_T (hT 2), sH2_116), (cp_T (hT 3), sH3_116), (cp_O aO, sO)])) (fun _ => rfl) (fun _ => rfl) 0 0 rfl rfl rfl rfl rfl hl.1 rfl rfl dL_refused_273 ⟨Nat.le_refl _, Nat.le_refl _⟩ (fun r273 _ H locs h hP hD hS => ?_)
                                        have hP : va_P D vwCl (jx_ws cI cT [(cp_B aB (aT 0) (aS 0) (aC 0) (aU 0) (aV 0) (aW 0) (aH 0) (aO 0), sB), (cp_C aC (aT 0) (aS 0), sC_116), (cp_S aS (aT 0), sS_227), (cp_T aT, sT_116), (cp_C aW (aU 0) (aV 0), sW), (cp_S aV (aU 0), sV), (cp_T aU, sU), (cp_H aH (fun j => hT j 0), sH_116), (cp_T (hT 0), sH0_116), (cp_T (hT 1), sH1_116), (cp_T (hT 2), sH2_116), (cp_T (hT 3), sH3_116), (cp_O aO, sO)]) H := hP
                                        have hD : va_D A (jx_ws cI cT [(cp_B aB (aT 0) (aS 0) (aC 0) (aU 0) (aV 0) (aW 0) (aH 0) (aO 0), sB), (cp_C aC (aT 0) (aS 0), sC_116), (cp_S aS (aT 0), sS_227), (cp_T aT, sT_116), (cp_C aW (aU 0) (aV 0), sW), (cp_S aV (aU 0), sV), (cp_T aU, sU), (cp_H aH (fun j => hT j 0), sH_116), (cp_T (hT 0), sH0_116), (cp_T (hT 1), sH1_116), (cp_T (hT 2), sH2_116), (cp_T (hT 3), sH3_116), (cp_O aO, sO)]) := hD
                                        refine jx_ldc C (-1000004) kc_L_44 dL_refused_276 ?_
                                        refine jx_ene C h.1 (tgt := 285) dL_refused_278 (by decide) (fun hc => ?_) (fun hc => ?_)
                                        · have h := h.2.2 hc
                                          exact J285 sB sC_116 sS_227 sT_116 sW sV sU sH_116 sH0_116 sH1_116 sH2_116 sH3_116 sO r1 r8 r15 h _ _ hP hD hS ls (lv_sub hl [4, 5, 3, 2, 1] rfl)
                                        · have h := h.2.1 hc
                                          refine jx_iconst C dL_refused_281 ?_
                                          refine lv_goto (tgt := 286) hx hb dL_refused_282 (by decide) ?_
                                          exact J286 sB sC_116 sS_227 sT_116 sW sV sU sH_116 sH0_116 sH1_116 sH2_116 sH3_116 sO r1 r8 r15 1 h _ _ hP hD hS ls (lv_sub hl [4, 5, 3, 2, 1] rfl)
