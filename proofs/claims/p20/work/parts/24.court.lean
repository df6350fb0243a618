set_option maxRecDepth 100000 in
set_option maxHeartbeats 4000000 in
theorem ct_B_isUpTo (l : Launch) (D : va_G) (cI cT : ClassId) (Q : Int → Prop) (l0 : Int) (l1 : Int) (h : wp_B_isUpTo Q l0 l1) : jx_KI (Unit) l D cI cT yX7_isUpTo cX7_isUpTo 2 .boolean 0 0 [.int (jx_i l0), .int (jx_i l1)] [] (fun _ => []) (fun x _ => Q x) := by
  refine jx_ent (own := RX7) (by decide) rfl (Nat.le_of_ble_eq_true rfl) ?_
  intro p e s m args below meth c A QQ C hr hlk hK hAe hA hP hD hS ls hl hQQ
  have hl : lv_has ls 2 [(0, .int (jx_i l0)), (1, .int (jx_i l1))] := hl
  have hx := C.1
  have hb := C.2.1
  unfold wp_B_isUpTo at h
  refine lv_iload_n hx hb dX7_isUpTo_0 rfl (lv_at hl 0 rfl) ?_
  refine jx_zlt C h.1 (tgt := 13) dX7_isUpTo_1 (by decide) (fun hc => ?_) (fun hc => ?_)
  · have h := h.2.1 hc
    refine jx_iconst C dX7_isUpTo_13 ?_
    exact jx_rZ C hr hlk hAe hS hQQ (by decide) () hP h dX7_isUpTo_14
  · have h := h.2.2 hc
    refine lv_iload_n hx hb dX7_isUpTo_4 rfl (lv_at hl 0 rfl) ?_
    refine lv_iload_n hx hb dX7_isUpTo_5 rfl (lv_at hl 1 rfl) ?_
    refine jx_cgt C h.1 h.2.1 (tgt := 13) dX7_isUpTo_6 (by decide) (fun hc => ?_) (fun hc => ?_)
    · have h := h.2.2.2 hc
      refine jx_iconst C dX7_isUpTo_13 ?_
      exact jx_rZ C hr hlk hAe hS hQQ (by decide) () hP h dX7_isUpTo_14
    · have h := h.2.2.1 hc
      refine jx_iconst C dX7_isUpTo_9 ?_
      refine lv_goto (tgt := 14) hx hb dX7_isUpTo_10 (by decide) ?_
      exact jx_rZ C hr hlk hAe hS hQQ (by decide) () hP h dX7_isUpTo_14
set_option maxRecDepth 100000 in
set_option maxHeartbeats 4000000 in
theorem ct_B_isBox (l : Launch) (D : va_G) (cI cT : ClassId) (Q : Int → Prop) (l0 : Int) (h : wp_B_isBox Q l0) : jx_KI (Unit) l D cI cT yX7_isBox cX7_isBox 1 .boolean 1 21 [.int (jx_i l0)] [] (fun _ => []) (fun x _ => Q x) := by
  refine jx_ent (own := RX7) (by decide) rfl (Nat.le_of_ble_eq_true rfl) ?_
  intro p e s m args below meth c A QQ C hr hlk hK hAe hA hP hD hS ls hl hQQ
  have hl : lv_has ls 1 [(0, .int (jx_i l0))] := hl
  have hx := C.1
  have hb := C.2.1
  unfold wp_B_isBox at h
  refine lv_iload_n hx hb dX7_isBox_0 rfl (lv_at hl 0 rfl) ?_
  refine jx_bipush C dX7_isBox_1 (by decide) ?_
  refine jx_callSI C hK hP hD hS hA (ct_B_isUpTo l D cI cT  _  l0 30 h) ms_X7_isUpTo lk_X7_95 [] rfl rfl (fun _ => rfl) (cs' := (fun _ => [])) (fun _ => rfl) (fun _ => rfl) rfl rfl hl.1 rfl rfl dX7_isBox_3 ⟨Nat.le_refl _, Nat.le_refl _⟩ (fun r3 _ H locs h hP hD hS => ?_)
  have hP : va_P D vwCl (jx_ws cI cT []) H := hP
  have hD : va_D A (jx_ws cI cT []) := hD
  exact jx_rZ C hr hlk hAe hS hQQ h.1 () hP h.2 dX7_isBox_6
set_option maxRecDepth 100000 in
set_option maxHeartbeats 4000000 in
theorem ct_B_boxOf (l : Launch) (D : va_G) (cI cT : ClassId) (aB : Nat → Nat) (aC : Nat → Nat) (aS : Nat → Nat) (aT : Nat → Nat) (aW : Nat → Nat) (aV : Nat → Nat) (aU : Nat → Nat) (aH : Nat → Nat) (hT : Nat → Nat → Nat) (aO : Nat → Nat) (Q : Int → jx_St → Prop) (sB : jx_St) (sS : jx_St) (sT : jx_St) (l1 : Int) (l2 : Int) (h : wp_B_boxOf Q sB sS sT l1 l2) : jx_KI jx_St l D cI cT yX7_boxOf cX7_boxOf 4 .int 4 92 [.ref (aB 0), .int (jx_i l1), .int (jx_i l2)] [(cp_B aB (aT 0) (aS 0) (aC 0) (aU 0) (aV 0) (aW 0) (aH 0) (aO 0), sB), (cp_S aS (aT 0), sS), (cp_T aT, sT)] (fun u => [(cp_B aB (aT 0) (aS 0) (aC 0) (aU 0) (aV 0) (aW 0) (aH 0) (aO 0), sB), (cp_S aS (aT 0), u), (cp_T aT, sT)]) Q := by
  refine jx_ent (own := RX7) (by decide) rfl (Nat.le_of_ble_eq_true rfl) ?_
  intro p e s m args below meth c A QQ C hr hlk hK hAe hA hP hD hS ls hl hQQ
  have hl : lv_has ls 4 [(0, .ref (aB 0)), (1, .int (jx_i l1)), (2, .int (jx_i l2))] := hl
  have hx := C.1
  have hb := C.2.1
  unfold wp_B_boxOf at h
  refine lv_iload_n hx hb dX7_boxOf_0 rfl (lv_at hl 1 rfl) ?_
  refine jx_callSI C hK hP hD hS hA (ct_B_isBox l D cI cT  _  l1 h) ms_X7_isBox lk_X7_61 [] rfl rfl (fun _ => rfl) (cs' := (fun _ => [(cp_B aB (aT 0) (aS 0) (aC 0) (aU 0) (aV 0) (aW 0) (aH 0) (aO 0), sB), (cp_S aS (aT 0), sS), (cp_T aT, sT)])) (fun _ => rfl) (fun _ => rfl) rfl rfl hl.1 rfl rfl dX7_boxOf_1 ⟨Nat.le_refl _, Nat.le_refl _⟩ (fun r1 _ H locs h hP hD hS => ?_)
  have hP : va_P D vwCl (jx_ws cI cT [(cp_B aB (aT 0) (aS 0) (aC 0) (aU 0) (aV 0) (aW 0) (aH 0) (aO 0), sB), (cp_S aS (aT 0), sS), (cp_T aT, sT)]) H := hP
  have hD : va_D A (jx_ws cI cT [(cp_B aB (aT 0) (aS 0) (aC 0) (aU 0) (aV 0) (aW 0) (aH 0) (aO 0), sB), (cp_S aS (aT 0), sS), (cp_T aT, sT)]) := hD
  refine jx_zeq C h.1 (tgt := 15) dX7_boxOf_4 (by decide) (fun hc => ?_) (fun hc => ?_)
  · have h := h.2.1 hc
    refine jx_ldc C (-1000001) kc_X7_69 dX7_boxOf_15 ?_
    exact jx_rI C hr hlk hAe hS hQQ sS hP h dX7_boxOf_17
  · have h := h.2.2 hc
    refine lv_iload_n hx hb dX7_boxOf_7 rfl (lv_at hl 2 rfl) ?_
    refine jx_iconst C dX7_boxOf_8 ?_
    refine jx_callSI C hK hP hD hS hA (ct_B_isUpTo l D cI cT  _  l2 5 h) ms_X7_isUpTo lk_X7_95 [] rfl rfl (fun _ => rfl) (cs' := (fun _ => [(cp_B aB (aT 0) (aS 0) (aC 0) (aU 0) (aV 0) (aW 0) (aH 0) (aO 0), sB), (cp_S aS (aT 0), sS), (cp_T aT, sT)])) (fun _ => rfl) (fun _ => rfl) rfl rfl hl.1 rfl rfl dX7_boxOf_9 ⟨Nat.le_refl _, Nat.le_refl _⟩ (fun r9 _ H locs h hP hD hS => ?_)
    have hP : va_P D vwCl (jx_ws cI cT [(cp_B aB (aT 0) (aS 0) (aC 0) (aU 0) (aV 0) (aW 0) (aH 0) (aO 0), sB), (cp_S aS (aT 0), sS), (cp_T aT, sT)]) H := hP
    have hD : va_D A (jx_ws cI cT [(cp_B aB (aT 0) (aS 0) (aC 0) (aU 0) (aV 0) (aW 0) (aH 0) (aO 0), sB), (cp_S aS (aT 0), sS), (cp_T aT, sT)]) := hD
    refine jx_zne C h.1 (tgt := 18) dX7_boxOf_12 (by decide) (fun hc => ?_) (fun hc => ?_)
    · have h := h.2.2 hc
      refine lv_aload_n hx hb dX7_boxOf_18 rfl (lv_at hl 0 rfl) ?_
      refine jx_getR C hK hP 0 0 0 rfl rfl rfl fl_X7_12 dX7_boxOf_19 ?_
      refine lv_iload_n hx hb dX7_boxOf_22 rfl (lv_at hl 1 rfl) ?_
      refine jx_callVI C hK hP hD hS hA (ct_T_has l D cI cT aT _ sT l1 h) ms_X6_has lk_X7_70 [2] rfl rfl (fun _ => rfl) (cs' := (fun _ => [(cp_B aB (aT 0) (aS 0) (aC 0) (aU 0) (aV 0) (aW 0) (aH 0) (aO 0), sB), (cp_S aS (aT 0), sS), (cp_T aT, sT)])) (fun _ => rfl) (fun _ => rfl) 2 0 rfl rfl rfl rfl rfl hl.1 rfl rfl dX7_boxOf_23 ⟨Nat.le_refl _, Nat.le_refl _⟩ (fun r23 _ H locs h hP hD hS => ?_)
      have hP : va_P D vwCl (jx_ws cI cT [(cp_B aB (aT 0) (aS 0) (aC 0) (aU 0) (aV 0) (aW 0) (aH 0) (aO 0), sB), (cp_S aS (aT 0), sS), (cp_T aT, sT)]) H := hP
      have hD : va_D A (jx_ws cI cT [(cp_B aB (aT 0) (aS 0) (aC 0) (aU 0) (aV 0) (aW 0) (aH 0) (aO 0), sB), (cp_S aS (aT 0), sS), (cp_T aT, sT)]) := hD
      refine jx_zne C h.1 (tgt := 32) dX7_boxOf_26 (by decide) (fun hc => ?_) (fun hc => ?_)
      · have h := h.2.2 hc
        refine lv_aload_n hx hb dX7_boxOf_32 rfl (lv_at hl 0 rfl) ?_
        refine jx_getR C hK hP 0 0 0 rfl rfl rfl fl_X7_12 dX7_boxOf_33 ?_
        refine lv_iload_n hx hb dX7_boxOf_36 rfl (lv_at hl 1 rfl) ?_
        refine jx_callVI C hK hP hD hS hA (ct_T_homeOf l D cI cT aT _ sT l1 h) ms_X6_homeOf lk_X7_100 [2] rfl rfl (fun _ => rfl) (cs' := (fun _ => [(cp_B aB (aT 0) (aS 0) (aC 0) (aU 0) (aV 0) (aW 0) (aH 0) (aO 0), sB), (cp_S aS (aT 0), sS), (cp_T aT, sT)])) (fun _ => rfl) (fun _ => rfl) 2 0 rfl rfl rfl rfl rfl hl.1 rfl rfl dX7_boxOf_37 ⟨Nat.le_refl _, Nat.le_refl _⟩ (fun r37 _ H locs h hP hD hS => ?_)
        have hP : va_P D vwCl (jx_ws cI cT [(cp_B aB (aT 0) (aS 0) (aC 0) (aU 0) (aV 0) (aW 0) (aH 0) (aO 0), sB), (cp_S aS (aT 0), sS), (cp_T aT, sT)]) H := hP
        have hD : va_D A (jx_ws cI cT [(cp_B aB (aT 0) (aS 0) (aC 0) (aU 0) (aV 0) (aW 0) (aH 0) (aO 0), sB), (cp_S aS (aT 0), sS), (cp_T aT, sT)]) := hD
        refine lv_istore_n (lv' := [(3, .int (jx_i r37)), (0, .ref (aB 0)), (1, .int (jx_i l1)), (2, .int (jx_i l2))]) hx hb dX7_boxOf_40 rfl hl (by decide) rfl (fun ls hl => ?_)
        refine lv_iload_n hx hb dX7_boxOf_41 rfl (lv_at hl 3 rfl) ?_
        refine jx_iconst C dX7_boxOf_42 ?_
        refine jx_cne C h.1 (jx_inR (by decide) (by decide)) (tgt := 55) dX7_boxOf_43 (by decide) (fun hc => ?_) (fun hc => ?_)
        · have h := h.2.2 hc
          refine lv_iload_n hx hb dX7_boxOf_55 rfl (lv_at hl 3 rfl) ?_
          refine jx_iconst C dX7_boxOf_56 ?_
          refine jx_cne C h.1 (jx_inR (by decide) (by decide)) (tgt := 72) dX7_boxOf_57 (by decide) (fun hc => ?_) (fun hc => ?_)
          · have h := h.2.2 hc
            refine lv_aload_n hx hb dX7_boxOf_72 rfl (lv_at hl 1 rfl) ?_
            refine jx_getR C hK hP 0 0 0 rfl rfl rfl fl_X7_12 dX7_boxOf_73 ?_
            refine lv_iload_n hx hb dX7_boxOf_76 rfl (lv_at hl 2 rfl) ?_
            refine jx_iconst C dX7_boxOf_77 ?_
            refine jx_callVI C hK hP hD hS hA (ct_T_hull l D cI cT aT _ sT l1 0 h) ms_X6_hull lk_X7_111 [2] rfl rfl (fun _ => rfl) (cs' := (fun _ => [(cp_B aB (aT 0) (aS 0) (aC 0) (aU 0) (aV 0) (aW 0) (aH 0) (aO 0), sB), (cp_S aS (aT 0), sS), (cp_T aT, sT)])) (fun _ => rfl) (fun _ => rfl) 2 0 rfl rfl rfl rfl rfl hl.1 rfl rfl dX7_boxOf_78 ⟨Nat.le_refl _, Nat.le_refl _⟩ (fun r78 _ H locs h hP hD hS => ?_)
            have hP : va_P D vwCl (jx_ws cI cT [(cp_B aB (aT 0) (aS 0) (aC 0) (aU 0) (aV 0) (aW 0) (aH 0) (aO 0), sB), (cp_S aS (aT 0), sS), (cp_T aT, sT)]) H := hP
            have hD : va_D A (jx_ws cI cT [(cp_B aB (aT 0) (aS 0) (aC 0) (aU 0) (aV 0) (aW 0) (aH 0) (aO 0), sB), (cp_S aS (aT 0), sS), (cp_T aT, sT)]) := hD
            refine lv_iload_n hx hb dX7_boxOf_81 rfl (lv_at hl 3 rfl) ?_
            refine jx_callSI C hK hP hD hS hA (ct_Box_side l D cI cT  _  r78 l2 h) ms_X0_side lk_X7_114 [] rfl rfl (fun _ => rfl) (cs' := (fun _ => [(cp_B aB (aT 0) (aS 0) (aC 0) (aU 0) (aV 0) (aW 0) (aH 0) (aO 0), sB), (cp_S aS (aT 0), sS), (cp_T aT, sT)])) (fun _ => rfl) (fun _ => rfl) rfl rfl hl.1 rfl rfl dX7_boxOf_82 ⟨Nat.le_refl _, Nat.le_refl _⟩ (fun r82 _ H locs h hP hD hS => ?_)
            have hP : va_P D vwCl (jx_ws cI cT [(cp_B aB (aT 0) (aS 0) (aC 0) (aU 0) (aV 0) (aW 0) (aH 0) (aO 0), sB), (cp_S aS (aT 0), sS), (cp_T aT, sT)]) H := hP
            have hD : va_D A (jx_ws cI cT [(cp_B aB (aT 0) (aS 0) (aC 0) (aU 0) (aV 0) (aW 0) (aH 0) (aO 0), sB), (cp_S aS (aT 0), sS), (cp_T aT, sT)]) := hD
            exact jx_rI C hr hlk hAe hS hQQ sS hP h dX7_boxOf_85
          · have h := h.2.1 hc
            refine lv_aload_n hx hb dX7_boxOf_60 rfl (lv_at hl 1 rfl) ?_
            refine jx_getR C hK hP 0 0 0 rfl rfl rfl fl_X7_12 dX7_boxOf_61 ?_
            refine lv_iload_n hx hb dX7_boxOf_64 rfl (lv_at hl 0 rfl) ?_
            refine lv_iload_n hx hb dX7_boxOf_65 rfl (lv_at hl 2 rfl) ?_
            refine jx_callVI C hK hP hD hS hA (ct_T_placeIn l D cI cT aT _ sT r37 l1 h) ms_X6_placeIn lk_X7_107 [2] rfl rfl (fun _ => rfl) (cs' := (fun _ => [(cp_B aB (aT 0) (aS 0) (aC 0) (aU 0) (aV 0) (aW 0) (aH 0) (aO 0), sB), (cp_S aS (aT 0), sS), (cp_T aT, sT)])) (fun _ => rfl) (fun _ => rfl) 2 0 rfl rfl rfl rfl rfl hl.1 rfl rfl dX7_boxOf_66 ⟨Nat.le_refl _, Nat.le_refl _⟩ (fun r66 _ H locs h hP hD hS => ?_)
            have hP : va_P D vwCl (jx_ws cI cT [(cp_B aB (aT 0) (aS 0) (aC 0) (aU 0) (aV 0) (aW 0) (aH 0) (aO 0), sB), (cp_S aS (aT 0), sS), (cp_T aT, sT)]) H := hP
            have hD : va_D A (jx_ws cI cT [(cp_B aB (aT 0) (aS 0) (aC 0) (aU 0) (aV 0) (aW 0) (aH 0) (aO 0), sB), (cp_S aS (aT 0), sS), (cp_T aT, sT)]) := hD
            refine lv_goto (tgt := 85) hx hb dX7_boxOf_69 (by decide) ?_
            exact jx_rI C hr hlk hAe hS hQQ sS hP h dX7_boxOf_85
        · have h := h.2.1 hc
          refine lv_aload_n hx hb dX7_boxOf_46 rfl (lv_at hl 1 rfl) ?_
          refine jx_getR C hK hP 0 0 1 rfl rfl rfl fl_X7_21 dX7_boxOf_47 ?_
          refine lv_iload_n hx hb dX7_boxOf_50 rfl (lv_at hl 0 rfl) ?_
          refine jx_callVI C hK hP hD hS hA (ct_S_placeOf l D cI cT aS aT _ sS sT r37 h) ms_X5_placeOf lk_X7_104 [1, 2] rfl rfl (fun _ => rfl) (cs' := (fun u => [(cp_B aB (aT 0) (aS 0) (aC 0) (aU 0) (aV 0) (aW 0) (aH 0) (aO 0), sB), (cp_S aS (aT 0), u), (cp_T aT, sT)])) (fun _ => rfl) (fun _ => rfl) 1 0 rfl rfl rfl rfl rfl hl.1 rfl rfl dX7_boxOf_51 ⟨Nat.le_refl _, Nat.le_refl _⟩ (fun r51 sS_51 H locs h hP hD hS => ?_)
          have hP : va_P D vwCl (jx_ws cI cT [(cp_B aB (aT 0) (aS 0) (aC 0) (aU 0) (aV 0) (aW 0) (aH 0) (aO 0), sB), (cp_S aS (aT 0), sS_51), (cp_T aT, sT)]) H := hP
          have hD : va_D A (jx_ws cI cT [(cp_B aB (aT 0) (aS 0) (aC 0) (aU 0) (aV 0) (aW 0) (aH 0) (aO 0), sB), (cp_S aS (aT 0), sS_51), (cp_T aT, sT)]) := hD
          exact jx_rI C hr hlk hAe hS hQQ sS_51 hP h dX7_boxOf_54
      · have h := h.2.1 hc
        refine jx_ldc C (-1000004) kc_X7_99 dX7_boxOf_29 ?_
        exact jx_rI C hr hlk hAe hS hQQ sS hP h dX7_boxOf_31
    · have h := h.2.1 hc
      refine jx_ldc C (-1000001) kc_X7_69 dX7_boxOf_15 ?_
      exact jx_rI C hr hlk hAe hS hQQ sS hP h dX7_boxOf_17
set_option maxRecDepth 100000 in
set_option maxHeartbeats 4000000 in
theorem ct_B_ranksAhead (l : Launch) (D : va_G) (cI cT : ClassId) (aB : Nat → Nat) (aC : Nat → Nat) (aS : Nat → Nat) (aT : Nat → Nat) (aW : Nat → Nat) (aV : Nat → Nat) (aU : Nat → Nat) (aH : Nat → Nat) (hT : Nat → Nat → Nat) (aO : Nat → Nat) (Q : Int → Prop) (sB : jx_St) (l1 : Int) (h : wp_B_ranksAhead Q sB l1) : jx_KI (Unit) l D cI cT yX7_ranksAhead cX7_ranksAhead 7 .int 0 0 [.ref (aB 0), .int (jx_i l1)] [(cp_B aB (aT 0) (aS 0) (aC 0) (aU 0) (aV 0) (aW 0) (aH 0) (aO 0), sB)] (fun _ => [(cp_B aB (aT 0) (aS 0) (aC 0) (aU 0) (aV 0) (aW 0) (aH 0) (aO 0), sB)]) (fun x _ => Q x) := by
  refine jx_ent (own := RX7) (by decide) rfl (Nat.le_of_ble_eq_true rfl) ?_
  intro p e s m args below meth c A QQ C hr hlk hK hAe hA hP hD hS ls hl hQQ
  have hl : lv_has ls 7 [(0, .ref (aB 0)), (1, .int (jx_i l1))] := hl
  have hx := C.1
  have hb := C.2.1
  unfold wp_B_ranksAhead at h
  have Lo14 : ∀ (l4 : Int) (n : Nat) (l2 : Int) (l5 : Int), jx_it (fun B14 v => wp_B_ranksAhead_14 Q sB l1 l4 B14 v.1 v.2) n (l2, l5) → ∀ (H : Heap) (locs : List Loc), va_P D vwCl (jx_ws cI cT [(cp_B aB (aT 0) (aS 0) (aC 0) (aU 0) (aV 0) (aW 0) (aH 0) (aO 0), sB)]) H → va_D A (jx_ws cI cT [(cp_B aB (aT 0) (aS 0) (aC 0) (aU 0) (aV 0) (aW 0) (aH 0) (aO 0), sB)]) → va_S A s.heap H locs → ∀ ls : Array Slot, lv_has ls 7 [(1, .int (jx_i l1)), (2, .int (jx_i l2)), (3, .ref (aB 1)), (4, .int (jx_i l4)), (5, .int (jx_i l5))] → W p l e (jx_rm 0 0) s m args below meth c H locs 0 0 QQ (F0 m 14 ls []) := by
    intro l4 n
    induction n with
    | zero =>
      intro l2 l5 h
      exact (show False from h).elim
    | succ n ih =>
      intro l2 l5 h H locs hP hD hS ls hl
      have h : wp_B_ranksAhead_14 Q sB l1 l4 (jx_it (fun B14 v => wp_B_ranksAhead_14 Q sB l1 l4 B14 v.1 v.2) n) l2 l5 := h
      have ih := fun l2 l5 h => ih l2 l5 h
      generalize jx_it (fun B14 v => wp_B_ranksAhead_14 Q sB l1 l4 B14 v.1 v.2) n = B14 at h ih
      unfold wp_B_ranksAhead_14 at h
      have J42 : ∀ (l2 : Int) (l5 : Int), wp_B_ranksAhead_42 Q sB l1 B14 l2 l4 l5 → ∀ (H : Heap) (locs : List Loc), va_P D vwCl (jx_ws cI cT [(cp_B aB (aT 0) (aS 0) (aC 0) (aU 0) (aV 0) (aW 0) (aH 0) (aO 0), sB)]) H → va_D A (jx_ws cI cT [(cp_B aB (aT 0) (aS 0) (aC 0) (aU 0) (aV 0) (aW 0) (aH 0) (aO 0), sB)]) → va_S A s.heap H locs → ∀ ls : Array Slot, lv_has ls 7 [(1, .int (jx_i l1)), (2, .int (jx_i l2)), (3, .ref (aB 1)), (4, .int (jx_i l4)), (5, .int (jx_i l5))] → W p l e (jx_rm 0 0) s m args below meth c H locs 0 0 QQ (F0 m 42 ls []) := by
        intro l2 l5 h H locs hP hD hS ls hl
        unfold wp_B_ranksAhead_42 at h
        refine jx_iinc C (lv' := [(5, .int (jx_i (l5 + 1))), (1, .int (jx_i l1)), (2, .int (jx_i l2)), (3, .ref (aB 1)), (4, .int (jx_i l4))]) dX7_ranksAhead_42 hl (k := 4) rfl (by decide) rfl (fun ls hl => ?_)
        refine lv_goto (tgt := 14) hx hb dX7_ranksAhead_45 (by decide) ?_
        exact ih l2 (l5 + 1) h _ _ hP hD hS ls (lv_sub hl [1, 2, 3, 4, 0] rfl)
      refine lv_iload hx hb dX7_ranksAhead_14 (lv_at hl 4 rfl) ?_
      refine lv_iload hx hb dX7_ranksAhead_16 (lv_at hl 3 rfl) ?_
      refine jx_cge C h.1 h.2.1 (tgt := 48) dX7_ranksAhead_18 (by decide) (fun hc => ?_) (fun hc => ?_)
      · have h := h.2.2.2 hc
        refine lv_iload_n hx hb dX7_ranksAhead_48 rfl (lv_at hl 1 rfl) ?_
        exact jx_rI C hr hlk hAe hS hQQ () hP h dX7_ranksAhead_49
      · have h := h.2.2.1 hc
        refine lv_aload_n hx hb dX7_ranksAhead_21 rfl (lv_at hl 2 rfl) ?_
        refine lv_iload hx hb dX7_ranksAhead_22 (lv_at hl 4 rfl) ?_
        refine jx_iald C hK hP 0 1 rfl rfl rfl h.1 dX7_ranksAhead_24 ?_
        have h := h.2
        refine lv_istore (lv' := [(6, .int (jx_i (sB 8 l5))), (1, .int (jx_i l1)), (2, .int (jx_i l2)), (3, .ref (aB 1)), (4, .int (jx_i l4)), (5, .int (jx_i l5))]) hx hb dX7_ranksAhead_25 hl (by decide) rfl (fun ls hl => ?_)
        refine lv_iload hx hb dX7_ranksAhead_27 (lv_at hl 0 rfl) ?_
        refine jx_iconst C dX7_ranksAhead_29 ?_
        refine jx_ceq C h.1 (jx_inR (by decide) (by decide)) (tgt := 42) dX7_ranksAhead_30 (by decide) (fun hc => ?_) (fun hc => ?_)
        · have h := h.2.1 hc
          exact J42 l2 l5 h _ _ hP hD hS ls (lv_sub hl [1, 2, 3, 4, 5] rfl)
        · have h := h.2.2 hc
          refine lv_iload hx hb dX7_ranksAhead_33 (lv_at hl 0 rfl) ?_
          refine lv_iload_n hx hb dX7_ranksAhead_35 rfl (lv_at hl 1 rfl) ?_
          refine jx_cge C h.1 h.2.1 (tgt := 42) dX7_ranksAhead_36 (by decide) (fun hc => ?_) (fun hc => ?_)
          · have h := h.2.2.2 hc
            exact J42 l2 l5 h _ _ hP hD hS ls (lv_sub hl [1, 2, 3, 4, 5] rfl)
          · have h := h.2.2.1 hc
            refine jx_iinc C (lv' := [(2, .int (jx_i (l2 + 1))), (6, .int (jx_i (sB 8 l5))), (1, .int (jx_i l1)), (3, .ref (aB 1)), (4, .int (jx_i l4)), (5, .int (jx_i l5))]) dX7_ranksAhead_39 hl (k := 2) rfl (by decide) rfl (fun ls hl => ?_)
            exact J42 (l2 + 1) l5 h _ _ hP hD hS ls (lv_sub hl [2, 0, 3, 4, 5] rfl)
  refine jx_iconst C dX7_ranksAhead_0 ?_
  refine lv_istore_n (lv' := [(2, .int (jx_i 0)), (0, .ref (aB 0)), (1, .int (jx_i l1))]) hx hb dX7_ranksAhead_1 rfl hl (by decide) rfl (fun ls hl => ?_)
  refine lv_aload_n hx hb dX7_ranksAhead_2 rfl (lv_at hl 1 rfl) ?_
  refine jx_getR C hK hP 0 0 8 rfl rfl rfl fl_X7_57 dX7_ranksAhead_3 ?_
  refine lv_astore_n (lv' := [(3, .ref (aB 1)), (2, .int (jx_i 0)), (0, .ref (aB 0)), (1, .int (jx_i l1))]) hx hb dX7_ranksAhead_6 rfl hl (by decide) rfl (fun ls hl => ?_)
  refine lv_aload_n hx hb dX7_ranksAhead_7 rfl (lv_at hl 0 rfl) ?_
  refine jx_alen C hK hP 0 1 rfl rfl dX7_ranksAhead_8 ?_
  refine lv_istore (lv' := [(4, .int (jx_i 31)), (3, .ref (aB 1)), (2, .int (jx_i 0)), (0, .ref (aB 0)), (1, .int (jx_i l1))]) hx hb dX7_ranksAhead_9 hl (by decide) rfl (fun ls hl => ?_)
  refine jx_iconst C dX7_ranksAhead_11 ?_
  refine lv_istore (lv' := [(5, .int (jx_i 0)), (4, .int (jx_i 31)), (3, .ref (aB 1)), (2, .int (jx_i 0)), (0, .ref (aB 0)), (1, .int (jx_i l1))]) hx hb dX7_ranksAhead_12 hl (by decide) rfl (fun ls hl => ?_)
  obtain ⟨n, h⟩ := h
  refine Lo14 31 n 0 0 h _ _ hP hD hS ls (lv_sub hl [5, 3, 2, 1, 0] rfl)
set_option maxRecDepth 100000 in
set_option maxHeartbeats 4000000 in
theorem ct_B_boxOfRank (l : Launch) (D : va_G) (cI cT : ClassId) (aB : Nat → Nat) (aC : Nat → Nat) (aS : Nat → Nat) (aT : Nat → Nat) (aW : Nat → Nat) (aV : Nat → Nat) (aU : Nat → Nat) (aH : Nat → Nat) (hT : Nat → Nat → Nat) (aO : Nat → Nat) (Q : Int → jx_St → Prop) (sB : jx_St) (sT : jx_St) (l1 : Int) (l2 : Int) (l3 : Int) (h : wp_B_boxOfRank Q sB sT l1 l2 l3) : jx_KI jx_St l D cI cT yX7_boxOfRank cX7_boxOfRank 6 .int 2 45 [.ref (aB 0), .int (jx_i l1), .int (jx_i l2), .int (jx_i l3)] [(cp_B aB (aT 0) (aS 0) (aC 0) (aU 0) (aV 0) (aW 0) (aH 0) (aO 0), sB), (cp_T aT, sT)] (fun u => [(cp_B aB (aT 0) (aS 0) (aC 0) (aU 0) (aV 0) (aW 0) (aH 0) (aO 0), u), (cp_T aT, sT)]) Q := by
  refine jx_ent (own := RX7) (by decide) rfl (Nat.le_of_ble_eq_true rfl) ?_
  intro p e s m args below meth c A QQ C hr hlk hK hAe hA hP hD hS ls hl hQQ
  have hl : lv_has ls 6 [(0, .ref (aB 0)), (1, .int (jx_i l1)), (2, .int (jx_i l2)), (3, .int (jx_i l3))] := hl
  have hx := C.1
  have hb := C.2.1
  unfold wp_B_boxOfRank at h
  have Lo3 : ∀ (K66 : jx_St → Prop) (n : Nat) (sB : jx_St) (l4 : Int), jx_it (fun B3 v => wp_B_boxOfRank_3 Q sT l1 l2 l3 K66 B3 v.1 v.2) n (sB, l4) → (∀ (sB : jx_St), K66 sB → ∀ (H : Heap) (locs : List Loc), va_P D vwCl (jx_ws cI cT [(cp_B aB (aT 0) (aS 0) (aC 0) (aU 0) (aV 0) (aW 0) (aH 0) (aO 0), sB), (cp_T aT, sT)]) H → va_D A (jx_ws cI cT [(cp_B aB (aT 0) (aS 0) (aC 0) (aU 0) (aV 0) (aW 0) (aH 0) (aO 0), sB), (cp_T aT, sT)]) → va_S A s.heap H locs → ∀ ls : Array Slot, lv_has ls 6 [(0, .ref (aB 0)), (3, .int (jx_i l3))] → W p l e (jx_rm 2 45) s m args below meth c H locs 0 0 QQ (F0 m 66 ls [])) → ∀ (H : Heap) (locs : List Loc), va_P D vwCl (jx_ws cI cT [(cp_B aB (aT 0) (aS 0) (aC 0) (aU 0) (aV 0) (aW 0) (aH 0) (aO 0), sB), (cp_T aT, sT)]) H → va_D A (jx_ws cI cT [(cp_B aB (aT 0) (aS 0) (aC 0) (aU 0) (aV 0) (aW 0) (aH 0) (aO 0), sB), (cp_T aT, sT)]) → va_S A s.heap H locs → ∀ ls : Array Slot, lv_has ls 6 [(0, .ref (aB 0)), (1, .int (jx_i l1)), (2, .int (jx_i l2)), (3, .int (jx_i l3)), (4, .int (jx_i l4))] → W p l e (jx_rm 2 45) s m args below meth c H locs 0 0 QQ (F0 m 3 ls []) := by
    intro K66 n
    induction n with
    | zero =>
      intro sB l4 h
      exact (show False from h).elim
    | succ n ih =>
      intro sB l4 h K66E H locs hP hD hS ls hl
      have h : wp_B_boxOfRank_3 Q sT l1 l2 l3 K66 (jx_it (fun B3 v => wp_B_boxOfRank_3 Q sT l1 l2 l3 K66 B3 v.1 v.2) n) sB l4 := h
      have ih := fun sB l4 h => ih sB l4 h K66E
      generalize jx_it (fun B3 v => wp_B_boxOfRank_3 Q sT l1 l2 l3 K66 B3 v.1 v.2) n = B3 at h ih
      unfold wp_B_boxOfRank_3 at h
      have J47 : ∀ (sB : jx_St) (l4 : Int) (t0 : Int), wp_B_boxOfRank_47 Q sT l1 l2 l3 B3 K66 sB l4 t0 → ∀ (H : Heap) (locs : List Loc), va_P D vwCl (jx_ws cI cT [(cp_B aB (aT 0) (aS 0) (aC 0) (aU 0) (aV 0) (aW 0) (aH 0) (aO 0), sB), (cp_T aT, sT)]) H → va_D A (jx_ws cI cT [(cp_B aB (aT 0) (aS 0) (aC 0) (aU 0) (aV 0) (aW 0) (aH 0) (aO 0), sB), (cp_T aT, sT)]) → va_S A s.heap H locs → ∀ ls : Array Slot, lv_has ls 6 [(0, .ref (aB 0)), (1, .int (jx_i l1)), (2, .int (jx_i l2)), (3, .int (jx_i l3)), (4, .int (jx_i l4))] → W p l e (jx_rm 2 45) s m args below meth c H locs 0 0 QQ (F0 m 47 ls [.int (jx_i t0)]) := by
        intro sB l4 t0 h H locs hP hD hS ls hl
        unfold wp_B_boxOfRank_47 at h
        refine lv_istore (lv' := [(5, .int (jx_i t0)), (0, .ref (aB 0)), (1, .int (jx_i l1)), (2, .int (jx_i l2)), (3, .int (jx_i l3)), (4, .int (jx_i l4))]) hx hb dX7_boxOfRank_47 hl (by decide) rfl (fun ls hl => ?_)
        refine lv_aload_n hx hb dX7_boxOfRank_49 rfl (lv_at hl 1 rfl) ?_
        refine jx_getR C hK hP 0 0 8 rfl rfl rfl fl_X7_57 dX7_boxOfRank_50 ?_
        refine lv_iload hx hb dX7_boxOfRank_53 (lv_at hl 5 rfl) ?_
        refine lv_iload hx hb dX7_boxOfRank_55 (lv_at hl 0 rfl) ?_
        refine jx_rowsSet C hK hP hD hS hA 0 1 rfl rfl rfl rfl h.1 lk_X7_238 rfl hl.1 rfl rfl dX7_boxOfRank_57 ⟨Nat.le_refl _, Nat.le_refl _⟩ (fun H locs hP hD hS => ?_)
        have h := h.2
        have hP : va_P D vwCl (jx_ws cI cT [(cp_B aB (aT 0) (aS 0) (aC 0) (aU 0) (aV 0) (aW 0) (aH 0) (aO 0), (jx_se 31 sB 8 l4 t0)), (cp_T aT, sT)]) H := hP
        have hD : va_D A (jx_ws cI cT [(cp_B aB (aT 0) (aS 0) (aC 0) (aU 0) (aV 0) (aW 0) (aH 0) (aO 0), (jx_se 31 sB 8 l4 t0)), (cp_T aT, sT)]) := hD
        refine jx_iinc C (lv' := [(4, .int (jx_i (l4 + 1))), (5, .int (jx_i t0)), (0, .ref (aB 0)), (1, .int (jx_i l1)), (2, .int (jx_i l2)), (3, .int (jx_i l3))]) dX7_boxOfRank_60 hl (k := 5) rfl (by decide) rfl (fun ls hl => ?_)
        refine lv_goto (tgt := 3) hx hb dX7_boxOfRank_63 (by decide) ?_
        exact ih (jx_se 31 sB 8 l4 t0) (l4 + 1) h _ _ hP hD hS ls (lv_sub hl [2, 3, 4, 5, 0] rfl)
      refine lv_iload hx hb dX7_boxOfRank_3 (lv_at hl 4 rfl) ?_
      refine jx_bipush C dX7_boxOfRank_5 (by decide) ?_
      refine jx_cge C h.1 (jx_inR (by decide) (by decide)) (tgt := 66) dX7_boxOfRank_7 (by decide) (fun hc => ?_) (fun hc => ?_)
      · have h := h.2.2 hc
        exact K66E sB h _ _ hP hD hS ls (lv_sub hl [0, 3] rfl)
      · have h := h.2.1 hc
        refine lv_aload_n hx hb dX7_boxOfRank_10 rfl (lv_at hl 0 rfl) ?_
        refine jx_getR C hK hP 0 0 0 rfl rfl rfl fl_X7_12 dX7_boxOfRank_11 ?_
        refine lv_iload hx hb dX7_boxOfRank_14 (lv_at hl 4 rfl) ?_
        refine jx_callVI C hK hP hD hS hA (ct_T_has l D cI cT aT _ sT l4 h) ms_X6_has lk_X7_70 [1] rfl rfl (fun _ => rfl) (cs' := (fun _ => [(cp_B aB (aT 0) (aS 0) (aC 0) (aU 0) (aV 0) (aW 0) (aH 0) (aO 0), sB), (cp_T aT, sT)])) (fun _ => rfl) (fun _ => rfl) 1 0 rfl rfl rfl rfl rfl hl.1 rfl rfl dX7_boxOfRank_16 ⟨Nat.le_refl _, Nat.le_refl _⟩ (fun r16 _ H locs h hP hD hS => ?_)
        have hP : va_P D vwCl (jx_ws cI cT [(cp_B aB (aT 0) (aS 0) (aC 0) (aU 0) (aV 0) (aW 0) (aH 0) (aO 0), sB), (cp_T aT, sT)]) H := hP
        have hD : va_D A (jx_ws cI cT [(cp_B aB (aT 0) (aS 0) (aC 0) (aU 0) (aV 0) (aW 0) (aH 0) (aO 0), sB), (cp_T aT, sT)]) := hD
        refine jx_zeq C h.1 (tgt := 46) dX7_boxOfRank_19 (by decide) (fun hc => ?_) (fun hc => ?_)
        · have h := h.2.1 hc
          refine jx_iconst C dX7_boxOfRank_46 ?_
          exact J47 sB l4 (-1) h _ _ hP hD hS ls (lv_sub hl [0, 1, 2, 3, 4] rfl)
        · have h := h.2.2 hc
          refine lv_aload_n hx hb dX7_boxOfRank_22 rfl (lv_at hl 0 rfl) ?_
          refine jx_getR C hK hP 0 0 0 rfl rfl rfl fl_X7_12 dX7_boxOfRank_23 ?_
          refine lv_iload hx hb dX7_boxOfRank_26 (lv_at hl 4 rfl) ?_
          refine jx_iconst C dX7_boxOfRank_28 ?_
          refine jx_callVI C hK hP hD hS hA (ct_T_hull l D cI cT aT _ sT l4 0 h) ms_X6_hull lk_X7_111 [1] rfl rfl (fun _ => rfl) (cs' := (fun _ => [(cp_B aB (aT 0) (aS 0) (aC 0) (aU 0) (aV 0) (aW 0) (aH 0) (aO 0), sB), (cp_T aT, sT)])) (fun _ => rfl) (fun _ => rfl) 1 0 rfl rfl rfl rfl rfl hl.1 rfl rfl dX7_boxOfRank_29 ⟨Nat.le_refl _, Nat.le_refl _⟩ (fun r29 _ H locs h hP hD hS => ?_)
          have hP : va_P D vwCl (jx_ws cI cT [(cp_B aB (aT 0) (aS 0) (aC 0) (aU 0) (aV 0) (aW 0) (aH 0) (aO 0), sB), (cp_T aT, sT)]) H := hP
          have hD : va_D A (jx_ws cI cT [(cp_B aB (aT 0) (aS 0) (aC 0) (aU 0) (aV 0) (aW 0) (aH 0) (aO 0), sB), (cp_T aT, sT)]) := hD
          refine lv_iload_n hx hb dX7_boxOfRank_32 rfl (lv_at hl 1 rfl) ?_
          refine lv_iload_n hx hb dX7_boxOfRank_33 rfl (lv_at hl 2 rfl) ?_
          refine jx_callSI C hK hP hD hS hA (ct_Box_distance l D cI cT  _  r29 l1 l2 h) ms_X0_distance lk_X7_158 [] rfl rfl (fun _ => rfl) (cs' := (fun _ => [(cp_B aB (aT 0) (aS 0) (aC 0) (aU 0) (aV 0) (aW 0) (aH 0) (aO 0), sB), (cp_T aT, sT)])) (fun _ => rfl) (fun _ => rfl) rfl rfl hl.1 rfl rfl dX7_boxOfRank_34 ⟨Nat.le_refl _, Nat.le_refl _⟩ (fun r34 _ H locs h hP hD hS => ?_)
          have hP : va_P D vwCl (jx_ws cI cT [(cp_B aB (aT 0) (aS 0) (aC 0) (aU 0) (aV 0) (aW 0) (aH 0) (aO 0), sB), (cp_T aT, sT)]) H := hP
          have hD : va_D A (jx_ws cI cT [(cp_B aB (aT 0) (aS 0) (aC 0) (aU 0) (aV 0) (aW 0) (aH 0) (aO 0), sB), (cp_T aT, sT)]) := hD
          refine jx_bipush C dX7_boxOfRank_37 (by decide) ?_
          refine jx_imul C dX7_boxOfRank_39 ?_
          refine lv_iload hx hb dX7_boxOfRank_40 (lv_at hl 4 rfl) ?_
          refine jx_iadd C dX7_boxOfRank_42 ?_
          refine lv_goto (tgt := 47) hx hb dX7_boxOfRank_43 (by decide) ?_
          exact J47 sB l4 ((r34 * 31) + l4) h _ _ hP hD hS ls (lv_sub hl [0, 1, 2, 3, 4] rfl)
  have Lo69 : ∀ (sB : jx_St) (n : Nat) (l4 : Int), jx_it (fun B69 v => wp_B_boxOfRank_69 Q sT l1 l2 l3 sB B69 v) n l4 → ∀ (H : Heap) (locs : List Loc), va_P D vwCl (jx_ws cI cT [(cp_B aB (aT 0) (aS 0) (aC 0) (aU 0) (aV 0) (aW 0) (aH 0) (aO 0), sB), (cp_T aT, sT)]) H → va_D A (jx_ws cI cT [(cp_B aB (aT 0) (aS 0) (aC 0) (aU 0) (aV 0) (aW 0) (aH 0) (aO 0), sB), (cp_T aT, sT)]) → va_S A s.heap H locs → ∀ ls : Array Slot, lv_has ls 6 [(0, .ref (aB 0)), (3, .int (jx_i l3)), (4, .int (jx_i l4))] → W p l e (jx_rm 2 45) s m args below meth c H locs 0 0 QQ (F0 m 69 ls []) := by
    intro sB n
    induction n with
    | zero =>
      intro l4 h
      exact (show False from h).elim
    | succ n ih =>
      intro l4 h H locs hP hD hS ls hl
      have h : wp_B_boxOfRank_69 Q sT l1 l2 l3 sB (jx_it (fun B69 v => wp_B_boxOfRank_69 Q sT l1 l2 l3 sB B69 v) n) l4 := h
      have ih := fun l4 h => ih l4 h
      generalize jx_it (fun B69 v => wp_B_boxOfRank_69 Q sT l1 l2 l3 sB B69 v) n = B69 at h ih
      unfold wp_B_boxOfRank_69 at h
      have J106 : ∀ (l4 : Int), wp_B_boxOfRank_106 Q sT l1 l2 l3 B69 sB l4 → ∀ (H : Heap) (locs : List Loc), va_P D vwCl (jx_ws cI cT [(cp_B aB (aT 0) (aS 0) (aC 0) (aU 0) (aV 0) (aW 0) (aH 0) (aO 0), sB), (cp_T aT, sT)]) H → va_D A (jx_ws cI cT [(cp_B aB (aT 0) (aS 0) (aC 0) (aU 0) (aV 0) (aW 0) (aH 0) (aO 0), sB), (cp_T aT, sT)]) → va_S A s.heap H locs → ∀ ls : Array Slot, lv_has ls 6 [(0, .ref (aB 0)), (3, .int (jx_i l3)), (4, .int (jx_i l4))] → W p l e (jx_rm 2 45) s m args below meth c H locs 0 0 QQ (F0 m 106 ls []) := by
        intro l4 h H locs hP hD hS ls hl
        unfold wp_B_boxOfRank_106 at h
        refine jx_iinc C (lv' := [(4, .int (jx_i (l4 + 1))), (0, .ref (aB 0)), (3, .int (jx_i l3))]) dX7_boxOfRank_106 hl (k := 2) rfl (by decide) rfl (fun ls hl => ?_)
        refine lv_goto (tgt := 69) hx hb dX7_boxOfRank_109 (by decide) ?_
        exact ih (l4 + 1) h _ _ hP hD hS ls (lv_sub hl [1, 2, 0] rfl)
      refine lv_iload hx hb dX7_boxOfRank_69 (lv_at hl 2 rfl) ?_
      refine jx_bipush C dX7_boxOfRank_71 (by decide) ?_
      refine jx_cge C h.1 (jx_inR (by decide) (by decide)) (tgt := 112) dX7_boxOfRank_73 (by decide) (fun hc => ?_) (fun hc => ?_)
      · have h := h.2.2 hc
        refine jx_iconst C dX7_boxOfRank_112 ?_
        exact jx_rI C hr hlk hAe hS hQQ sB hP h dX7_boxOfRank_113
      · have h := h.2.1 hc
        refine lv_aload_n hx hb dX7_boxOfRank_76 rfl (lv_at hl 0 rfl) ?_
        refine jx_getR C hK hP 0 0 8 rfl rfl rfl fl_X7_57 dX7_boxOfRank_77 ?_
        refine lv_iload hx hb dX7_boxOfRank_80 (lv_at hl 2 rfl) ?_
        refine jx_rowsAt C hK hP hD hS hA 0 1 rfl rfl rfl rfl h.1 lk_X7_244 hl.1 rfl rfl dX7_boxOfRank_82 ⟨Nat.le_refl _, Nat.le_refl _⟩ (fun H locs hP hS => ?_)
        have h := h.2
        refine lv_istore (lv' := [(5, .int (jx_i (jx_at 31 (sB 8) l4))), (0, .ref (aB 0)), (3, .int (jx_i l3)), (4, .int (jx_i l4))]) hx hb dX7_boxOfRank_85 hl (by decide) rfl (fun ls hl => ?_)
        refine lv_iload hx hb dX7_boxOfRank_87 (lv_at hl 0 rfl) ?_
        refine jx_iconst C dX7_boxOfRank_89 ?_
        refine jx_ceq C h.1 (jx_inR (by decide) (by decide)) (tgt := 106) dX7_boxOfRank_90 (by decide) (fun hc => ?_) (fun hc => ?_)
        · have h := h.2.1 hc
          exact J106 l4 h _ _ hP hD hS ls (lv_sub hl [1, 2, 3] rfl)
        · have h := h.2.2 hc
          refine lv_aload_n hx hb dX7_boxOfRank_93 rfl (lv_at hl 1 rfl) ?_
          refine lv_iload hx hb dX7_boxOfRank_94 (lv_at hl 0 rfl) ?_
          refine jx_callVI C hK hP hD hS hA (ct_B_ranksAhead l D cI cT aB aC aS aT aW aV aU aH hT aO _ sB (jx_at 31 (sB 8) l4) h) ms_X7_ranksAhead lk_X7_247 [0] rfl rfl (fun _ => rfl) (cs' := (fun _ => [(cp_B aB (aT 0) (aS 0) (aC 0) (aU 0) (aV 0) (aW 0) (aH 0) (aO 0), sB), (cp_T aT, sT)])) (fun _ => rfl) (fun _ => rfl) 0 0 rfl rfl rfl rfl rfl hl.1 rfl rfl dX7_boxOfRank_96 ⟨Nat.le_refl _, Nat.le_refl _⟩ (fun r96 _ H locs h hP hD hS => ?_)
          have hP : va_P D vwCl (jx_ws cI cT [(cp_B aB (aT 0) (aS 0) (aC 0) (aU 0) (aV 0) (aW 0) (aH 0) (aO 0), sB), (cp_T aT, sT)]) H := hP
          have hD : va_D A (jx_ws cI cT [(cp_B aB (aT 0) (aS 0) (aC 0) (aU 0) (aV 0) (aW 0) (aH 0) (aO 0), sB), (cp_T aT, sT)]) := hD
          refine lv_iload_n hx hb dX7_boxOfRank_99 rfl (lv_at hl 2 rfl) ?_
          refine jx_cne C h.1 h.2.1 (tgt := 106) dX7_boxOfRank_100 (by decide) (fun hc => ?_) (fun hc => ?_)
          · have h := h.2.2.2 hc
            exact J106 l4 h _ _ hP hD hS ls (lv_sub hl [1, 2, 3] rfl)
          · have h := h.2.2.1 hc
            refine lv_iload hx hb dX7_boxOfRank_103 (lv_at hl 3 rfl) ?_
            exact jx_rI C hr hlk hAe hS hQQ sB hP h dX7_boxOfRank_105
  have J66 : ∀ (sB : jx_St), wp_B_boxOfRank_66 Q sT l1 l2 l3 sB → ∀ (H : Heap) (locs : List Loc), va_P D vwCl (jx_ws cI cT [(cp_B aB (aT 0) (aS 0) (aC 0) (aU 0) (aV 0) (aW 0) (aH 0) (aO 0), sB), (cp_T aT, sT)]) H → va_D A (jx_ws cI cT [(cp_B aB (aT 0) (aS 0) (aC 0) (aU 0) (aV 0) (aW 0) (aH 0) (aO 0), sB), (cp_T aT, sT)]) → va_S A s.heap H locs → ∀ ls : Array Slot, lv_has ls 6 [(0, .ref (aB 0)), (3, .int (jx_i l3))] → W p l e (jx_rm 2 45) s m args below meth c H locs 0 0 QQ (F0 m 66 ls []) := by
    intro sB h H locs hP hD hS ls hl
    unfold wp_B_boxOfRank_66 at h
    refine jx_iconst C dX7_boxOfRank_66 ?_
    refine lv_istore (lv' := [(4, .int (jx_i 0)), (0, .ref (aB 0)), (3, .int (jx_i l3))]) hx hb dX7_boxOfRank_67 hl (by decide) rfl (fun ls hl => ?_)
    obtain ⟨n, h⟩ := h
    refine Lo69 sB n 0 h _ _ hP hD hS ls (lv_sub hl [1, 2, 0] rfl)
  refine jx_iconst C dX7_boxOfRank_0 ?_
  refine lv_istore (lv' := [(4, .int (jx_i 0)), (0, .ref (aB 0)), (1, .int (jx_i l1)), (2, .int (jx_i l2)), (3, .int (jx_i l3))]) hx hb dX7_boxOfRank_1 hl (by decide) rfl (fun ls hl => ?_)
  obtain ⟨n, h⟩ := h
  refine Lo3 _ n sB 0 h ?_ _ _ hP hD hS ls (lv_sub hl [1, 2, 3, 4, 0] rfl)
  · intro sB h H locs hP hD hS ls hl
    exact J66 sB h _ _ hP hD hS ls (lv_sub hl [0, 1] rfl)
set_option maxRecDepth 100000 in
set_option maxHeartbeats 4000000 in
theorem ct_B_clearText (l : Launch) (D : va_G) (cI cT : ClassId) (aB : Nat → Nat) (aC : Nat → Nat) (aS : Nat → Nat) (aT : Nat → Nat) (aW : Nat → Nat) (aV : Nat → Nat) (aU : Nat → Nat) (aH : Nat → Nat) (hT : Nat → Nat → Nat) (aO : Nat → Nat) (Q : Int → jx_St → Prop) (sB : jx_St) (sO : jx_St) (h : wp_B_clearText Q sB sO) : jx_KI jx_St l D cI cT yX7_clearText cX7_clearText 2 .int 0 0 [.ref (aB 0)] [(cp_B aB (aT 0) (aS 0) (aC 0) (aU 0) (aV 0) (aW 0) (aH 0) (aO 0), sB), (cp_O aO, sO)] (fun u => [(cp_B aB (aT 0) (aS 0) (aC 0) (aU 0) (aV 0) (aW 0) (aH 0) (aO 0), sB), (cp_O aO, u)]) Q := by
  refine jx_ent (own := RX7) (by decide) rfl (Nat.le_of_ble_eq_true rfl) ?_
  intro p e s m args below meth c A QQ C hr hlk hK hAe hA hP hD hS ls hl hQQ
  have hl : lv_has ls 2 [(0, .ref (aB 0))] := hl
  have hx := C.1
  have hb := C.2.1
  unfold wp_B_clearText at h
  refine lv_aload_n hx hb dX7_clearText_0 rfl (lv_at hl 0 rfl) ?_
  refine jx_getR C hK hP 0 0 7 rfl rfl rfl fl_X7_53 dX7_clearText_1 ?_
  refine jx_getNI C hK hP 1 0 1 rfl rfl rfl fn_X7_197 dX7_clearText_4 ?_
  refine lv_istore_n (lv' := [(1, .int (jx_i (sO 1 0))), (0, .ref (aB 0))]) hx hb dX7_clearText_7 rfl hl (by decide) rfl (fun ls hl => ?_)
  refine lv_aload_n hx hb dX7_clearText_8 rfl (lv_at hl 1 rfl) ?_
  refine jx_getR C hK hP 0 0 7 rfl rfl rfl fl_X7_53 dX7_clearText_9 ?_
  refine jx_iconst C dX7_clearText_12 ?_
  refine jx_putNI C hK hP hD hS 1 0 1 rfl rfl rfl rfl rfl fn_X7_197 fw_X3_1 ⟨rfl, rfl⟩ rfl dX7_clearText_13 (fun H locs hP hD hS => ?_)
  have hP : va_P D vwCl (jx_ws cI cT [(cp_B aB (aT 0) (aS 0) (aC 0) (aU 0) (aV 0) (aW 0) (aH 0) (aO 0), sB), (cp_O aO, (jx_su sO 1 0 0))]) H := hP
  have hD : va_D A (jx_ws cI cT [(cp_B aB (aT 0) (aS 0) (aC 0) (aU 0) (aV 0) (aW 0) (aH 0) (aO 0), sB), (cp_O aO, (jx_su sO 1 0 0))]) := hD
  refine lv_iload_n hx hb dX7_clearText_16 rfl (lv_at hl 0 rfl) ?_
  exact jx_rI C hr hlk hAe hS hQQ (jx_su sO 1 0 0) hP h dX7_clearText_17
set_option maxRecDepth 100000 in
set_option maxHeartbeats 4000000 in
theorem ct_B_count (l : Launch) (D : va_G) (cI cT : ClassId) (aB : Nat → Nat) (aC : Nat → Nat) (aS : Nat → Nat) (aT : Nat → Nat) (aW : Nat → Nat) (aV : Nat → Nat) (aU : Nat → Nat) (aH : Nat → Nat) (hT : Nat → Nat → Nat) (aO : Nat → Nat) (Q : Int → jx_St → Prop) (sB : jx_St) (sC : jx_St) (sS : jx_St) (sT : jx_St) (sH : jx_St) (sO : jx_St) (l1 : Int) (h : wp_B_count Q sB sC sS sT sH sO l1) : jx_KI jx_St l D cI cT yX7_count cX7_count 2 .int 4 90 [.ref (aB 0), .int (jx_i l1)] [(cp_B aB (aT 0) (aS 0) (aC 0) (aU 0) (aV 0) (aW 0) (aH 0) (aO 0), sB), (cp_C aC (aT 0) (aS 0), sC), (cp_S aS (aT 0), sS), (cp_T aT, sT), (cp_H aH (fun j => hT j 0), sH), (cp_O aO, sO)] (fun u => [(cp_B aB (aT 0) (aS 0) (aC 0) (aU 0) (aV 0) (aW 0) (aH 0) (aO 0), sB), (cp_C aC (aT 0) (aS 0), sC), (cp_S aS (aT 0), u), (cp_T aT, sT), (cp_H aH (fun j => hT j 0), sH), (cp_O aO, sO)]) Q := by
  refine jx_ent (own := RX7) (by decide) rfl (Nat.le_of_ble_eq_true rfl) ?_
  intro p e s m args below meth c A QQ C hr hlk hK hAe hA hP hD hS ls hl hQQ
  have hl : lv_has ls 2 [(0, .ref (aB 0)), (1, .int (jx_i l1))] := hl
  have hx := C.1
  have hb := C.2.1
  unfold wp_B_count at h
  refine lv_iload_n hx hb dX7_count_0 rfl (lv_at hl 1 rfl) ?_
  rcases (show l1 = 0 ∨ l1 = 1 ∨ l1 = 2 ∨ l1 = 3 ∨ l1 = 4 ∨ l1 = 5 ∨ l1 = 6 ∨ l1 = 7 ∨ l1 = 8 ∨ l1 = 9 ∨ l1 = 10 ∨ (l1 < 0 ∨ 10 < l1) by omega) with hc | hc | hc | hc | hc | hc | hc | hc | hc | hc | hc | hc
  · refine jx_tswIn (tgt := 60) C hc (jx_inR (by decide) (by decide)) dX7_count_1 (by decide) (by decide) rfl (by decide) ?_
    have h := h.2.1 hc
    refine lv_aload_n hx hb dX7_count_60 rfl (lv_at hl 0 rfl) ?_
    refine jx_getR C hK hP 0 0 0 rfl rfl rfl fl_X7_12 dX7_count_61 ?_
    refine jx_callVI C hK hP hD hS hA (ct_T_boxSet l D cI cT aT _ sT  h) ms_X6_boxSet lk_X7_176 [3] rfl rfl (fun _ => rfl) (cs' := (fun _ => [(cp_B aB (aT 0) (aS 0) (aC 0) (aU 0) (aV 0) (aW 0) (aH 0) (aO 0), sB), (cp_C aC (aT 0) (aS 0), sC), (cp_S aS (aT 0), sS), (cp_T aT, sT), (cp_H aH (fun j => hT j 0), sH), (cp_O aO, sO)])) (fun _ => rfl) (fun _ => rfl) 3 0 rfl rfl rfl rfl rfl hl.1 rfl rfl dX7_count_64 ⟨Nat.le_refl _, Nat.le_refl _⟩ (fun r64 _ H locs h hP hD hS => ?_)
    have hP : va_P D vwCl (jx_ws cI cT [(cp_B aB (aT 0) (aS 0) (aC 0) (aU 0) (aV 0) (aW 0) (aH 0) (aO 0), sB), (cp_C aC (aT 0) (aS 0), sC), (cp_S aS (aT 0), sS), (cp_T aT, sT), (cp_H aH (fun j => hT j 0), sH), (cp_O aO, sO)]) H := hP
    have hD : va_D A (jx_ws cI cT [(cp_B aB (aT 0) (aS 0) (aC 0) (aU 0) (aV 0) (aW 0) (aH 0) (aO 0), sB), (cp_C aC (aT 0) (aS 0), sC), (cp_S aS (aT 0), sS), (cp_T aT, sT), (cp_H aH (fun j => hT j 0), sH), (cp_O aO, sO)]) := hD
    refine jx_bitCount C hK hP hD hS hA lk_X7_179 hl.1 rfl rfl dX7_count_67 ⟨Nat.le_refl _, Nat.le_refl _⟩ (fun H locs hP hD hS => ?_)
    exact jx_rI C hr hlk hAe hS hQQ sS hP h dX7_count_70
  · refine jx_tswIn (tgt := 71) C hc (jx_inR (by decide) (by decide)) dX7_count_1 (by decide) (by decide) rfl (by decide) ?_
    have h := h.2.2.1 hc
    refine lv_aload_n hx hb dX7_count_71 rfl (lv_at hl 0 rfl) ?_
    refine jx_getR C hK hP 0 0 0 rfl rfl rfl fl_X7_12 dX7_count_72 ?_
    refine jx_callVI C hK hP hD hS hA (ct_T_height l D cI cT aT _ sT  h) ms_X6_height lk_X7_87 [3] rfl rfl (fun _ => rfl) (cs' := (fun _ => [(cp_B aB (aT 0) (aS 0) (aC 0) (aU 0) (aV 0) (aW 0) (aH 0) (aO 0), sB), (cp_C aC (aT 0) (aS 0), sC), (cp_S aS (aT 0), sS), (cp_T aT, sT), (cp_H aH (fun j => hT j 0), sH), (cp_O aO, sO)])) (fun _ => rfl) (fun _ => rfl) 3 0 rfl rfl rfl rfl rfl hl.1 rfl rfl dX7_count_75 ⟨Nat.le_refl _, Nat.le_refl _⟩ (fun r75 _ H locs h hP hD hS => ?_)
    have hP : va_P D vwCl (jx_ws cI cT [(cp_B aB (aT 0) (aS 0) (aC 0) (aU 0) (aV 0) (aW 0) (aH 0) (aO 0), sB), (cp_C aC (aT 0) (aS 0), sC), (cp_S aS (aT 0), sS), (cp_T aT, sT), (cp_H aH (fun j => hT j 0), sH), (cp_O aO, sO)]) H := hP
    have hD : va_D A (jx_ws cI cT [(cp_B aB (aT 0) (aS 0) (aC 0) (aU 0) (aV 0) (aW 0) (aH 0) (aO 0), sB), (cp_C aC (aT 0) (aS 0), sC), (cp_S aS (aT 0), sS), (cp_T aT, sT), (cp_H aH (fun j => hT j 0), sH), (cp_O aO, sO)]) := hD
    exact jx_rI C hr hlk hAe hS hQQ sS hP h dX7_count_78
  · refine jx_tswIn (tgt := 79) C hc (jx_inR (by decide) (by decide)) dX7_count_1 (by decide) (by decide) rfl (by decide) ?_
    have h := h.2.2.2.1 hc
    refine lv_aload_n hx hb dX7_count_79 rfl (lv_at hl 0 rfl) ?_
    refine jx_getR C hK hP 0 0 1 rfl rfl rfl fl_X7_21 dX7_count_80 ?_
    refine jx_callVI C hK hP hD hS hA (ct_S_nodes l D cI cT aS aT _ sS sT  h) ms_X5_nodes lk_X7_184 [2, 3] rfl rfl (fun _ => rfl) (cs' := (fun u => [(cp_B aB (aT 0) (aS 0) (aC 0) (aU 0) (aV 0) (aW 0) (aH 0) (aO 0), sB), (cp_C aC (aT 0) (aS 0), sC), (cp_S aS (aT 0), u), (cp_T aT, sT), (cp_H aH (fun j => hT j 0), sH), (cp_O aO, sO)])) (fun _ => rfl) (fun _ => rfl) 2 0 rfl rfl rfl rfl rfl hl.1 rfl rfl dX7_count_83 ⟨Nat.le_refl _, Nat.le_refl _⟩ (fun r83 sS_83 H locs h hP hD hS => ?_)
    have hP : va_P D vwCl (jx_ws cI cT [(cp_B aB (aT 0) (aS 0) (aC 0) (aU 0) (aV 0) (aW 0) (aH 0) (aO 0), sB), (cp_C aC (aT 0) (aS 0), sC), (cp_S aS (aT 0), sS_83), (cp_T aT, sT), (cp_H aH (fun j => hT j 0), sH), (cp_O aO, sO)]) H := hP
    have hD : va_D A (jx_ws cI cT [(cp_B aB (aT 0) (aS 0) (aC 0) (aU 0) (aV 0) (aW 0) (aH 0) (aO 0), sB), (cp_C aC (aT 0) (aS 0), sC), (cp_S aS (aT 0), sS_83), (cp_T aT, sT), (cp_H aH (fun j => hT j 0), sH), (cp_O aO, sO)]) := hD
    exact jx_rI C hr hlk hAe hS hQQ sS_83 hP h dX7_count_86
  · refine jx_tswIn (tgt := 87) C hc (jx_inR (by decide) (by decide)) dX7_count_1 (by decide) (by decide) rfl (by decide) ?_
    have h := h.2.2.2.2.1 hc
    refine lv_aload_n hx hb dX7_count_87 rfl (lv_at hl 0 rfl) ?_
    refine jx_getR C hK hP 0 0 1 rfl rfl rfl fl_X7_21 dX7_count_88 ?_
    refine jx_callVI C hK hP hD hS hA (ct_S_leaves l D cI cT aS aT _ sS sT  h) ms_X5_leaves lk_X7_187 [2, 3] rfl rfl (fun _ => rfl) (cs' := (fun u => [(cp_B aB (aT 0) (aS 0) (aC 0) (aU 0) (aV 0) (aW 0) (aH 0) (aO 0), sB), (cp_C aC (aT 0) (aS 0), sC), (cp_S aS (aT 0), u), (cp_T aT, sT), (cp_H aH (fun j => hT j 0), sH), (cp_O aO, sO)])) (fun _ => rfl) (fun _ => rfl) 2 0 rfl rfl rfl rfl rfl hl.1 rfl rfl dX7_count_91 ⟨Nat.le_refl _, Nat.le_refl _⟩ (fun r91 sS_91 H locs h hP hD hS => ?_)
    have hP : va_P D vwCl (jx_ws cI cT [(cp_B aB (aT 0) (aS 0) (aC 0) (aU 0) (aV 0) (aW 0) (aH 0) (aO 0), sB), (cp_C aC (aT 0) (aS 0), sC), (cp_S aS (aT 0), sS_91), (cp_T aT, sT), (cp_H aH (fun j => hT j 0), sH), (cp_O aO, sO)]) H := hP
    have hD : va_D A (jx_ws cI cT [(cp_B aB (aT 0) (aS 0) (aC 0) (aU 0) (aV 0) (aW 0) (aH 0) (aO 0), sB), (cp_C aC (aT 0) (aS 0), sC), (cp_S aS (aT 0), sS_91), (cp_T aT, sT), (cp_H aH (fun j => hT j 0), sH), (cp_O aO, sO)]) := hD
    exact jx_rI C hr hlk hAe hS hQQ sS_91 hP h dX7_count_94
  · refine jx_tswIn (tgt := 95) C hc (jx_inR (by decide) (by decide)) dX7_count_1 (by decide) (by decide) rfl (by decide) ?_
    have h := h.2.2.2.2.2.1 hc
    refine lv_aload_n hx hb dX7_count_95 rfl (lv_at hl 0 rfl) ?_
    refine jx_getR C hK hP 0 0 2 rfl rfl rfl fl_X7_30 dX7_count_96 ?_
    refine jx_getNI C hK hP 1 0 8 rfl rfl rfl fn_X7_135 dX7_count_99 ?_
    exact jx_rI C hr hlk hAe hS hQQ sS hP h dX7_count_102
  · refine jx_tswIn (tgt := 103) C hc (jx_inR (by decide) (by decide)) dX7_count_1 (by decide) (by decide) rfl (by decide) ?_
    have h := h.2.2.2.2.2.2.1 hc
    refine lv_aload_n hx hb dX7_count_103 rfl (lv_at hl 0 rfl) ?_
    refine jx_getR C hK hP 0 0 0 rfl rfl rfl fl_X7_12 dX7_count_104 ?_
    refine jx_getNI C hK hP 3 0 8 rfl rfl rfl fn_X7_190 dX7_count_107 ?_
    exact jx_rI C hr hlk hAe hS hQQ sS hP h dX7_count_110
  · refine jx_tswIn (tgt := 111) C hc (jx_inR (by decide) (by decide)) dX7_count_1 (by decide) (by decide) rfl (by decide) ?_
    have h := h.2.2.2.2.2.2.2.1 hc
    refine lv_aload_n hx hb dX7_count_111 rfl (lv_at hl 0 rfl) ?_
    refine jx_getR C hK hP 0 0 0 rfl rfl rfl fl_X7_12 dX7_count_112 ?_
    refine jx_getNI C hK hP 3 0 9 rfl rfl rfl fn_X7_191 dX7_count_115 ?_
    exact jx_rI C hr hlk hAe hS hQQ sS hP h dX7_count_118
  · refine jx_tswIn (tgt := 119) C hc (jx_inR (by decide) (by decide)) dX7_count_1 (by decide) (by decide) rfl (by decide) ?_
    have h := h.2.2.2.2.2.2.2.2.1 hc
    refine lv_aload_n hx hb dX7_count_119 rfl (lv_at hl 0 rfl) ?_
    refine jx_getR C hK hP 0 0 0 rfl rfl rfl fl_X7_12 dX7_count_120 ?_
    refine jx_getNI C hK hP 3 0 10 rfl rfl rfl fn_X7_173 dX7_count_123 ?_
    exact jx_rI C hr hlk hAe hS hQQ sS hP h dX7_count_126
  · refine jx_tswIn (tgt := 127) C hc (jx_inR (by decide) (by decide)) dX7_count_1 (by decide) (by decide) rfl (by decide) ?_
    have h := h.2.2.2.2.2.2.2.2.2.1 hc
    refine lv_aload_n hx hb dX7_count_127 rfl (lv_at hl 0 rfl) ?_
    refine jx_getR C hK hP 0 0 6 rfl rfl rfl fl_X7_46 dX7_count_128 ?_
    refine jx_getNI C hK hP 4 0 2 rfl rfl rfl fn_X7_194 dX7_count_131 ?_
    exact jx_rI C hr hlk hAe hS hQQ sS hP h dX7_count_134
  · refine jx_tswIn (tgt := 135) C hc (jx_inR (by decide) (by decide)) dX7_count_1 (by decide) (by decide) rfl (by decide) ?_
    have h := h.2.2.2.2.2.2.2.2.2.2.1 hc
    refine lv_aload_n hx hb dX7_count_135 rfl (lv_at hl 0 rfl) ?_
    refine jx_getR C hK hP 0 0 7 rfl rfl rfl fl_X7_53 dX7_count_136 ?_
    refine jx_getNI C hK hP 5 0 1 rfl rfl rfl fn_X7_197 dX7_count_139 ?_
    exact jx_rI C hr hlk hAe hS hQQ sS hP h dX7_count_142
  · refine jx_tswIn (tgt := 143) C hc (jx_inR (by decide) (by decide)) dX7_count_1 (by decide) (by decide) rfl (by decide) ?_
    have h := h.2.2.2.2.2.2.2.2.2.2.2.1 hc
    refine lv_aload_n hx hb dX7_count_143 rfl (lv_at hl 0 rfl) ?_
    refine jx_getR C hK hP 0 0 1 rfl rfl rfl fl_X7_21 dX7_count_144 ?_
    refine jx_callVI C hK hP hD hS hA (ct_S_areaOfLeaves l D cI cT aS aT _ sS sT  h) ms_X5_areaOfLeaves lk_X7_200 [2, 3] rfl rfl (fun _ => rfl) (cs' := (fun u => [(cp_B aB (aT 0) (aS 0) (aC 0) (aU 0) (aV 0) (aW 0) (aH 0) (aO 0), sB), (cp_C aC (aT 0) (aS 0), sC), (cp_S aS (aT 0), u), (cp_T aT, sT), (cp_H aH (fun j => hT j 0), sH), (cp_O aO, sO)])) (fun _ => rfl) (fun _ => rfl) 2 0 rfl rfl rfl rfl rfl hl.1 rfl rfl dX7_count_147 ⟨Nat.le_refl _, Nat.le_refl _⟩ (fun r147 sS_147 H locs h hP hD hS => ?_)
    have hP : va_P D vwCl (jx_ws cI cT [(cp_B aB (aT 0) (aS 0) (aC 0) (aU 0) (aV 0) (aW 0) (aH 0) (aO 0), sB), (cp_C aC (aT 0) (aS 0), sC), (cp_S aS (aT 0), sS_147), (cp_T aT, sT), (cp_H aH (fun j => hT j 0), sH), (cp_O aO, sO)]) H := hP
    have hD : va_D A (jx_ws cI cT [(cp_B aB (aT 0) (aS 0) (aC 0) (aU 0) (aV 0) (aW 0) (aH 0) (aO 0), sB), (cp_C aC (aT 0) (aS 0), sC), (cp_S aS (aT 0), sS_147), (cp_T aT, sT), (cp_H aH (fun j => hT j 0), sH), (cp_O aO, sO)]) := hD
    exact jx_rI C hr hlk hAe hS hQQ sS_147 hP h dX7_count_150
  · refine jx_tswOut (tgt := 151) C h.1 dX7_count_1 hc (by decide) ?_
    have h := h.2.2.2.2.2.2.2.2.2.2.2.2 hc
    refine jx_ldc C (-1000001) kc_X7_69 dX7_count_151 ?_
    exact jx_rI C hr hlk hAe hS hQQ sS hP h dX7_count_153
set_option maxRecDepth 100000 in
set_option maxHeartbeats 4000000 in
theorem ct_B_court (l : Launch) (D : va_G) (cI cT : ClassId) (aB : Nat → Nat) (aC : Nat → Nat) (aS : Nat → Nat) (aT : Nat → Nat) (aW : Nat → Nat) (aV : Nat → Nat) (aU : Nat → Nat) (aH : Nat → Nat) (hT : Nat → Nat → Nat) (aO : Nat → Nat) (Q : Int → Prop) (sB : jx_St) (sC : jx_St) (l1 : Int) (l2 : Int) (h : wp_B_court Q sB sC l1 l2) : jx_KI (Unit) l D cI cT yX7_court cX7_court 3 .int 2 42 [.ref (aB 0), .int (jx_i l1), .int (jx_i l2)] [(cp_B aB (aT 0) (aS 0) (aC 0) (aU 0) (aV 0) (aW 0) (aH 0) (aO 0), sB), (cp_C aC (aT 0) (aS 0), sC)] (fun _ => [(cp_B aB (aT 0) (aS 0) (aC 0) (aU 0) (aV 0) (aW 0) (aH 0) (aO 0), sB), (cp_C aC (aT 0) (aS 0), sC)]) (fun x _ => Q x) := by
  refine jx_ent (own := RX7) (by decide) rfl (Nat.le_of_ble_eq_true rfl) ?_
  intro p e s m args below meth c A QQ C hr hlk hK hAe hA hP hD hS ls hl hQQ
  have hl : lv_has ls 3 [(0, .ref (aB 0)), (1, .int (jx_i l1)), (2, .int (jx_i l2))] := hl
  have hx := C.1
  have hb := C.2.1
  unfold wp_B_court at h
  refine lv_iload_n hx hb dX7_court_0 rfl (lv_at hl 1 rfl) ?_
  refine jx_zlt C h.1 (tgt := 12) dX7_court_1 (by decide) (fun hc => ?_) (fun hc => ?_)
  · have h := h.2.1 hc
    refine jx_ldc C (-1000001) kc_X7_69 dX7_court_12 ?_
    exact jx_rI C hr hlk hAe hS hQQ () hP h dX7_court_14
  · have h := h.2.2 hc
    refine lv_iload_n hx hb dX7_court_4 rfl (lv_at hl 2 rfl) ?_
    refine jx_iconst C dX7_court_5 ?_
    refine jx_callSI C hK hP hD hS hA (ct_B_isUpTo l D cI cT  _  l2 1 h) ms_X7_isUpTo lk_X7_95 [] rfl rfl (fun _ => rfl) (cs' := (fun _ => [(cp_B aB (aT 0) (aS 0) (aC 0) (aU 0) (aV 0) (aW 0) (aH 0) (aO 0), sB), (cp_C aC (aT 0) (aS 0), sC)])) (fun _ => rfl) (fun _ => rfl) rfl rfl hl.1 rfl rfl dX7_court_6 ⟨Nat.le_refl _, Nat.le_refl _⟩ (fun r6 _ H locs h hP hD hS => ?_)
    have hP : va_P D vwCl (jx_ws cI cT [(cp_B aB (aT 0) (aS 0) (aC 0) (aU 0) (aV 0) (aW 0) (aH 0) (aO 0), sB), (cp_C aC (aT 0) (aS 0), sC)]) H := hP
    have hD : va_D A (jx_ws cI cT [(cp_B aB (aT 0) (aS 0) (aC 0) (aU 0) (aV 0) (aW 0) (aH 0) (aO 0), sB), (cp_C aC (aT 0) (aS 0), sC)]) := hD
    refine jx_zne C h.1 (tgt := 15) dX7_court_9 (by decide) (fun hc => ?_) (fun hc => ?_)
    · have h := h.2.2 hc
      refine lv_iload_n hx hb dX7_court_15 rfl (lv_at hl 1 rfl) ?_
      refine lv_aload_n hx hb dX7_court_16 rfl (lv_at hl 0 rfl) ?_
      refine jx_getR C hK hP 0 0 2 rfl rfl rfl fl_X7_30 dX7_court_17 ?_
      refine jx_getNI C hK hP 1 0 8 rfl rfl rfl fn_X7_135 dX7_court_20 ?_
      refine jx_clt C h.1 h.2.1 (tgt := 29) dX7_court_23 (by decide) (fun hc => ?_) (fun hc => ?_)
      · have h := h.2.2.1 hc
        refine lv_iload_n hx hb dX7_court_29 rfl (lv_at hl 2 rfl) ?_
        refine jx_zne C h.1 (tgt := 44) dX7_court_30 (by decide) (fun hc => ?_) (fun hc => ?_)
        · have h := h.2.2 hc
          refine lv_aload_n hx hb dX7_court_44 rfl (lv_at hl 0 rfl) ?_
          refine jx_getR C hK hP 0 0 2 rfl rfl rfl fl_X7_30 dX7_court_45 ?_
          refine lv_iload_n hx hb dX7_court_48 rfl (lv_at hl 1 rfl) ?_
          refine jx_callVI C hK hP hD hS hA (ct_C_courtBoxes l D cI cT aC aS aT _ sC l1 h) ms_X1_courtBoxes lk_X7_142 [1] rfl rfl (fun _ => rfl) (cs' := (fun _ => [(cp_B aB (aT 0) (aS 0) (aC 0) (aU 0) (aV 0) (aW 0) (aH 0) (aO 0), sB), (cp_C aC (aT 0) (aS 0), sC)])) (fun _ => rfl) (fun _ => rfl) 1 0 rfl rfl rfl rfl rfl hl.1 rfl rfl dX7_court_49 ⟨Nat.le_refl _, Nat.le_refl _⟩ (fun r49 _ H locs h hP hD hS => ?_)
          have hP : va_P D vwCl (jx_ws cI cT [(cp_B aB (aT 0) (aS 0) (aC 0) (aU 0) (aV 0) (aW 0) (aH 0) (aO 0), sB), (cp_C aC (aT 0) (aS 0), sC)]) H := hP
          have hD : va_D A (jx_ws cI cT [(cp_B aB (aT 0) (aS 0) (aC 0) (aU 0) (aV 0) (aW 0) (aH 0) (aO 0), sB), (cp_C aC (aT 0) (aS 0), sC)]) := hD
          exact jx_rI C hr hlk hAe hS hQQ () hP h dX7_court_52
        · have h := h.2.1 hc
          refine lv_aload_n hx hb dX7_court_33 rfl (lv_at hl 0 rfl) ?_
          refine jx_getR C hK hP 0 0 2 rfl rfl rfl fl_X7_30 dX7_court_34 ?_
          refine lv_iload_n hx hb dX7_court_37 rfl (lv_at hl 1 rfl) ?_
          refine jx_callVI C hK hP hD hS hA (ct_C_courtLevel l D cI cT aC aS aT _ sC l1 h) ms_X1_courtLevel lk_X7_139 [1] rfl rfl (fun _ => rfl) (cs' := (fun _ => [(cp_B aB (aT 0) (aS 0) (aC 0) (aU 0) (aV 0) (aW 0) (aH 0) (aO 0), sB), (cp_C aC (aT 0) (aS 0), sC)])) (fun _ => rfl) (fun _ => rfl) 1 0 rfl rfl rfl rfl rfl hl.1 rfl rfl dX7_court_38 ⟨Nat.le_refl _, Nat.le_refl _⟩ (fun r38 _ H locs h hP hD hS => ?_)
          have hP : va_P D vwCl (jx_ws cI cT [(cp_B aB (aT 0) (aS 0) (aC 0) (aU 0) (aV 0) (aW 0) (aH 0) (aO 0), sB), (cp_C aC (aT 0) (aS 0), sC)]) H := hP
          have hD : va_D A (jx_ws cI cT [(cp_B aB (aT 0) (aS 0) (aC 0) (aU 0) (aV 0) (aW 0) (aH 0) (aO 0), sB), (cp_C aC (aT 0) (aS 0), sC)]) := hD
          refine lv_goto (tgt := 52) hx hb dX7_court_41 (by decide) ?_
          exact jx_rI C hr hlk hAe hS hQQ () hP h dX7_court_52
      · have h := h.2.2.2 hc
        refine jx_ldc C (-1000004) kc_X7_99 dX7_court_26 ?_
        exact jx_rI C hr hlk hAe hS hQQ () hP h dX7_court_28
    · have h := h.2.1 hc
      refine jx_ldc C (-1000001) kc_X7_69 dX7_court_12 ?_
      exact jx_rI C hr hlk hAe hS hQQ () hP h dX7_court_14
set_option maxRecDepth 100000 in
set_option maxHeartbeats 4000000 in
theorem ct_B_fault (l : Launch) (D : va_G) (cI cT : ClassId) (aB : Nat → Nat) (aC : Nat → Nat) (aS : Nat → Nat) (aT : Nat → Nat) (aW : Nat → Nat) (aV : Nat → Nat) (aU : Nat → Nat) (aH : Nat → Nat) (hT : Nat → Nat → Nat) (aO : Nat → Nat) (Q : Int → jx_St → Prop) (sB : jx_St) (sT : jx_St) (sO : jx_St) (l1 : Int) (h : wp_B_fault Q sB sT sO l1) : jx_KI jx_St l D cI cT yX7_fault cX7_fault 2 .int 6 132 [.ref (aB 0), .int (jx_i l1)] [(cp_B aB (aT 0) (aS 0) (aC 0) (aU 0) (aV 0) (aW 0) (aH 0) (aO 0), sB), (cp_T aT, sT), (cp_O aO, sO)] (fun u => [(cp_B aB (aT 0) (aS 0) (aC 0) (aU 0) (aV 0) (aW 0) (aH 0) (aO 0), sB), (cp_T aT, sT), (cp_O aO, u)]) Q := by
  refine jx_ent (own := RX7) (by decide) rfl (Nat.le_of_ble_eq_true rfl) ?_
  intro p e s m args below meth c A QQ C hr hlk hK hAe hA hP hD hS ls hl hQQ
  have hl : lv_has ls 2 [(0, .ref (aB 0)), (1, .int (jx_i l1))] := hl
  have hx := C.1
  have hb := C.2.1
  unfold wp_B_fault at h
  refine lv_iload_n hx hb dX7_fault_0 rfl (lv_at hl 1 rfl) ?_
  refine jx_iconst C dX7_fault_1 ?_
  refine jx_callSI C hK hP hD hS hA (ct_B_isUpTo l D cI cT  _  l1 2 h) ms_X7_isUpTo lk_X7_95 [] rfl rfl (fun _ => rfl) (cs' := (fun _ => [(cp_B aB (aT 0) (aS 0) (aC 0) (aU 0) (aV 0) (aW 0) (aH 0) (aO 0), sB), (cp_T aT, sT), (cp_O aO, sO)])) (fun _ => rfl) (fun _ => rfl) rfl rfl hl.1 rfl rfl dX7_fault_2 ⟨Nat.le_refl _, Nat.le_refl _⟩ (fun r2 _ H locs h hP hD hS => ?_)
  have hP : va_P D vwCl (jx_ws cI cT [(cp_B aB (aT 0) (aS 0) (aC 0) (aU 0) (aV 0) (aW 0) (aH 0) (aO 0), sB), (cp_T aT, sT), (cp_O aO, sO)]) H := hP
  have hD : va_D A (jx_ws cI cT [(cp_B aB (aT 0) (aS 0) (aC 0) (aU 0) (aV 0) (aW 0) (aH 0) (aO 0), sB), (cp_T aT, sT), (cp_O aO, sO)]) := hD
  refine jx_zne C h.1 (tgt := 11) dX7_fault_5 (by decide) (fun hc => ?_) (fun hc => ?_)
  · have h := h.2.2 hc
    refine lv_aload_n hx hb dX7_fault_11 rfl (lv_at hl 0 rfl) ?_
    refine jx_getR C hK hP 0 0 7 rfl rfl rfl fl_X7_53 dX7_fault_12 ?_
    refine lv_aload_n hx hb dX7_fault_15 rfl (lv_at hl 0 rfl) ?_
    refine jx_getR C hK hP 0 0 0 rfl rfl rfl fl_X7_12 dX7_fault_16 ?_
    refine jx_callVI C hK hP hD hS hA (ct_T_boxSet l D cI cT aT _ sT  h) ms_X6_boxSet lk_X7_176 [1] rfl rfl (fun _ => rfl) (cs' := (fun _ => [(cp_B aB (aT 0) (aS 0) (aC 0) (aU 0) (aV 0) (aW 0) (aH 0) (aO 0), sB), (cp_T aT, sT), (cp_O aO, sO)])) (fun _ => rfl) (fun _ => rfl) 1 0 rfl rfl rfl rfl rfl hl.1 rfl rfl dX7_fault_19 ⟨Nat.le_refl _, Nat.le_refl _⟩ (fun r19 _ H locs h hP hD hS => ?_)
    have hP : va_P D vwCl (jx_ws cI cT [(cp_B aB (aT 0) (aS 0) (aC 0) (aU 0) (aV 0) (aW 0) (aH 0) (aO 0), sB), (cp_T aT, sT), (cp_O aO, sO)]) H := hP
    have hD : va_D A (jx_ws cI cT [(cp_B aB (aT 0) (aS 0) (aC 0) (aU 0) (aV 0) (aW 0) (aH 0) (aO 0), sB), (cp_T aT, sT), (cp_O aO, sO)]) := hD
    refine jx_callVV C hK hP hD hS hA (ct_O_examine l D cI cT aO _ sO r19 h) ms_X3_examine lk_X7_210 [2] rfl rfl (fun _ => rfl) (cs' := (fun u => [(cp_B aB (aT 0) (aS 0) (aC 0) (aU 0) (aV 0) (aW 0) (aH 0) (aO 0), sB), (cp_T aT, sT), (cp_O aO, u)])) (fun _ => rfl) (fun _ => rfl) 2 0 rfl rfl rfl rfl rfl hl.1 rfl rfl dX7_fault_22 ⟨Nat.le_refl _, Nat.le_refl _⟩ (fun sO_22 H locs h hP hD hS => ?_)
    have hP : va_P D vwCl (jx_ws cI cT [(cp_B aB (aT 0) (aS 0) (aC 0) (aU 0) (aV 0) (aW 0) (aH 0) (aO 0), sB), (cp_T aT, sT), (cp_O aO, sO_22)]) H := hP
    have hD : va_D A (jx_ws cI cT [(cp_B aB (aT 0) (aS 0) (aC 0) (aU 0) (aV 0) (aW 0) (aH 0) (aO 0), sB), (cp_T aT, sT), (cp_O aO, sO_22)]) := hD
    refine lv_aload_n hx hb dX7_fault_25 rfl (lv_at hl 0 rfl) ?_
    refine jx_getR C hK hP 0 0 7 rfl rfl rfl fl_X7_53 dX7_fault_26 ?_
    refine jx_getNI C hK hP 2 0 7 rfl rfl rfl fn_X7_213 dX7_fault_29 ?_
    refine jx_zne C h.1 (tgt := 38) dX7_fault_32 (by decide) (fun hc => ?_) (fun hc => ?_)
    · have h := h.2.2 hc
      refine lv_iload_n hx hb dX7_fault_38 rfl (lv_at hl 1 rfl) ?_
      refine jx_zne C h.1 (tgt := 50) dX7_fault_39 (by decide) (fun hc => ?_) (fun hc => ?_)
      · have h := h.2.2 hc
        refine lv_iload_n hx hb dX7_fault_50 rfl (lv_at hl 1 rfl) ?_
        refine jx_iconst C dX7_fault_51 ?_
        refine jx_cne C h.1 (jx_inR (by decide) (by decide)) (tgt := 63) dX7_fault_52 (by decide) (fun hc => ?_) (fun hc => ?_)
        · have h := h.2.2 hc
          refine lv_aload_n hx hb dX7_fault_63 rfl (lv_at hl 0 rfl) ?_
          refine jx_getR C hK hP 0 0 7 rfl rfl rfl fl_X7_53 dX7_fault_64 ?_
          refine jx_getNI C hK hP 2 0 8 rfl rfl rfl fn_X7_219 dX7_fault_67 ?_
          refine jx_iconst C dX7_fault_70 ?_
          refine jx_cne C h.1 (jx_inR (by decide) (by decide)) (tgt := 79) dX7_fault_71 (by decide) (fun hc => ?_) (fun hc => ?_)
          · have h := h.2.2 hc
            refine lv_aload_n hx hb dX7_fault_79 rfl (lv_at hl 0 rfl) ?_
            refine jx_getR C hK hP 0 0 7 rfl rfl rfl fl_X7_53 dX7_fault_80 ?_
            refine jx_getNI C hK hP 2 0 8 rfl rfl rfl fn_X7_219 dX7_fault_83 ?_
            exact jx_rI C hr hlk hAe hS hQQ sO_22 hP h dX7_fault_86
          · have h := h.2.1 hc
            refine jx_ldc C (-1000004) kc_X7_99 dX7_fault_74 ?_
            refine lv_goto (tgt := 86) hx hb dX7_fault_76 (by decide) ?_
            exact jx_rI C hr hlk hAe hS hQQ sO_22 hP h dX7_fault_86
        · have h := h.2.1 hc
          refine lv_aload_n hx hb dX7_fault_55 rfl (lv_at hl 0 rfl) ?_
          refine jx_getR C hK hP 0 0 7 rfl rfl rfl fl_X7_53 dX7_fault_56 ?_
          refine jx_getNI C hK hP 2 0 7 rfl rfl rfl fn_X7_213 dX7_fault_59 ?_
          exact jx_rI C hr hlk hAe hS hQQ sO_22 hP h dX7_fault_62
      · have h := h.2.1 hc
        refine lv_aload_n hx hb dX7_fault_42 rfl (lv_at hl 0 rfl) ?_
        refine jx_getR C hK hP 0 0 7 rfl rfl rfl fl_X7_53 dX7_fault_43 ?_
        refine jx_getNI C hK hP 2 0 6 rfl rfl rfl fn_X7_216 dX7_fault_46 ?_
        exact jx_rI C hr hlk hAe hS hQQ sO_22 hP h dX7_fault_49
    · have h := h.2.1 hc
      refine jx_ldc C (-1000004) kc_X7_99 dX7_fault_35 ?_
      exact jx_rI C hr hlk hAe hS hQQ sO_22 hP h dX7_fault_37
  · have h := h.2.1 hc
    refine jx_ldc C (-1000001) kc_X7_69 dX7_fault_8 ?_
    exact jx_rI C hr hlk hAe hS hQQ sO hP h dX7_fault_10
set_option maxRecDepth 100000 in
set_option maxHeartbeats 4000000 in
theorem ct_B_isPoint (l : Launch) (D : va_G) (cI cT : ClassId) (Q : Int → Prop) (l0 : Int) (h : wp_B_isPoint Q l0) : jx_KI (Unit) l D cI cT yX7_isPoint cX7_isPoint 1 .boolean 1 21 [.int (jx_i l0)] [] (fun _ => []) (fun x _ => Q x) := by
  refine jx_ent (own := RX7) (by decide) rfl (Nat.le_of_ble_eq_true rfl) ?_
  intro p e s m args below meth c A QQ C hr hlk hK hAe hA hP hD hS ls hl hQQ
  have hl : lv_has ls 1 [(0, .int (jx_i l0))] := hl
  have hx := C.1
  have hb := C.2.1
  unfold wp_B_isPoint at h
  refine lv_iload_n hx hb dX7_isPoint_0 rfl (lv_at hl 0 rfl) ?_
  refine jx_bipush C dX7_isPoint_1 (by decide) ?_
  refine jx_callSI C hK hP hD hS hA (ct_B_isUpTo l D cI cT  _  l0 99 h) ms_X7_isUpTo lk_X7_95 [] rfl rfl (fun _ => rfl) (cs' := (fun _ => [])) (fun _ => rfl) (fun _ => rfl) rfl rfl hl.1 rfl rfl dX7_isPoint_3 ⟨Nat.le_refl _, Nat.le_refl _⟩ (fun r3 _ H locs h hP hD hS => ?_)
  have hP : va_P D vwCl (jx_ws cI cT []) H := hP
  have hD : va_D A (jx_ws cI cT []) := hD
  exact jx_rZ C hr hlk hAe hS hQQ h.1 () hP h.2 dX7_isPoint_6
set_option maxRecDepth 100000 in
set_option maxHeartbeats 4000000 in
theorem ct_B_isWindow (l : Launch) (D : va_G) (cI cT : ClassId) (Q : Int → Prop) (l0 : Int) (l1 : Int) (l2 : Int) (l3 : Int) (h : wp_B_isWindow Q l0 l1 l2 l3) : jx_KI (Unit) l D cI cT yX7_isWindow cX7_isWindow 4 .boolean 2 41 [.int (jx_i l0), .int (jx_i l1), .int (jx_i l2), .int (jx_i l3)] [] (fun _ => []) (fun x _ => Q x) := by
  refine jx_ent (own := RX7) (by decide) rfl (Nat.le_of_ble_eq_true rfl) ?_
  intro p e s m args below meth c A QQ C hr hlk hK hAe hA hP hD hS ls hl hQQ
  have hl : lv_has ls 4 [(0, .int (jx_i l0)), (1, .int (jx_i l1)), (2, .int (jx_i l2)), (3, .int (jx_i l3))] := hl
  have hx := C.1
  have hb := C.2.1
  unfold wp_B_isWindow at h
  refine lv_iload_n hx hb dX7_isWindow_0 rfl (lv_at hl 0 rfl) ?_
  refine jx_callSI C hK hP hD hS hA (ct_B_isPoint l D cI cT  _  l0 h) ms_X7_isPoint lk_X7_151 [] rfl rfl (fun _ => rfl) (cs' := (fun _ => [])) (fun _ => rfl) (fun _ => rfl) rfl rfl hl.1 rfl rfl dX7_isWindow_1 ⟨Nat.le_refl _, Nat.le_refl _⟩ (fun r1 _ H locs h hP hD hS => ?_)
  have hP : va_P D vwCl (jx_ws cI cT []) H := hP
  have hD : va_D A (jx_ws cI cT []) := hD
  refine jx_zeq C h.1 (tgt := 42) dX7_isWindow_4 (by decide) (fun hc => ?_) (fun hc => ?_)
  · have h := h.2.1 hc
    refine jx_iconst C dX7_isWindow_42 ?_
    exact jx_rZ C hr hlk hAe hS hQQ (by decide) () hP h dX7_isWindow_43
  · have h := h.2.2 hc
    refine lv_iload_n hx hb dX7_isWindow_7 rfl (lv_at hl 1 rfl) ?_
    refine jx_callSI C hK hP hD hS hA (ct_B_isPoint l D cI cT  _  l1 h) ms_X7_isPoint lk_X7_151 [] rfl rfl (fun _ => rfl) (cs' := (fun _ => [])) (fun _ => rfl) (fun _ => rfl) rfl rfl hl.1 rfl rfl dX7_isWindow_8 ⟨Nat.le_refl _, Nat.le_refl _⟩ (fun r8 _ H locs h hP hD hS => ?_)
    have hP : va_P D vwCl (jx_ws cI cT []) H := hP
    have hD : va_D A (jx_ws cI cT []) := hD
    refine jx_zeq C h.1 (tgt := 42) dX7_isWindow_11 (by decide) (fun hc => ?_) (fun hc => ?_)
    · have h := h.2.1 hc
      refine jx_iconst C dX7_isWindow_42 ?_
      exact jx_rZ C hr hlk hAe hS hQQ (by decide) () hP h dX7_isWindow_43
    · have h := h.2.2 hc
      refine lv_iload_n hx hb dX7_isWindow_14 rfl (lv_at hl 2 rfl) ?_
      refine jx_callSI C hK hP hD hS hA (ct_B_isPoint l D cI cT  _  l2 h) ms_X7_isPoint lk_X7_151 [] rfl rfl (fun _ => rfl) (cs' := (fun _ => [])) (fun _ => rfl) (fun _ => rfl) rfl rfl hl.1 rfl rfl dX7_isWindow_15 ⟨Nat.le_refl _, Nat.le_refl _⟩ (fun r15 _ H locs h hP hD hS => ?_)
      have hP : va_P D vwCl (jx_ws cI cT []) H := hP
      have hD : va_D A (jx_ws cI cT []) := hD
      refine jx_zeq C h.1 (tgt := 42) dX7_isWindow_18 (by decide) (fun hc => ?_) (fun hc => ?_)
      · have h := h.2.1 hc
        refine jx_iconst C dX7_isWindow_42 ?_
        exact jx_rZ C hr hlk hAe hS hQQ (by decide) () hP h dX7_isWindow_43
      · have h := h.2.2 hc
        refine lv_iload_n hx hb dX7_isWindow_21 rfl (lv_at hl 3 rfl) ?_
        refine jx_callSI C hK hP hD hS hA (ct_B_isPoint l D cI cT  _  l3 h) ms_X7_isPoint lk_X7_151 [] rfl rfl (fun _ => rfl) (cs' := (fun _ => [])) (fun _ => rfl) (fun _ => rfl) rfl rfl hl.1 rfl rfl dX7_isWindow_22 ⟨Nat.le_refl _, Nat.le_refl _⟩ (fun r22 _ H locs h hP hD hS => ?_)
        have hP : va_P D vwCl (jx_ws cI cT []) H := hP
        have hD : va_D A (jx_ws cI cT []) := hD
        refine jx_zeq C h.1 (tgt := 42) dX7_isWindow_25 (by decide) (fun hc => ?_) (fun hc => ?_)
        · have h := h.2.1 hc
          refine jx_iconst C dX7_isWindow_42 ?_
          exact jx_rZ C hr hlk hAe hS hQQ (by decide) () hP h dX7_isWindow_43
        · have h := h.2.2 hc
          refine lv_iload_n hx hb dX7_isWindow_28 rfl (lv_at hl 0 rfl) ?_
          refine lv_iload_n hx hb dX7_isWindow_29 rfl (lv_at hl 2 rfl) ?_
          refine jx_cgt C h.1 h.2.1 (tgt := 42) dX7_isWindow_30 (by decide) (fun hc => ?_) (fun hc => ?_)
          · have h := h.2.2.2 hc
            refine jx_iconst C dX7_isWindow_42 ?_
            exact jx_rZ C hr hlk hAe hS hQQ (by decide) () hP h dX7_isWindow_43
          · have h := h.2.2.1 hc
            refine lv_iload_n hx hb dX7_isWindow_33 rfl (lv_at hl 1 rfl) ?_
            refine lv_iload_n hx hb dX7_isWindow_34 rfl (lv_at hl 3 rfl) ?_
            refine jx_cgt C h.1 h.2.1 (tgt := 42) dX7_isWindow_35 (by decide) (fun hc => ?_) (fun hc => ?_)
            · have h := h.2.2.2 hc
              refine jx_iconst C dX7_isWindow_42 ?_
              exact jx_rZ C hr hlk hAe hS hQQ (by decide) () hP h dX7_isWindow_43
            · have h := h.2.2.1 hc
              refine jx_iconst C dX7_isWindow_38 ?_
              refine lv_goto (tgt := 43) hx hb dX7_isWindow_39 (by decide) ?_
              exact jx_rZ C hr hlk hAe hS hQQ (by decide) () hP h dX7_isWindow_43
set_option maxRecDepth 100000 in
set_option maxHeartbeats 4000000 in
theorem ct_B_nearest (l : Launch) (D : va_G) (cI cT : ClassId) (aB : Nat → Nat) (aC : Nat → Nat) (aS : Nat → Nat) (aT : Nat → Nat) (aW : Nat → Nat) (aV : Nat → Nat) (aU : Nat → Nat) (aH : Nat → Nat) (hT : Nat → Nat → Nat) (aO : Nat → Nat) (Q : Int → jx_St → jx_St → Prop) (sB : jx_St) (sS : jx_St) (sT : jx_St) (l1 : Int) (l2 : Int) (l3 : Int) (l4 : Int) (h : wp_B_nearest Q sB sS sT l1 l2 l3 l4) : jx_KI (jx_St × jx_St) l D cI cT yX7_nearest cX7_nearest 7 .int 4 93 [.ref (aB 0), .int (jx_i l1), .int (jx_i l2), .int (jx_i l3), .int (jx_i l4)] [(cp_B aB (aT 0) (aS 0) (aC 0) (aU 0) (aV 0) (aW 0) (aH 0) (aO 0), sB), (cp_S aS (aT 0), sS), (cp_T aT, sT)] (fun u => [(cp_B aB (aT 0) (aS 0) (aC 0) (aU 0) (aV 0) (aW 0) (aH 0) (aO 0), u.1), (cp_S aS (aT 0), u.2), (cp_T aT, sT)]) (fun x u => Q x u.1 u.2) := by
  refine jx_ent (own := RX7) (by decide) rfl (Nat.le_of_ble_eq_true rfl) ?_
  intro p e s m args below meth c A QQ C hr hlk hK hAe hA hP hD hS ls hl hQQ
  have hl : lv_has ls 7 [(0, .ref (aB 0)), (1, .int (jx_i l1)), (2, .int (jx_i l2)), (3, .int (jx_i l3)), (4, .int (jx_i l4))] := hl
  have hx := C.1
  have hb := C.2.1
  unfold wp_B_nearest at h
  refine lv_iload_n hx hb dX7_nearest_0 rfl (lv_at hl 1 rfl) ?_
  refine jx_callSI C hK hP hD hS hA (ct_B_isPoint l D cI cT  _  l1 h) ms_X7_isPoint lk_X7_151 [] rfl rfl (fun _ => rfl) (cs' := (fun _ => [(cp_B aB (aT 0) (aS 0) (aC 0) (aU 0) (aV 0) (aW 0) (aH 0) (aO 0), sB), (cp_S aS (aT 0), sS), (cp_T aT, sT)])) (fun _ => rfl) (fun _ => rfl) rfl rfl hl.1 rfl rfl dX7_nearest_1 ⟨Nat.le_refl _, Nat.le_refl _⟩ (fun r1 _ H locs h hP hD hS => ?_)
  have hP : va_P D vwCl (jx_ws cI cT [(cp_B aB (aT 0) (aS 0) (aC 0) (aU 0) (aV 0) (aW 0) (aH 0) (aO 0), sB), (cp_S aS (aT 0), sS), (cp_T aT, sT)]) H := hP
  have hD : va_D A (jx_ws cI cT [(cp_B aB (aT 0) (aS 0) (aC 0) (aU 0) (aV 0) (aW 0) (aH 0) (aO 0), sB), (cp_S aS (aT 0), sS), (cp_T aT, sT)]) := hD
  refine jx_zeq C h.1 (tgt := 27) dX7_nearest_4 (by decide) (fun hc => ?_) (fun hc => ?_)
  · have h := h.2.1 hc
    refine jx_ldc C (-1000001) kc_X7_69 dX7_nearest_27 ?_
    exact jx_rI C hr hlk hAe hS hQQ (sB, sS) hP h dX7_nearest_29
  · have h := h.2.2 hc
    refine lv_iload_n hx hb dX7_nearest_7 rfl (lv_at hl 2 rfl) ?_
    refine jx_callSI C hK hP hD hS hA (ct_B_isPoint l D cI cT  _  l2 h) ms_X7_isPoint lk_X7_151 [] rfl rfl (fun _ => rfl) (cs' := (fun _ => [(cp_B aB (aT 0) (aS 0) (aC 0) (aU 0) (aV 0) (aW 0) (aH 0) (aO 0), sB), (cp_S aS (aT 0), sS), (cp_T aT, sT)])) (fun _ => rfl) (fun _ => rfl) rfl rfl hl.1 rfl rfl dX7_nearest_8 ⟨Nat.le_refl _, Nat.le_refl _⟩ (fun r8 _ H locs h hP hD hS => ?_)
    have hP : va_P D vwCl (jx_ws cI cT [(cp_B aB (aT 0) (aS 0) (aC 0) (aU 0) (aV 0) (aW 0) (aH 0) (aO 0), sB), (cp_S aS (aT 0), sS), (cp_T aT, sT)]) H := hP
    have hD : va_D A (jx_ws cI cT [(cp_B aB (aT 0) (aS 0) (aC 0) (aU 0) (aV 0) (aW 0) (aH 0) (aO 0), sB), (cp_S aS (aT 0), sS), (cp_T aT, sT)]) := hD
    refine jx_zeq C h.1 (tgt := 27) dX7_nearest_11 (by decide) (fun hc => ?_) (fun hc => ?_)
    · have h := h.2.1 hc
      refine jx_ldc C (-1000001) kc_X7_69 dX7_nearest_27 ?_
      exact jx_rI C hr hlk hAe hS hQQ (sB, sS) hP h dX7_nearest_29
    · have h := h.2.2 hc
      refine lv_iload_n hx hb dX7_nearest_14 rfl (lv_at hl 3 rfl) ?_
      refine jx_zlt C h.1 (tgt := 27) dX7_nearest_15 (by decide) (fun hc => ?_) (fun hc => ?_)
      · have h := h.2.1 hc
        refine jx_ldc C (-1000001) kc_X7_69 dX7_nearest_27 ?_
        exact jx_rI C hr hlk hAe hS hQQ (sB, sS) hP h dX7_nearest_29
      · have h := h.2.2 hc
        refine lv_iload hx hb dX7_nearest_18 (lv_at hl 4 rfl) ?_
        refine jx_iconst C dX7_nearest_20 ?_
        refine jx_callSI C hK hP hD hS hA (ct_B_isUpTo l D cI cT  _  l4 2 h) ms_X7_isUpTo lk_X7_95 [] rfl rfl (fun _ => rfl) (cs' := (fun _ => [(cp_B aB (aT 0) (aS 0) (aC 0) (aU 0) (aV 0) (aW 0) (aH 0) (aO 0), sB), (cp_S aS (aT 0), sS), (cp_T aT, sT)])) (fun _ => rfl) (fun _ => rfl) rfl rfl hl.1 rfl rfl dX7_nearest_21 ⟨Nat.le_refl _, Nat.le_refl _⟩ (fun r21 _ H locs h hP hD hS => ?_)
        have hP : va_P D vwCl (jx_ws cI cT [(cp_B aB (aT 0) (aS 0) (aC 0) (aU 0) (aV 0) (aW 0) (aH 0) (aO 0), sB), (cp_S aS (aT 0), sS), (cp_T aT, sT)]) H := hP
        have hD : va_D A (jx_ws cI cT [(cp_B aB (aT 0) (aS 0) (aC 0) (aU 0) (aV 0) (aW 0) (aH 0) (aO 0), sB), (cp_S aS (aT 0), sS), (cp_T aT, sT)]) := hD
        refine jx_zne C h.1 (tgt := 30) dX7_nearest_24 (by decide) (fun hc => ?_) (fun hc => ?_)
        · have h := h.2.2 hc
          refine lv_aload_n hx hb dX7_nearest_30 rfl (lv_at hl 0 rfl) ?_
          refine lv_iload_n hx hb dX7_nearest_31 rfl (lv_at hl 1 rfl) ?_
          refine lv_iload_n hx hb dX7_nearest_32 rfl (lv_at hl 2 rfl) ?_
          refine lv_iload_n hx hb dX7_nearest_33 rfl (lv_at hl 3 rfl) ?_
          refine jx_callVI C hK hP hD hS hA (ct_B_boxOfRank l D cI cT aB aC aS aT aW aV aU aH hT aO _ sB sT l1 l2 l3 h) ms_X7_boxOfRank lk_X7_154 [0, 2] rfl rfl (fun _ => rfl) (cs' := (fun u => [(cp_B aB (aT 0) (aS 0) (aC 0) (aU 0) (aV 0) (aW 0) (aH 0) (aO 0), u), (cp_S aS (aT 0), sS), (cp_T aT, sT)])) (fun _ => rfl) (fun _ => rfl) 0 0 rfl rfl rfl rfl rfl hl.1 rfl rfl dX7_nearest_34 ⟨Nat.le_refl _, Nat.le_refl _⟩ (fun r34 sB_34 H locs h hP hD hS => ?_)
          have hP : va_P D vwCl (jx_ws cI cT [(cp_B aB (aT 0) (aS 0) (aC 0) (aU 0) (aV 0) (aW 0) (aH 0) (aO 0), sB_34), (cp_S aS (aT 0), sS), (cp_T aT, sT)]) H := hP
          have hD : va_D A (jx_ws cI cT [(cp_B aB (aT 0) (aS 0) (aC 0) (aU 0) (aV 0) (aW 0) (aH 0) (aO 0), sB_34), (cp_S aS (aT 0), sS), (cp_T aT, sT)]) := hD
          refine lv_istore (lv' := [(5, .int (jx_i r34)), (0, .ref (aB 0)), (1, .int (jx_i l1)), (2, .int (jx_i l2)), (3, .int (jx_i l3)), (4, .int (jx_i l4))]) hx hb dX7_nearest_37 hl (by decide) rfl (fun ls hl => ?_)
          refine lv_iload hx hb dX7_nearest_39 (lv_at hl 0 rfl) ?_
          refine jx_iconst C dX7_nearest_41 ?_
          refine jx_cne C h.1 (jx_inR (by decide) (by decide)) (tgt := 48) dX7_nearest_42 (by decide) (fun hc => ?_) (fun hc => ?_)
          · have h := h.2.2 hc
            refine lv_iload hx hb dX7_nearest_48 (lv_at hl 5 rfl) ?_
            refine jx_zne C h.1 (tgt := 56) dX7_nearest_50 (by decide) (fun hc => ?_) (fun hc => ?_)
            · have h := h.2.2 hc
              refine lv_aload_n hx hb dX7_nearest_56 rfl (lv_at hl 1 rfl) ?_
              refine jx_getR C hK hP 0 0 0 rfl rfl rfl fl_X7_12 dX7_nearest_57 ?_
              refine lv_iload hx hb dX7_nearest_60 (lv_at hl 0 rfl) ?_
              refine jx_iconst C dX7_nearest_62 ?_
              refine jx_callVI C hK hP hD hS hA (ct_T_hull l D cI cT aT _ sT r34 0 h) ms_X6_hull lk_X7_111 [2] rfl rfl (fun _ => rfl) (cs' := (fun _ => [(cp_B aB (aT 0) (aS 0) (aC 0) (aU 0) (aV 0) (aW 0) (aH 0) (aO 0), sB_34), (cp_S aS (aT 0), sS), (cp_T aT, sT)])) (fun _ => rfl) (fun _ => rfl) 2 0 rfl rfl rfl rfl rfl hl.1 rfl rfl dX7_nearest_63 ⟨Nat.le_refl _, Nat.le_refl _⟩ (fun r63 _ H locs h hP hD hS => ?_)
              have hP : va_P D vwCl (jx_ws cI cT [(cp_B aB (aT 0) (aS 0) (aC 0) (aU 0) (aV 0) (aW 0) (aH 0) (aO 0), sB_34), (cp_S aS (aT 0), sS), (cp_T aT, sT)]) H := hP
              have hD : va_D A (jx_ws cI cT [(cp_B aB (aT 0) (aS 0) (aC 0) (aU 0) (aV 0) (aW 0) (aH 0) (aO 0), sB_34), (cp_S aS (aT 0), sS), (cp_T aT, sT)]) := hD
              refine lv_iload_n hx hb dX7_nearest_66 rfl (lv_at hl 2 rfl) ?_
              refine lv_iload_n hx hb dX7_nearest_67 rfl (lv_at hl 3 rfl) ?_
              refine jx_callSI C hK hP hD hS hA (ct_Box_distance l D cI cT  _  r63 l1 l2 h) ms_X0_distance lk_X7_158 [] rfl rfl (fun _ => rfl) (cs' := (fun _ => [(cp_B aB (aT 0) (aS 0) (aC 0) (aU 0) (aV 0) (aW 0) (aH 0) (aO 0), sB_34), (cp_S aS (aT 0), sS), (cp_T aT, sT)])) (fun _ => rfl) (fun _ => rfl) rfl rfl hl.1 rfl rfl dX7_nearest_68 ⟨Nat.le_refl _, Nat.le_refl _⟩ (fun r68 _ H locs h hP hD hS => ?_)
              have hP : va_P D vwCl (jx_ws cI cT [(cp_B aB (aT 0) (aS 0) (aC 0) (aU 0) (aV 0) (aW 0) (aH 0) (aO 0), sB_34), (cp_S aS (aT 0), sS), (cp_T aT, sT)]) H := hP
              have hD : va_D A (jx_ws cI cT [(cp_B aB (aT 0) (aS 0) (aC 0) (aU 0) (aV 0) (aW 0) (aH 0) (aO 0), sB_34), (cp_S aS (aT 0), sS), (cp_T aT, sT)]) := hD
              refine lv_istore (lv' := [(6, .int (jx_i r68)), (5, .int (jx_i r34)), (0, .ref (aB 0)), (1, .int (jx_i l1)), (2, .int (jx_i l2)), (3, .int (jx_i l3)), (4, .int (jx_i l4))]) hx hb dX7_nearest_71 hl (by decide) rfl (fun ls hl => ?_)
              refine lv_iload hx hb dX7_nearest_73 (lv_at hl 6 rfl) ?_
              refine jx_iconst C dX7_nearest_75 ?_
              refine jx_cne C h.1 (jx_inR (by decide) (by decide)) (tgt := 84) dX7_nearest_76 (by decide) (fun hc => ?_) (fun hc => ?_)
              · have h := h.2.2 hc
                refine lv_aload_n hx hb dX7_nearest_84 rfl (lv_at hl 2 rfl) ?_
                refine jx_getR C hK hP 0 0 1 rfl rfl rfl fl_X7_21 dX7_nearest_85 ?_
                refine lv_iload_n hx hb dX7_nearest_88 rfl (lv_at hl 3 rfl) ?_
                refine lv_iload_n hx hb dX7_nearest_89 rfl (lv_at hl 4 rfl) ?_
                refine lv_iload hx hb dX7_nearest_90 (lv_at hl 0 rfl) ?_
                refine jx_callVI C hK hP hD hS hA (ct_S_nodesWithin l D cI cT aS aT _ sS sT l1 l2 r68 h) ms_X5_nodesWithin lk_X7_161 [1, 2] rfl rfl (fun _ => rfl) (cs' := (fun u => [(cp_B aB (aT 0) (aS 0) (aC 0) (aU 0) (aV 0) (aW 0) (aH 0) (aO 0), sB_34), (cp_S aS (aT 0), u), (cp_T aT, sT)])) (fun _ => rfl) (fun _ => rfl) 1 0 rfl rfl rfl rfl rfl hl.1 rfl rfl dX7_nearest_92 ⟨Nat.le_refl _, Nat.le_refl _⟩ (fun r92 sS_92 H locs h hP hD hS => ?_)
                have hP : va_P D vwCl (jx_ws cI cT [(cp_B aB (aT 0) (aS 0) (aC 0) (aU 0) (aV 0) (aW 0) (aH 0) (aO 0), sB_34), (cp_S aS (aT 0), sS_92), (cp_T aT, sT)]) H := hP
                have hD : va_D A (jx_ws cI cT [(cp_B aB (aT 0) (aS 0) (aC 0) (aU 0) (aV 0) (aW 0) (aH 0) (aO 0), sB_34), (cp_S aS (aT 0), sS_92), (cp_T aT, sT)]) := hD
                exact jx_rI C hr hlk hAe hS hQQ (sB_34, sS_92) hP h dX7_nearest_95
              · have h := h.2.1 hc
                refine lv_iload hx hb dX7_nearest_79 (lv_at hl 0 rfl) ?_
                refine lv_goto (tgt := 95) hx hb dX7_nearest_81 (by decide) ?_
                exact jx_rI C hr hlk hAe hS hQQ (sB_34, sS) hP h dX7_nearest_95
            · have h := h.2.1 hc
              refine lv_iload hx hb dX7_nearest_53 (lv_at hl 0 rfl) ?_
              exact jx_rI C hr hlk hAe hS hQQ (sB_34, sS) hP h dX7_nearest_55
          · have h := h.2.1 hc
            refine jx_ldc C (-1000004) kc_X7_99 dX7_nearest_45 ?_
            exact jx_rI C hr hlk hAe hS hQQ (sB_34, sS) hP h dX7_nearest_47
        · have h := h.2.1 hc
          refine jx_ldc C (-1000001) kc_X7_69 dX7_nearest_27 ?_
          exact jx_rI C hr hlk hAe hS hQQ (sB, sS) hP h dX7_nearest_29
set_option maxRecDepth 100000 in
set_option maxHeartbeats 4000000 in
theorem ct_B_nodeOf (l : Launch) (D : va_G) (cI cT : ClassId) (aB : Nat → Nat) (aC : Nat → Nat) (aS : Nat → Nat) (aT : Nat → Nat) (aW : Nat → Nat) (aV : Nat → Nat) (aU : Nat → Nat) (aH : Nat → Nat) (hT : Nat → Nat → Nat) (aO : Nat → Nat) (Q : Int → jx_St → Prop) (sB : jx_St) (sS : jx_St) (sT : jx_St) (l1 : Int) (l2 : Int) (l3 : Int) (h : wp_B_nodeOf Q sB sS sT l1 l2 l3) : jx_KI jx_St l D cI cT yX7_nodeOf cX7_nodeOf 6 .int 4 92 [.ref (aB 0), .int (jx_i l1), .int (jx_i l2), .int (jx_i l3)] [(cp_B aB (aT 0) (aS 0) (aC 0) (aU 0) (aV 0) (aW 0) (aH 0) (aO 0), sB), (cp_S aS (aT 0), sS), (cp_T aT, sT)] (fun u => [(cp_B aB (aT 0) (aS 0) (aC 0) (aU 0) (aV 0) (aW 0) (aH 0) (aO 0), sB), (cp_S aS (aT 0), u), (cp_T aT, sT)]) Q := by
  refine jx_ent (own := RX7) (by decide) rfl (Nat.le_of_ble_eq_true rfl) ?_
  intro p e s m args below meth c A QQ C hr hlk hK hAe hA hP hD hS ls hl hQQ
  have hl : lv_has ls 6 [(0, .ref (aB 0)), (1, .int (jx_i l1)), (2, .int (jx_i l2)), (3, .int (jx_i l3))] := hl
  have hx := C.1
  have hb := C.2.1
  unfold wp_B_nodeOf at h
  refine lv_iload_n hx hb dX7_nodeOf_0 rfl (lv_at hl 1 rfl) ?_
  refine jx_zlt C h.1 (tgt := 16) dX7_nodeOf_1 (by decide) (fun hc => ?_) (fun hc => ?_)
  · have h := h.2.1 hc
    refine jx_ldc C (-1000001) kc_X7_69 dX7_nodeOf_16 ?_
    exact jx_rI C hr hlk hAe hS hQQ sS hP h dX7_nodeOf_18
  · have h := h.2.2 hc
    refine lv_iload_n hx hb dX7_nodeOf_4 rfl (lv_at hl 2 rfl) ?_
    refine jx_zlt C h.1 (tgt := 16) dX7_nodeOf_5 (by decide) (fun hc => ?_) (fun hc => ?_)
    · have h := h.2.1 hc
      refine jx_ldc C (-1000001) kc_X7_69 dX7_nodeOf_16 ?_
      exact jx_rI C hr hlk hAe hS hQQ sS hP h dX7_nodeOf_18
    · have h := h.2.2 hc
      refine lv_iload_n hx hb dX7_nodeOf_8 rfl (lv_at hl 3 rfl) ?_
      refine jx_iconst C dX7_nodeOf_9 ?_
      refine jx_callSI C hK hP hD hS hA (ct_B_isUpTo l D cI cT  _  l3 5 h) ms_X7_isUpTo lk_X7_95 [] rfl rfl (fun _ => rfl) (cs' := (fun _ => [(cp_B aB (aT 0) (aS 0) (aC 0) (aU 0) (aV 0) (aW 0) (aH 0) (aO 0), sB), (cp_S aS (aT 0), sS), (cp_T aT, sT)])) (fun _ => rfl) (fun _ => rfl) rfl rfl hl.1 rfl rfl dX7_nodeOf_10 ⟨Nat.le_refl _, Nat.le_refl _⟩ (fun r10 _ H locs h hP hD hS => ?_)
      have hP : va_P D vwCl (jx_ws cI cT [(cp_B aB (aT 0) (aS 0) (aC 0) (aU 0) (aV 0) (aW 0) (aH 0) (aO 0), sB), (cp_S aS (aT 0), sS), (cp_T aT, sT)]) H := hP
      have hD : va_D A (jx_ws cI cT [(cp_B aB (aT 0) (aS 0) (aC 0) (aU 0) (aV 0) (aW 0) (aH 0) (aO 0), sB), (cp_S aS (aT 0), sS), (cp_T aT, sT)]) := hD
      refine jx_zne C h.1 (tgt := 19) dX7_nodeOf_13 (by decide) (fun hc => ?_) (fun hc => ?_)
      · have h := h.2.2 hc
        refine lv_aload_n hx hb dX7_nodeOf_19 rfl (lv_at hl 0 rfl) ?_
        refine jx_getR C hK hP 0 0 1 rfl rfl rfl fl_X7_21 dX7_nodeOf_20 ?_
        refine lv_iload_n hx hb dX7_nodeOf_23 rfl (lv_at hl 1 rfl) ?_
        refine lv_iload_n hx hb dX7_nodeOf_24 rfl (lv_at hl 2 rfl) ?_
        refine jx_callVI C hK hP hD hS hA (ct_S_nodeAt l D cI cT aS aT _ sS sT l1 l2 h) ms_X5_nodeAt lk_X7_117 [1, 2] rfl rfl (fun _ => rfl) (cs' := (fun u => [(cp_B aB (aT 0) (aS 0) (aC 0) (aU 0) (aV 0) (aW 0) (aH 0) (aO 0), sB), (cp_S aS (aT 0), u), (cp_T aT, sT)])) (fun _ => rfl) (fun _ => rfl) 1 0 rfl rfl rfl rfl rfl hl.1 rfl rfl dX7_nodeOf_25 ⟨Nat.le_refl _, Nat.le_refl _⟩ (fun r25 sS_25 H locs h hP hD hS => ?_)
        have hP : va_P D vwCl (jx_ws cI cT [(cp_B aB (aT 0) (aS 0) (aC 0) (aU 0) (aV 0) (aW 0) (aH 0) (aO 0), sB), (cp_S aS (aT 0), sS_25), (cp_T aT, sT)]) H := hP
        have hD : va_D A (jx_ws cI cT [(cp_B aB (aT 0) (aS 0) (aC 0) (aU 0) (aV 0) (aW 0) (aH 0) (aO 0), sB), (cp_S aS (aT 0), sS_25), (cp_T aT, sT)]) := hD
        refine lv_istore (lv' := [(4, .int (jx_i r25)), (0, .ref (aB 0)), (1, .int (jx_i l1)), (2, .int (jx_i l2)), (3, .int (jx_i l3))]) hx hb dX7_nodeOf_28 hl (by decide) rfl (fun ls hl => ?_)
        refine lv_iload hx hb dX7_nodeOf_30 (lv_at hl 0 rfl) ?_
        refine jx_iconst C dX7_nodeOf_32 ?_
        refine jx_cne C h.1 (jx_inR (by decide) (by decide)) (tgt := 39) dX7_nodeOf_33 (by decide) (fun hc => ?_) (fun hc => ?_)
        · have h := h.2.2 hc
          refine lv_aload_n hx hb dX7_nodeOf_39 rfl (lv_at hl 1 rfl) ?_
          refine jx_getR C hK hP 0 0 0 rfl rfl rfl fl_X7_12 dX7_nodeOf_40 ?_
          refine lv_iload hx hb dX7_nodeOf_43 (lv_at hl 0 rfl) ?_
          refine jx_callVI C hK hP hD hS hA (ct_T_sizeOf l D cI cT aT _ sT r25 h) ms_X6_sizeOf lk_X7_120 [2] rfl rfl (fun _ => rfl) (cs' := (fun _ => [(cp_B aB (aT 0) (aS 0) (aC 0) (aU 0) (aV 0) (aW 0) (aH 0) (aO 0), sB), (cp_S aS (aT 0), sS_25), (cp_T aT, sT)])) (fun _ => rfl) (fun _ => rfl) 2 0 rfl rfl rfl rfl rfl hl.1 rfl rfl dX7_nodeOf_45 ⟨Nat.le_refl _, Nat.le_refl _⟩ (fun r45 _ H locs h hP hD hS => ?_)
          have hP : va_P D vwCl (jx_ws cI cT [(cp_B aB (aT 0) (aS 0) (aC 0) (aU 0) (aV 0) (aW 0) (aH 0) (aO 0), sB), (cp_S aS (aT 0), sS_25), (cp_T aT, sT)]) H := hP
          have hD : va_D A (jx_ws cI cT [(cp_B aB (aT 0) (aS 0) (aC 0) (aU 0) (aV 0) (aW 0) (aH 0) (aO 0), sB), (cp_S aS (aT 0), sS_25), (cp_T aT, sT)]) := hD
          refine lv_istore (lv' := [(5, .int (jx_i r45)), (4, .int (jx_i r25)), (0, .ref (aB 0)), (1, .int (jx_i l1)), (2, .int (jx_i l2)), (3, .int (jx_i l3))]) hx hb dX7_nodeOf_48 hl (by decide) rfl (fun ls hl => ?_)
          refine lv_iload_n hx hb dX7_nodeOf_50 rfl (lv_at hl 5 rfl) ?_
          refine jx_iconst C dX7_nodeOf_51 ?_
          refine jx_cne C h.1 (jx_inR (by decide) (by decide)) (tgt := 58) dX7_nodeOf_52 (by decide) (fun hc => ?_) (fun hc => ?_)
          · have h := h.2.2 hc
            refine lv_iload_n hx hb dX7_nodeOf_58 rfl (lv_at hl 5 rfl) ?_
            refine jx_iconst C dX7_nodeOf_59 ?_
            refine jx_cne C h.1 (jx_inR (by decide) (by decide)) (tgt := 97) dX7_nodeOf_60 (by decide) (fun hc => ?_) (fun hc => ?_)
            · have h := h.2.2 hc
              refine lv_iload hx hb dX7_nodeOf_97 (lv_at hl 0 rfl) ?_
              refine jx_zne C h.1 (tgt := 107) dX7_nodeOf_99 (by decide) (fun hc => ?_) (fun hc => ?_)
              · have h := h.2.2 hc
                refine lv_aload_n hx hb dX7_nodeOf_107 rfl (lv_at hl 2 rfl) ?_
                refine jx_getR C hK hP 0 0 0 rfl rfl rfl fl_X7_12 dX7_nodeOf_108 ?_
                refine lv_iload hx hb dX7_nodeOf_111 (lv_at hl 1 rfl) ?_
                refine lv_iload_n hx hb dX7_nodeOf_113 rfl (lv_at hl 3 rfl) ?_
                refine jx_iconst C dX7_nodeOf_114 ?_
                refine jx_iadd C dX7_nodeOf_115 ?_
                refine jx_callVI C hK hP hD hS hA (ct_T_hull l D cI cT aT _ sT r25 (l1 + 1) h) ms_X6_hull lk_X7_111 [2] rfl rfl (fun _ => rfl) (cs' := (fun _ => [(cp_B aB (aT 0) (aS 0) (aC 0) (aU 0) (aV 0) (aW 0) (aH 0) (aO 0), sB), (cp_S aS (aT 0), sS_25), (cp_T aT, sT)])) (fun _ => rfl) (fun _ => rfl) 2 0 rfl rfl rfl rfl rfl hl.1 rfl rfl dX7_nodeOf_116 ⟨Nat.le_refl _, Nat.le_refl _⟩ (fun r116 _ H locs h hP hD hS => ?_)
                have hP : va_P D vwCl (jx_ws cI cT [(cp_B aB (aT 0) (aS 0) (aC 0) (aU 0) (aV 0) (aW 0) (aH 0) (aO 0), sB), (cp_S aS (aT 0), sS_25), (cp_T aT, sT)]) H := hP
                have hD : va_D A (jx_ws cI cT [(cp_B aB (aT 0) (aS 0) (aC 0) (aU 0) (aV 0) (aW 0) (aH 0) (aO 0), sB), (cp_S aS (aT 0), sS_25), (cp_T aT, sT)]) := hD
                refine lv_iload_n hx hb dX7_nodeOf_119 rfl (lv_at hl 5 rfl) ?_
                refine jx_callSI C hK hP hD hS hA (ct_Box_side l D cI cT  _  r116 l3 h) ms_X0_side lk_X7_114 [] rfl rfl (fun _ => rfl) (cs' := (fun _ => [(cp_B aB (aT 0) (aS 0) (aC 0) (aU 0) (aV 0) (aW 0) (aH 0) (aO 0), sB), (cp_S aS (aT 0), sS_25), (cp_T aT, sT)])) (fun _ => rfl) (fun _ => rfl) rfl rfl hl.1 rfl rfl dX7_nodeOf_120 ⟨Nat.le_refl _, Nat.le_refl _⟩ (fun r120 _ H locs h hP hD hS => ?_)
                have hP : va_P D vwCl (jx_ws cI cT [(cp_B aB (aT 0) (aS 0) (aC 0) (aU 0) (aV 0) (aW 0) (aH 0) (aO 0), sB), (cp_S aS (aT 0), sS_25), (cp_T aT, sT)]) H := hP
                have hD : va_D A (jx_ws cI cT [(cp_B aB (aT 0) (aS 0) (aC 0) (aU 0) (aV 0) (aW 0) (aH 0) (aO 0), sB), (cp_S aS (aT 0), sS_25), (cp_T aT, sT)]) := hD
                exact jx_rI C hr hlk hAe hS hQQ sS_25 hP h dX7_nodeOf_123
              · have h := h.2.1 hc
                refine jx_ldc C (-1000004) kc_X7_99 dX7_nodeOf_102 ?_
                refine lv_goto (tgt := 123) hx hb dX7_nodeOf_104 (by decide) ?_
                exact jx_rI C hr hlk hAe hS hQQ sS_25 hP h dX7_nodeOf_123
            · have h := h.2.1 hc
              refine lv_iload_n hx hb dX7_nodeOf_63 rfl (lv_at hl 3 rfl) ?_
              refine jx_zne C h.1 (tgt := 79) dX7_nodeOf_64 (by decide) (fun hc => ?_) (fun hc => ?_)
              · have h := h.2.2 hc
                refine lv_aload_n hx hb dX7_nodeOf_79 rfl (lv_at hl 2 rfl) ?_
                refine jx_getR C hK hP 0 0 1 rfl rfl rfl fl_X7_21 dX7_nodeOf_80 ?_
                refine lv_aload_n hx hb dX7_nodeOf_83 rfl (lv_at hl 2 rfl) ?_
                refine jx_getR C hK hP 0 0 0 rfl rfl rfl fl_X7_12 dX7_nodeOf_84 ?_
                refine lv_iload hx hb dX7_nodeOf_87 (lv_at hl 1 rfl) ?_
                refine jx_iconst C dX7_nodeOf_89 ?_
                refine jx_callVI C hK hP hD hS hA (ct_T_thingAt l D cI cT aT _ sT r25 0 h) ms_X6_thingAt lk_X7_126 [2] rfl rfl (fun _ => rfl) (cs' := (fun _ => [(cp_B aB (aT 0) (aS 0) (aC 0) (aU 0) (aV 0) (aW 0) (aH 0) (aO 0), sB), (cp_S aS (aT 0), sS_25), (cp_T aT, sT)])) (fun _ => rfl) (fun _ => rfl) 2 0 rfl rfl rfl rfl rfl hl.1 rfl rfl dX7_nodeOf_90 ⟨Nat.le_refl _, Nat.le_refl _⟩ (fun r90 _ H locs h hP hD hS => ?_)
                have hP : va_P D vwCl (jx_ws cI cT [(cp_B aB (aT 0) (aS 0) (aC 0) (aU 0) (aV 0) (aW 0) (aH 0) (aO 0), sB), (cp_S aS (aT 0), sS_25), (cp_T aT, sT)]) H := hP
                have hD : va_D A (jx_ws cI cT [(cp_B aB (aT 0) (aS 0) (aC 0) (aU 0) (aV 0) (aW 0) (aH 0) (aO 0), sB), (cp_S aS (aT 0), sS_25), (cp_T aT, sT)]) := hD
                refine jx_callVI C hK hP hD hS hA (ct_S_placeOf l D cI cT aS aT _ sS_25 sT r90 h) ms_X5_placeOf lk_X7_104 [1, 2] rfl rfl (fun _ => rfl) (cs' := (fun u => [(cp_B aB (aT 0) (aS 0) (aC 0) (aU 0) (aV 0) (aW 0) (aH 0) (aO 0), sB), (cp_S aS (aT 0), u), (cp_T aT, sT)])) (fun _ => rfl) (fun _ => rfl) 1 0 rfl rfl rfl rfl rfl hl.1 rfl rfl dX7_nodeOf_93 ⟨Nat.le_refl _, Nat.le_refl _⟩ (fun r93 sS_93 H locs h hP hD hS => ?_)
                have hP : va_P D vwCl (jx_ws cI cT [(cp_B aB (aT 0) (aS 0) (aC 0) (aU 0) (aV 0) (aW 0) (aH 0) (aO 0), sB), (cp_S aS (aT 0), sS_93), (cp_T aT, sT)]) H := hP
                have hD : va_D A (jx_ws cI cT [(cp_B aB (aT 0) (aS 0) (aC 0) (aU 0) (aV 0) (aW 0) (aH 0) (aO 0), sB), (cp_S aS (aT 0), sS_93), (cp_T aT, sT)]) := hD
                exact jx_rI C hr hlk hAe hS hQQ sS_93 hP h dX7_nodeOf_96
              · have h := h.2.1 hc
                refine lv_aload_n hx hb dX7_nodeOf_67 rfl (lv_at hl 2 rfl) ?_
                refine jx_getR C hK hP 0 0 0 rfl rfl rfl fl_X7_12 dX7_nodeOf_68 ?_
                refine lv_iload hx hb dX7_nodeOf_71 (lv_at hl 1 rfl) ?_
                refine jx_callVI C hK hP hD hS hA (ct_T_boxesOfLeaf l D cI cT aT _ sT r25 h) ms_X6_boxesOfLeaf lk_X7_123 [2] rfl rfl (fun _ => rfl) (cs' := (fun _ => [(cp_B aB (aT 0) (aS 0) (aC 0) (aU 0) (aV 0) (aW 0) (aH 0) (aO 0), sB), (cp_S aS (aT 0), sS_25), (cp_T aT, sT)])) (fun _ => rfl) (fun _ => rfl) 2 0 rfl rfl rfl rfl rfl hl.1 rfl rfl dX7_nodeOf_73 ⟨Nat.le_refl _, Nat.le_refl _⟩ (fun r73 _ H locs h hP hD hS => ?_)
                have hP : va_P D vwCl (jx_ws cI cT [(cp_B aB (aT 0) (aS 0) (aC 0) (aU 0) (aV 0) (aW 0) (aH 0) (aO 0), sB), (cp_S aS (aT 0), sS_25), (cp_T aT, sT)]) H := hP
                have hD : va_D A (jx_ws cI cT [(cp_B aB (aT 0) (aS 0) (aC 0) (aU 0) (aV 0) (aW 0) (aH 0) (aO 0), sB), (cp_S aS (aT 0), sS_25), (cp_T aT, sT)]) := hD
                refine lv_goto (tgt := 96) hx hb dX7_nodeOf_76 (by decide) ?_
                exact jx_rI C hr hlk hAe hS hQQ sS_25 hP h dX7_nodeOf_96
          · have h := h.2.1 hc
            refine lv_iload hx hb dX7_nodeOf_55 (lv_at hl 0 rfl) ?_
            exact jx_rI C hr hlk hAe hS hQQ sS_25 hP h dX7_nodeOf_57
        · have h := h.2.1 hc
          refine jx_ldc C (-1000004) kc_X7_99 dX7_nodeOf_36 ?_
          exact jx_rI C hr hlk hAe hS hQQ sS_25 hP h dX7_nodeOf_38
      · have h := h.2.1 hc
        refine jx_ldc C (-1000001) kc_X7_69 dX7_nodeOf_16 ?_
        exact jx_rI C hr hlk hAe hS hQQ sS hP h dX7_nodeOf_18
set_option maxRecDepth 100000 in
set_option maxHeartbeats 4000000 in
theorem ct_B_overlap (l : Launch) (D : va_G) (cI cT : ClassId) (aB : Nat → Nat) (aC : Nat → Nat) (aS : Nat → Nat) (aT : Nat → Nat) (aW : Nat → Nat) (aV : Nat → Nat) (aU : Nat → Nat) (aH : Nat → Nat) (hT : Nat → Nat → Nat) (aO : Nat → Nat) (Q : Int → Prop) (sB : jx_St) (sT : jx_St) (l1 : Int) (l2 : Int) (h : wp_B_overlap Q sB sT l1 l2) : jx_KI (Unit) l D cI cT yX7_overlap cX7_overlap 3 .int 3 65 [.ref (aB 0), .int (jx_i l1), .int (jx_i l2)] [(cp_B aB (aT 0) (aS 0) (aC 0) (aU 0) (aV 0) (aW 0) (aH 0) (aO 0), sB), (cp_T aT, sT)] (fun _ => [(cp_B aB (aT 0) (aS 0) (aC 0) (aU 0) (aV 0) (aW 0) (aH 0) (aO 0), sB), (cp_T aT, sT)]) (fun x _ => Q x) := by
  refine jx_ent (own := RX7) (by decide) rfl (Nat.le_of_ble_eq_true rfl) ?_
  intro p e s m args below meth c A QQ C hr hlk hK hAe hA hP hD hS ls hl hQQ
  have hl : lv_has ls 3 [(0, .ref (aB 0)), (1, .int (jx_i l1)), (2, .int (jx_i l2))] := hl
  have hx := C.1
  have hb := C.2.1
  unfold wp_B_overlap at h
  refine lv_iload_n hx hb dX7_overlap_0 rfl (lv_at hl 1 rfl) ?_
  refine jx_callSI C hK hP hD hS hA (ct_B_isBox l D cI cT  _  l1 h) ms_X7_isBox lk_X7_61 [] rfl rfl (fun _ => rfl) (cs' := (fun _ => [(cp_B aB (aT 0) (aS 0) (aC 0) (aU 0) (aV 0) (aW 0) (aH 0) (aO 0), sB), (cp_T aT, sT)])) (fun _ => rfl) (fun _ => rfl) rfl rfl hl.1 rfl rfl dX7_overlap_1 ⟨Nat.le_refl _, Nat.le_refl _⟩ (fun r1 _ H locs h hP hD hS => ?_)
  have hP : va_P D vwCl (jx_ws cI cT [(cp_B aB (aT 0) (aS 0) (aC 0) (aU 0) (aV 0) (aW 0) (aH 0) (aO 0), sB), (cp_T aT, sT)]) H := hP
  have hD : va_D A (jx_ws cI cT [(cp_B aB (aT 0) (aS 0) (aC 0) (aU 0) (aV 0) (aW 0) (aH 0) (aO 0), sB), (cp_T aT, sT)]) := hD
  refine jx_zeq C h.1 (tgt := 14) dX7_overlap_4 (by decide) (fun hc => ?_) (fun hc => ?_)
  · have h := h.2.1 hc
    refine jx_ldc C (-1000001) kc_X7_69 dX7_overlap_14 ?_
    exact jx_rI C hr hlk hAe hS hQQ () hP h dX7_overlap_16
  · have h := h.2.2 hc
    refine lv_iload_n hx hb dX7_overlap_7 rfl (lv_at hl 2 rfl) ?_
    refine jx_callSI C hK hP hD hS hA (ct_B_isBox l D cI cT  _  l2 h) ms_X7_isBox lk_X7_61 [] rfl rfl (fun _ => rfl) (cs' := (fun _ => [(cp_B aB (aT 0) (aS 0) (aC 0) (aU 0) (aV 0) (aW 0) (aH 0) (aO 0), sB), (cp_T aT, sT)])) (fun _ => rfl) (fun _ => rfl) rfl rfl hl.1 rfl rfl dX7_overlap_8 ⟨Nat.le_refl _, Nat.le_refl _⟩ (fun r8 _ H locs h hP hD hS => ?_)
    have hP : va_P D vwCl (jx_ws cI cT [(cp_B aB (aT 0) (aS 0) (aC 0) (aU 0) (aV 0) (aW 0) (aH 0) (aO 0), sB), (cp_T aT, sT)]) H := hP
    have hD : va_D A (jx_ws cI cT [(cp_B aB (aT 0) (aS 0) (aC 0) (aU 0) (aV 0) (aW 0) (aH 0) (aO 0), sB), (cp_T aT, sT)]) := hD
    refine jx_zne C h.1 (tgt := 17) dX7_overlap_11 (by decide) (fun hc => ?_) (fun hc => ?_)
    · have h := h.2.2 hc
      refine lv_aload_n hx hb dX7_overlap_17 rfl (lv_at hl 0 rfl) ?_
      refine jx_getR C hK hP 0 0 0 rfl rfl rfl fl_X7_12 dX7_overlap_18 ?_
      refine lv_iload_n hx hb dX7_overlap_21 rfl (lv_at hl 1 rfl) ?_
      refine jx_callVI C hK hP hD hS hA (ct_T_has l D cI cT aT _ sT l1 h) ms_X6_has lk_X7_70 [1] rfl rfl (fun _ => rfl) (cs' := (fun _ => [(cp_B aB (aT 0) (aS 0) (aC 0) (aU 0) (aV 0) (aW 0) (aH 0) (aO 0), sB), (cp_T aT, sT)])) (fun _ => rfl) (fun _ => rfl) 1 0 rfl rfl rfl rfl rfl hl.1 rfl rfl dX7_overlap_22 ⟨Nat.le_refl _, Nat.le_refl _⟩ (fun r22 _ H locs h hP hD hS => ?_)
      have hP : va_P D vwCl (jx_ws cI cT [(cp_B aB (aT 0) (aS 0) (aC 0) (aU 0) (aV 0) (aW 0) (aH 0) (aO 0), sB), (cp_T aT, sT)]) H := hP
      have hD : va_D A (jx_ws cI cT [(cp_B aB (aT 0) (aS 0) (aC 0) (aU 0) (aV 0) (aW 0) (aH 0) (aO 0), sB), (cp_T aT, sT)]) := hD
      refine jx_zeq C h.1 (tgt := 39) dX7_overlap_25 (by decide) (fun hc => ?_) (fun hc => ?_)
      · have h := h.2.1 hc
        refine jx_ldc C (-1000004) kc_X7_99 dX7_overlap_39 ?_
        exact jx_rI C hr hlk hAe hS hQQ () hP h dX7_overlap_41
      · have h := h.2.2 hc
        refine lv_aload_n hx hb dX7_overlap_28 rfl (lv_at hl 0 rfl) ?_
        refine jx_getR C hK hP 0 0 0 rfl rfl rfl fl_X7_12 dX7_overlap_29 ?_
        refine lv_iload_n hx hb dX7_overlap_32 rfl (lv_at hl 2 rfl) ?_
        refine jx_callVI C hK hP hD hS hA (ct_T_has l D cI cT aT _ sT l2 h) ms_X6_has lk_X7_70 [1] rfl rfl (fun _ => rfl) (cs' := (fun _ => [(cp_B aB (aT 0) (aS 0) (aC 0) (aU 0) (aV 0) (aW 0) (aH 0) (aO 0), sB), (cp_T aT, sT)])) (fun _ => rfl) (fun _ => rfl) 1 0 rfl rfl rfl rfl rfl hl.1 rfl rfl dX7_overlap_33 ⟨Nat.le_refl _, Nat.le_refl _⟩ (fun r33 _ H locs h hP hD hS => ?_)
        have hP : va_P D vwCl (jx_ws cI cT [(cp_B aB (aT 0) (aS 0) (aC 0) (aU 0) (aV 0) (aW 0) (aH 0) (aO 0), sB), (cp_T aT, sT)]) H := hP
        have hD : va_D A (jx_ws cI cT [(cp_B aB (aT 0) (aS 0) (aC 0) (aU 0) (aV 0) (aW 0) (aH 0) (aO 0), sB), (cp_T aT, sT)]) := hD
        refine jx_zne C h.1 (tgt := 42) dX7_overlap_36 (by decide) (fun hc => ?_) (fun hc => ?_)
        · have h := h.2.2 hc
          refine lv_aload_n hx hb dX7_overlap_42 rfl (lv_at hl 0 rfl) ?_
          refine jx_getR C hK hP 0 0 0 rfl rfl rfl fl_X7_12 dX7_overlap_43 ?_
          refine lv_iload_n hx hb dX7_overlap_46 rfl (lv_at hl 1 rfl) ?_
          refine jx_iconst C dX7_overlap_47 ?_
          refine jx_callVI C hK hP hD hS hA (ct_T_hull l D cI cT aT _ sT l1 0 h) ms_X6_hull lk_X7_111 [1] rfl rfl (fun _ => rfl) (cs' := (fun _ => [(cp_B aB (aT 0) (aS 0) (aC 0) (aU 0) (aV 0) (aW 0) (aH 0) (aO 0), sB), (cp_T aT, sT)])) (fun _ => rfl) (fun _ => rfl) 1 0 rfl rfl rfl rfl rfl hl.1 rfl rfl dX7_overlap_48 ⟨Nat.le_refl _, Nat.le_refl _⟩ (fun r48 _ H locs h hP hD hS => ?_)
          have hP : va_P D vwCl (jx_ws cI cT [(cp_B aB (aT 0) (aS 0) (aC 0) (aU 0) (aV 0) (aW 0) (aH 0) (aO 0), sB), (cp_T aT, sT)]) H := hP
          have hD : va_D A (jx_ws cI cT [(cp_B aB (aT 0) (aS 0) (aC 0) (aU 0) (aV 0) (aW 0) (aH 0) (aO 0), sB), (cp_T aT, sT)]) := hD
          refine lv_aload_n hx hb dX7_overlap_51 rfl (lv_at hl 0 rfl) ?_
          refine jx_getR C hK hP 0 0 0 rfl rfl rfl fl_X7_12 dX7_overlap_52 ?_
          refine lv_iload_n hx hb dX7_overlap_55 rfl (lv_at hl 2 rfl) ?_
          refine jx_iconst C dX7_overlap_56 ?_
          refine jx_callVI C hK hP hD hS hA (ct_T_hull l D cI cT aT _ sT l2 0 h) ms_X6_hull lk_X7_111 [1] rfl rfl (fun _ => rfl) (cs' := (fun _ => [(cp_B aB (aT 0) (aS 0) (aC 0) (aU 0) (aV 0) (aW 0) (aH 0) (aO 0), sB), (cp_T aT, sT)])) (fun _ => rfl) (fun _ => rfl) 1 0 rfl rfl rfl rfl rfl hl.1 rfl rfl dX7_overlap_57 ⟨Nat.le_refl _, Nat.le_refl _⟩ (fun r57 _ H locs h hP hD hS => ?_)
          have hP : va_P D vwCl (jx_ws cI cT [(cp_B aB (aT 0) (aS 0) (aC 0) (aU 0) (aV 0) (aW 0) (aH 0) (aO 0), sB), (cp_T aT, sT)]) H := hP
          have hD : va_D A (jx_ws cI cT [(cp_B aB (aT 0) (aS 0) (aC 0) (aU 0) (aV 0) (aW 0) (aH 0) (aO 0), sB), (cp_T aT, sT)]) := hD
          refine jx_callSI C hK hP hD hS hA (ct_Box_common l D cI cT  _  r48 r57 h) ms_X0_common lk_X7_132 [] rfl rfl (fun _ => rfl) (cs' := (fun _ => [(cp_B aB (aT 0) (aS 0) (aC 0) (aU 0) (aV 0) (aW 0) (aH 0) (aO 0), sB), (cp_T aT, sT)])) (fun _ => rfl) (fun _ => rfl) rfl rfl hl.1 rfl rfl dX7_overlap_60 ⟨Nat.le_refl _, Nat.le_refl _⟩ (fun r60 _ H locs h hP hD hS => ?_)
          have hP : va_P D vwCl (jx_ws cI cT [(cp_B aB (aT 0) (aS 0) (aC 0) (aU 0) (aV 0) (aW 0) (aH 0) (aO 0), sB), (cp_T aT, sT)]) H := hP
          have hD : va_D A (jx_ws cI cT [(cp_B aB (aT 0) (aS 0) (aC 0) (aU 0) (aV 0) (aW 0) (aH 0) (aO 0), sB), (cp_T aT, sT)]) := hD
          exact jx_rI C hr hlk hAe hS hQQ () hP h dX7_overlap_63
        · have h := h.2.1 hc
          refine jx_ldc C (-1000004) kc_X7_99 dX7_overlap_39 ?_
          exact jx_rI C hr hlk hAe hS hQQ () hP h dX7_overlap_41
    · have h := h.2.1 hc
      refine jx_ldc C (-1000001) kc_X7_69 dX7_overlap_14 ?_
      exact jx_rI C hr hlk hAe hS hQQ () hP h dX7_overlap_16
set_option maxRecDepth 100000 in
set_option maxHeartbeats 4000000 in
theorem ct_B_overlaps (l : Launch) (D : va_G) (cI cT : ClassId) (aB : Nat → Nat) (aC : Nat → Nat) (aS : Nat → Nat) (aT : Nat → Nat) (aW : Nat → Nat) (aV : Nat → Nat) (aU : Nat → Nat) (aH : Nat → Nat) (hT : Nat → Nat → Nat) (aO : Nat → Nat) (Q : Int → jx_St → Prop) (sB : jx_St) (sS : jx_St) (sT : jx_St) (l1 : Int) (h : wp_B_overlaps Q sB sS sT l1) : jx_KI jx_St l D cI cT yX7_overlaps cX7_overlaps 2 .int 4 92 [.ref (aB 0), .int (jx_i l1)] [(cp_B aB (aT 0) (aS 0) (aC 0) (aU 0) (aV 0) (aW 0) (aH 0) (aO 0), sB), (cp_S aS (aT 0), sS), (cp_T aT, sT)] (fun u => [(cp_B aB (aT 0) (aS 0) (aC 0) (aU 0) (aV 0) (aW 0) (aH 0) (aO 0), sB), (cp_S aS (aT 0), u), (cp_T aT, sT)]) Q := by
  refine jx_ent (own := RX7) (by decide) rfl (Nat.le_of_ble_eq_true rfl) ?_
  intro p e s m args below meth c A QQ C hr hlk hK hAe hA hP hD hS ls hl hQQ
  have hl : lv_has ls 2 [(0, .ref (aB 0)), (1, .int (jx_i l1))] := hl
  have hx := C.1
  have hb := C.2.1
  unfold wp_B_overlaps at h
  refine lv_iload_n hx hb dX7_overlaps_0 rfl (lv_at hl 1 rfl) ?_
  refine jx_zge C h.1 (tgt := 7) dX7_overlaps_1 (by decide) (fun hc => ?_) (fun hc => ?_)
  · have h := h.2.2 hc
    refine lv_iload_n hx hb dX7_overlaps_7 rfl (lv_at hl 1 rfl) ?_
    refine lv_aload_n hx hb dX7_overlaps_8 rfl (lv_at hl 0 rfl) ?_
    refine jx_getR C hK hP 0 0 0 rfl rfl rfl fl_X7_12 dX7_overlaps_9 ?_
    refine jx_callVI C hK hP hD hS hA (ct_T_height l D cI cT aT _ sT  h) ms_X6_height lk_X7_87 [2] rfl rfl (fun _ => rfl) (cs' := (fun _ => [(cp_B aB (aT 0) (aS 0) (aC 0) (aU 0) (aV 0) (aW 0) (aH 0) (aO 0), sB), (cp_S aS (aT 0), sS), (cp_T aT, sT)])) (fun _ => rfl) (fun _ => rfl) 2 0 rfl rfl rfl rfl rfl hl.1 rfl rfl dX7_overlaps_12 ⟨Nat.le_refl _, Nat.le_refl _⟩ (fun r12 _ H locs h hP hD hS => ?_)
    have hP : va_P D vwCl (jx_ws cI cT [(cp_B aB (aT 0) (aS 0) (aC 0) (aU 0) (aV 0) (aW 0) (aH 0) (aO 0), sB), (cp_S aS (aT 0), sS), (cp_T aT, sT)]) H := hP
    have hD : va_D A (jx_ws cI cT [(cp_B aB (aT 0) (aS 0) (aC 0) (aU 0) (aV 0) (aW 0) (aH 0) (aO 0), sB), (cp_S aS (aT 0), sS), (cp_T aT, sT)]) := hD
    refine jx_cge C h.1 h.2.1 (tgt := 29) dX7_overlaps_15 (by decide) (fun hc => ?_) (fun hc => ?_)
    · have h := h.2.2.2 hc
      refine jx_ldc C (-1000004) kc_X7_99 dX7_overlaps_29 ?_
      exact jx_rI C hr hlk hAe hS hQQ sS hP h dX7_overlaps_31
    · have h := h.2.2.1 hc
      refine lv_aload_n hx hb dX7_overlaps_18 rfl (lv_at hl 0 rfl) ?_
      refine jx_getR C hK hP 0 0 1 rfl rfl rfl fl_X7_21 dX7_overlaps_19 ?_
      refine lv_iload_n hx hb dX7_overlaps_22 rfl (lv_at hl 1 rfl) ?_
      refine jx_callVI C hK hP hD hS hA (ct_S_overlapsOf l D cI cT aS aT _ sS sT l1 h) ms_X5_overlapsOf lk_X7_129 [1, 2] rfl rfl (fun _ => rfl) (cs' := (fun u => [(cp_B aB (aT 0) (aS 0) (aC 0) (aU 0) (aV 0) (aW 0) (aH 0) (aO 0), sB), (cp_S aS (aT 0), u), (cp_T aT, sT)])) (fun _ => rfl) (fun _ => rfl) 1 0 rfl rfl rfl rfl rfl hl.1 rfl rfl dX7_overlaps_23 ⟨Nat.le_refl _, Nat.le_refl _⟩ (fun r23 sS_23 H locs h hP hD hS => ?_)
      have hP : va_P D vwCl (jx_ws cI cT [(cp_B aB (aT 0) (aS 0) (aC 0) (aU 0) (aV 0) (aW 0) (aH 0) (aO 0), sB), (cp_S aS (aT 0), sS_23), (cp_T aT, sT)]) H := hP
      have hD : va_D A (jx_ws cI cT [(cp_B aB (aT 0) (aS 0) (aC 0) (aU 0) (aV 0) (aW 0) (aH 0) (aO 0), sB), (cp_S aS (aT 0), sS_23), (cp_T aT, sT)]) := hD
      refine lv_goto (tgt := 31) hx hb dX7_overlaps_26 (by decide) ?_
      exact jx_rI C hr hlk hAe hS hQQ sS_23 hP h dX7_overlaps_31
  · have h := h.2.1 hc
    refine jx_ldc C (-1000001) kc_X7_69 dX7_overlaps_4 ?_
    exact jx_rI C hr hlk hAe hS hQQ sS hP h dX7_overlaps_6
set_option maxRecDepth 100000 in
set_option maxHeartbeats 4000000 in
theorem ct_B_play (l : Launch) (D : va_G) (cI cT : ClassId) (aB : Nat → Nat) (aC : Nat → Nat) (aS : Nat → Nat) (aT : Nat → Nat) (aW : Nat → Nat) (aV : Nat → Nat) (aU : Nat → Nat) (aH : Nat → Nat) (hT : Nat → Nat → Nat) (aO : Nat → Nat) (Q : Int → jx_St → jx_St → jx_St → jx_St → jx_St → jx_St → jx_St → jx_St → jx_St → Prop) (sB : jx_St) (sC : jx_St) (sS : jx_St) (sT : jx_St) (sH : jx_St) (sH0 : jx_St) (sH1 : jx_St) (sH2 : jx_St) (sH3 : jx_St) (sO : jx_St) (h : wp_B_play Q sB sC sS sT sH sH0 sH1 sH2 sH3 sO) : jx_KI (jx_St × jx_St × jx_St × jx_St × jx_St × jx_St × jx_St × jx_St × jx_St) l D cI cT yX7_play cX7_play 3 .int 7 176 [.ref (aB 0)] [(cp_B aB (aT 0) (aS 0) (aC 0) (aU 0) (aV 0) (aW 0) (aH 0) (aO 0), sB), (cp_C aC (aT 0) (aS 0), sC), (cp_S aS (aT 0), sS), (cp_T aT, sT), (cp_H aH (fun j => hT j 0), sH), (cp_T (hT 0), sH0), (cp_T (hT 1), sH1), (cp_T (hT 2), sH2), (cp_T (hT 3), sH3), (cp_O aO, sO)] (fun u => [(cp_B aB (aT 0) (aS 0) (aC 0) (aU 0) (aV 0) (aW 0) (aH 0) (aO 0), sB), (cp_C aC (aT 0) (aS 0), u.1), (cp_S aS (aT 0), u.2.1), (cp_T aT, u.2.2.1), (cp_H aH (fun j => hT j 0), u.2.2.2.1), (cp_T (hT 0), u.2.2.2.2.1), (cp_T (hT 1), u.2.2.2.2.2.1), (cp_T (hT 2), u.2.2.2.2.2.2.1), (cp_T (hT 3), u.2.2.2.2.2.2.2.1), (cp_O aO, u.2.2.2.2.2.2.2.2)]) (fun x u => Q x u.1 u.2.1 u.2.2.1 u.2.2.2.1 u.2.2.2.2.1 u.2.2.2.2.2.1 u.2.2.2.2.2.2.1 u.2.2.2.2.2.2.2.1 u.2.2.2.2.2.2.2.2) := by
  refine jx_ent (own := RX7) (by decide) rfl (Nat.le_of_ble_eq_true rfl) ?_
  intro p e s m args below meth c A QQ C hr hlk hK hAe hA hP hD hS ls hl hQQ
  have hl : lv_has ls 3 [(0, .ref (aB 0))] := hl
  have hx := C.1
  have hb := C.2.1
  unfold wp_B_play at h
  have Lo42 : ∀ (sH : jx_St) (sH0 : jx_St) (sH1 : jx_St) (sH2 : jx_St) (sH3 : jx_St) (K154 : jx_St × jx_St × jx_St × jx_St → Prop) (n : Nat) (sC : jx_St) (sS : jx_St) (sT : jx_St) (sO : jx_St) (l1 : Int) (l2 : Int), jx_it (fun B42 v => wp_B_play_42 Q sB K154 sH sH0 sH1 sH2 sH3 B42 v.1 v.2.1 v.2.2.1 v.2.2.2.1 v.2.2.2.2.1 v.2.2.2.2.2) n (sC, sS, sT, sO, l1, l2) → (∀ (sC : jx_St) (sS : jx_St) (sT : jx_St) (sO : jx_St), K154 (sC, sS, sT, sO) → ∀ (H : Heap) (locs : List Loc), va_P D vwCl (jx_ws cI cT [(cp_B aB (aT 0) (aS 0) (aC 0) (aU 0) (aV 0) (aW 0) (aH 0) (aO 0), sB), (cp_C aC (aT 0) (aS 0), sC), (cp_S aS (aT 0), sS), (cp_T aT, sT), (cp_H aH (fun j => hT j 0), sH), (cp_T (hT 0), sH0), (cp_T (hT 1), sH1), (cp_T (hT 2), sH2), (cp_T (hT 3), sH3), (cp_O aO, sO)]) H → va_D A (jx_ws cI cT [(cp_B aB (aT 0) (aS 0) (aC 0) (aU 0) (aV 0) (aW 0) (aH 0) (aO 0), sB), (cp_C aC (aT 0) (aS 0), sC), (cp_S aS (aT 0), sS), (cp_T aT, sT), (cp_H aH (fun j => hT j 0), sH), (cp_T (hT 0), sH0), (cp_T (hT 1), sH1), (cp_T (hT 2), sH2), (cp_T (hT 3), sH3), (cp_O aO, sO)]) → va_S A s.heap H locs → ∀ ls : Array Slot, lv_has ls 3 [(0, .ref (aB 0))] → W p l e (jx_rm 7 176) s m args below meth c H locs 0 0 QQ (F0 m 154 ls [])) → ∀ (H : Heap) (locs : List Loc), va_P D vwCl (jx_ws cI cT [(cp_B aB (aT 0) (aS 0) (aC 0) (aU 0) (aV 0) (aW 0) (aH 0) (aO 0), sB), (cp_C aC (aT 0) (aS 0), sC), (cp_S aS (aT 0), sS), (cp_T aT, sT), (cp_H aH (fun j => hT j 0), sH), (cp_T (hT 0), sH0), (cp_T (hT 1), sH1), (cp_T (hT 2), sH2), (cp_T (hT 3), sH3), (cp_O aO, sO)]) H → va_D A (jx_ws cI cT [(cp_B aB (aT 0) (aS 0) (aC 0) (aU 0) (aV 0) (aW 0) (aH 0) (aO 0), sB), (cp_C aC (aT 0) (aS 0), sC), (cp_S aS (aT 0), sS), (cp_T aT, sT), (cp_H aH (fun j => hT j 0), sH), (cp_T (hT 0), sH0), (cp_T (hT 1), sH1), (cp_T (hT 2), sH2), (cp_T (hT 3), sH3), (cp_O aO, sO)]) → va_S A s.heap H locs → ∀ ls : Array Slot, lv_has ls 3 [(0, .ref (aB 0)), (1, .int (jx_i l1)), (2, .int (jx_i l2))] → W p l e (jx_rm 7 176) s m args below meth c H locs 0 0 QQ (F0 m 42 ls []) := by
    intro sH sH0 sH1 sH2 sH3 K154 n
    induction n with
    | zero =>
      intro sC sS sT sO l1 l2 h
      exact (show False from h).elim
    | succ n ih =>
      intro sC sS sT sO l1 l2 h K154E H locs hP hD hS ls hl
      have h : wp_B_play_42 Q sB K154 sH sH0 sH1 sH2 sH3 (jx_it (fun B42 v => wp_B_play_42 Q sB K154 sH sH0 sH1 sH2 sH3 B42 v.1 v.2.1 v.2.2.1 v.2.2.2.1 v.2.2.2.2.1 v.2.2.2.2.2) n) sC sS sT sO l1 l2 := h
      have ih := fun sC sS sT sO l1 l2 h => ih sC sS sT sO l1 l2 h K154E
      generalize jx_it (fun B42 v => wp_B_play_42 Q sB K154 sH sH0 sH1 sH2 sH3 B42 v.1 v.2.1 v.2.2.1 v.2.2.2.1 v.2.2.2.2.1 v.2.2.2.2.2) n = B42 at h ih
      unfold wp_B_play_42 at h
      have J148 : ∀ (sC : jx_St) (sS : jx_St) (sT : jx_St) (sO : jx_St) (l1 : Int) (l2 : Int), wp_B_play_148 Q sB B42 K154 sC sS sT sH sH0 sH1 sH2 sH3 sO l1 l2 → ∀ (H : Heap) (locs : List Loc), va_P D vwCl (jx_ws cI cT [(cp_B aB (aT 0) (aS 0) (aC 0) (aU 0) (aV 0) (aW 0) (aH 0) (aO 0), sB), (cp_C aC (aT 0) (aS 0), sC), (cp_S aS (aT 0), sS), (cp_T aT, sT), (cp_H aH (fun j => hT j 0), sH), (cp_T (hT 0), sH0), (cp_T (hT 1), sH1), (cp_T (hT 2), sH2), (cp_T (hT 3), sH3), (cp_O aO, sO)]) H → va_D A (jx_ws cI cT [(cp_B aB (aT 0) (aS 0) (aC 0) (aU 0) (aV 0) (aW 0) (aH 0) (aO 0), sB), (cp_C aC (aT 0) (aS 0), sC), (cp_S aS (aT 0), sS), (cp_T aT, sT), (cp_H aH (fun j => hT j 0), sH), (cp_T (hT 0), sH0), (cp_T (hT 1), sH1), (cp_T (hT 2), sH2), (cp_T (hT 3), sH3), (cp_O aO, sO)]) → va_S A s.heap H locs → ∀ ls : Array Slot, lv_has ls 3 [(0, .ref (aB 0)), (1, .int (jx_i l1)), (2, .int (jx_i l2))] → W p l e (jx_rm 7 176) s m args below meth c H locs 0 0 QQ (F0 m 148 ls []) := by
        intro sC sS sT sO l1 l2 h H locs hP hD hS ls hl
        unfold wp_B_play_148 at h
        refine jx_iinc C (lv' := [(2, .int (jx_i (l2 + 1))), (0, .ref (aB 0)), (1, .int (jx_i l1))]) dX7_play_148 hl (k := 2) rfl (by decide) rfl (fun ls hl => ?_)
        refine lv_goto (tgt := 42) hx hb dX7_play_151 (by decide) ?_
        exact ih sC sS sT sO l1 (l2 + 1) h _ _ hP hD hS ls (lv_sub hl [1, 2, 0] rfl)
      refine lv_iload_n hx hb dX7_play_42 rfl (lv_at hl 2 rfl) ?_
      refine lv_aload_n hx hb dX7_play_43 rfl (lv_at hl 0 rfl) ?_
      refine jx_getR C hK hP 0 0 7 rfl rfl rfl fl_X7_53 dX7_play_44 ?_
      refine jx_getNI C hK hP 9 0 5 rfl rfl rfl fn_X7_222 dX7_play_47 ?_
      refine jx_cge C h.1 h.2.1 (tgt := 154) dX7_play_50 (by decide) (fun hc => ?_) (fun hc => ?_)
      · have h := h.2.2.2 hc
        exact K154E sC sS sT sO h _ _ hP hD hS ls (lv_sub hl [0] rfl)
      · have h := h.2.2.1 hc
        refine lv_aload_n hx hb dX7_play_53 rfl (lv_at hl 0 rfl) ?_
        refine jx_getR C hK hP 0 0 7 rfl rfl rfl fl_X7_53 dX7_play_54 ?_
        refine lv_iload_n hx hb dX7_play_57 rfl (lv_at hl 1 rfl) ?_
        refine jx_callVI C hK hP hD hS hA (ct_O_read l D cI cT aO _ sO l1 h) ms_X3_read lk_X7_225 [9] rfl rfl (fun _ => rfl) (cs' := (fun u => [(cp_B aB (aT 0) (aS 0) (aC 0) (aU 0) (aV 0) (aW 0) (aH 0) (aO 0), sB), (cp_C aC (aT 0) (aS 0), sC), (cp_S aS (aT 0), sS), (cp_T aT, sT), (cp_H aH (fun j => hT j 0), sH), (cp_T (hT 0), sH0), (cp_T (hT 1), sH1), (cp_T (hT 2), sH2), (cp_T (hT 3), sH3), (cp_O aO, u)])) (fun _ => rfl) (fun _ => rfl) 9 0 rfl rfl rfl rfl rfl hl.1 rfl rfl dX7_play_58 ⟨Nat.le_refl _, Nat.le_refl _⟩ (fun r58 sO_58 H locs h hP hD hS => ?_)
        have hP : va_P D vwCl (jx_ws cI cT [(cp_B aB (aT 0) (aS 0) (aC 0) (aU 0) (aV 0) (aW 0) (aH 0) (aO 0), sB), (cp_C aC (aT 0) (aS 0), sC), (cp_S aS (aT 0), sS), (cp_T aT, sT), (cp_H aH (fun j => hT j 0), sH), (cp_T (hT 0), sH0), (cp_T (hT 1), sH1), (cp_T (hT 2), sH2), (cp_T (hT 3), sH3), (cp_O aO, sO_58)]) H := hP
        have hD : va_D A (jx_ws cI cT [(cp_B aB (aT 0) (aS 0) (aC 0) (aU 0) (aV 0) (aW 0) (aH 0) (aO 0), sB), (cp_C aC (aT 0) (aS 0), sC), (cp_S aS (aT 0), sS), (cp_T aT, sT), (cp_H aH (fun j => hT j 0), sH), (cp_T (hT 0), sH0), (cp_T (hT 1), sH1), (cp_T (hT 2), sH2), (cp_T (hT 3), sH3), (cp_O aO, sO_58)]) := hD
        refine lv_pop hx hb dX7_play_61 rfl ?_
        refine lv_aload_n hx hb dX7_play_62 rfl (lv_at hl 0 rfl) ?_
        refine jx_getR C hK hP 0 0 7 rfl rfl rfl fl_X7_53 dX7_play_63 ?_
        refine jx_getNI C hK hP 9 0 4 rfl rfl rfl fn_X7_228 dX7_play_66 ?_
        refine lv_istore_n (lv' := [(1, .int (jx_i (sO_58 4 0))), (0, .ref (aB 0)), (2, .int (jx_i l2))]) hx hb dX7_play_69 rfl hl (by decide) rfl (fun ls hl => ?_)
        refine lv_aload_n hx hb dX7_play_70 rfl (lv_at hl 1 rfl) ?_
        refine jx_getR C hK hP 0 0 7 rfl rfl rfl fl_X7_53 dX7_play_71 ?_
        refine jx_getNI C hK hP 9 0 3 rfl rfl rfl fn_X7_231 dX7_play_74 ?_
        refine jx_zeq C h.1 (tgt := 133) dX7_play_77 (by decide) (fun hc => ?_) (fun hc => ?_)
        · have h := h.2.1 hc
          refine lv_aload_n hx hb dX7_play_133 rfl (lv_at hl 1 rfl) ?_
          refine jx_getR C hK hP 0 0 2 rfl rfl rfl fl_X7_30 dX7_play_134 ?_
          refine lv_aload_n hx hb dX7_play_137 rfl (lv_at hl 1 rfl) ?_
          refine jx_getR C hK hP 0 0 7 rfl rfl rfl fl_X7_53 dX7_play_138 ?_
          refine jx_iconst C dX7_play_141 ?_
          refine jx_callVI C hK hP hD hS hA (ct_O_number l D cI cT aO _ sO_58 0 h) ms_X3_number lk_X7_235 [9] rfl rfl (fun _ => rfl) (cs' := (fun _ => [(cp_B aB (aT 0) (aS 0) (aC 0) (aU 0) (aV 0) (aW 0) (aH 0) (aO 0), sB), (cp_C aC (aT 0) (aS 0), sC), (cp_S aS (aT 0), sS), (cp_T aT, sT), (cp_H aH (fun j => hT j 0), sH), (cp_T (hT 0), sH0), (cp_T (hT 1), sH1), (cp_T (hT 2), sH2), (cp_T (hT 3), sH3), (cp_O aO, sO_58)])) (fun _ => rfl) (fun _ => rfl) 9 0 rfl rfl rfl rfl rfl hl.1 rfl rfl dX7_play_142 ⟨Nat.le_refl _, Nat.le_refl _⟩ (fun r142 _ H locs h hP hD hS => ?_)
          have hP : va_P D vwCl (jx_ws cI cT [(cp_B aB (aT 0) (aS 0) (aC 0) (aU 0) (aV 0) (aW 0) (aH 0) (aO 0), sB), (cp_C aC (aT 0) (aS 0), sC), (cp_S aS (aT 0), sS), (cp_T aT, sT), (cp_H aH (fun j => hT j 0), sH), (cp_T (hT 0), sH0), (cp_T (hT 1), sH1), (cp_T (hT 2), sH2), (cp_T (hT 3), sH3), (cp_O aO, sO_58)]) H := hP
          have hD : va_D A (jx_ws cI cT [(cp_B aB (aT 0) (aS 0) (aC 0) (aU 0) (aV 0) (aW 0) (aH 0) (aO 0), sB), (cp_C aC (aT 0) (aS 0), sC), (cp_S aS (aT 0), sS), (cp_T aT, sT), (cp_H aH (fun j => hT j 0), sH), (cp_T (hT 0), sH0), (cp_T (hT 1), sH1), (cp_T (hT 2), sH2), (cp_T (hT 3), sH3), (cp_O aO, sO_58)]) := hD
          refine jx_callVV C hK hP hD hS hA (ct_C_takeOut l D cI cT aC aS aT _ sC sS sT r142 h) ms_X1_takeOut lk_X7_91 [1, 2, 3] rfl rfl (fun _ => rfl) (cs' := (fun u => [(cp_B aB (aT 0) (aS 0) (aC 0) (aU 0) (aV 0) (aW 0) (aH 0) (aO 0), sB), (cp_C aC (aT 0) (aS 0), u.1), (cp_S aS (aT 0), u.2.1), (cp_T aT, u.2.2), (cp_H aH (fun j => hT j 0), sH), (cp_T (hT 0), sH0), (cp_T (hT 1), sH1), (cp_T (hT 2), sH2), (cp_T (hT 3), sH3), (cp_O aO, sO_58)])) (fun _ => rfl) (fun _ => rfl) 1 0 rfl rfl rfl rfl rfl hl.1 rfl rfl dX7_play_145 ⟨Nat.le_refl _, Nat.le_refl _⟩ (fun u H locs h hP hD hS => ?_)
          obtain ⟨sC_145, sS_145, sT_145⟩ := u
          dsimp only at h
          have hP : va_P D vwCl (jx_ws cI cT [(cp_B aB (aT 0) (aS 0) (aC 0) (aU 0) (aV 0) (aW 0) (aH 0) (aO 0), sB), (cp_C aC (aT 0) (aS 0), sC_145), (cp_S aS (aT 0), sS_145), (cp_T aT, sT_145), (cp_H aH (fun j => hT j 0), sH), (cp_T (hT 0), sH0), (cp_T (hT 1), sH1), (cp_T (hT 2), sH2), (cp_T (hT 3), sH3), (cp_O aO, sO_58)]) H := hP
          have hD : va_D A (jx_ws cI cT [(cp_B aB (aT 0) (aS 0) (aC 0) (aU 0) (aV 0) (aW 0) (aH 0) (aO 0), sB), (cp_C aC (aT 0) (aS 0), sC_145), (cp_S aS (aT 0), sS_145), (cp_T aT, sT_145), (cp_H aH (fun j => hT j 0), sH), (cp_T (hT 0), sH0), (cp_T (hT 1), sH1), (cp_T (hT 2), sH2), (cp_T (hT 3), sH3), (cp_O aO, sO_58)]) := hD
          exact J148 sC_145 sS_145 sT_145 sO_58 (sO_58 4 0) l2 h _ _ hP hD hS ls (lv_sub hl [1, 0, 2] rfl)
        · have h := h.2.2 hc
          refine lv_aload_n hx hb dX7_play_80 rfl (lv_at hl 1 rfl) ?_
          refine jx_getR C hK hP 0 0 2 rfl rfl rfl fl_X7_30 dX7_play_81 ?_
          refine lv_aload_n hx hb dX7_play_84 rfl (lv_at hl 1 rfl) ?_
          refine jx_getR C hK hP 0 0 7 rfl rfl rfl fl_X7_53 dX7_play_85 ?_
          refine jx_iconst C dX7_play_88 ?_
          refine jx_callVI C hK hP hD hS hA (ct_O_number l D cI cT aO _ sO_58 0 h) ms_X3_number lk_X7_235 [9] rfl rfl (fun _ => rfl) (cs' := (fun _ => [(cp_B aB (aT 0) (aS 0) (aC 0) (aU 0) (aV 0) (aW 0) (aH 0) (aO 0), sB), (cp_C aC (aT 0) (aS 0), sC), (cp_S aS (aT 0), sS), (cp_T aT, sT), (cp_H aH (fun j => hT j 0), sH), (cp_T (hT 0), sH0), (cp_T (hT 1), sH1), (cp_T (hT 2), sH2), (cp_T (hT 3), sH3), (cp_O aO, sO_58)])) (fun _ => rfl) (fun _ => rfl) 9 0 rfl rfl rfl rfl rfl hl.1 rfl rfl dX7_play_89 ⟨Nat.le_refl _, Nat.le_refl _⟩ (fun r89 _ H locs h hP hD hS => ?_)
          have hP : va_P D vwCl (jx_ws cI cT [(cp_B aB (aT 0) (aS 0) (aC 0) (aU 0) (aV 0) (aW 0) (aH 0) (aO 0), sB), (cp_C aC (aT 0) (aS 0), sC), (cp_S aS (aT 0), sS), (cp_T aT, sT), (cp_H aH (fun j => hT j 0), sH), (cp_T (hT 0), sH0), (cp_T (hT 1), sH1), (cp_T (hT 2), sH2), (cp_T (hT 3), sH3), (cp_O aO, sO_58)]) H := hP
          have hD : va_D A (jx_ws cI cT [(cp_B aB (aT 0) (aS 0) (aC 0) (aU 0) (aV 0) (aW 0) (aH 0) (aO 0), sB), (cp_C aC (aT 0) (aS 0), sC), (cp_S aS (aT 0), sS), (cp_T aT, sT), (cp_H aH (fun j => hT j 0), sH), (cp_T (hT 0), sH0), (cp_T (hT 1), sH1), (cp_T (hT 2), sH2), (cp_T (hT 3), sH3), (cp_O aO, sO_58)]) := hD
          refine lv_aload_n hx hb dX7_play_92 rfl (lv_at hl 1 rfl) ?_
          refine jx_getR C hK hP 0 0 7 rfl rfl rfl fl_X7_53 dX7_play_93 ?_
          refine jx_iconst C dX7_play_96 ?_
          refine jx_callVI C hK hP hD hS hA (ct_O_number l D cI cT aO _ sO_58 1 h) ms_X3_number lk_X7_235 [9] rfl rfl (fun _ => rfl) (cs' := (fun _ => [(cp_B aB (aT 0) (aS 0) (aC 0) (aU 0) (aV 0) (aW 0) (aH 0) (aO 0), sB), (cp_C aC (aT 0) (aS 0), sC), (cp_S aS (aT 0), sS), (cp_T aT, sT), (cp_H aH (fun j => hT j 0), sH), (cp_T (hT 0), sH0), (cp_T (hT 1), sH1), (cp_T (hT 2), sH2), (cp_T (hT 3), sH3), (cp_O aO, sO_58)])) (fun _ => rfl) (fun _ => rfl) 9 0 rfl rfl rfl rfl rfl hl.1 rfl rfl dX7_play_97 ⟨Nat.le_refl _, Nat.le_refl _⟩ (fun r97 _ H locs h hP hD hS => ?_)
          have hP : va_P D vwCl (jx_ws cI cT [(cp_B aB (aT 0) (aS 0) (aC 0) (aU 0) (aV 0) (aW 0) (aH 0) (aO 0), sB), (cp_C aC (aT 0) (aS 0), sC), (cp_S aS (aT 0), sS), (cp_T aT, sT), (cp_H aH (fun j => hT j 0), sH), (cp_T (hT 0), sH0), (cp_T (hT 1), sH1), (cp_T (hT 2), sH2), (cp_T (hT 3), sH3), (cp_O aO, sO_58)]) H := hP
          have hD : va_D A (jx_ws cI cT [(cp_B aB (aT 0) (aS 0) (aC 0) (aU 0) (aV 0) (aW 0) (aH 0) (aO 0), sB), (cp_C aC (aT 0) (aS 0), sC), (cp_S aS (aT 0), sS), (cp_T aT, sT), (cp_H aH (fun j => hT j 0), sH), (cp_T (hT 0), sH0), (cp_T (hT 1), sH1), (cp_T (hT 2), sH2), (cp_T (hT 3), sH3), (cp_O aO, sO_58)]) := hD
          refine lv_aload_n hx hb dX7_play_100 rfl (lv_at hl 1 rfl) ?_
          refine jx_getR C hK hP 0 0 7 rfl rfl rfl fl_X7_53 dX7_play_101 ?_
          refine jx_iconst C dX7_play_104 ?_
          refine jx_callVI C hK hP hD hS hA (ct_O_number l D cI cT aO _ sO_58 2 h) ms_X3_number lk_X7_235 [9] rfl rfl (fun _ => rfl) (cs' := (fun _ => [(cp_B aB (aT 0) (aS 0) (aC 0) (aU 0) (aV 0) (aW 0) (aH 0) (aO 0), sB), (cp_C aC (aT 0) (aS 0), sC), (cp_S aS (aT 0), sS), (cp_T aT, sT), (cp_H aH (fun j => hT j 0), sH), (cp_T (hT 0), sH0), (cp_T (hT 1), sH1), (cp_T (hT 2), sH2), (cp_T (hT 3), sH3), (cp_O aO, sO_58)])) (fun _ => rfl) (fun _ => rfl) 9 0 rfl rfl rfl rfl rfl hl.1 rfl rfl dX7_play_105 ⟨Nat.le_refl _, Nat.le_refl _⟩ (fun r105 _ H locs h hP hD hS => ?_)
          have hP : va_P D vwCl (jx_ws cI cT [(cp_B aB (aT 0) (aS 0) (aC 0) (aU 0) (aV 0) (aW 0) (aH 0) (aO 0), sB), (cp_C aC (aT 0) (aS 0), sC), (cp_S aS (aT 0), sS), (cp_T aT, sT), (cp_H aH (fun j => hT j 0), sH), (cp_T (hT 0), sH0), (cp_T (hT 1), sH1), (cp_T (hT 2), sH2), (cp_T (hT 3), sH3), (cp_O aO, sO_58)]) H := hP
          have hD : va_D A (jx_ws cI cT [(cp_B aB (aT 0) (aS 0) (aC 0) (aU 0) (aV 0) (aW 0) (aH 0) (aO 0), sB), (cp_C aC (aT 0) (aS 0), sC), (cp_S aS (aT 0), sS), (cp_T aT, sT), (cp_H aH (fun j => hT j 0), sH), (cp_T (hT 0), sH0), (cp_T (hT 1), sH1), (cp_T (hT 2), sH2), (cp_T (hT 3), sH3), (cp_O aO, sO_58)]) := hD
          refine lv_aload_n hx hb dX7_play_108 rfl (lv_at hl 1 rfl) ?_
          refine jx_getR C hK hP 0 0 7 rfl rfl rfl fl_X7_53 dX7_play_109 ?_
          refine jx_iconst C dX7_play_112 ?_
          refine jx_callVI C hK hP hD hS hA (ct_O_number l D cI cT aO _ sO_58 3 h) ms_X3_number lk_X7_235 [9] rfl rfl (fun _ => rfl) (cs' := (fun _ => [(cp_B aB (aT 0) (aS 0) (aC 0) (aU 0) (aV 0) (aW 0) (aH 0) (aO 0), sB), (cp_C aC (aT 0) (aS 0), sC), (cp_S aS (aT 0), sS), (cp_T aT, sT), (cp_H aH (fun j => hT j 0), sH), (cp_T (hT 0), sH0), (cp_T (hT 1), sH1), (cp_T (hT 2), sH2), (cp_T (hT 3), sH3), (cp_O aO, sO_58)])) (fun _ => rfl) (fun _ => rfl) 9 0 rfl rfl rfl rfl rfl hl.1 rfl rfl dX7_play_113 ⟨Nat.le_refl _, Nat.le_refl _⟩ (fun r113 _ H locs h hP hD hS => ?_)
          have hP : va_P D vwCl (jx_ws cI cT [(cp_B aB (aT 0) (aS 0) (aC 0) (aU 0) (aV 0) (aW 0) (aH 0) (aO 0), sB), (cp_C aC (aT 0) (aS 0), sC), (cp_S aS (aT 0), sS), (cp_T aT, sT), (cp_H aH (fun j => hT j 0), sH), (cp_T (hT 0), sH0), (cp_T (hT 1), sH1), (cp_T (hT 2), sH2), (cp_T (hT 3), sH3), (cp_O aO, sO_58)]) H := hP
          have hD : va_D A (jx_ws cI cT [(cp_B aB (aT 0) (aS 0) (aC 0) (aU 0) (aV 0) (aW 0) (aH 0) (aO 0), sB), (cp_C aC (aT 0) (aS 0), sC), (cp_S aS (aT 0), sS), (cp_T aT, sT), (cp_H aH (fun j => hT j 0), sH), (cp_T (hT 0), sH0), (cp_T (hT 1), sH1), (cp_T (hT 2), sH2), (cp_T (hT 3), sH3), (cp_O aO, sO_58)]) := hD
          refine lv_aload_n hx hb dX7_play_116 rfl (lv_at hl 1 rfl) ?_
          refine jx_getR C hK hP 0 0 7 rfl rfl rfl fl_X7_53 dX7_play_117 ?_
          refine jx_iconst C dX7_play_120 ?_
          refine jx_callVI C hK hP hD hS hA (ct_O_number l D cI cT aO _ sO_58 4 h) ms_X3_number lk_X7_235 [9] rfl rfl (fun _ => rfl) (cs' := (fun _ => [(cp_B aB (aT 0) (aS 0) (aC 0) (aU 0) (aV 0) (aW 0) (aH 0) (aO 0), sB), (cp_C aC (aT 0) (aS 0), sC), (cp_S aS (aT 0), sS), (cp_T aT, sT), (cp_H aH (fun j => hT j 0), sH), (cp_T (hT 0), sH0), (cp_T (hT 1), sH1), (cp_T (hT 2), sH2), (cp_T (hT 3), sH3), (cp_O aO, sO_58)])) (fun _ => rfl) (fun _ => rfl) 9 0 rfl rfl rfl rfl rfl hl.1 rfl rfl dX7_play_121 ⟨Nat.le_refl _, Nat.le_refl _⟩ (fun r121 _ H locs h hP hD hS => ?_)
          have hP : va_P D vwCl (jx_ws cI cT [(cp_B aB (aT 0) (aS 0) (aC 0) (aU 0) (aV 0) (aW 0) (aH 0) (aO 0), sB), (cp_C aC (aT 0) (aS 0), sC), (cp_S aS (aT 0), sS), (cp_T aT, sT), (cp_H aH (fun j => hT j 0), sH), (cp_T (hT 0), sH0), (cp_T (hT 1), sH1), (cp_T (hT 2), sH2), (cp_T (hT 3), sH3), (cp_O aO, sO_58)]) H := hP
          have hD : va_D A (jx_ws cI cT [(cp_B aB (aT 0) (aS 0) (aC 0) (aU 0) (aV 0) (aW 0) (aH 0) (aO 0), sB), (cp_C aC (aT 0) (aS 0), sC), (cp_S aS (aT 0), sS), (cp_T aT, sT), (cp_H aH (fun j => hT j 0), sH), (cp_T (hT 0), sH0), (cp_T (hT 1), sH1), (cp_T (hT 2), sH2), (cp_T (hT 3), sH3), (cp_O aO, sO_58)]) := hD
          refine jx_callSI C hK hP hD hS hA (ct_Box_of l D cI cT  _  r97 r105 r113 r121 h) ms_X0_of lk_X7_77 [] rfl rfl (fun _ => rfl) (cs' := (fun _ => [(cp_B aB (aT 0) (aS 0) (aC 0) (aU 0) (aV 0) (aW 0) (aH 0) (aO 0), sB), (cp_C aC (aT 0) (aS 0), sC), (cp_S aS (aT 0), sS), (cp_T aT, sT), (cp_H aH (fun j => hT j 0), sH), (cp_T (hT 0), sH0), (cp_T (hT 1), sH1), (cp_T (hT 2), sH2), (cp_T (hT 3), sH3), (cp_O aO, sO_58)])) (fun _ => rfl) (fun _ => rfl) rfl rfl hl.1 rfl rfl dX7_play_124 ⟨Nat.le_refl _, Nat.le_refl _⟩ (fun r124 _ H locs h hP hD hS => ?_)
          have hP : va_P D vwCl (jx_ws cI cT [(cp_B aB (aT 0) (aS 0) (aC 0) (aU 0) (aV 0) (aW 0) (aH 0) (aO 0), sB), (cp_C aC (aT 0) (aS 0), sC), (cp_S aS (aT 0), sS), (cp_T aT, sT), (cp_H aH (fun j => hT j 0), sH), (cp_T (hT 0), sH0), (cp_T (hT 1), sH1), (cp_T (hT 2), sH2), (cp_T (hT 3), sH3), (cp_O aO, sO_58)]) H := hP
          have hD : va_D A (jx_ws cI cT [(cp_B aB (aT 0) (aS 0) (aC 0) (aU 0) (aV 0) (aW 0) (aH 0) (aO 0), sB), (cp_C aC (aT 0) (aS 0), sC), (cp_S aS (aT 0), sS), (cp_T aT, sT), (cp_H aH (fun j => hT j 0), sH), (cp_T (hT 0), sH0), (cp_T (hT 1), sH1), (cp_T (hT 2), sH2), (cp_T (hT 3), sH3), (cp_O aO, sO_58)]) := hD
          refine jx_callVV C hK hP hD hS hA (ct_C_bringIn l D cI cT aC aS aT _ sC sS sT r89 r124 h) ms_X1_bringIn lk_X7_83 [1, 2, 3] rfl rfl (fun _ => rfl) (cs' := (fun u => [(cp_B aB (aT 0) (aS 0) (aC 0) (aU 0) (aV 0) (aW 0) (aH 0) (aO 0), sB), (cp_C aC (aT 0) (aS 0), u.1), (cp_S aS (aT 0), u.2.1), (cp_T aT, u.2.2), (cp_H aH (fun j => hT j 0), sH), (cp_T (hT 0), sH0), (cp_T (hT 1), sH1), (cp_T (hT 2), sH2), (cp_T (hT 3), sH3), (cp_O aO, sO_58)])) (fun _ => rfl) (fun _ => rfl) 1 0 rfl rfl rfl rfl rfl hl.1 rfl rfl dX7_play_127 ⟨Nat.le_refl _, Nat.le_refl _⟩ (fun u H locs h hP hD hS => ?_)
          obtain ⟨sC_127, sS_127, sT_127⟩ := u
          dsimp only at h
          have hP : va_P D vwCl (jx_ws cI cT [(cp_B aB (aT 0) (aS 0) (aC 0) (aU 0) (aV 0) (aW 0) (aH 0) (aO 0), sB), (cp_C aC (aT 0) (aS 0), sC_127), (cp_S aS (aT 0), sS_127), (cp_T aT, sT_127), (cp_H aH (fun j => hT j 0), sH), (cp_T (hT 0), sH0), (cp_T (hT 1), sH1), (cp_T (hT 2), sH2), (cp_T (hT 3), sH3), (cp_O aO, sO_58)]) H := hP
          have hD : va_D A (jx_ws cI cT [(cp_B aB (aT 0) (aS 0) (aC 0) (aU 0) (aV 0) (aW 0) (aH 0) (aO 0), sB), (cp_C aC (aT 0) (aS 0), sC_127), (cp_S aS (aT 0), sS_127), (cp_T aT, sT_127), (cp_H aH (fun j => hT j 0), sH), (cp_T (hT 0), sH0), (cp_T (hT 1), sH1), (cp_T (hT 2), sH2), (cp_T (hT 3), sH3), (cp_O aO, sO_58)]) := hD
          refine lv_goto (tgt := 148) hx hb dX7_play_130 (by decide) ?_
          exact J148 sC_127 sS_127 sT_127 sO_58 (sO_58 4 0) l2 h _ _ hP hD hS ls (lv_sub hl [1, 0, 2] rfl)
  have J154 : ∀ (sC : jx_St) (sS : jx_St) (sT : jx_St) (sH : jx_St) (sH0 : jx_St) (sH1 : jx_St) (sH2 : jx_St) (sH3 : jx_St) (sO : jx_St), wp_B_play_154 Q sB sC sS sT sH sH0 sH1 sH2 sH3 sO → ∀ (H : Heap) (locs : List Loc), va_P D vwCl (jx_ws cI cT [(cp_B aB (aT 0) (aS 0) (aC 0) (aU 0) (aV 0) (aW 0) (aH 0) (aO 0), sB), (cp_C aC (aT 0) (aS 0), sC), (cp_S aS (aT 0), sS), (cp_T aT, sT), (cp_H aH (fun j => hT j 0), sH), (cp_T (hT 0), sH0), (cp_T (hT 1), sH1), (cp_T (hT 2), sH2), (cp_T (hT 3), sH3), (cp_O aO, sO)]) H → va_D A (jx_ws cI cT [(cp_B aB (aT 0) (aS 0) (aC 0) (aU 0) (aV 0) (aW 0) (aH 0) (aO 0), sB), (cp_C aC (aT 0) (aS 0), sC), (cp_S aS (aT 0), sS), (cp_T aT, sT), (cp_H aH (fun j => hT j 0), sH), (cp_T (hT 0), sH0), (cp_T (hT 1), sH1), (cp_T (hT 2), sH2), (cp_T (hT 3), sH3), (cp_O aO, sO)]) → va_S A s.heap H locs → ∀ ls : Array Slot, lv_has ls 3 [(0, .ref (aB 0))] → W p l e (jx_rm 7 176) s m args below meth c H locs 0 0 QQ (F0 m 154 ls []) := by
    intro sC sS sT sH sH0 sH1 sH2 sH3 sO h H locs hP hD hS ls hl
    unfold wp_B_play_154 at h
    refine lv_aload_n hx hb dX7_play_154 rfl (lv_at hl 0 rfl) ?_
    refine jx_getR C hK hP 0 0 7 rfl rfl rfl fl_X7_53 dX7_play_155 ?_
    refine jx_getNI C hK hP 9 0 5 rfl rfl rfl fn_X7_222 dX7_play_158 ?_
    exact jx_rI C hr hlk hAe hS hQQ (sC, sS, sT, sH, sH0, sH1, sH2, sH3, sO) hP h dX7_play_161
  refine lv_aload_n hx hb dX7_play_0 rfl (lv_at hl 0 rfl) ?_
  refine jx_getR C hK hP 0 0 7 rfl rfl rfl fl_X7_53 dX7_play_1 ?_
  refine lv_aload_n hx hb dX7_play_4 rfl (lv_at hl 0 rfl) ?_
  refine jx_getR C hK hP 0 0 0 rfl rfl rfl fl_X7_12 dX7_play_5 ?_
  refine jx_callVI C hK hP hD hS hA (ct_T_boxSet l D cI cT aT _ sT  h) ms_X6_boxSet lk_X7_176 [3] rfl rfl (fun _ => rfl) (cs' := (fun _ => [(cp_B aB (aT 0) (aS 0) (aC 0) (aU 0) (aV 0) (aW 0) (aH 0) (aO 0), sB), (cp_C aC (aT 0) (aS 0), sC), (cp_S aS (aT 0), sS), (cp_T aT, sT), (cp_H aH (fun j => hT j 0), sH), (cp_T (hT 0), sH0), (cp_T (hT 1), sH1), (cp_T (hT 2), sH2), (cp_T (hT 3), sH3), (cp_O aO, sO)])) (fun _ => rfl) (fun _ => rfl) 3 0 rfl rfl rfl rfl rfl hl.1 rfl rfl dX7_play_8 ⟨Nat.le_refl _, Nat.le_refl _⟩ (fun r8 _ H locs h hP hD hS => ?_)
  have hP : va_P D vwCl (jx_ws cI cT [(cp_B aB (aT 0) (aS 0) (aC 0) (aU 0) (aV 0) (aW 0) (aH 0) (aO 0), sB), (cp_C aC (aT 0) (aS 0), sC), (cp_S aS (aT 0), sS), (cp_T aT, sT), (cp_H aH (fun j => hT j 0), sH), (cp_T (hT 0), sH0), (cp_T (hT 1), sH1), (cp_T (hT 2), sH2), (cp_T (hT 3), sH3), (cp_O aO, sO)]) H := hP
  have hD : va_D A (jx_ws cI cT [(cp_B aB (aT 0) (aS 0) (aC 0) (aU 0) (aV 0) (aW 0) (aH 0) (aO 0), sB), (cp_C aC (aT 0) (aS 0), sC), (cp_S aS (aT 0), sS), (cp_T aT, sT), (cp_H aH (fun j => hT j 0), sH), (cp_T (hT 0), sH0), (cp_T (hT 1), sH1), (cp_T (hT 2), sH2), (cp_T (hT 3), sH3), (cp_O aO, sO)]) := hD
  refine jx_callVV C hK hP hD hS hA (ct_O_examine l D cI cT aO _ sO r8 h) ms_X3_examine lk_X7_210 [9] rfl rfl (fun _ => rfl) (cs' := (fun u => [(cp_B aB (aT 0) (aS 0) (aC 0) (aU 0) (aV 0) (aW 0) (aH 0) (aO 0), sB), (cp_C aC (aT 0) (aS 0), sC), (cp_S aS (aT 0), sS), (cp_T aT, sT), (cp_H aH (fun j => hT j 0), sH), (cp_T (hT 0), sH0), (cp_T (hT 1), sH1), (cp_T (hT 2), sH2), (cp_T (hT 3), sH3), (cp_O aO, u)])) (fun _ => rfl) (fun _ => rfl) 9 0 rfl rfl rfl rfl rfl hl.1 rfl rfl dX7_play_11 ⟨Nat.le_refl _, Nat.le_refl _⟩ (fun sO_11 H locs h hP hD hS => ?_)
  have hP : va_P D vwCl (jx_ws cI cT [(cp_B aB (aT 0) (aS 0) (aC 0) (aU 0) (aV 0) (aW 0) (aH 0) (aO 0), sB), (cp_C aC (aT 0) (aS 0), sC), (cp_S aS (aT 0), sS), (cp_T aT, sT), (cp_H aH (fun j => hT j 0), sH), (cp_T (hT 0), sH0), (cp_T (hT 1), sH1), (cp_T (hT 2), sH2), (cp_T (hT 3), sH3), (cp_O aO, sO_11)]) H := hP
  have hD : va_D A (jx_ws cI cT [(cp_B aB (aT 0) (aS 0) (aC 0) (aU 0) (aV 0) (aW 0) (aH 0) (aO 0), sB), (cp_C aC (aT 0) (aS 0), sC), (cp_S aS (aT 0), sS), (cp_T aT, sT), (cp_H aH (fun j => hT j 0), sH), (cp_T (hT 0), sH0), (cp_T (hT 1), sH1), (cp_T (hT 2), sH2), (cp_T (hT 3), sH3), (cp_O aO, sO_11)]) := hD
  refine lv_aload_n hx hb dX7_play_14 rfl (lv_at hl 0 rfl) ?_
  refine jx_getR C hK hP 0 0 7 rfl rfl rfl fl_X7_53 dX7_play_15 ?_
  refine jx_getNI C hK hP 9 0 7 rfl rfl rfl fn_X7_213 dX7_play_18 ?_
  refine jx_zeq C h.1 (tgt := 27) dX7_play_21 (by decide) (fun hc => ?_) (fun hc => ?_)
  · have h := h.2.1 hc
    refine lv_aload_n hx hb dX7_play_27 rfl (lv_at hl 0 rfl) ?_
    refine jx_getR C hK hP 0 0 6 rfl rfl rfl fl_X7_46 dX7_play_28 ?_
    refine lv_aload_n hx hb dX7_play_31 rfl (lv_at hl 0 rfl) ?_
    refine jx_getR C hK hP 0 0 0 rfl rfl rfl fl_X7_12 dX7_play_32 ?_
    refine jx_callVV C hK hP hD hS hA (ct_H_record l D cI cT aH hT aT _ sT sH sH0 sH1 sH2 sH3  h) ms_X2_record lk_X7_74 [3, 4, 5, 6, 7, 8] rfl rfl (fun _ => rfl) (cs' := (fun u => [(cp_B aB (aT 0) (aS 0) (aC 0) (aU 0) (aV 0) (aW 0) (aH 0) (aO 0), sB), (cp_C aC (aT 0) (aS 0), sC), (cp_S aS (aT 0), sS), (cp_T aT, sT), (cp_H aH (fun j => hT j 0), u.1), (cp_T (hT 0), u.2.1), (cp_T (hT 1), u.2.2.1), (cp_T (hT 2), u.2.2.2.1), (cp_T (hT 3), u.2.2.2.2), (cp_O aO, sO_11)])) (fun _ => rfl) (fun _ => rfl) 4 0 rfl rfl rfl rfl rfl hl.1 rfl rfl dX7_play_35 ⟨Nat.le_refl _, Nat.le_refl _⟩ (fun u H locs h hP hD hS => ?_)
    obtain ⟨sH_35, sH0_35, sH1_35, sH2_35, sH3_35⟩ := u
    dsimp only at h
    have hP : va_P D vwCl (jx_ws cI cT [(cp_B aB (aT 0) (aS 0) (aC 0) (aU 0) (aV 0) (aW 0) (aH 0) (aO 0), sB), (cp_C aC (aT 0) (aS 0), sC), (cp_S aS (aT 0), sS), (cp_T aT, sT), (cp_H aH (fun j => hT j 0), sH_35), (cp_T (hT 0), sH0_35), (cp_T (hT 1), sH1_35), (cp_T (hT 2), sH2_35), (cp_T (hT 3), sH3_35), (cp_O aO, sO_11)]) H := hP
    have hD : va_D A (jx_ws cI cT [(cp_B aB (aT 0) (aS 0) (aC 0) (aU 0) (aV 0) (aW 0) (aH 0) (aO 0), sB), (cp_C aC (aT 0) (aS 0), sC), (cp_S aS (aT 0), sS), (cp_T aT, sT), (cp_H aH (fun j => hT j 0), sH_35), (cp_T (hT 0), sH0_35), (cp_T (hT 1), sH1_35), (cp_T (hT 2), sH2_35), (cp_T (hT 3), sH3_35), (cp_O aO, sO_11)]) := hD
    refine jx_iconst C dX7_play_38 ?_
    refine lv_istore_n (lv' := [(1, .int (jx_i 0)), (0, .ref (aB 0))]) hx hb dX7_play_39 rfl hl (by decide) rfl (fun ls hl => ?_)
    refine jx_iconst C dX7_play_40 ?_
    refine lv_istore_n (lv' := [(2, .int (jx_i 0)), (1, .int (jx_i 0)), (0, .ref (aB 0))]) hx hb dX7_play_41 rfl hl (by decide) rfl (fun ls hl => ?_)
    obtain ⟨n, h⟩ := h
    refine Lo42 sH_35 sH0_35 sH1_35 sH2_35 sH3_35 _ n sC sS sT sO_11 0 0 h ?_ _ _ hP hD hS ls (lv_sub hl [2, 1, 0] rfl)
    · intro sC sS sT sO h H locs hP hD hS ls hl
      exact J154 sC sS sT sH_35 sH0_35 sH1_35 sH2_35 sH3_35 sO h _ _ hP hD hS ls (lv_sub hl [0] rfl)
  · have h := h.2.2 hc
    refine jx_ldc C (-1000002) kc_X7_73 dX7_play_24 ?_
    exact jx_rI C hr hlk hAe hS hQQ (sC, sS, sT, sH, sH0, sH1, sH2, sH3, sO_11) hP h dX7_play_26
set_option maxRecDepth 100000 in
set_option maxHeartbeats 4000000 in
theorem ct_B_put (l : Launch) (D : va_G) (cI cT : ClassId) (aB : Nat → Nat) (aC : Nat → Nat) (aS : Nat → Nat) (aT : Nat → Nat) (aW : Nat → Nat) (aV : Nat → Nat) (aU : Nat → Nat) (aH : Nat → Nat) (hT : Nat → Nat → Nat) (aO : Nat → Nat) (Q : Int → jx_St → jx_St → jx_St → jx_St → jx_St → jx_St → jx_St → jx_St → Prop) (sB : jx_St) (sC : jx_St) (sS : jx_St) (sT : jx_St) (sH : jx_St) (sH0 : jx_St) (sH1 : jx_St) (sH2 : jx_St) (sH3 : jx_St) (l1 : Int) (l2 : Int) (l3 : Int) (l4 : Int) (l5 : Int) (h : wp_B_put Q sB sC sS sT sH sH0 sH1 sH2 sH3 l1 l2 l3 l4 l5) : jx_KI (jx_St × jx_St × jx_St × jx_St × jx_St × jx_St × jx_St × jx_St) l D cI cT yX7_put cX7_put 6 .int 7 174 [.ref (aB 0), .int (jx_i l1), .int (jx_i l2), .int (jx_i l3), .int (jx_i l4), .int (jx_i l5)] [(cp_B aB (aT 0) (aS 0) (aC 0) (aU 0) (aV 0) (aW 0) (aH 0) (aO 0), sB), (cp_C aC (aT 0) (aS 0), sC), (cp_S aS (aT 0), sS), (cp_T aT, sT), (cp_H aH (fun j => hT j 0), sH), (cp_T (hT 0), sH0), (cp_T (hT 1), sH1), (cp_T (hT 2), sH2), (cp_T (hT 3), sH3)] (fun u => [(cp_B aB (aT 0) (aS 0) (aC 0) (aU 0) (aV 0) (aW 0) (aH 0) (aO 0), sB), (cp_C aC (aT 0) (aS 0), u.1), (cp_S aS (aT 0), u.2.1), (cp_T aT, u.2.2.1), (cp_H aH (fun j => hT j 0), u.2.2.2.1), (cp_T (hT 0), u.2.2.2.2.1), (cp_T (hT 1), u.2.2.2.2.2.1), (cp_T (hT 2), u.2.2.2.2.2.2.1), (cp_T (hT 3), u.2.2.2.2.2.2.2)]) (fun x u => Q x u.1 u.2.1 u.2.2.1 u.2.2.2.1 u.2.2.2.2.1 u.2.2.2.2.2.1 u.2.2.2.2.2.2.1 u.2.2.2.2.2.2.2) := by
  refine jx_ent (own := RX7) (by decide) rfl (Nat.le_of_ble_eq_true rfl) ?_
  intro p e s m args below meth c A QQ C hr hlk hK hAe hA hP hD hS ls hl hQQ
  have hl : lv_has ls 6 [(0, .ref (aB 0)), (1, .int (jx_i l1)), (2, .int (jx_i l2)), (3, .int (jx_i l3)), (4, .int (jx_i l4)), (5, .int (jx_i l5))] := hl
  have hx := C.1
  have hb := C.2.1
  unfold wp_B_put at h
  refine lv_iload_n hx hb dX7_put_0 rfl (lv_at hl 1 rfl) ?_
  refine jx_callSI C hK hP hD hS hA (ct_B_isBox l D cI cT  _  l1 h) ms_X7_isBox lk_X7_61 [] rfl rfl (fun _ => rfl) (cs' := (fun _ => [(cp_B aB (aT 0) (aS 0) (aC 0) (aU 0) (aV 0) (aW 0) (aH 0) (aO 0), sB), (cp_C aC (aT 0) (aS 0), sC), (cp_S aS (aT 0), sS), (cp_T aT, sT), (cp_H aH (fun j => hT j 0), sH), (cp_T (hT 0), sH0), (cp_T (hT 1), sH1), (cp_T (hT 2), sH2), (cp_T (hT 3), sH3)])) (fun _ => rfl) (fun _ => rfl) rfl rfl hl.1 rfl rfl dX7_put_1 ⟨Nat.le_refl _, Nat.le_refl _⟩ (fun r1 _ H locs h hP hD hS => ?_)
  have hP : va_P D vwCl (jx_ws cI cT [(cp_B aB (aT 0) (aS 0) (aC 0) (aU 0) (aV 0) (aW 0) (aH 0) (aO 0), sB), (cp_C aC (aT 0) (aS 0), sC), (cp_S aS (aT 0), sS), (cp_T aT, sT), (cp_H aH (fun j => hT j 0), sH), (cp_T (hT 0), sH0), (cp_T (hT 1), sH1), (cp_T (hT 2), sH2), (cp_T (hT 3), sH3)]) H := hP
  have hD : va_D A (jx_ws cI cT [(cp_B aB (aT 0) (aS 0) (aC 0) (aU 0) (aV 0) (aW 0) (aH 0) (aO 0), sB), (cp_C aC (aT 0) (aS 0), sC), (cp_S aS (aT 0), sS), (cp_T aT, sT), (cp_H aH (fun j => hT j 0), sH), (cp_T (hT 0), sH0), (cp_T (hT 1), sH1), (cp_T (hT 2), sH2), (cp_T (hT 3), sH3)]) := hD
  refine jx_zeq C h.1 (tgt := 19) dX7_put_4 (by decide) (fun hc => ?_) (fun hc => ?_)
  · have h := h.2.1 hc
    refine jx_ldc C (-1000001) kc_X7_69 dX7_put_19 ?_
    exact jx_rI C hr hlk hAe hS hQQ (sC, sS, sT, sH, sH0, sH1, sH2, sH3) hP h dX7_put_21
  · have h := h.2.2 hc
    refine lv_iload_n hx hb dX7_put_7 rfl (lv_at hl 2 rfl) ?_
    refine lv_iload_n hx hb dX7_put_8 rfl (lv_at hl 3 rfl) ?_
    refine lv_iload hx hb dX7_put_9 (lv_at hl 4 rfl) ?_
    refine lv_iload hx hb dX7_put_11 (lv_at hl 5 rfl) ?_
    refine jx_callSI C hK hP hD hS hA (ct_B_isWindow l D cI cT  _  l2 l3 l4 l5 h) ms_X7_isWindow lk_X7_65 [] rfl rfl (fun _ => rfl) (cs' := (fun _ => [(cp_B aB (aT 0) (aS 0) (aC 0) (aU 0) (aV 0) (aW 0) (aH 0) (aO 0), sB), (cp_C aC (aT 0) (aS 0), sC), (cp_S aS (aT 0), sS), (cp_T aT, sT), (cp_H aH (fun j => hT j 0), sH), (cp_T (hT 0), sH0), (cp_T (hT 1), sH1), (cp_T (hT 2), sH2), (cp_T (hT 3), sH3)])) (fun _ => rfl) (fun _ => rfl) rfl rfl hl.1 rfl rfl dX7_put_13 ⟨Nat.le_refl _, Nat.le_refl _⟩ (fun r13 _ H locs h hP hD hS => ?_)
    have hP : va_P D vwCl (jx_ws cI cT [(cp_B aB (aT 0) (aS 0) (aC 0) (aU 0) (aV 0) (aW 0) (aH 0) (aO 0), sB), (cp_C aC (aT 0) (aS 0), sC), (cp_S aS (aT 0), sS), (cp_T aT, sT), (cp_H aH (fun j => hT j 0), sH), (cp_T (hT 0), sH0), (cp_T (hT 1), sH1), (cp_T (hT 2), sH2), (cp_T (hT 3), sH3)]) H := hP
    have hD : va_D A (jx_ws cI cT [(cp_B aB (aT 0) (aS 0) (aC 0) (aU 0) (aV 0) (aW 0) (aH 0) (aO 0), sB), (cp_C aC (aT 0) (aS 0), sC), (cp_S aS (aT 0), sS), (cp_T aT, sT), (cp_H aH (fun j => hT j 0), sH), (cp_T (hT 0), sH0), (cp_T (hT 1), sH1), (cp_T (hT 2), sH2), (cp_T (hT 3), sH3)]) := hD
    refine jx_zne C h.1 (tgt := 22) dX7_put_16 (by decide) (fun hc => ?_) (fun hc => ?_)
    · have h := h.2.2 hc
      refine lv_aload_n hx hb dX7_put_22 rfl (lv_at hl 0 rfl) ?_
      refine jx_getR C hK hP 0 0 0 rfl rfl rfl fl_X7_12 dX7_put_23 ?_
      refine lv_iload_n hx hb dX7_put_26 rfl (lv_at hl 1 rfl) ?_
      refine jx_callVI C hK hP hD hS hA (ct_T_has l D cI cT aT _ sT l1 h) ms_X6_has lk_X7_70 [3] rfl rfl (fun _ => rfl) (cs' := (fun _ => [(cp_B aB (aT 0) (aS 0) (aC 0) (aU 0) (aV 0) (aW 0) (aH 0) (aO 0), sB), (cp_C aC (aT 0) (aS 0), sC), (cp_S aS (aT 0), sS), (cp_T aT, sT), (cp_H aH (fun j => hT j 0), sH), (cp_T (hT 0), sH0), (cp_T (hT 1), sH1), (cp_T (hT 2), sH2), (cp_T (hT 3), sH3)])) (fun _ => rfl) (fun _ => rfl) 3 0 rfl rfl rfl rfl rfl hl.1 rfl rfl dX7_put_27 ⟨Nat.le_refl _, Nat.le_refl _⟩ (fun r27 _ H locs h hP hD hS => ?_)
      have hP : va_P D vwCl (jx_ws cI cT [(cp_B aB (aT 0) (aS 0) (aC 0) (aU 0) (aV 0) (aW 0) (aH 0) (aO 0), sB), (cp_C aC (aT 0) (aS 0), sC), (cp_S aS (aT 0), sS), (cp_T aT, sT), (cp_H aH (fun j => hT j 0), sH), (cp_T (hT 0), sH0), (cp_T (hT 1), sH1), (cp_T (hT 2), sH2), (cp_T (hT 3), sH3)]) H := hP
      have hD : va_D A (jx_ws cI cT [(cp_B aB (aT 0) (aS 0) (aC 0) (aU 0) (aV 0) (aW 0) (aH 0) (aO 0), sB), (cp_C aC (aT 0) (aS 0), sC), (cp_S aS (aT 0), sS), (cp_T aT, sT), (cp_H aH (fun j => hT j 0), sH), (cp_T (hT 0), sH0), (cp_T (hT 1), sH1), (cp_T (hT 2), sH2), (cp_T (hT 3), sH3)]) := hD
      refine jx_zeq C h.1 (tgt := 36) dX7_put_30 (by decide) (fun hc => ?_) (fun hc => ?_)
      · have h := h.2.1 hc
        refine lv_aload_n hx hb dX7_put_36 rfl (lv_at hl 0 rfl) ?_
        refine jx_getR C hK hP 0 0 6 rfl rfl rfl fl_X7_46 dX7_put_37 ?_
        refine lv_aload_n hx hb dX7_put_40 rfl (lv_at hl 0 rfl) ?_
        refine jx_getR C hK hP 0 0 0 rfl rfl rfl fl_X7_12 dX7_put_41 ?_
        refine jx_callVV C hK hP hD hS hA (ct_H_record l D cI cT aH hT aT _ sT sH sH0 sH1 sH2 sH3  h) ms_X2_record lk_X7_74 [3, 4, 5, 6, 7, 8] rfl rfl (fun _ => rfl) (cs' := (fun u => [(cp_B aB (aT 0) (aS 0) (aC 0) (aU 0) (aV 0) (aW 0) (aH 0) (aO 0), sB), (cp_C aC (aT 0) (aS 0), sC), (cp_S aS (aT 0), sS), (cp_T aT, sT), (cp_H aH (fun j => hT j 0), u.1), (cp_T (hT 0), u.2.1), (cp_T (hT 1), u.2.2.1), (cp_T (hT 2), u.2.2.2.1), (cp_T (hT 3), u.2.2.2.2)])) (fun _ => rfl) (fun _ => rfl) 4 0 rfl rfl rfl rfl rfl hl.1 rfl rfl dX7_put_44 ⟨Nat.le_refl _, Nat.le_refl _⟩ (fun u H locs h hP hD hS => ?_)
        obtain ⟨sH_44, sH0_44, sH1_44, sH2_44, sH3_44⟩ := u
        dsimp only at h
        have hP : va_P D vwCl (jx_ws cI cT [(cp_B aB (aT 0) (aS 0) (aC 0) (aU 0) (aV 0) (aW 0) (aH 0) (aO 0), sB), (cp_C aC (aT 0) (aS 0), sC), (cp_S aS (aT 0), sS), (cp_T aT, sT), (cp_H aH (fun j => hT j 0), sH_44), (cp_T (hT 0), sH0_44), (cp_T (hT 1), sH1_44), (cp_T (hT 2), sH2_44), (cp_T (hT 3), sH3_44)]) H := hP
        have hD : va_D A (jx_ws cI cT [(cp_B aB (aT 0) (aS 0) (aC 0) (aU 0) (aV 0) (aW 0) (aH 0) (aO 0), sB), (cp_C aC (aT 0) (aS 0), sC), (cp_S aS (aT 0), sS), (cp_T aT, sT), (cp_H aH (fun j => hT j 0), sH_44), (cp_T (hT 0), sH0_44), (cp_T (hT 1), sH1_44), (cp_T (hT 2), sH2_44), (cp_T (hT 3), sH3_44)]) := hD
        refine lv_aload_n hx hb dX7_put_47 rfl (lv_at hl 0 rfl) ?_
        refine jx_getR C hK hP 0 0 2 rfl rfl rfl fl_X7_30 dX7_put_48 ?_
        refine lv_iload_n hx hb dX7_put_51 rfl (lv_at hl 1 rfl) ?_
        refine lv_iload_n hx hb dX7_put_52 rfl (lv_at hl 2 rfl) ?_
        refine lv_iload_n hx hb dX7_put_53 rfl (lv_at hl 3 rfl) ?_
        refine lv_iload hx hb dX7_put_54 (lv_at hl 4 rfl) ?_
        refine lv_iload hx hb dX7_put_56 (lv_at hl 5 rfl) ?_
        refine jx_callSI C hK hP hD hS hA (ct_Box_of l D cI cT  _  l2 l3 l4 l5 h) ms_X0_of lk_X7_77 [] rfl rfl (fun _ => rfl) (cs' := (fun _ => [(cp_B aB (aT 0) (aS 0) (aC 0) (aU 0) (aV 0) (aW 0) (aH 0) (aO 0), sB), (cp_C aC (aT 0) (aS 0), sC), (cp_S aS (aT 0), sS), (cp_T aT, sT), (cp_H aH (fun j => hT j 0), sH_44), (cp_T (hT 0), sH0_44), (cp_T (hT 1), sH1_44), (cp_T (hT 2), sH2_44), (cp_T (hT 3), sH3_44)])) (fun _ => rfl) (fun _ => rfl) rfl rfl hl.1 rfl rfl dX7_put_58 ⟨Nat.le_refl _, Nat.le_refl _⟩ (fun r58 _ H locs h hP hD hS => ?_)
        have hP : va_P D vwCl (jx_ws cI cT [(cp_B aB (aT 0) (aS 0) (aC 0) (aU 0) (aV 0) (aW 0) (aH 0) (aO 0), sB), (cp_C aC (aT 0) (aS 0), sC), (cp_S aS (aT 0), sS), (cp_T aT, sT), (cp_H aH (fun j => hT j 0), sH_44), (cp_T (hT 0), sH0_44), (cp_T (hT 1), sH1_44), (cp_T (hT 2), sH2_44), (cp_T (hT 3), sH3_44)]) H := hP
        have hD : va_D A (jx_ws cI cT [(cp_B aB (aT 0) (aS 0) (aC 0) (aU 0) (aV 0) (aW 0) (aH 0) (aO 0), sB), (cp_C aC (aT 0) (aS 0), sC), (cp_S aS (aT 0), sS), (cp_T aT, sT), (cp_H aH (fun j => hT j 0), sH_44), (cp_T (hT 0), sH0_44), (cp_T (hT 1), sH1_44), (cp_T (hT 2), sH2_44), (cp_T (hT 3), sH3_44)]) := hD
        refine jx_callVV C hK hP hD hS hA (ct_C_bringIn l D cI cT aC aS aT _ sC sS sT l1 r58 h) ms_X1_bringIn lk_X7_83 [1, 2, 3] rfl rfl (fun _ => rfl) (cs' := (fun u => [(cp_B aB (aT 0) (aS 0) (aC 0) (aU 0) (aV 0) (aW 0) (aH 0) (aO 0), sB), (cp_C aC (aT 0) (aS 0), u.1), (cp_S aS (aT 0), u.2.1), (cp_T aT, u.2.2), (cp_H aH (fun j => hT j 0), sH_44), (cp_T (hT 0), sH0_44), (cp_T (hT 1), sH1_44), (cp_T (hT 2), sH2_44), (cp_T (hT 3), sH3_44)])) (fun _ => rfl) (fun _ => rfl) 1 0 rfl rfl rfl rfl rfl hl.1 rfl rfl dX7_put_61 ⟨Nat.le_refl _, Nat.le_refl _⟩ (fun u H locs h hP hD hS => ?_)
        obtain ⟨sC_61, sS_61, sT_61⟩ := u
        dsimp only at h
        have hP : va_P D vwCl (jx_ws cI cT [(cp_B aB (aT 0) (aS 0) (aC 0) (aU 0) (aV 0) (aW 0) (aH 0) (aO 0), sB), (cp_C aC (aT 0) (aS 0), sC_61), (cp_S aS (aT 0), sS_61), (cp_T aT, sT_61), (cp_H aH (fun j => hT j 0), sH_44), (cp_T (hT 0), sH0_44), (cp_T (hT 1), sH1_44), (cp_T (hT 2), sH2_44), (cp_T (hT 3), sH3_44)]) H := hP
        have hD : va_D A (jx_ws cI cT [(cp_B aB (aT 0) (aS 0) (aC 0) (aU 0) (aV 0) (aW 0) (aH 0) (aO 0), sB), (cp_C aC (aT 0) (aS 0), sC_61), (cp_S aS (aT 0), sS_61), (cp_T aT, sT_61), (cp_H aH (fun j => hT j 0), sH_44), (cp_T (hT 0), sH0_44), (cp_T (hT 1), sH1_44), (cp_T (hT 2), sH2_44), (cp_T (hT 3), sH3_44)]) := hD
        refine lv_aload_n hx hb dX7_put_64 rfl (lv_at hl 0 rfl) ?_
        refine jx_getR C hK hP 0 0 0 rfl rfl rfl fl_X7_12 dX7_put_65 ?_
        refine jx_callVI C hK hP hD hS hA (ct_T_height l D cI cT aT _ sT_61  h) ms_X6_height lk_X7_87 [3] rfl rfl (fun _ => rfl) (cs' := (fun _ => [(cp_B aB (aT 0) (aS 0) (aC 0) (aU 0) (aV 0) (aW 0) (aH 0) (aO 0), sB), (cp_C aC (aT 0) (aS 0), sC_61), (cp_S aS (aT 0), sS_61), (cp_T aT, sT_61), (cp_H aH (fun j => hT j 0), sH_44), (cp_T (hT 0), sH0_44), (cp_T (hT 1), sH1_44), (cp_T (hT 2), sH2_44), (cp_T (hT 3), sH3_44)])) (fun _ => rfl) (fun _ => rfl) 3 0 rfl rfl rfl rfl rfl hl.1 rfl rfl dX7_put_68 ⟨Nat.le_refl _, Nat.le_refl _⟩ (fun r68 _ H locs h hP hD hS => ?_)
        have hP : va_P D vwCl (jx_ws cI cT [(cp_B aB (aT 0) (aS 0) (aC 0) (aU 0) (aV 0) (aW 0) (aH 0) (aO 0), sB), (cp_C aC (aT 0) (aS 0), sC_61), (cp_S aS (aT 0), sS_61), (cp_T aT, sT_61), (cp_H aH (fun j => hT j 0), sH_44), (cp_T (hT 0), sH0_44), (cp_T (hT 1), sH1_44), (cp_T (hT 2), sH2_44), (cp_T (hT 3), sH3_44)]) H := hP
        have hD : va_D A (jx_ws cI cT [(cp_B aB (aT 0) (aS 0) (aC 0) (aU 0) (aV 0) (aW 0) (aH 0) (aO 0), sB), (cp_C aC (aT 0) (aS 0), sC_61), (cp_S aS (aT 0), sS_61), (cp_T aT, sT_61), (cp_H aH (fun j => hT j 0), sH_44), (cp_T (hT 0), sH0_44), (cp_T (hT 1), sH1_44), (cp_T (hT 2), sH2_44), (cp_T (hT 3), sH3_44)]) := hD
        exact jx_rI C hr hlk hAe hS hQQ (sC_61, sS_61, sT_61, sH_44, sH0_44, sH1_44, sH2_44, sH3_44) hP h dX7_put_71
      · have h := h.2.2 hc
        refine jx_ldc C (-1000002) kc_X7_73 dX7_put_33 ?_
        exact jx_rI C hr hlk hAe hS hQQ (sC, sS, sT, sH, sH0, sH1, sH2, sH3) hP h dX7_put_35
    · have h := h.2.1 hc
      refine jx_ldc C (-1000001) kc_X7_69 dX7_put_19 ?_
      exact jx_rI C hr hlk hAe hS hQQ (sC, sS, sT, sH, sH0, sH1, sH2, sH3) hP h dX7_put_21
set_option maxRecDepth 100000 in
set_option maxHeartbeats 4000000 in
theorem ct_B_take (l : Launch) (D : va_G) (cI cT : ClassId) (aB : Nat → Nat) (aC : Nat → Nat) (aS : Nat → Nat) (aT : Nat → Nat) (aW : Nat → Nat) (aV : Nat → Nat) (aU : Nat → Nat) (aH : Nat → Nat) (hT : Nat → Nat → Nat) (aO : Nat → Nat) (Q : Int → jx_St → jx_St → jx_St → jx_St → jx_St → jx_St → jx_St → jx_St → Prop) (sB : jx_St) (sC : jx_St) (sS : jx_St) (sT : jx_St) (sH : jx_St) (sH0 : jx_St) (sH1 : jx_St) (sH2 : jx_St) (sH3 : jx_St) (l1 : Int) (h : wp_B_take Q sB sC sS sT sH sH0 sH1 sH2 sH3 l1) : jx_KI (jx_St × jx_St × jx_St × jx_St × jx_St × jx_St × jx_St × jx_St) l D cI cT yX7_take cX7_take 2 .int 7 176 [.ref (aB 0), .int (jx_i l1)] [(cp_B aB (aT 0) (aS 0) (aC 0) (aU 0) (aV 0) (aW 0) (aH 0) (aO 0), sB), (cp_C aC (aT 0) (aS 0), sC), (cp_S aS (aT 0), sS), (cp_T aT, sT), (cp_H aH (fun j => hT j 0), sH), (cp_T (hT 0), sH0), (cp_T (hT 1), sH1), (cp_T (hT 2), sH2), (cp_T (hT 3), sH3)] (fun u => [(cp_B aB (aT 0) (aS 0) (aC 0) (aU 0) (aV 0) (aW 0) (aH 0) (aO 0), sB), (cp_C aC (aT 0) (aS 0), u.1), (cp_S aS (aT 0), u.2.1), (cp_T aT, u.2.2.1), (cp_H aH (fun j => hT j 0), u.2.2.2.1), (cp_T (hT 0), u.2.2.2.2.1), (cp_T (hT 1), u.2.2.2.2.2.1), (cp_T (hT 2), u.2.2.2.2.2.2.1), (cp_T (hT 3), u.2.2.2.2.2.2.2)]) (fun x u => Q x u.1 u.2.1 u.2.2.1 u.2.2.2.1 u.2.2.2.2.1 u.2.2.2.2.2.1 u.2.2.2.2.2.2.1 u.2.2.2.2.2.2.2) := by
  refine jx_ent (own := RX7) (by decide) rfl (Nat.le_of_ble_eq_true rfl) ?_
  intro p e s m args below meth c A QQ C hr hlk hK hAe hA hP hD hS ls hl hQQ
  have hl : lv_has ls 2 [(0, .ref (aB 0)), (1, .int (jx_i l1))] := hl
  have hx := C.1
  have hb := C.2.1
  unfold wp_B_take at h
  refine lv_iload_n hx hb dX7_take_0 rfl (lv_at hl 1 rfl) ?_
  refine jx_callSI C hK hP hD hS hA (ct_B_isBox l D cI cT  _  l1 h) ms_X7_isBox lk_X7_61 [] rfl rfl (fun _ => rfl) (cs' := (fun _ => [(cp_B aB (aT 0) (aS 0) (aC 0) (aU 0) (aV 0) (aW 0) (aH 0) (aO 0), sB), (cp_C aC (aT 0) (aS 0), sC), (cp_S aS (aT 0), sS), (cp_T aT, sT), (cp_H aH (fun j => hT j 0), sH), (cp_T (hT 0), sH0), (cp_T (hT 1), sH1), (cp_T (hT 2), sH2), (cp_T (hT 3), sH3)])) (fun _ => rfl) (fun _ => rfl) rfl rfl hl.1 rfl rfl dX7_take_1 ⟨Nat.le_refl _, Nat.le_refl _⟩ (fun r1 _ H locs h hP hD hS => ?_)
  have hP : va_P D vwCl (jx_ws cI cT [(cp_B aB (aT 0) (aS 0) (aC 0) (aU 0) (aV 0) (aW 0) (aH 0) (aO 0), sB), (cp_C aC (aT 0) (aS 0), sC), (cp_S aS (aT 0), sS), (cp_T aT, sT), (cp_H aH (fun j => hT j 0), sH), (cp_T (hT 0), sH0), (cp_T (hT 1), sH1), (cp_T (hT 2), sH2), (cp_T (hT 3), sH3)]) H := hP
  have hD : va_D A (jx_ws cI cT [(cp_B aB (aT 0) (aS 0) (aC 0) (aU 0) (aV 0) (aW 0) (aH 0) (aO 0), sB), (cp_C aC (aT 0) (aS 0), sC), (cp_S aS (aT 0), sS), (cp_T aT, sT), (cp_H aH (fun j => hT j 0), sH), (cp_T (hT 0), sH0), (cp_T (hT 1), sH1), (cp_T (hT 2), sH2), (cp_T (hT 3), sH3)]) := hD
  refine jx_zne C h.1 (tgt := 10) dX7_take_4 (by decide) (fun hc => ?_) (fun hc => ?_)
  · have h := h.2.2 hc
    refine lv_aload_n hx hb dX7_take_10 rfl (lv_at hl 0 rfl) ?_
    refine jx_getR C hK hP 0 0 0 rfl rfl rfl fl_X7_12 dX7_take_11 ?_
    refine lv_iload_n hx hb dX7_take_14 rfl (lv_at hl 1 rfl) ?_
    refine jx_callVI C hK hP hD hS hA (ct_T_has l D cI cT aT _ sT l1 h) ms_X6_has lk_X7_70 [3] rfl rfl (fun _ => rfl) (cs' := (fun _ => [(cp_B aB (aT 0) (aS 0) (aC 0) (aU 0) (aV 0) (aW 0) (aH 0) (aO 0), sB), (cp_C aC (aT 0) (aS 0), sC), (cp_S aS (aT 0), sS), (cp_T aT, sT), (cp_H aH (fun j => hT j 0), sH), (cp_T (hT 0), sH0), (cp_T (hT 1), sH1), (cp_T (hT 2), sH2), (cp_T (hT 3), sH3)])) (fun _ => rfl) (fun _ => rfl) 3 0 rfl rfl rfl rfl rfl hl.1 rfl rfl dX7_take_15 ⟨Nat.le_refl _, Nat.le_refl _⟩ (fun r15 _ H locs h hP hD hS => ?_)
    have hP : va_P D vwCl (jx_ws cI cT [(cp_B aB (aT 0) (aS 0) (aC 0) (aU 0) (aV 0) (aW 0) (aH 0) (aO 0), sB), (cp_C aC (aT 0) (aS 0), sC), (cp_S aS (aT 0), sS), (cp_T aT, sT), (cp_H aH (fun j => hT j 0), sH), (cp_T (hT 0), sH0), (cp_T (hT 1), sH1), (cp_T (hT 2), sH2), (cp_T (hT 3), sH3)]) H := hP
    have hD : va_D A (jx_ws cI cT [(cp_B aB (aT 0) (aS 0) (aC 0) (aU 0) (aV 0) (aW 0) (aH 0) (aO 0), sB), (cp_C aC (aT 0) (aS 0), sC), (cp_S aS (aT 0), sS), (cp_T aT, sT), (cp_H aH (fun j => hT j 0), sH), (cp_T (hT 0), sH0), (cp_T (hT 1), sH1), (cp_T (hT 2), sH2), (cp_T (hT 3), sH3)]) := hD
    refine jx_zne C h.1 (tgt := 24) dX7_take_18 (by decide) (fun hc => ?_) (fun hc => ?_)
    · have h := h.2.2 hc
      refine lv_aload_n hx hb dX7_take_24 rfl (lv_at hl 0 rfl) ?_
      refine jx_getR C hK hP 0 0 6 rfl rfl rfl fl_X7_46 dX7_take_25 ?_
      refine lv_aload_n hx hb dX7_take_28 rfl (lv_at hl 0 rfl) ?_
      refine jx_getR C hK hP 0 0 0 rfl rfl rfl fl_X7_12 dX7_take_29 ?_
      refine jx_callVV C hK hP hD hS hA (ct_H_record l D cI cT aH hT aT _ sT sH sH0 sH1 sH2 sH3  h) ms_X2_record lk_X7_74 [3, 4, 5, 6, 7, 8] rfl rfl (fun _ => rfl) (cs' := (fun u => [(cp_B aB (aT 0) (aS 0) (aC 0) (aU 0) (aV 0) (aW 0) (aH 0) (aO 0), sB), (cp_C aC (aT 0) (aS 0), sC), (cp_S aS (aT 0), sS), (cp_T aT, sT), (cp_H aH (fun j => hT j 0), u.1), (cp_T (hT 0), u.2.1), (cp_T (hT 1), u.2.2.1), (cp_T (hT 2), u.2.2.2.1), (cp_T (hT 3), u.2.2.2.2)])) (fun _ => rfl) (fun _ => rfl) 4 0 rfl rfl rfl rfl rfl hl.1 rfl rfl dX7_take_32 ⟨Nat.le_refl _, Nat.le_refl _⟩ (fun u H locs h hP hD hS => ?_)
      obtain ⟨sH_32, sH0_32, sH1_32, sH2_32, sH3_32⟩ := u
      dsimp only at h
      have hP : va_P D vwCl (jx_ws cI cT [(cp_B aB (aT 0) (aS 0) (aC 0) (aU 0) (aV 0) (aW 0) (aH 0) (aO 0), sB), (cp_C aC (aT 0) (aS 0), sC), (cp_S aS (aT 0), sS), (cp_T aT, sT), (cp_H aH (fun j => hT j 0), sH_32), (cp_T (hT 0), sH0_32), (cp_T (hT 1), sH1_32), (cp_T (hT 2), sH2_32), (cp_T (hT 3), sH3_32)]) H := hP
      have hD : va_D A (jx_ws cI cT [(cp_B aB (aT 0) (aS 0) (aC 0) (aU 0) (aV 0) (aW 0) (aH 0) (aO 0), sB), (cp_C aC (aT 0) (aS 0), sC), (cp_S aS (aT 0), sS), (cp_T aT, sT), (cp_H aH (fun j => hT j 0), sH_32), (cp_T (hT 0), sH0_32), (cp_T (hT 1), sH1_32), (cp_T (hT 2), sH2_32), (cp_T (hT 3), sH3_32)]) := hD
      refine lv_aload_n hx hb dX7_take_35 rfl (lv_at hl 0 rfl) ?_
      refine jx_getR C hK hP 0 0 2 rfl rfl rfl fl_X7_30 dX7_take_36 ?_
      refine lv_iload_n hx hb dX7_take_39 rfl (lv_at hl 1 rfl) ?_
      refine jx_callVV C hK hP hD hS hA (ct_C_takeOut l D cI cT aC aS aT _ sC sS sT l1 h) ms_X1_takeOut lk_X7_91 [1, 2, 3] rfl rfl (fun _ => rfl) (cs' := (fun u => [(cp_B aB (aT 0) (aS 0) (aC 0) (aU 0) (aV 0) (aW 0) (aH 0) (aO 0), sB), (cp_C aC (aT 0) (aS 0), u.1), (cp_S aS (aT 0), u.2.1), (cp_T aT, u.2.2), (cp_H aH (fun j => hT j 0), sH_32), (cp_T (hT 0), sH0_32), (cp_T (hT 1), sH1_32), (cp_T (hT 2), sH2_32), (cp_T (hT 3), sH3_32)])) (fun _ => rfl) (fun _ => rfl) 1 0 rfl rfl rfl rfl rfl hl.1 rfl rfl dX7_take_40 ⟨Nat.le_refl _, Nat.le_refl _⟩ (fun u H locs h hP hD hS => ?_)
      obtain ⟨sC_40, sS_40, sT_40⟩ := u
      dsimp only at h
      have hP : va_P D vwCl (jx_ws cI cT [(cp_B aB (aT 0) (aS 0) (aC 0) (aU 0) (aV 0) (aW 0) (aH 0) (aO 0), sB), (cp_C aC (aT 0) (aS 0), sC_40), (cp_S aS (aT 0), sS_40), (cp_T aT, sT_40), (cp_H aH (fun j => hT j 0), sH_32), (cp_T (hT 0), sH0_32), (cp_T (hT 1), sH1_32), (cp_T (hT 2), sH2_32), (cp_T (hT 3), sH3_32)]) H := hP
      have hD : va_D A (jx_ws cI cT [(cp_B aB (aT 0) (aS 0) (aC 0) (aU 0) (aV 0) (aW 0) (aH 0) (aO 0), sB), (cp_C aC (aT 0) (aS 0), sC_40), (cp_S aS (aT 0), sS_40), (cp_T aT, sT_40), (cp_H aH (fun j => hT j 0), sH_32), (cp_T (hT 0), sH0_32), (cp_T (hT 1), sH1_32), (cp_T (hT 2), sH2_32), (cp_T (hT 3), sH3_32)]) := hD
      refine lv_aload_n hx hb dX7_take_43 rfl (lv_at hl 0 rfl) ?_
      refine jx_getR C hK hP 0 0 0 rfl rfl rfl fl_X7_12 dX7_take_44 ?_
      refine jx_callVI C hK hP hD hS hA (ct_T_height l D cI cT aT _ sT_40  h) ms_X6_height lk_X7_87 [3] rfl rfl (fun _ => rfl) (cs' := (fun _ => [(cp_B aB (aT 0) (aS 0) (aC 0) (aU 0) (aV 0) (aW 0) (aH 0) (aO 0), sB), (cp_C aC (aT 0) (aS 0), sC_40), (cp_S aS (aT 0), sS_40), (cp_T aT, sT_40), (cp_H aH (fun j => hT j 0), sH_32), (cp_T (hT 0), sH0_32), (cp_T (hT 1), sH1_32), (cp_T (hT 2), sH2_32), (cp_T (hT 3), sH3_32)])) (fun _ => rfl) (fun _ => rfl) 3 0 rfl rfl rfl rfl rfl hl.1 rfl rfl dX7_take_47 ⟨Nat.le_refl _, Nat.le_refl _⟩ (fun r47 _ H locs h hP hD hS => ?_)
      have hP : va_P D vwCl (jx_ws cI cT [(cp_B aB (aT 0) (aS 0) (aC 0) (aU 0) (aV 0) (aW 0) (aH 0) (aO 0), sB), (cp_C aC (aT 0) (aS 0), sC_40), (cp_S aS (aT 0), sS_40), (cp_T aT, sT_40), (cp_H aH (fun j => hT j 0), sH_32), (cp_T (hT 0), sH0_32), (cp_T (hT 1), sH1_32), (cp_T (hT 2), sH2_32), (cp_T (hT 3), sH3_32)]) H := hP
      have hD : va_D A (jx_ws cI cT [(cp_B aB (aT 0) (aS 0) (aC 0) (aU 0) (aV 0) (aW 0) (aH 0) (aO 0), sB), (cp_C aC (aT 0) (aS 0), sC_40), (cp_S aS (aT 0), sS_40), (cp_T aT, sT_40), (cp_H aH (fun j => hT j 0), sH_32), (cp_T (hT 0), sH0_32), (cp_T (hT 1), sH1_32), (cp_T (hT 2), sH2_32), (cp_T (hT 3), sH3_32)]) := hD
      exact jx_rI C hr hlk hAe hS hQQ (sC_40, sS_40, sT_40, sH_32, sH0_32, sH1_32, sH2_32, sH3_32) hP h dX7_take_50
    · have h := h.2.1 hc
      refine jx_ldc C (-1000002) kc_X7_73 dX7_take_21 ?_
      exact jx_rI C hr hlk hAe hS hQQ (sC, sS, sT, sH, sH0, sH1, sH2, sH3) hP h dX7_take_23
  · have h := h.2.1 hc
    refine jx_ldc C (-1000001) kc_X7_69 dX7_take_7 ?_
    exact jx_rI C hr hlk hAe hS hQQ (sC, sS, sT, sH, sH0, sH1, sH2, sH3) hP h dX7_take_9
set_option maxRecDepth 100000 in
set_option maxHeartbeats 4000000 in
theorem ct_B_type (l : Launch) (D : va_G) (cI cT : ClassId) (aB : Nat → Nat) (aC : Nat → Nat) (aS : Nat → Nat) (aT : Nat → Nat) (aW : Nat → Nat) (aV : Nat → Nat) (aU : Nat → Nat) (aH : Nat → Nat) (hT : Nat → Nat → Nat) (aO : Nat → Nat) (Q : Int → jx_St → Prop) (sB : jx_St) (sO : jx_St) (l1 : Int) (h : wp_B_type Q sB sO l1) : jx_KI jx_St l D cI cT yX7_type cX7_type 2 .int 2 43 [.ref (aB 0), .int (jx_i l1)] [(cp_B aB (aT 0) (aS 0) (aC 0) (aU 0) (aV 0) (aW 0) (aH 0) (aO 0), sB), (cp_O aO, sO)] (fun u => [(cp_B aB (aT 0) (aS 0) (aC 0) (aU 0) (aV 0) (aW 0) (aH 0) (aO 0), sB), (cp_O aO, u)]) Q := by
  refine jx_ent (own := RX7) (by decide) rfl (Nat.le_of_ble_eq_true rfl) ?_
  intro p e s m args below meth c A QQ C hr hlk hK hAe hA hP hD hS ls hl hQQ
  have hl : lv_has ls 2 [(0, .ref (aB 0)), (1, .int (jx_i l1))] := hl
  have hx := C.1
  have hb := C.2.1
  unfold wp_B_type at h
  refine lv_iload_n hx hb dX7_type_0 rfl (lv_at hl 1 rfl) ?_
  refine jx_bipush C dX7_type_1 (by decide) ?_
  refine jx_clt C h.1 (jx_inR (by decide) (by decide)) (tgt := 12) dX7_type_3 (by decide) (fun hc => ?_) (fun hc => ?_)
  · have h := h.2.1 hc
    refine jx_ldc C (-1000001) kc_X7_69 dX7_type_12 ?_
    exact jx_rI C hr hlk hAe hS hQQ sO hP h dX7_type_14
  · have h := h.2.2 hc
    refine lv_iload_n hx hb dX7_type_6 rfl (lv_at hl 1 rfl) ?_
    refine jx_bipush C dX7_type_7 (by decide) ?_
    refine jx_cle C h.1 (jx_inR (by decide) (by decide)) (tgt := 15) dX7_type_9 (by decide) (fun hc => ?_) (fun hc => ?_)
    · have h := h.2.1 hc
      refine lv_aload_n hx hb dX7_type_15 rfl (lv_at hl 0 rfl) ?_
      refine jx_getR C hK hP 0 0 7 rfl rfl rfl fl_X7_53 dX7_type_16 ?_
      refine jx_getNI C hK hP 1 0 1 rfl rfl rfl fn_X7_197 dX7_type_19 ?_
      refine jx_bipush C dX7_type_22 (by decide) ?_
      refine jx_clt C h.1 (jx_inR (by decide) (by decide)) (tgt := 30) dX7_type_24 (by decide) (fun hc => ?_) (fun hc => ?_)
      · have h := h.2.1 hc
        refine lv_aload_n hx hb dX7_type_30 rfl (lv_at hl 0 rfl) ?_
        refine jx_getR C hK hP 0 0 7 rfl rfl rfl fl_X7_53 dX7_type_31 ?_
        refine lv_iload_n hx hb dX7_type_34 rfl (lv_at hl 1 rfl) ?_
        refine jx_callVV C hK hP hD hS hA (ct_O_append l D cI cT aO _ sO l1 h) ms_X3_append lk_X7_207 [1] rfl rfl (fun _ => rfl) (cs' := (fun u => [(cp_B aB (aT 0) (aS 0) (aC 0) (aU 0) (aV 0) (aW 0) (aH 0) (aO 0), sB), (cp_O aO, u)])) (fun _ => rfl) (fun _ => rfl) 1 0 rfl rfl rfl rfl rfl hl.1 rfl rfl dX7_type_35 ⟨Nat.le_refl _, Nat.le_refl _⟩ (fun sO_35 H locs h hP hD hS => ?_)
        have hP : va_P D vwCl (jx_ws cI cT [(cp_B aB (aT 0) (aS 0) (aC 0) (aU 0) (aV 0) (aW 0) (aH 0) (aO 0), sB), (cp_O aO, sO_35)]) H := hP
        have hD : va_D A (jx_ws cI cT [(cp_B aB (aT 0) (aS 0) (aC 0) (aU 0) (aV 0) (aW 0) (aH 0) (aO 0), sB), (cp_O aO, sO_35)]) := hD
        refine lv_aload_n hx hb dX7_type_38 rfl (lv_at hl 0 rfl) ?_
        refine jx_getR C hK hP 0 0 7 rfl rfl rfl fl_X7_53 dX7_type_39 ?_
        refine jx_getNI C hK hP 1 0 1 rfl rfl rfl fn_X7_197 dX7_type_42 ?_
        exact jx_rI C hr hlk hAe hS hQQ sO_35 hP h dX7_type_45
      · have h := h.2.2 hc
        refine jx_ldc C (-1000003) kc_X7_206 dX7_type_27 ?_
        exact jx_rI C hr hlk hAe hS hQQ sO hP h dX7_type_29
    · have h := h.2.2 hc
      refine jx_ldc C (-1000001) kc_X7_69 dX7_type_12 ?_
      exact jx_rI C hr hlk hAe hS hQQ sO hP h dX7_type_14
set_option maxRecDepth 100000 in
set_option maxHeartbeats 4000000 in
theorem ct_B_undo (l : Launch) (D : va_G) (cI cT : ClassId) (aB : Nat → Nat) (aC : Nat → Nat) (aS : Nat → Nat) (aT : Nat → Nat) (aW : Nat → Nat) (aV : Nat → Nat) (aU : Nat → Nat) (aH : Nat → Nat) (hT : Nat → Nat → Nat) (aO : Nat → Nat) (Q : Int → jx_St → jx_St → Prop) (sB : jx_St) (sT : jx_St) (sH : jx_St) (sH0 : jx_St) (sH1 : jx_St) (sH2 : jx_St) (sH3 : jx_St) (h : wp_B_undo Q sB sT sH sH0 sH1 sH2 sH3) : jx_KI (jx_St × jx_St) l D cI cT yX7_undo cX7_undo 1 .int 3 83 [.ref (aB 0)] [(cp_B aB (aT 0) (aS 0) (aC 0) (aU 0) (aV 0) (aW 0) (aH 0) (aO 0), sB), (cp_T aT, sT), (cp_H aH (fun j => hT j 0), sH), (cp_T (hT 0), sH0), (cp_T (hT 1), sH1), (cp_T (hT 2), sH2), (cp_T (hT 3), sH3)] (fun u => [(cp_B aB (aT 0) (aS 0) (aC 0) (aU 0) (aV 0) (aW 0) (aH 0) (aO 0), sB), (cp_T aT, u.1), (cp_H aH (fun j => hT j 0), u.2), (cp_T (hT 0), sH0), (cp_T (hT 1), sH1), (cp_T (hT 2), sH2), (cp_T (hT 3), sH3)]) (fun x u => Q x u.1 u.2) := by
  refine jx_ent (own := RX7) (by decide) rfl (Nat.le_of_ble_eq_true rfl) ?_
  intro p e s m args below meth c A QQ C hr hlk hK hAe hA hP hD hS ls hl hQQ
  have hl : lv_has ls 1 [(0, .ref (aB 0))] := hl
  have hx := C.1
  have hb := C.2.1
  unfold wp_B_undo at h
  refine lv_aload_n hx hb dX7_undo_0 rfl (lv_at hl 0 rfl) ?_
  refine jx_getR C hK hP 0 0 6 rfl rfl rfl fl_X7_46 dX7_undo_1 ?_
  refine jx_getNI C hK hP 2 0 2 rfl rfl rfl fn_X7_194 dX7_undo_4 ?_
  refine jx_zne C h.1 (tgt := 13) dX7_undo_7 (by decide) (fun hc => ?_) (fun hc => ?_)
  · have h := h.2.2 hc
    refine lv_aload_n hx hb dX7_undo_13 rfl (lv_at hl 0 rfl) ?_
    refine jx_getR C hK hP 0 0 6 rfl rfl rfl fl_X7_46 dX7_undo_14 ?_
    refine lv_aload_n hx hb dX7_undo_17 rfl (lv_at hl 0 rfl) ?_
    refine jx_getR C hK hP 0 0 0 rfl rfl rfl fl_X7_12 dX7_undo_18 ?_
    refine jx_callVV C hK hP hD hS hA (ct_H_restore l D cI cT aH hT aT _ sT sH sH0 sH1 sH2 sH3  h) ms_X2_restore lk_X7_203 [1, 2, 3, 4, 5, 6] rfl rfl (fun _ => rfl) (cs' := (fun u => [(cp_B aB (aT 0) (aS 0) (aC 0) (aU 0) (aV 0) (aW 0) (aH 0) (aO 0), sB), (cp_T aT, u.1), (cp_H aH (fun j => hT j 0), u.2), (cp_T (hT 0), sH0), (cp_T (hT 1), sH1), (cp_T (hT 2), sH2), (cp_T (hT 3), sH3)])) (fun _ => rfl) (fun _ => rfl) 2 0 rfl rfl rfl rfl rfl hl.1 rfl rfl dX7_undo_21 ⟨Nat.le_refl _, Nat.le_refl _⟩ (fun u H locs h hP hD hS => ?_)
    obtain ⟨sT_21, sH_21⟩ := u
    dsimp only at h
    have hP : va_P D vwCl (jx_ws cI cT [(cp_B aB (aT 0) (aS 0) (aC 0) (aU 0) (aV 0) (aW 0) (aH 0) (aO 0), sB), (cp_T aT, sT_21), (cp_H aH (fun j => hT j 0), sH_21), (cp_T (hT 0), sH0), (cp_T (hT 1), sH1), (cp_T (hT 2), sH2), (cp_T (hT 3), sH3)]) H := hP
    have hD : va_D A (jx_ws cI cT [(cp_B aB (aT 0) (aS 0) (aC 0) (aU 0) (aV 0) (aW 0) (aH 0) (aO 0), sB), (cp_T aT, sT_21), (cp_H aH (fun j => hT j 0), sH_21), (cp_T (hT 0), sH0), (cp_T (hT 1), sH1), (cp_T (hT 2), sH2), (cp_T (hT 3), sH3)]) := hD
    refine lv_aload_n hx hb dX7_undo_24 rfl (lv_at hl 0 rfl) ?_
    refine jx_getR C hK hP 0 0 6 rfl rfl rfl fl_X7_46 dX7_undo_25 ?_
    refine jx_getNI C hK hP 2 0 2 rfl rfl rfl fn_X7_194 dX7_undo_28 ?_
    exact jx_rI C hr hlk hAe hS hQQ (sT_21, sH_21) hP h dX7_undo_31
  · have h := h.2.1 hc
    refine jx_ldc C (-1000002) kc_X7_73 dX7_undo_10 ?_
    exact jx_rI C hr hlk hAe hS hQQ (sT, sH) hP h dX7_undo_12
set_option maxRecDepth 100000 in
set_option maxHeartbeats 4000000 in
theorem ct_B_window (l : Launch) (D : va_G) (cI cT : ClassId) (aB : Nat → Nat) (aC : Nat → Nat) (aS : Nat → Nat) (aT : Nat → Nat) (aW : Nat → Nat) (aV : Nat → Nat) (aU : Nat → Nat) (aH : Nat → Nat) (hT : Nat → Nat → Nat) (aO : Nat → Nat) (Q : Int → jx_St → Prop) (sB : jx_St) (sS : jx_St) (sT : jx_St) (l1 : Int) (l2 : Int) (l3 : Int) (l4 : Int) (l5 : Int) (h : wp_B_window Q sB sS sT l1 l2 l3 l4 l5) : jx_KI jx_St l D cI cT yX7_window cX7_window 7 .int 4 91 [.ref (aB 0), .int (jx_i l1), .int (jx_i l2), .int (jx_i l3), .int (jx_i l4), .int (jx_i l5)] [(cp_B aB (aT 0) (aS 0) (aC 0) (aU 0) (aV 0) (aW 0) (aH 0) (aO 0), sB), (cp_S aS (aT 0), sS), (cp_T aT, sT)] (fun u => [(cp_B aB (aT 0) (aS 0) (aC 0) (aU 0) (aV 0) (aW 0) (aH 0) (aO 0), sB), (cp_S aS (aT 0), u), (cp_T aT, sT)]) Q := by
  refine jx_ent (own := RX7) (by decide) rfl (Nat.le_of_ble_eq_true rfl) ?_
  intro p e s m args below meth c A QQ C hr hlk hK hAe hA hP hD hS ls hl hQQ
  have hl : lv_has ls 7 [(0, .ref (aB 0)), (1, .int (jx_i l1)), (2, .int (jx_i l2)), (3, .int (jx_i l3)), (4, .int (jx_i l4)), (5, .int (jx_i l5))] := hl
  have hx := C.1
  have hb := C.2.1
  unfold wp_B_window at h
  refine lv_iload_n hx hb dX7_window_0 rfl (lv_at hl 1 rfl) ?_
  refine lv_iload_n hx hb dX7_window_1 rfl (lv_at hl 2 rfl) ?_
  refine lv_iload_n hx hb dX7_window_2 rfl (lv_at hl 3 rfl) ?_
  refine lv_iload hx hb dX7_window_3 (lv_at hl 4 rfl) ?_
  refine jx_callSI C hK hP hD hS hA (ct_B_isWindow l D cI cT  _  l1 l2 l3 l4 h) ms_X7_isWindow lk_X7_65 [] rfl rfl (fun _ => rfl) (cs' := (fun _ => [(cp_B aB (aT 0) (aS 0) (aC 0) (aU 0) (aV 0) (aW 0) (aH 0) (aO 0), sB), (cp_S aS (aT 0), sS), (cp_T aT, sT)])) (fun _ => rfl) (fun _ => rfl) rfl rfl hl.1 rfl rfl dX7_window_5 ⟨Nat.le_refl _, Nat.le_refl _⟩ (fun r5 _ H locs h hP hD hS => ?_)
  have hP : va_P D vwCl (jx_ws cI cT [(cp_B aB (aT 0) (aS 0) (aC 0) (aU 0) (aV 0) (aW 0) (aH 0) (aO 0), sB), (cp_S aS (aT 0), sS), (cp_T aT, sT)]) H := hP
  have hD : va_D A (jx_ws cI cT [(cp_B aB (aT 0) (aS 0) (aC 0) (aU 0) (aV 0) (aW 0) (aH 0) (aO 0), sB), (cp_S aS (aT 0), sS), (cp_T aT, sT)]) := hD
  refine jx_zeq C h.1 (tgt := 20) dX7_window_8 (by decide) (fun hc => ?_) (fun hc => ?_)
  · have h := h.2.1 hc
    refine jx_ldc C (-1000001) kc_X7_69 dX7_window_20 ?_
    exact jx_rI C hr hlk hAe hS hQQ sS hP h dX7_window_22
  · have h := h.2.2 hc
    refine lv_iload hx hb dX7_window_11 (lv_at hl 5 rfl) ?_
    refine jx_iconst C dX7_window_13 ?_
    refine jx_callSI C hK hP hD hS hA (ct_B_isUpTo l D cI cT  _  l5 1 h) ms_X7_isUpTo lk_X7_95 [] rfl rfl (fun _ => rfl) (cs' := (fun _ => [(cp_B aB (aT 0) (aS 0) (aC 0) (aU 0) (aV 0) (aW 0) (aH 0) (aO 0), sB), (cp_S aS (aT 0), sS), (cp_T aT, sT)])) (fun _ => rfl) (fun _ => rfl) rfl rfl hl.1 rfl rfl dX7_window_14 ⟨Nat.le_refl _, Nat.le_refl _⟩ (fun r14 _ H locs h hP hD hS => ?_)
    have hP : va_P D vwCl (jx_ws cI cT [(cp_B aB (aT 0) (aS 0) (aC 0) (aU 0) (aV 0) (aW 0) (aH 0) (aO 0), sB), (cp_S aS (aT 0), sS), (cp_T aT, sT)]) H := hP
    have hD : va_D A (jx_ws cI cT [(cp_B aB (aT 0) (aS 0) (aC 0) (aU 0) (aV 0) (aW 0) (aH 0) (aO 0), sB), (cp_S aS (aT 0), sS), (cp_T aT, sT)]) := hD
    refine jx_zne C h.1 (tgt := 23) dX7_window_17 (by decide) (fun hc => ?_) (fun hc => ?_)
    · have h := h.2.2 hc
      refine lv_iload_n hx hb dX7_window_23 rfl (lv_at hl 1 rfl) ?_
      refine lv_iload_n hx hb dX7_window_24 rfl (lv_at hl 2 rfl) ?_
      refine lv_iload_n hx hb dX7_window_25 rfl (lv_at hl 3 rfl) ?_
      refine lv_iload hx hb dX7_window_26 (lv_at hl 4 rfl) ?_
      refine jx_callSI C hK hP hD hS hA (ct_Box_of l D cI cT  _  l1 l2 l3 l4 h) ms_X0_of lk_X7_77 [] rfl rfl (fun _ => rfl) (cs' := (fun _ => [(cp_B aB (aT 0) (aS 0) (aC 0) (aU 0) (aV 0) (aW 0) (aH 0) (aO 0), sB), (cp_S aS (aT 0), sS), (cp_T aT, sT)])) (fun _ => rfl) (fun _ => rfl) rfl rfl hl.1 rfl rfl dX7_window_28 ⟨Nat.le_refl _, Nat.le_refl _⟩ (fun r28 _ H locs h hP hD hS => ?_)
      have hP : va_P D vwCl (jx_ws cI cT [(cp_B aB (aT 0) (aS 0) (aC 0) (aU 0) (aV 0) (aW 0) (aH 0) (aO 0), sB), (cp_S aS (aT 0), sS), (cp_T aT, sT)]) H := hP
      have hD : va_D A (jx_ws cI cT [(cp_B aB (aT 0) (aS 0) (aC 0) (aU 0) (aV 0) (aW 0) (aH 0) (aO 0), sB), (cp_S aS (aT 0), sS), (cp_T aT, sT)]) := hD
      refine lv_istore (lv' := [(6, .int (jx_i r28)), (0, .ref (aB 0)), (1, .int (jx_i l1)), (2, .int (jx_i l2)), (3, .int (jx_i l3)), (4, .int (jx_i l4)), (5, .int (jx_i l5))]) hx hb dX7_window_31 hl (by decide) rfl (fun ls hl => ?_)
      refine lv_iload hx hb dX7_window_33 (lv_at hl 6 rfl) ?_
      refine jx_zne C h.1 (tgt := 50) dX7_window_35 (by decide) (fun hc => ?_) (fun hc => ?_)
      · have h := h.2.2 hc
        refine lv_aload_n hx hb dX7_window_50 rfl (lv_at hl 1 rfl) ?_
        refine jx_getR C hK hP 0 0 1 rfl rfl rfl fl_X7_21 dX7_window_51 ?_
        refine lv_iload hx hb dX7_window_54 (lv_at hl 0 rfl) ?_
        refine jx_callVI C hK hP hD hS hA (ct_S_nodesTouching l D cI cT aS aT _ sS sT r28 h) ms_X5_nodesTouching lk_X7_148 [1, 2] rfl rfl (fun _ => rfl) (cs' := (fun u => [(cp_B aB (aT 0) (aS 0) (aC 0) (aU 0) (aV 0) (aW 0) (aH 0) (aO 0), sB), (cp_S aS (aT 0), u), (cp_T aT, sT)])) (fun _ => rfl) (fun _ => rfl) 1 0 rfl rfl rfl rfl rfl hl.1 rfl rfl dX7_window_56 ⟨Nat.le_refl _, Nat.le_refl _⟩ (fun r56 sS_56 H locs h hP hD hS => ?_)
        have hP : va_P D vwCl (jx_ws cI cT [(cp_B aB (aT 0) (aS 0) (aC 0) (aU 0) (aV 0) (aW 0) (aH 0) (aO 0), sB), (cp_S aS (aT 0), sS_56), (cp_T aT, sT)]) H := hP
        have hD : va_D A (jx_ws cI cT [(cp_B aB (aT 0) (aS 0) (aC 0) (aU 0) (aV 0) (aW 0) (aH 0) (aO 0), sB), (cp_S aS (aT 0), sS_56), (cp_T aT, sT)]) := hD
        exact jx_rI C hr hlk hAe hS hQQ sS_56 hP h dX7_window_59
      · have h := h.2.1 hc
        refine lv_aload_n hx hb dX7_window_38 rfl (lv_at hl 1 rfl) ?_
        refine jx_getR C hK hP 0 0 0 rfl rfl rfl fl_X7_12 dX7_window_39 ?_
        refine lv_iload hx hb dX7_window_42 (lv_at hl 0 rfl) ?_
        refine jx_callVI C hK hP hD hS hA (ct_T_boxesTouching l D cI cT aT _ sT r28 h) ms_X6_boxesTouching lk_X7_145 [2] rfl rfl (fun _ => rfl) (cs' := (fun _ => [(cp_B aB (aT 0) (aS 0) (aC 0) (aU 0) (aV 0) (aW 0) (aH 0) (aO 0), sB), (cp_S aS (aT 0), sS), (cp_T aT, sT)])) (fun _ => rfl) (fun _ => rfl) 2 0 rfl rfl rfl rfl rfl hl.1 rfl rfl dX7_window_44 ⟨Nat.le_refl _, Nat.le_refl _⟩ (fun r44 _ H locs h hP hD hS => ?_)
        have hP : va_P D vwCl (jx_ws cI cT [(cp_B aB (aT 0) (aS 0) (aC 0) (aU 0) (aV 0) (aW 0) (aH 0) (aO 0), sB), (cp_S aS (aT 0), sS), (cp_T aT, sT)]) H := hP
        have hD : va_D A (jx_ws cI cT [(cp_B aB (aT 0) (aS 0) (aC 0) (aU 0) (aV 0) (aW 0) (aH 0) (aO 0), sB), (cp_S aS (aT 0), sS), (cp_T aT, sT)]) := hD
        refine lv_goto (tgt := 59) hx hb dX7_window_47 (by decide) ?_
        exact jx_rI C hr hlk hAe hS hQQ sS hP h dX7_window_59
    · have h := h.2.1 hc
      refine jx_ldc C (-1000001) kc_X7_69 dX7_window_20 ?_
      exact jx_rI C hr hlk hAe hS hQQ sS hP h dX7_window_22
set_option maxRecDepth 100000 in
set_option maxHeartbeats 4000000 in
theorem ct_B_would (l : Launch) (D : va_G) (cI cT : ClassId) (aB : Nat → Nat) (aC : Nat → Nat) (aS : Nat → Nat) (aT : Nat → Nat) (aW : Nat → Nat) (aV : Nat → Nat) (aU : Nat → Nat) (aH : Nat → Nat) (hT : Nat → Nat → Nat) (aO : Nat → Nat) (Q : Int → jx_St → jx_St → jx_St → jx_St → Prop) (sB : jx_St) (sS : jx_St) (sT : jx_St) (sW : jx_St) (sV : jx_St) (sU : jx_St) (l1 : Int) (l2 : Int) (l3 : Int) (l4 : Int) (l5 : Int) (h : wp_B_would Q sB sS sT sW sV sU l1 l2 l3 l4 l5) : jx_KI (jx_St × jx_St × jx_St × jx_St) l D cI cT yX7_would cX7_would 9 .int 7 174 [.ref (aB 0), .int (jx_i l1), .int (jx_i l2), .int (jx_i l3), .int (jx_i l4), .int (jx_i l5)] [(cp_B aB (aT 0) (aS 0) (aC 0) (aU 0) (aV 0) (aW 0) (aH 0) (aO 0), sB), (cp_S aS (aT 0), sS), (cp_T aT, sT), (cp_C aW (aU 0) (aV 0), sW), (cp_S aV (aU 0), sV), (cp_T aU, sU)] (fun u => [(cp_B aB (aT 0) (aS 0) (aC 0) (aU 0) (aV 0) (aW 0) (aH 0) (aO 0), sB), (cp_S aS (aT 0), u.1), (cp_T aT, sT), (cp_C aW (aU 0) (aV 0), u.2.1), (cp_S aV (aU 0), u.2.2.1), (cp_T aU, u.2.2.2)]) (fun x u => Q x u.1 u.2.1 u.2.2.1 u.2.2.2) := by
  refine jx_ent (own := RX7) (by decide) rfl (Nat.le_of_ble_eq_true rfl) ?_
  intro p e s m args below meth c A QQ C hr hlk hK hAe hA hP hD hS ls hl hQQ
  have hl : lv_has ls 9 [(0, .ref (aB 0)), (1, .int (jx_i l1)), (2, .int (jx_i l2)), (3, .int (jx_i l3)), (4, .int (jx_i l4)), (5, .int (jx_i l5))] := hl
  have hx := C.1
  have hb := C.2.1
  unfold wp_B_would at h
  refine lv_iload_n hx hb dX7_would_0 rfl (lv_at hl 1 rfl) ?_
  refine lv_iload_n hx hb dX7_would_1 rfl (lv_at hl 2 rfl) ?_
  refine lv_iload_n hx hb dX7_would_2 rfl (lv_at hl 3 rfl) ?_
  refine lv_iload hx hb dX7_would_3 (lv_at hl 4 rfl) ?_
  refine jx_callSI C hK hP hD hS hA (ct_B_isWindow l D cI cT  _  l1 l2 l3 l4 h) ms_X7_isWindow lk_X7_65 [] rfl rfl (fun _ => rfl) (cs' := (fun _ => [(cp_B aB (aT 0) (aS 0) (aC 0) (aU 0) (aV 0) (aW 0) (aH 0) (aO 0), sB), (cp_S aS (aT 0), sS), (cp_T aT, sT), (cp_C aW (aU 0) (aV 0), sW), (cp_S aV (aU 0), sV), (cp_T aU, sU)])) (fun _ => rfl) (fun _ => rfl) rfl rfl hl.1 rfl rfl dX7_would_5 ⟨Nat.le_refl _, Nat.le_refl _⟩ (fun r5 _ H locs h hP hD hS => ?_)
  have hP : va_P D vwCl (jx_ws cI cT [(cp_B aB (aT 0) (aS 0) (aC 0) (aU 0) (aV 0) (aW 0) (aH 0) (aO 0), sB), (cp_S aS (aT 0), sS), (cp_T aT, sT), (cp_C aW (aU 0) (aV 0), sW), (cp_S aV (aU 0), sV), (cp_T aU, sU)]) H := hP
  have hD : va_D A (jx_ws cI cT [(cp_B aB (aT 0) (aS 0) (aC 0) (aU 0) (aV 0) (aW 0) (aH 0) (aO 0), sB), (cp_S aS (aT 0), sS), (cp_T aT, sT), (cp_C aW (aU 0) (aV 0), sW), (cp_S aV (aU 0), sV), (cp_T aU, sU)]) := hD
  refine jx_zeq C h.1 (tgt := 20) dX7_would_8 (by decide) (fun hc => ?_) (fun hc => ?_)
  · have h := h.2.1 hc
    refine jx_ldc C (-1000001) kc_X7_69 dX7_would_20 ?_
    exact jx_rI C hr hlk hAe hS hQQ (sS, sW, sV, sU) hP h dX7_would_22
  · have h := h.2.2 hc
    refine lv_iload hx hb dX7_would_11 (lv_at hl 5 rfl) ?_
    refine jx_iconst C dX7_would_13 ?_
    refine jx_callSI C hK hP hD hS hA (ct_B_isUpTo l D cI cT  _  l5 4 h) ms_X7_isUpTo lk_X7_95 [] rfl rfl (fun _ => rfl) (cs' := (fun _ => [(cp_B aB (aT 0) (aS 0) (aC 0) (aU 0) (aV 0) (aW 0) (aH 0) (aO 0), sB), (cp_S aS (aT 0), sS), (cp_T aT, sT), (cp_C aW (aU 0) (aV 0), sW), (cp_S aV (aU 0), sV), (cp_T aU, sU)])) (fun _ => rfl) (fun _ => rfl) rfl rfl hl.1 rfl rfl dX7_would_14 ⟨Nat.le_refl _, Nat.le_refl _⟩ (fun r14 _ H locs h hP hD hS => ?_)
    have hP : va_P D vwCl (jx_ws cI cT [(cp_B aB (aT 0) (aS 0) (aC 0) (aU 0) (aV 0) (aW 0) (aH 0) (aO 0), sB), (cp_S aS (aT 0), sS), (cp_T aT, sT), (cp_C aW (aU 0) (aV 0), sW), (cp_S aV (aU 0), sV), (cp_T aU, sU)]) H := hP
    have hD : va_D A (jx_ws cI cT [(cp_B aB (aT 0) (aS 0) (aC 0) (aU 0) (aV 0) (aW 0) (aH 0) (aO 0), sB), (cp_S aS (aT 0), sS), (cp_T aT, sT), (cp_C aW (aU 0) (aV 0), sW), (cp_S aV (aU 0), sV), (cp_T aU, sU)]) := hD
    refine jx_zne C h.1 (tgt := 23) dX7_would_17 (by decide) (fun hc => ?_) (fun hc => ?_)
    · have h := h.2.2 hc
      refine lv_aload_n hx hb dX7_would_23 rfl (lv_at hl 0 rfl) ?_
      refine jx_getR C hK hP 0 0 0 rfl rfl rfl fl_X7_12 dX7_would_24 ?_
      refine jx_callVI C hK hP hD hS hA (ct_T_freeNumber l D cI cT aT _ sT  h) ms_X6_freeNumber lk_X7_164 [2] rfl rfl (fun _ => rfl) (cs' := (fun _ => [(cp_B aB (aT 0) (aS 0) (aC 0) (aU 0) (aV 0) (aW 0) (aH 0) (aO 0), sB), (cp_S aS (aT 0), sS), (cp_T aT, sT), (cp_C aW (aU 0) (aV 0), sW), (cp_S aV (aU 0), sV), (cp_T aU, sU)])) (fun _ => rfl) (fun _ => rfl) 2 0 rfl rfl rfl rfl rfl hl.1 rfl rfl dX7_would_27 ⟨Nat.le_refl _, Nat.le_refl _⟩ (fun r27 _ H locs h hP hD hS => ?_)
      have hP : va_P D vwCl (jx_ws cI cT [(cp_B aB (aT 0) (aS 0) (aC 0) (aU 0) (aV 0) (aW 0) (aH 0) (aO 0), sB), (cp_S aS (aT 0), sS), (cp_T aT, sT), (cp_C aW (aU 0) (aV 0), sW), (cp_S aV (aU 0), sV), (cp_T aU, sU)]) H := hP
      have hD : va_D A (jx_ws cI cT [(cp_B aB (aT 0) (aS 0) (aC 0) (aU 0) (aV 0) (aW 0) (aH 0) (aO 0), sB), (cp_S aS (aT 0), sS), (cp_T aT, sT), (cp_C aW (aU 0) (aV 0), sW), (cp_S aV (aU 0), sV), (cp_T aU, sU)]) := hD
      refine lv_istore (lv' := [(6, .int (jx_i r27)), (0, .ref (aB 0)), (1, .int (jx_i l1)), (2, .int (jx_i l2)), (3, .int (jx_i l3)), (4, .int (jx_i l4)), (5, .int (jx_i l5))]) hx hb dX7_would_30 hl (by decide) rfl (fun ls hl => ?_)
      refine lv_iload hx hb dX7_would_32 (lv_at hl 0 rfl) ?_
      refine jx_iconst C dX7_would_34 ?_
      refine jx_cne C h.1 (jx_inR (by decide) (by decide)) (tgt := 41) dX7_would_35 (by decide) (fun hc => ?_) (fun hc => ?_)
      · have h := h.2.2 hc
        refine lv_iload_n hx hb dX7_would_41 rfl (lv_at hl 2 rfl) ?_
        refine lv_iload_n hx hb dX7_would_42 rfl (lv_at hl 3 rfl) ?_
        refine lv_iload_n hx hb dX7_would_43 rfl (lv_at hl 4 rfl) ?_
        refine lv_iload hx hb dX7_would_44 (lv_at hl 5 rfl) ?_
        refine jx_callSI C hK hP hD hS hA (ct_Box_of l D cI cT  _  l1 l2 l3 l4 h) ms_X0_of lk_X7_77 [] rfl rfl (fun _ => rfl) (cs' := (fun _ => [(cp_B aB (aT 0) (aS 0) (aC 0) (aU 0) (aV 0) (aW 0) (aH 0) (aO 0), sB), (cp_S aS (aT 0), sS), (cp_T aT, sT), (cp_C aW (aU 0) (aV 0), sW), (cp_S aV (aU 0), sV), (cp_T aU, sU)])) (fun _ => rfl) (fun _ => rfl) rfl rfl hl.1 rfl rfl dX7_would_46 ⟨Nat.le_refl _, Nat.le_refl _⟩ (fun r46 _ H locs h hP hD hS => ?_)
        have hP : va_P D vwCl (jx_ws cI cT [(cp_B aB (aT 0) (aS 0) (aC 0) (aU 0) (aV 0) (aW 0) (aH 0) (aO 0), sB), (cp_S aS (aT 0), sS), (cp_T aT, sT), (cp_C aW (aU 0) (aV 0), sW), (cp_S aV (aU 0), sV), (cp_T aU, sU)]) H := hP
        have hD : va_D A (jx_ws cI cT [(cp_B aB (aT 0) (aS 0) (aC 0) (aU 0) (aV 0) (aW 0) (aH 0) (aO 0), sB), (cp_S aS (aT 0), sS), (cp_T aT, sT), (cp_C aW (aU 0) (aV 0), sW), (cp_S aV (aU 0), sV), (cp_T aU, sU)]) := hD
        refine lv_istore (lv' := [(7, .int (jx_i r46)), (6, .int (jx_i r27)), (0, .ref (aB 0)), (1, .int (jx_i l1)), (2, .int (jx_i l2)), (3, .int (jx_i l3)), (4, .int (jx_i l4)), (5, .int (jx_i l5))]) hx hb dX7_would_49 hl (by decide) rfl (fun ls hl => ?_)
        refine lv_aload_n hx hb dX7_would_51 rfl (lv_at hl 2 rfl) ?_
        refine jx_getR C hK hP 0 0 0 rfl rfl rfl fl_X7_12 dX7_would_52 ?_
        refine lv_iload hx hb dX7_would_55 (lv_at hl 0 rfl) ?_
        refine jx_iconst C dX7_would_57 ?_
        refine jx_callVI C hK hP hD hS hA (ct_T_nodeFor l D cI cT aT _ sT r46 0 h) ms_X6_nodeFor lk_X7_167 [2] rfl rfl (fun _ => rfl) (cs' := (fun _ => [(cp_B aB (aT 0) (aS 0) (aC 0) (aU 0) (aV 0) (aW 0) (aH 0) (aO 0), sB), (cp_S aS (aT 0), sS), (cp_T aT, sT), (cp_C aW (aU 0) (aV 0), sW), (cp_S aV (aU 0), sV), (cp_T aU, sU)])) (fun _ => rfl) (fun _ => rfl) 2 0 rfl rfl rfl rfl rfl hl.1 rfl rfl dX7_would_58 ⟨Nat.le_refl _, Nat.le_refl _⟩ (fun r58 _ H locs h hP hD hS => ?_)
        have hP : va_P D vwCl (jx_ws cI cT [(cp_B aB (aT 0) (aS 0) (aC 0) (aU 0) (aV 0) (aW 0) (aH 0) (aO 0), sB), (cp_S aS (aT 0), sS), (cp_T aT, sT), (cp_C aW (aU 0) (aV 0), sW), (cp_S aV (aU 0), sV), (cp_T aU, sU)]) H := hP
        have hD : va_D A (jx_ws cI cT [(cp_B aB (aT 0) (aS 0) (aC 0) (aU 0) (aV 0) (aW 0) (aH 0) (aO 0), sB), (cp_S aS (aT 0), sS), (cp_T aT, sT), (cp_C aW (aU 0) (aV 0), sW), (cp_S aV (aU 0), sV), (cp_T aU, sU)]) := hD
        refine lv_istore (lv' := [(8, .int (jx_i r58)), (7, .int (jx_i r46)), (6, .int (jx_i r27)), (0, .ref (aB 0)), (1, .int (jx_i l1)), (2, .int (jx_i l2)), (3, .int (jx_i l3)), (4, .int (jx_i l4)), (5, .int (jx_i l5))]) hx hb dX7_would_61 hl (by decide) rfl (fun ls hl => ?_)
        refine lv_iload hx hb dX7_would_63 (lv_at hl 8 rfl) ?_
        refine jx_zne C h.1 (tgt := 78) dX7_would_65 (by decide) (fun hc => ?_) (fun hc => ?_)
        · have h := h.2.2 hc
          refine lv_iload hx hb dX7_would_78 (lv_at hl 8 rfl) ?_
          refine jx_iconst C dX7_would_80 ?_
          refine jx_cne C h.1 (jx_inR (by decide) (by decide)) (tgt := 103) dX7_would_81 (by decide) (fun hc => ?_) (fun hc => ?_)
          · have h := h.2.2 hc
            refine lv_aload_n hx hb dX7_would_103 rfl (lv_at hl 3 rfl) ?_
            refine jx_getR C hK hP 0 0 3 rfl rfl rfl fl_X7_34 dX7_would_104 ?_
            refine lv_aload_n hx hb dX7_would_107 rfl (lv_at hl 3 rfl) ?_
            refine jx_getR C hK hP 0 0 0 rfl rfl rfl fl_X7_12 dX7_would_108 ?_
            refine jx_callVV C hK hP hD hS hA (ct_T_copy l D cI cT aU aT _ sU sT  h) ms_X6_copy lk_X7_170 [5, 2] rfl rfl (fun _ => rfl) (cs' := (fun u => [(cp_B aB (aT 0) (aS 0) (aC 0) (aU 0) (aV 0) (aW 0) (aH 0) (aO 0), sB), (cp_S aS (aT 0), sS), (cp_T aT, sT), (cp_C aW (aU 0) (aV 0), sW), (cp_S aV (aU 0), sV), (cp_T aU, u)])) (fun _ => rfl) (fun _ => rfl) 5 0 rfl rfl rfl rfl rfl hl.1 rfl rfl dX7_would_111 ⟨Nat.le_refl _, Nat.le_refl _⟩ (fun sU_111 H locs h hP hD hS => ?_)
            have hP : va_P D vwCl (jx_ws cI cT [(cp_B aB (aT 0) (aS 0) (aC 0) (aU 0) (aV 0) (aW 0) (aH 0) (aO 0), sB), (cp_S aS (aT 0), sS), (cp_T aT, sT), (cp_C aW (aU 0) (aV 0), sW), (cp_S aV (aU 0), sV), (cp_T aU, sU_111)]) H := hP
            have hD : va_D A (jx_ws cI cT [(cp_B aB (aT 0) (aS 0) (aC 0) (aU 0) (aV 0) (aW 0) (aH 0) (aO 0), sB), (cp_S aS (aT 0), sS), (cp_T aT, sT), (cp_C aW (aU 0) (aV 0), sW), (cp_S aV (aU 0), sV), (cp_T aU, sU_111)]) := hD
            refine lv_aload_n hx hb dX7_would_114 rfl (lv_at hl 3 rfl) ?_
            refine jx_getR C hK hP 0 0 5 rfl rfl rfl fl_X7_40 dX7_would_115 ?_
            refine lv_iload hx hb dX7_would_118 (lv_at hl 2 rfl) ?_
            refine lv_iload hx hb dX7_would_120 (lv_at hl 1 rfl) ?_
            refine jx_callVV C hK hP hD hS hA (ct_C_bringIn l D cI cT aW aV aU _ sW sV sU_111 r27 r46 h) ms_X1_bringIn lk_X7_83 [3, 4, 5] rfl rfl (fun _ => rfl) (cs' := (fun u => [(cp_B aB (aT 0) (aS 0) (aC 0) (aU 0) (aV 0) (aW 0) (aH 0) (aO 0), sB), (cp_S aS (aT 0), sS), (cp_T aT, sT), (cp_C aW (aU 0) (aV 0), u.1), (cp_S aV (aU 0), u.2.1), (cp_T aU, u.2.2)])) (fun _ => rfl) (fun _ => rfl) 3 0 rfl rfl rfl rfl rfl hl.1 rfl rfl dX7_would_122 ⟨Nat.le_refl _, Nat.le_refl _⟩ (fun u H locs h hP hD hS => ?_)
            obtain ⟨sW_122, sV_122, sU_122⟩ := u
            dsimp only at h
            have hP : va_P D vwCl (jx_ws cI cT [(cp_B aB (aT 0) (aS 0) (aC 0) (aU 0) (aV 0) (aW 0) (aH 0) (aO 0), sB), (cp_S aS (aT 0), sS), (cp_T aT, sT), (cp_C aW (aU 0) (aV 0), sW_122), (cp_S aV (aU 0), sV_122), (cp_T aU, sU_122)]) H := hP
            have hD : va_D A (jx_ws cI cT [(cp_B aB (aT 0) (aS 0) (aC 0) (aU 0) (aV 0) (aW 0) (aH 0) (aO 0), sB), (cp_S aS (aT 0), sS), (cp_T aT, sT), (cp_C aW (aU 0) (aV 0), sW_122), (cp_S aV (aU 0), sV_122), (cp_T aU, sU_122)]) := hD
            refine lv_iload hx hb dX7_would_125 (lv_at hl 8 rfl) ?_
            refine jx_iconst C dX7_would_127 ?_
            refine jx_cne C h.1 (jx_inR (by decide) (by decide)) (tgt := 139) dX7_would_128 (by decide) (fun hc => ?_) (fun hc => ?_)
            · have h := h.2.2 hc
              refine lv_iload hx hb dX7_would_139 (lv_at hl 8 rfl) ?_
              refine jx_iconst C dX7_would_141 ?_
              refine jx_cne C h.1 (jx_inR (by decide) (by decide)) (tgt := 155) dX7_would_142 (by decide) (fun hc => ?_) (fun hc => ?_)
              · have h := h.2.2 hc
                refine lv_aload_n hx hb dX7_would_155 rfl (lv_at hl 3 rfl) ?_
                refine jx_getR C hK hP 0 0 4 rfl rfl rfl fl_X7_37 dX7_would_156 ?_
                refine jx_iconst C dX7_would_159 ?_
                refine jx_callVI C hK hP hD hS hA (ct_S_overlapsOf l D cI cT aV aU _ sV_122 sU_122 0 h) ms_X5_overlapsOf lk_X7_129 [4, 5] rfl rfl (fun _ => rfl) (cs' := (fun u => [(cp_B aB (aT 0) (aS 0) (aC 0) (aU 0) (aV 0) (aW 0) (aH 0) (aO 0), sB), (cp_S aS (aT 0), sS), (cp_T aT, sT), (cp_C aW (aU 0) (aV 0), sW_122), (cp_S aV (aU 0), u), (cp_T aU, sU_122)])) (fun _ => rfl) (fun _ => rfl) 4 0 rfl rfl rfl rfl rfl hl.1 rfl rfl dX7_would_160 ⟨Nat.le_refl _, Nat.le_refl _⟩ (fun r160 sV_160 H locs h hP hD hS => ?_)
                have hP : va_P D vwCl (jx_ws cI cT [(cp_B aB (aT 0) (aS 0) (aC 0) (aU 0) (aV 0) (aW 0) (aH 0) (aO 0), sB), (cp_S aS (aT 0), sS), (cp_T aT, sT), (cp_C aW (aU 0) (aV 0), sW_122), (cp_S aV (aU 0), sV_160), (cp_T aU, sU_122)]) H := hP
                have hD : va_D A (jx_ws cI cT [(cp_B aB (aT 0) (aS 0) (aC 0) (aU 0) (aV 0) (aW 0) (aH 0) (aO 0), sB), (cp_S aS (aT 0), sS), (cp_T aT, sT), (cp_C aW (aU 0) (aV 0), sW_122), (cp_S aV (aU 0), sV_160), (cp_T aU, sU_122)]) := hD
                exact jx_rI C hr hlk hAe hS hQQ (sS, sW_122, sV_160, sU_122) hP h dX7_would_163
              · have h := h.2.1 hc
                refine lv_aload_n hx hb dX7_would_145 rfl (lv_at hl 3 rfl) ?_
                refine jx_getR C hK hP 0 0 3 rfl rfl rfl fl_X7_34 dX7_would_146 ?_
                refine jx_callVI C hK hP hD hS hA (ct_T_height l D cI cT aU _ sU_122  h) ms_X6_height lk_X7_87 [5] rfl rfl (fun _ => rfl) (cs' := (fun _ => [(cp_B aB (aT 0) (aS 0) (aC 0) (aU 0) (aV 0) (aW 0) (aH 0) (aO 0), sB), (cp_S aS (aT 0), sS), (cp_T aT, sT), (cp_C aW (aU 0) (aV 0), sW_122), (cp_S aV (aU 0), sV_122), (cp_T aU, sU_122)])) (fun _ => rfl) (fun _ => rfl) 5 0 rfl rfl rfl rfl rfl hl.1 rfl rfl dX7_would_149 ⟨Nat.le_refl _, Nat.le_refl _⟩ (fun r149 _ H locs h hP hD hS => ?_)
                have hP : va_P D vwCl (jx_ws cI cT [(cp_B aB (aT 0) (aS 0) (aC 0) (aU 0) (aV 0) (aW 0) (aH 0) (aO 0), sB), (cp_S aS (aT 0), sS), (cp_T aT, sT), (cp_C aW (aU 0) (aV 0), sW_122), (cp_S aV (aU 0), sV_122), (cp_T aU, sU_122)]) H := hP
                have hD : va_D A (jx_ws cI cT [(cp_B aB (aT 0) (aS 0) (aC 0) (aU 0) (aV 0) (aW 0) (aH 0) (aO 0), sB), (cp_S aS (aT 0), sS), (cp_T aT, sT), (cp_C aW (aU 0) (aV 0), sW_122), (cp_S aV (aU 0), sV_122), (cp_T aU, sU_122)]) := hD
                refine lv_goto (tgt := 163) hx hb dX7_would_152 (by decide) ?_
                exact jx_rI C hr hlk hAe hS hQQ (sS, sW_122, sV_122, sU_122) hP h dX7_would_163
            · have h := h.2.1 hc
              refine lv_aload_n hx hb dX7_would_131 rfl (lv_at hl 3 rfl) ?_
              refine jx_getR C hK hP 0 0 5 rfl rfl rfl fl_X7_40 dX7_would_132 ?_
              refine jx_getNI C hK hP 3 0 8 rfl rfl rfl fn_X7_135 dX7_would_135 ?_
              exact jx_rI C hr hlk hAe hS hQQ (sS, sW_122, sV_122, sU_122) hP h dX7_would_138
          · have h := h.2.1 hc
            refine lv_aload_n hx hb dX7_would_84 rfl (lv_at hl 3 rfl) ?_
            refine jx_getR C hK hP 0 0 0 rfl rfl rfl fl_X7_12 dX7_would_85 ?_
            refine lv_iload hx hb dX7_would_88 (lv_at hl 0 rfl) ?_
            refine jx_callVI C hK hP hD hS hA (ct_T_sizeOf l D cI cT aT _ sT r58 h) ms_X6_sizeOf lk_X7_120 [2] rfl rfl (fun _ => rfl) (cs' := (fun _ => [(cp_B aB (aT 0) (aS 0) (aC 0) (aU 0) (aV 0) (aW 0) (aH 0) (aO 0), sB), (cp_S aS (aT 0), sS), (cp_T aT, sT), (cp_C aW (aU 0) (aV 0), sW), (cp_S aV (aU 0), sV), (cp_T aU, sU)])) (fun _ => rfl) (fun _ => rfl) 2 0 rfl rfl rfl rfl rfl hl.1 rfl rfl dX7_would_90 ⟨Nat.le_refl _, Nat.le_refl _⟩ (fun r90 _ H locs h hP hD hS => ?_)
            have hP : va_P D vwCl (jx_ws cI cT [(cp_B aB (aT 0) (aS 0) (aC 0) (aU 0) (aV 0) (aW 0) (aH 0) (aO 0), sB), (cp_S aS (aT 0), sS), (cp_T aT, sT), (cp_C aW (aU 0) (aV 0), sW), (cp_S aV (aU 0), sV), (cp_T aU, sU)]) H := hP
            have hD : va_D A (jx_ws cI cT [(cp_B aB (aT 0) (aS 0) (aC 0) (aU 0) (aV 0) (aW 0) (aH 0) (aO 0), sB), (cp_S aS (aT 0), sS), (cp_T aT, sT), (cp_C aW (aU 0) (aV 0), sW), (cp_S aV (aU 0), sV), (cp_T aU, sU)]) := hD
            refine jx_iconst C dX7_would_93 ?_
            refine jx_cge C h.1 (jx_inR (by decide) (by decide)) (tgt := 101) dX7_would_94 (by decide) (fun hc => ?_) (fun hc => ?_)
            · have h := h.2.2 hc
              refine jx_iconst C dX7_would_101 ?_
              exact jx_rI C hr hlk hAe hS hQQ (sS, sW, sV, sU) hP h dX7_would_102
            · have h := h.2.1 hc
              refine jx_iconst C dX7_would_97 ?_
              refine lv_goto (tgt := 102) hx hb dX7_would_98 (by decide) ?_
              exact jx_rI C hr hlk hAe hS hQQ (sS, sW, sV, sU) hP h dX7_would_102
        · have h := h.2.1 hc
          refine lv_aload_n hx hb dX7_would_68 rfl (lv_at hl 3 rfl) ?_
          refine jx_getR C hK hP 0 0 1 rfl rfl rfl fl_X7_21 dX7_would_69 ?_
          refine lv_iload hx hb dX7_would_72 (lv_at hl 0 rfl) ?_
          refine jx_callVI C hK hP hD hS hA (ct_S_placeOf l D cI cT aS aT _ sS sT r58 h) ms_X5_placeOf lk_X7_104 [1, 2] rfl rfl (fun _ => rfl) (cs' := (fun u => [(cp_B aB (aT 0) (aS 0) (aC 0) (aU 0) (aV 0) (aW 0) (aH 0) (aO 0), sB), (cp_S aS (aT 0), u), (cp_T aT, sT), (cp_C aW (aU 0) (aV 0), sW), (cp_S aV (aU 0), sV), (cp_T aU, sU)])) (fun _ => rfl) (fun _ => rfl) 1 0 rfl rfl rfl rfl rfl hl.1 rfl rfl dX7_would_74 ⟨Nat.le_refl _, Nat.le_refl _⟩ (fun r74 sS_74 H locs h hP hD hS => ?_)
          have hP : va_P D vwCl (jx_ws cI cT [(cp_B aB (aT 0) (aS 0) (aC 0) (aU 0) (aV 0) (aW 0) (aH 0) (aO 0), sB), (cp_S aS (aT 0), sS_74), (cp_T aT, sT), (cp_C aW (aU 0) (aV 0), sW), (cp_S aV (aU 0), sV), (cp_T aU, sU)]) H := hP
          have hD : va_D A (jx_ws cI cT [(cp_B aB (aT 0) (aS 0) (aC 0) (aU 0) (aV 0) (aW 0) (aH 0) (aO 0), sB), (cp_S aS (aT 0), sS_74), (cp_T aT, sT), (cp_C aW (aU 0) (aV 0), sW), (cp_S aV (aU 0), sV), (cp_T aU, sU)]) := hD
          exact jx_rI C hr hlk hAe hS hQQ (sS_74, sW, sV, sU) hP h dX7_would_77
      · have h := h.2.1 hc
        refine jx_ldc C (-1000002) kc_X7_73 dX7_would_38 ?_
        exact jx_rI C hr hlk hAe hS hQQ (sS, sW, sV, sU) hP h dX7_would_40
    · have h := h.2.1 hc
      refine jx_ldc C (-1000001) kc_X7_69 dX7_would_20 ?_
      exact jx_rI C hr hlk hAe hS hQQ (sS, sW, sV, sU) hP h dX7_would_22
set_option maxRecDepth 100000 in
set_option maxHeartbeats 4000000 in
theorem ct_B_wouldTake (l : Launch) (D : va_G) (cI cT : ClassId) (aB : Nat → Nat) (aC : Nat → Nat) (aS : Nat → Nat) (aT : Nat → Nat) (aW : Nat → Nat) (aV : Nat → Nat) (aU : Nat → Nat) (aH : Nat → Nat) (hT : Nat → Nat → Nat) (aO : Nat → Nat) (Q : Int → jx_St → jx_St → jx_St → Prop) (sB : jx_St) (sT : jx_St) (sW : jx_St) (sV : jx_St) (sU : jx_St) (l1 : Int) (l2 : Int) (h : wp_B_wouldTake Q sB sT sW sV sU l1 l2) : jx_KI (jx_St × jx_St × jx_St) l D cI cT yX7_wouldTake cX7_wouldTake 3 .int 7 176 [.ref (aB 0), .int (jx_i l1), .int (jx_i l2)] [(cp_B aB (aT 0) (aS 0) (aC 0) (aU 0) (aV 0) (aW 0) (aH 0) (aO 0), sB), (cp_T aT, sT), (cp_C aW (aU 0) (aV 0), sW), (cp_S aV (aU 0), sV), (cp_T aU, sU)] (fun u => [(cp_B aB (aT 0) (aS 0) (aC 0) (aU 0) (aV 0) (aW 0) (aH 0) (aO 0), sB), (cp_T aT, sT), (cp_C aW (aU 0) (aV 0), u.1), (cp_S aV (aU 0), u.2.1), (cp_T aU, u.2.2)]) (fun x u => Q x u.1 u.2.1 u.2.2) := by
  refine jx_ent (own := RX7) (by decide) rfl (Nat.le_of_ble_eq_true rfl) ?_
  intro p e s m args below meth c A QQ C hr hlk hK hAe hA hP hD hS ls hl hQQ
  have hl : lv_has ls 3 [(0, .ref (aB 0)), (1, .int (jx_i l1)), (2, .int (jx_i l2))] := hl
  have hx := C.1
  have hb := C.2.1
  unfold wp_B_wouldTake at h
  refine lv_iload_n hx hb dX7_wouldTake_0 rfl (lv_at hl 1 rfl) ?_
  refine jx_callSI C hK hP hD hS hA (ct_B_isBox l D cI cT  _  l1 h) ms_X7_isBox lk_X7_61 [] rfl rfl (fun _ => rfl) (cs' := (fun _ => [(cp_B aB (aT 0) (aS 0) (aC 0) (aU 0) (aV 0) (aW 0) (aH 0) (aO 0), sB), (cp_T aT, sT), (cp_C aW (aU 0) (aV 0), sW), (cp_S aV (aU 0), sV), (cp_T aU, sU)])) (fun _ => rfl) (fun _ => rfl) rfl rfl hl.1 rfl rfl dX7_wouldTake_1 ⟨Nat.le_refl _, Nat.le_refl _⟩ (fun r1 _ H locs h hP hD hS => ?_)
  have hP : va_P D vwCl (jx_ws cI cT [(cp_B aB (aT 0) (aS 0) (aC 0) (aU 0) (aV 0) (aW 0) (aH 0) (aO 0), sB), (cp_T aT, sT), (cp_C aW (aU 0) (aV 0), sW), (cp_S aV (aU 0), sV), (cp_T aU, sU)]) H := hP
  have hD : va_D A (jx_ws cI cT [(cp_B aB (aT 0) (aS 0) (aC 0) (aU 0) (aV 0) (aW 0) (aH 0) (aO 0), sB), (cp_T aT, sT), (cp_C aW (aU 0) (aV 0), sW), (cp_S aV (aU 0), sV), (cp_T aU, sU)]) := hD
  refine jx_zeq C h.1 (tgt := 15) dX7_wouldTake_4 (by decide) (fun hc => ?_) (fun hc => ?_)
  · have h := h.2.1 hc
    refine jx_ldc C (-1000001) kc_X7_69 dX7_wouldTake_15 ?_
    exact jx_rI C hr hlk hAe hS hQQ (sW, sV, sU) hP h dX7_wouldTake_17
  · have h := h.2.2 hc
    refine lv_iload_n hx hb dX7_wouldTake_7 rfl (lv_at hl 2 rfl) ?_
    refine jx_iconst C dX7_wouldTake_8 ?_
    refine jx_callSI C hK hP hD hS hA (ct_B_isUpTo l D cI cT  _  l2 3 h) ms_X7_isUpTo lk_X7_95 [] rfl rfl (fun _ => rfl) (cs' := (fun _ => [(cp_B aB (aT 0) (aS 0) (aC 0) (aU 0) (aV 0) (aW 0) (aH 0) (aO 0), sB), (cp_T aT, sT), (cp_C aW (aU 0) (aV 0), sW), (cp_S aV (aU 0), sV), (cp_T aU, sU)])) (fun _ => rfl) (fun _ => rfl) rfl rfl hl.1 rfl rfl dX7_wouldTake_9 ⟨Nat.le_refl _, Nat.le_refl _⟩ (fun r9 _ H locs h hP hD hS => ?_)
    have hP : va_P D vwCl (jx_ws cI cT [(cp_B aB (aT 0) (aS 0) (aC 0) (aU 0) (aV 0) (aW 0) (aH 0) (aO 0), sB), (cp_T aT, sT), (cp_C aW (aU 0) (aV 0), sW), (cp_S aV (aU 0), sV), (cp_T aU, sU)]) H := hP
    have hD : va_D A (jx_ws cI cT [(cp_B aB (aT 0) (aS 0) (aC 0) (aU 0) (aV 0) (aW 0) (aH 0) (aO 0), sB), (cp_T aT, sT), (cp_C aW (aU 0) (aV 0), sW), (cp_S aV (aU 0), sV), (cp_T aU, sU)]) := hD
    refine jx_zne C h.1 (tgt := 18) dX7_wouldTake_12 (by decide) (fun hc => ?_) (fun hc => ?_)
    · have h := h.2.2 hc
      refine lv_aload_n hx hb dX7_wouldTake_18 rfl (lv_at hl 0 rfl) ?_
      refine jx_getR C hK hP 0 0 0 rfl rfl rfl fl_X7_12 dX7_wouldTake_19 ?_
      refine lv_iload_n hx hb dX7_wouldTake_22 rfl (lv_at hl 1 rfl) ?_
      refine jx_callVI C hK hP hD hS hA (ct_T_has l D cI cT aT _ sT l1 h) ms_X6_has lk_X7_70 [1] rfl rfl (fun _ => rfl) (cs' := (fun _ => [(cp_B aB (aT 0) (aS 0) (aC 0) (aU 0) (aV 0) (aW 0) (aH 0) (aO 0), sB), (cp_T aT, sT), (cp_C aW (aU 0) (aV 0), sW), (cp_S aV (aU 0), sV), (cp_T aU, sU)])) (fun _ => rfl) (fun _ => rfl) 1 0 rfl rfl rfl rfl rfl hl.1 rfl rfl dX7_wouldTake_23 ⟨Nat.le_refl _, Nat.le_refl _⟩ (fun r23 _ H locs h hP hD hS => ?_)
      have hP : va_P D vwCl (jx_ws cI cT [(cp_B aB (aT 0) (aS 0) (aC 0) (aU 0) (aV 0) (aW 0) (aH 0) (aO 0), sB), (cp_T aT, sT), (cp_C aW (aU 0) (aV 0), sW), (cp_S aV (aU 0), sV), (cp_T aU, sU)]) H := hP
      have hD : va_D A (jx_ws cI cT [(cp_B aB (aT 0) (aS 0) (aC 0) (aU 0) (aV 0) (aW 0) (aH 0) (aO 0), sB), (cp_T aT, sT), (cp_C aW (aU 0) (aV 0), sW), (cp_S aV (aU 0), sV), (cp_T aU, sU)]) := hD
      refine jx_zne C h.1 (tgt := 32) dX7_wouldTake_26 (by decide) (fun hc => ?_) (fun hc => ?_)
      · have h := h.2.2 hc
        refine lv_aload_n hx hb dX7_wouldTake_32 rfl (lv_at hl 0 rfl) ?_
        refine jx_getR C hK hP 0 0 3 rfl rfl rfl fl_X7_34 dX7_wouldTake_33 ?_
        refine lv_aload_n hx hb dX7_wouldTake_36 rfl (lv_at hl 0 rfl) ?_
        refine jx_getR C hK hP 0 0 0 rfl rfl rfl fl_X7_12 dX7_wouldTake_37 ?_
        refine jx_callVV C hK hP hD hS hA (ct_T_copy l D cI cT aU aT _ sU sT  h) ms_X6_copy lk_X7_170 [4, 1] rfl rfl (fun _ => rfl) (cs' := (fun u => [(cp_B aB (aT 0) (aS 0) (aC 0) (aU 0) (aV 0) (aW 0) (aH 0) (aO 0), sB), (cp_T aT, sT), (cp_C aW (aU 0) (aV 0), sW), (cp_S aV (aU 0), sV), (cp_T aU, u)])) (fun _ => rfl) (fun _ => rfl) 4 0 rfl rfl rfl rfl rfl hl.1 rfl rfl dX7_wouldTake_40 ⟨Nat.le_refl _, Nat.le_refl _⟩ (fun sU_40 H locs h hP hD hS => ?_)
        have hP : va_P D vwCl (jx_ws cI cT [(cp_B aB (aT 0) (aS 0) (aC 0) (aU 0) (aV 0) (aW 0) (aH 0) (aO 0), sB), (cp_T aT, sT), (cp_C aW (aU 0) (aV 0), sW), (cp_S aV (aU 0), sV), (cp_T aU, sU_40)]) H := hP
        have hD : va_D A (jx_ws cI cT [(cp_B aB (aT 0) (aS 0) (aC 0) (aU 0) (aV 0) (aW 0) (aH 0) (aO 0), sB), (cp_T aT, sT), (cp_C aW (aU 0) (aV 0), sW), (cp_S aV (aU 0), sV), (cp_T aU, sU_40)]) := hD
        refine lv_aload_n hx hb dX7_wouldTake_43 rfl (lv_at hl 0 rfl) ?_
        refine jx_getR C hK hP 0 0 5 rfl rfl rfl fl_X7_40 dX7_wouldTake_44 ?_
        refine lv_iload_n hx hb dX7_wouldTake_47 rfl (lv_at hl 1 rfl) ?_
        refine jx_callVV C hK hP hD hS hA (ct_C_takeOut l D cI cT aW aV aU _ sW sV sU_40 l1 h) ms_X1_takeOut lk_X7_91 [2, 3, 4] rfl rfl (fun _ => rfl) (cs' := (fun u => [(cp_B aB (aT 0) (aS 0) (aC 0) (aU 0) (aV 0) (aW 0) (aH 0) (aO 0), sB), (cp_T aT, sT), (cp_C aW (aU 0) (aV 0), u.1), (cp_S aV (aU 0), u.2.1), (cp_T aU, u.2.2)])) (fun _ => rfl) (fun _ => rfl) 2 0 rfl rfl rfl rfl rfl hl.1 rfl rfl dX7_wouldTake_48 ⟨Nat.le_refl _, Nat.le_refl _⟩ (fun u H locs h hP hD hS => ?_)
        obtain ⟨sW_48, sV_48, sU_48⟩ := u
        dsimp only at h
        have hP : va_P D vwCl (jx_ws cI cT [(cp_B aB (aT 0) (aS 0) (aC 0) (aU 0) (aV 0) (aW 0) (aH 0) (aO 0), sB), (cp_T aT, sT), (cp_C aW (aU 0) (aV 0), sW_48), (cp_S aV (aU 0), sV_48), (cp_T aU, sU_48)]) H := hP
        have hD : va_D A (jx_ws cI cT [(cp_B aB (aT 0) (aS 0) (aC 0) (aU 0) (aV 0) (aW 0) (aH 0) (aO 0), sB), (cp_T aT, sT), (cp_C aW (aU 0) (aV 0), sW_48), (cp_S aV (aU 0), sV_48), (cp_T aU, sU_48)]) := hD
        refine lv_iload_n hx hb dX7_wouldTake_51 rfl (lv_at hl 2 rfl) ?_
        refine jx_zne C h.1 (tgt := 71) dX7_wouldTake_52 (by decide) (fun hc => ?_) (fun hc => ?_)
        · have h := h.2.2 hc
          refine lv_iload_n hx hb dX7_wouldTake_71 rfl (lv_at hl 2 rfl) ?_
          refine jx_iconst C dX7_wouldTake_72 ?_
          refine jx_cne C h.1 (jx_inR (by decide) (by decide)) (tgt := 84) dX7_wouldTake_73 (by decide) (fun hc => ?_) (fun hc => ?_)
          · have h := h.2.2 hc
            refine lv_iload_n hx hb dX7_wouldTake_84 rfl (lv_at hl 2 rfl) ?_
            refine jx_iconst C dX7_wouldTake_85 ?_
            refine jx_cne C h.1 (jx_inR (by decide) (by decide)) (tgt := 99) dX7_wouldTake_86 (by decide) (fun hc => ?_) (fun hc => ?_)
            · have h := h.2.2 hc
              refine lv_aload_n hx hb dX7_wouldTake_99 rfl (lv_at hl 0 rfl) ?_
              refine jx_getR C hK hP 0 0 4 rfl rfl rfl fl_X7_37 dX7_wouldTake_100 ?_
              refine jx_iconst C dX7_wouldTake_103 ?_
              refine jx_callVI C hK hP hD hS hA (ct_S_overlapsOf l D cI cT aV aU _ sV_48 sU_48 0 h) ms_X5_overlapsOf lk_X7_129 [3, 4] rfl rfl (fun _ => rfl) (cs' := (fun u => [(cp_B aB (aT 0) (aS 0) (aC 0) (aU 0) (aV 0) (aW 0) (aH 0) (aO 0), sB), (cp_T aT, sT), (cp_C aW (aU 0) (aV 0), sW_48), (cp_S aV (aU 0), u), (cp_T aU, sU_48)])) (fun _ => rfl) (fun _ => rfl) 3 0 rfl rfl rfl rfl rfl hl.1 rfl rfl dX7_wouldTake_104 ⟨Nat.le_refl _, Nat.le_refl _⟩ (fun r104 sV_104 H locs h hP hD hS => ?_)
              have hP : va_P D vwCl (jx_ws cI cT [(cp_B aB (aT 0) (aS 0) (aC 0) (aU 0) (aV 0) (aW 0) (aH 0) (aO 0), sB), (cp_T aT, sT), (cp_C aW (aU 0) (aV 0), sW_48), (cp_S aV (aU 0), sV_104), (cp_T aU, sU_48)]) H := hP
              have hD : va_D A (jx_ws cI cT [(cp_B aB (aT 0) (aS 0) (aC 0) (aU 0) (aV 0) (aW 0) (aH 0) (aO 0), sB), (cp_T aT, sT), (cp_C aW (aU 0) (aV 0), sW_48), (cp_S aV (aU 0), sV_104), (cp_T aU, sU_48)]) := hD
              exact jx_rI C hr hlk hAe hS hQQ (sW_48, sV_104, sU_48) hP h dX7_wouldTake_107
            · have h := h.2.1 hc
              refine lv_aload_n hx hb dX7_wouldTake_89 rfl (lv_at hl 0 rfl) ?_
              refine jx_getR C hK hP 0 0 3 rfl rfl rfl fl_X7_34 dX7_wouldTake_90 ?_
              refine jx_callVI C hK hP hD hS hA (ct_T_height l D cI cT aU _ sU_48  h) ms_X6_height lk_X7_87 [4] rfl rfl (fun _ => rfl) (cs' := (fun _ => [(cp_B aB (aT 0) (aS 0) (aC 0) (aU 0) (aV 0) (aW 0) (aH 0) (aO 0), sB), (cp_T aT, sT), (cp_C aW (aU 0) (aV 0), sW_48), (cp_S aV (aU 0), sV_48), (cp_T aU, sU_48)])) (fun _ => rfl) (fun _ => rfl) 4 0 rfl rfl rfl rfl rfl hl.1 rfl rfl dX7_wouldTake_93 ⟨Nat.le_refl _, Nat.le_refl _⟩ (fun r93 _ H locs h hP hD hS => ?_)
              have hP : va_P D vwCl (jx_ws cI cT [(cp_B aB (aT 0) (aS 0) (aC 0) (aU 0) (aV 0) (aW 0) (aH 0) (aO 0), sB), (cp_T aT, sT), (cp_C aW (aU 0) (aV 0), sW_48), (cp_S aV (aU 0), sV_48), (cp_T aU, sU_48)]) H := hP
              have hD : va_D A (jx_ws cI cT [(cp_B aB (aT 0) (aS 0) (aC 0) (aU 0) (aV 0) (aW 0) (aH 0) (aO 0), sB), (cp_T aT, sT), (cp_C aW (aU 0) (aV 0), sW_48), (cp_S aV (aU 0), sV_48), (cp_T aU, sU_48)]) := hD
              refine lv_goto (tgt := 107) hx hb dX7_wouldTake_96 (by decide) ?_
              exact jx_rI C hr hlk hAe hS hQQ (sW_48, sV_48, sU_48) hP h dX7_wouldTake_107
          · have h := h.2.1 hc
            refine lv_aload_n hx hb dX7_wouldTake_76 rfl (lv_at hl 0 rfl) ?_
            refine jx_getR C hK hP 0 0 5 rfl rfl rfl fl_X7_40 dX7_wouldTake_77 ?_
            refine jx_getNI C hK hP 2 0 8 rfl rfl rfl fn_X7_135 dX7_wouldTake_80 ?_
            exact jx_rI C hr hlk hAe hS hQQ (sW_48, sV_48, sU_48) hP h dX7_wouldTake_83
        · have h := h.2.1 hc
          refine lv_aload_n hx hb dX7_wouldTake_55 rfl (lv_at hl 0 rfl) ?_
          refine jx_getR C hK hP 0 0 3 rfl rfl rfl fl_X7_34 dX7_wouldTake_56 ?_
          refine jx_getNI C hK hP 4 0 10 rfl rfl rfl fn_X7_173 dX7_wouldTake_59 ?_
          refine lv_aload_n hx hb dX7_wouldTake_62 rfl (lv_at hl 0 rfl) ?_
          refine jx_getR C hK hP 0 0 0 rfl rfl rfl fl_X7_12 dX7_wouldTake_63 ?_
          refine jx_getNI C hK hP 1 0 10 rfl rfl rfl fn_X7_173 dX7_wouldTake_66 ?_
          refine jx_isub C dX7_wouldTake_69 ?_
          exact jx_rI C hr hlk hAe hS hQQ (sW_48, sV_48, sU_48) hP h dX7_wouldTake_70
      · have h := h.2.1 hc
        refine jx_ldc C (-1000004) kc_X7_99 dX7_wouldTake_29 ?_
        exact jx_rI C hr hlk hAe hS hQQ (sW, sV, sU) hP h dX7_wouldTake_31
    · have h := h.2.1 hc
      refine jx_ldc C (-1000001) kc_X7_69 dX7_wouldTake_15 ?_
      exact jx_rI C hr hlk hAe hS hQQ (sW, sV, sU) hP h dX7_wouldTake_17
