set_option maxRecDepth 100000 in
set_option maxHeartbeats 4000000 in
theorem ct_L_low (l : Launch) (D : va_G) (cI cT : ClassId) (Q : Int → Prop) (l0 : Int) (l1 : Int) (h : wp_L_low Q l0 l1) : jx_KI (Unit) l D cI cT yL_low cL_low 2 .int 0 0 [.int (jx_i l0), .int (jx_i l1)] [] (fun _ => []) (fun x _ => Q x) := by
  refine jx_ent (own := RL) (by decide) rfl (Nat.le_of_ble_eq_true rfl) ?_
  intro p e s m args below meth c A QQ C hr hlk hK hAe hA hP hD hS ls hl hQQ
  have hl : lv_has ls 2 [(0, .int (jx_i l0)), (1, .int (jx_i l1))] := hl
  have hx := C.1
  have hb := C.2.1
  unfold wp_L_low at h
  refine lv_iload_n hx hb dL_low_0 rfl (lv_at hl 0 rfl) ?_
  refine jx_ldc C 2147483647 kc_L_8 dL_low_1 ?_
  refine jx_iand C dL_low_3 ?_
  refine lv_iload_n hx hb dL_low_4 rfl (lv_at hl 1 rfl) ?_
  refine jx_irem C h.1 dL_low_5 ?_
  have h := h.2
  exact jx_rI C hr hlk hAe hS hQQ () hP h dL_low_6
set_option maxRecDepth 100000 in
set_option maxHeartbeats 4000000 in
theorem ct_L_lesser (l : Launch) (D : va_G) (cI cT : ClassId) (Q : Int → Prop) (l0 : Int) (l1 : Int) (h : wp_L_lesser Q l0 l1) : jx_KI (Unit) l D cI cT yL_lesser cL_lesser 2 .int 0 0 [.int (jx_i l0), .int (jx_i l1)] [] (fun _ => []) (fun x _ => Q x) := by
  refine jx_ent (own := RL) (by decide) rfl (Nat.le_of_ble_eq_true rfl) ?_
  intro p e s m args below meth c A QQ C hr hlk hK hAe hA hP hD hS ls hl hQQ
  have hl : lv_has ls 2 [(0, .int (jx_i l0)), (1, .int (jx_i l1))] := hl
  have hx := C.1
  have hb := C.2.1
  unfold wp_L_lesser at h
  refine lv_iload_n hx hb dL_lesser_0 rfl (lv_at hl 0 rfl) ?_
  refine lv_iload_n hx hb dL_lesser_1 rfl (lv_at hl 1 rfl) ?_
  refine jx_cge C h.1 h.2.1 (tgt := 9) dL_lesser_2 (by decide) (fun hc => ?_) (fun hc => ?_)
  · have h := h.2.2.2 hc
    refine lv_iload_n hx hb dL_lesser_9 rfl (lv_at hl 1 rfl) ?_
    exact jx_rI C hr hlk hAe hS hQQ () hP h dL_lesser_10
  · have h := h.2.2.1 hc
    refine lv_iload_n hx hb dL_lesser_5 rfl (lv_at hl 0 rfl) ?_
    refine lv_goto (tgt := 10) hx hb dL_lesser_6 (by decide) ?_
    exact jx_rI C hr hlk hAe hS hQQ () hP h dL_lesser_10
set_option maxRecDepth 100000 in
set_option maxHeartbeats 4000000 in
theorem ct_L_greater (l : Launch) (D : va_G) (cI cT : ClassId) (Q : Int → Prop) (l0 : Int) (l1 : Int) (h : wp_L_greater Q l0 l1) : jx_KI (Unit) l D cI cT yL_greater cL_greater 2 .int 0 0 [.int (jx_i l0), .int (jx_i l1)] [] (fun _ => []) (fun x _ => Q x) := by
  refine jx_ent (own := RL) (by decide) rfl (Nat.le_of_ble_eq_true rfl) ?_
  intro p e s m args below meth c A QQ C hr hlk hK hAe hA hP hD hS ls hl hQQ
  have hl : lv_has ls 2 [(0, .int (jx_i l0)), (1, .int (jx_i l1))] := hl
  have hx := C.1
  have hb := C.2.1
  unfold wp_L_greater at h
  refine lv_iload_n hx hb dL_greater_0 rfl (lv_at hl 0 rfl) ?_
  refine lv_iload_n hx hb dL_greater_1 rfl (lv_at hl 1 rfl) ?_
  refine jx_cle C h.1 h.2.1 (tgt := 9) dL_greater_2 (by decide) (fun hc => ?_) (fun hc => ?_)
  · have h := h.2.2.1 hc
    refine lv_iload_n hx hb dL_greater_9 rfl (lv_at hl 1 rfl) ?_
    exact jx_rI C hr hlk hAe hS hQQ () hP h dL_greater_10
  · have h := h.2.2.2 hc
    refine lv_iload_n hx hb dL_greater_5 rfl (lv_at hl 0 rfl) ?_
    refine lv_goto (tgt := 10) hx hb dL_greater_6 (by decide) ?_
    exact jx_rI C hr hlk hAe hS hQQ () hP h dL_greater_10
set_option maxRecDepth 100000 in
set_option maxHeartbeats 4000000 in
theorem ct_L_types (l : Launch) (D : va_G) (cI cT : ClassId) (aB : Nat → Nat) (aC : Nat → Nat) (aS : Nat → Nat) (aT : Nat → Nat) (aW : Nat → Nat) (aV : Nat → Nat) (aU : Nat → Nat) (aH : Nat → Nat) (hT : Nat → Nat → Nat) (aO : Nat → Nat) (Q : Int → jx_St → jx_St → Prop) (sB : jx_St) (sC : jx_St) (sS : jx_St) (sT : jx_St) (sH : jx_St) (sO : jx_St) (l1 : Int) (h : wp_L_types Q sB sC sS sT sH sO l1) : jx_KI (jx_St × jx_St) l D cI cT yL_types cL_types 3 .boolean 5 111 [.ref (aB 0), .int (jx_i l1)] [(cp_B aB (aT 0) (aS 0) (aC 0) (aU 0) (aV 0) (aW 0) (aH 0) (aO 0), sB), (cp_C aC (aT 0) (aS 0), sC), (cp_S aS (aT 0), sS), (cp_T aT, sT), (cp_H aH (fun j => hT j 0), sH), (cp_O aO, sO)] (fun u => [(cp_B aB (aT 0) (aS 0) (aC 0) (aU 0) (aV 0) (aW 0) (aH 0) (aO 0), sB), (cp_C aC (aT 0) (aS 0), sC), (cp_S aS (aT 0), u.1), (cp_T aT, sT), (cp_H aH (fun j => hT j 0), sH), (cp_O aO, u.2)]) (fun x u => Q x u.1 u.2) := by
  refine jx_ent (own := RL) (by decide) rfl (Nat.le_of_ble_eq_true rfl) ?_
  intro p e s m args below meth c A QQ C hr hlk hK hAe hA hP hD hS ls hl hQQ
  have hl : lv_has ls 3 [(0, .ref (aB 0)), (1, .int (jx_i l1))] := hl
  have hx := C.1
  have hb := C.2.1
  unfold wp_L_types at h
  have J31 : ∀ (sS : jx_St) (sO : jx_St) (l2 : Int), wp_L_types_31 Q sB sC sT sH l1 sS sO l2 → ∀ (H : Heap) (locs : List Loc), va_P D vwCl (jx_ws cI cT [(cp_B aB (aT 0) (aS 0) (aC 0) (aU 0) (aV 0) (aW 0) (aH 0) (aO 0), sB), (cp_C aC (aT 0) (aS 0), sC), (cp_S aS (aT 0), sS), (cp_T aT, sT), (cp_H aH (fun j => hT j 0), sH), (cp_O aO, sO)]) H → va_D A (jx_ws cI cT [(cp_B aB (aT 0) (aS 0) (aC 0) (aU 0) (aV 0) (aW 0) (aH 0) (aO 0), sB), (cp_C aC (aT 0) (aS 0), sC), (cp_S aS (aT 0), sS), (cp_T aT, sT), (cp_H aH (fun j => hT j 0), sH), (cp_O aO, sO)]) → va_S A s.heap H locs → ∀ ls : Array Slot, lv_has ls 3 [(0, .ref (aB 0)), (1, .int (jx_i l1)), (2, .int (jx_i l2))] → W p l e (jx_rm 5 111) s m args below meth c H locs 0 0 QQ (F0 m 31 ls []) := by
    intro sS sO l2 h H locs hP hD hS ls hl
    unfold wp_L_types_31 at h
    refine lv_aload_n hx hb dL_types_31 rfl (lv_at hl 0 rfl) ?_
    refine jx_bipush C dL_types_32 (by decide) ?_
    refine lv_iload_n hx hb dL_types_34 rfl (lv_at hl 1 rfl) ?_
    refine jx_bipush C dL_types_35 (by decide) ?_
    refine jx_irem C (by decide) dL_types_37 ?_
    refine jx_iadd C dL_types_38 ?_
    refine jx_callVI C hK hP hD hS hA (ct_B_type l D cI cT aB aC aS aT aW aV aU aH hT aO _ sB sO (48 + (jx_rem l1 10)) h) ms_X7_type lk_L_64 [0, 5] rfl rfl (fun _ => rfl) (cs' := (fun u => [(cp_B aB (aT 0) (aS 0) (aC 0) (aU 0) (aV 0) (aW 0) (aH 0) (aO 0), sB), (cp_C aC (aT 0) (aS 0), sC), (cp_S aS (aT 0), sS), (cp_T aT, sT), (cp_H aH (fun j => hT j 0), sH), (cp_O aO, u)])) (fun _ => rfl) (fun _ => rfl) 0 0 rfl rfl rfl rfl rfl hl.1 rfl rfl dL_types_39 ⟨Nat.le_refl _, Nat.le_refl _⟩ (fun r39 sO_39 H locs h hP hD hS => ?_)
    have hP : va_P D vwCl (jx_ws cI cT [(cp_B aB (aT 0) (aS 0) (aC 0) (aU 0) (aV 0) (aW 0) (aH 0) (aO 0), sB), (cp_C aC (aT 0) (aS 0), sC), (cp_S aS (aT 0), sS), (cp_T aT, sT), (cp_H aH (fun j => hT j 0), sH), (cp_O aO, sO_39)]) H := hP
    have hD : va_D A (jx_ws cI cT [(cp_B aB (aT 0) (aS 0) (aC 0) (aU 0) (aV 0) (aW 0) (aH 0) (aO 0), sB), (cp_C aC (aT 0) (aS 0), sC), (cp_S aS (aT 0), sS), (cp_T aT, sT), (cp_H aH (fun j => hT j 0), sH), (cp_O aO, sO_39)]) := hD
    refine jx_iinc C (lv' := [(2, .int (jx_i (l2 + 1))), (0, .ref (aB 0)), (1, .int (jx_i l1))]) dL_types_42 hl (k := 2) rfl (by decide) rfl (fun ls hl => ?_)
    refine lv_iload_n hx hb dL_types_45 rfl (lv_at hl 0 rfl) ?_
    refine jx_ene C h.1 (tgt := 53) dL_types_46 (by decide) (fun hc => ?_) (fun hc => ?_)
    · have h := h.2.2 hc
      refine jx_iconst C dL_types_53 ?_
      exact jx_rZ C hr hlk hAe hS hQQ (by decide) (sS, sO_39) hP h dL_types_54
    · have h := h.2.1 hc
      refine jx_iconst C dL_types_49 ?_
      refine lv_goto (tgt := 54) hx hb dL_types_50 (by decide) ?_
      exact jx_rZ C hr hlk hAe hS hQQ (by decide) (sS, sO_39) hP h dL_types_54
  refine lv_aload_n hx hb dL_types_0 rfl (lv_at hl 0 rfl) ?_
  refine jx_bipush C dL_types_1 (by decide) ?_
  refine jx_callVI C hK hP hD hS hA (ct_B_count l D cI cT aB aC aS aT aW aV aU aH hT aO _ sB sC sS sT sH sO 9 h) ms_X7_count lk_L_13 [0, 1, 2, 3, 4, 5] rfl rfl (fun _ => rfl) (cs' := (fun u => [(cp_B aB (aT 0) (aS 0) (aC 0) (aU 0) (aV 0) (aW 0) (aH 0) (aO 0), sB), (cp_C aC (aT 0) (aS 0), sC), (cp_S aS (aT 0), u), (cp_T aT, sT), (cp_H aH (fun j => hT j 0), sH), (cp_O aO, sO)])) (fun _ => rfl) (fun _ => rfl) 0 0 rfl rfl rfl rfl rfl hl.1 rfl rfl dL_types_3 ⟨Nat.le_refl _, Nat.le_refl _⟩ (fun r3 sS_3 H locs h hP hD hS => ?_)
  have hP : va_P D vwCl (jx_ws cI cT [(cp_B aB (aT 0) (aS 0) (aC 0) (aU 0) (aV 0) (aW 0) (aH 0) (aO 0), sB), (cp_C aC (aT 0) (aS 0), sC), (cp_S aS (aT 0), sS_3), (cp_T aT, sT), (cp_H aH (fun j => hT j 0), sH), (cp_O aO, sO)]) H := hP
  have hD : va_D A (jx_ws cI cT [(cp_B aB (aT 0) (aS 0) (aC 0) (aU 0) (aV 0) (aW 0) (aH 0) (aO 0), sB), (cp_C aC (aT 0) (aS 0), sC), (cp_S aS (aT 0), sS_3), (cp_T aT, sT), (cp_H aH (fun j => hT j 0), sH), (cp_O aO, sO)]) := hD
  refine lv_istore_n (lv' := [(2, .int (jx_i r3)), (0, .ref (aB 0)), (1, .int (jx_i l1))]) hx hb dL_types_6 rfl hl (by decide) rfl (fun ls hl => ?_)
  refine lv_iload_n hx hb dL_types_7 rfl (lv_at hl 2 rfl) ?_
  refine jx_bipush C dL_types_8 (by decide) ?_
  refine jx_clt C h.1 (jx_inR (by decide) (by decide)) (tgt := 31) dL_types_10 (by decide) (fun hc => ?_) (fun hc => ?_)
  · have h := h.2.1 hc
    exact J31 sS_3 sO r3 h _ _ hP hD hS ls (lv_sub hl [1, 2, 0] rfl)
  · have h := h.2.2 hc
    refine lv_aload_n hx hb dL_types_13 rfl (lv_at hl 1 rfl) ?_
    refine jx_bipush C dL_types_14 (by decide) ?_
    refine lv_iload_n hx hb dL_types_16 rfl (lv_at hl 2 rfl) ?_
    refine jx_bipush C dL_types_17 (by decide) ?_
    refine jx_idiv C (by decide) dL_types_19 ?_
    refine jx_iadd C dL_types_20 ?_
    refine jx_callVI C hK hP hD hS hA (ct_B_type l D cI cT aB aC aS aT aW aV aU aH hT aO _ sB sO (48 + (jx_div l1 10)) h) ms_X7_type lk_L_64 [0, 5] rfl rfl (fun _ => rfl) (cs' := (fun u => [(cp_B aB (aT 0) (aS 0) (aC 0) (aU 0) (aV 0) (aW 0) (aH 0) (aO 0), sB), (cp_C aC (aT 0) (aS 0), sC), (cp_S aS (aT 0), sS_3), (cp_T aT, sT), (cp_H aH (fun j => hT j 0), sH), (cp_O aO, u)])) (fun _ => rfl) (fun _ => rfl) 0 0 rfl rfl rfl rfl rfl hl.1 rfl rfl dL_types_21 ⟨Nat.le_refl _, Nat.le_refl _⟩ (fun r21 sO_21 H locs h hP hD hS => ?_)
    have hP : va_P D vwCl (jx_ws cI cT [(cp_B aB (aT 0) (aS 0) (aC 0) (aU 0) (aV 0) (aW 0) (aH 0) (aO 0), sB), (cp_C aC (aT 0) (aS 0), sC), (cp_S aS (aT 0), sS_3), (cp_T aT, sT), (cp_H aH (fun j => hT j 0), sH), (cp_O aO, sO_21)]) H := hP
    have hD : va_D A (jx_ws cI cT [(cp_B aB (aT 0) (aS 0) (aC 0) (aU 0) (aV 0) (aW 0) (aH 0) (aO 0), sB), (cp_C aC (aT 0) (aS 0), sC), (cp_S aS (aT 0), sS_3), (cp_T aT, sT), (cp_H aH (fun j => hT j 0), sH), (cp_O aO, sO_21)]) := hD
    refine jx_iinc C (lv' := [(2, .int (jx_i (r3 + 1))), (0, .ref (aB 0)), (1, .int (jx_i l1))]) dL_types_24 hl (k := 0) rfl (by decide) rfl (fun ls hl => ?_)
    refine lv_iload_n hx hb dL_types_27 rfl (lv_at hl 0 rfl) ?_
    refine jx_ene C h.1 (tgt := 53) dL_types_28 (by decide) (fun hc => ?_) (fun hc => ?_)
    · have h := h.2.2 hc
      refine jx_iconst C dL_types_53 ?_
      exact jx_rZ C hr hlk hAe hS hQQ (by decide) (sS_3, sO_21) hP h dL_types_54
    · have h := h.2.1 hc
      exact J31 sS_3 sO_21 (r3 + 1) h _ _ hP hD hS ls (lv_sub hl [1, 2, 0] rfl)
set_option maxRecDepth 100000 in
set_option maxHeartbeats 4000000 in
theorem ct_L_print (l : Launch) (D : va_G) (cI cT : ClassId) (aB : Nat → Nat) (aC : Nat → Nat) (aS : Nat → Nat) (aT : Nat → Nat) (aW : Nat → Nat) (aV : Nat → Nat) (aU : Nat → Nat) (aH : Nat → Nat) (hT : Nat → Nat → Nat) (aO : Nat → Nat) (Q : Int64 → jx_St → Prop) (sB : jx_St) (sC : jx_St) (sS : jx_St) (sT : jx_St) (sH : jx_St) (sO : jx_St) (h : wp_L_print Q sB sC sS sT sH sO) : jx_KL jx_St l D cI cT yL_print cL_print 6 5 117 [.ref (aB 0)] [(cp_B aB (aT 0) (aS 0) (aC 0) (aU 0) (aV 0) (aW 0) (aH 0) (aO 0), sB), (cp_C aC (aT 0) (aS 0), sC), (cp_S aS (aT 0), sS), (cp_T aT, sT), (cp_H aH (fun j => hT j 0), sH), (cp_O aO, sO)] (fun u => [(cp_B aB (aT 0) (aS 0) (aC 0) (aU 0) (aV 0) (aW 0) (aH 0) (aO 0), sB), (cp_C aC (aT 0) (aS 0), sC), (cp_S aS (aT 0), u), (cp_T aT, sT), (cp_H aH (fun j => hT j 0), sH), (cp_O aO, sO)]) Q := by
  refine jx_ent (own := RL) (by decide) rfl (Nat.le_of_ble_eq_true rfl) ?_
  intro p e s m args below meth c A QQ C hr hlk hK hAe hA hP hD hS ls hl hQQ
  have hl : lv_has ls 6 [(0, .ref (aB 0))] := hl
  have hx := C.1
  have hb := C.2.1
  unfold wp_L_print at h
  have Lo6 : ∀ (K52 : jx_St × Int64 → Prop) (n : Nat) (sS : jx_St) (L1 : Int64) (l3 : Int), jx_it (fun B6 v => wp_L_print_6 Q sB sC sT sH sO K52 B6 v.1 v.2.1 v.2.2) n (sS, L1, l3) → (∀ (sS : jx_St) (L1 : Int64), K52 (sS, L1) → ∀ (H : Heap) (locs : List Loc), va_P D vwCl (jx_ws cI cT [(cp_B aB (aT 0) (aS 0) (aC 0) (aU 0) (aV 0) (aW 0) (aH 0) (aO 0), sB), (cp_C aC (aT 0) (aS 0), sC), (cp_S aS (aT 0), sS), (cp_T aT, sT), (cp_H aH (fun j => hT j 0), sH), (cp_O aO, sO)]) H → va_D A (jx_ws cI cT [(cp_B aB (aT 0) (aS 0) (aC 0) (aU 0) (aV 0) (aW 0) (aH 0) (aO 0), sB), (cp_C aC (aT 0) (aS 0), sC), (cp_S aS (aT 0), sS), (cp_T aT, sT), (cp_H aH (fun j => hT j 0), sH), (cp_O aO, sO)]) → va_S A s.heap H locs → ∀ ls : Array Slot, lv_has ls 6 [(0, .ref (aB 0)), (1, .long L1)] → W p l e (jx_rm 5 117) s m args below meth c H locs 0 0 QQ (F0 m 52 ls [])) → ∀ (H : Heap) (locs : List Loc), va_P D vwCl (jx_ws cI cT [(cp_B aB (aT 0) (aS 0) (aC 0) (aU 0) (aV 0) (aW 0) (aH 0) (aO 0), sB), (cp_C aC (aT 0) (aS 0), sC), (cp_S aS (aT 0), sS), (cp_T aT, sT), (cp_H aH (fun j => hT j 0), sH), (cp_O aO, sO)]) H → va_D A (jx_ws cI cT [(cp_B aB (aT 0) (aS 0) (aC 0) (aU 0) (aV 0) (aW 0) (aH 0) (aO 0), sB), (cp_C aC (aT 0) (aS 0), sC), (cp_S aS (aT 0), sS), (cp_T aT, sT), (cp_H aH (fun j => hT j 0), sH), (cp_O aO, sO)]) → va_S A s.heap H locs → ∀ ls : Array Slot, lv_has ls 6 [(0, .ref (aB 0)), (1, .long L1), (3, .int (jx_i l3))] → W p l e (jx_rm 5 117) s m args below meth c H locs 0 0 QQ (F0 m 6 ls []) := by
    intro K52 n
    induction n with
    | zero =>
      intro sS L1 l3 h
      exact (show False from h).elim
    | succ n ih =>
      intro sS L1 l3 h K52E H locs hP hD hS ls hl
      have h : wp_L_print_6 Q sB sC sT sH sO K52 (jx_it (fun B6 v => wp_L_print_6 Q sB sC sT sH sO K52 B6 v.1 v.2.1 v.2.2) n) sS L1 l3 := h
      have ih := fun sS L1 l3 h => ih sS L1 l3 h K52E
      generalize jx_it (fun B6 v => wp_L_print_6 Q sB sC sT sH sO K52 B6 v.1 v.2.1 v.2.2) n = B6 at h ih
      unfold wp_L_print_6 at h
      have J43 : ∀ (sS : jx_St) (l3 : Int) (J0 : Int64) (t1 : Int), wp_L_print_43 Q sB sC sT sH sO B6 K52 sS l3 J0 t1 → ∀ (H : Heap) (locs : List Loc), va_P D vwCl (jx_ws cI cT [(cp_B aB (aT 0) (aS 0) (aC 0) (aU 0) (aV 0) (aW 0) (aH 0) (aO 0), sB), (cp_C aC (aT 0) (aS 0), sC), (cp_S aS (aT 0), sS), (cp_T aT, sT), (cp_H aH (fun j => hT j 0), sH), (cp_O aO, sO)]) H → va_D A (jx_ws cI cT [(cp_B aB (aT 0) (aS 0) (aC 0) (aU 0) (aV 0) (aW 0) (aH 0) (aO 0), sB), (cp_C aC (aT 0) (aS 0), sC), (cp_S aS (aT 0), sS), (cp_T aT, sT), (cp_H aH (fun j => hT j 0), sH), (cp_O aO, sO)]) → va_S A s.heap H locs → ∀ ls : Array Slot, lv_has ls 6 [(0, .ref (aB 0)), (3, .int (jx_i l3))] → W p l e (jx_rm 5 117) s m args below meth c H locs 0 0 QQ (F0 m 43 ls [.int (jx_i t1), .long J0]) := by
        intro sS l3 J0 t1 h H locs hP hD hS ls hl
        unfold wp_L_print_43 at h
        refine lv_i2l (v := jx_l t1) hx hb dL_print_43 rfl ?_
        refine lv_ladd hx hb dL_print_44 ?_
        refine lv_lstore_n (lv' := [(1, .long (J0 + (jx_l t1))), (0, .ref (aB 0)), (3, .int (jx_i l3))]) hx hb dL_print_45 rfl hl (by decide) rfl (fun ls hl => ?_)
        refine jx_iinc C (lv' := [(3, .int (jx_i (l3 + 1))), (1, .long (J0 + (jx_l t1))), (0, .ref (aB 0))]) dL_print_46 hl (k := 2) rfl (by decide) rfl (fun ls hl => ?_)
        refine lv_goto (tgt := 6) hx hb dL_print_49 (by decide) ?_
        exact ih sS (J0 + (jx_l t1)) (l3 + 1) h _ _ hP hD hS ls (lv_sub hl [2, 1, 0] rfl)
      have J34 : ∀ (sS : jx_St) (l3 : Int) (J0 : Int64), wp_L_print_34 Q sB sC sT sH sO B6 K52 sS l3 J0 → ∀ (H : Heap) (locs : List Loc), va_P D vwCl (jx_ws cI cT [(cp_B aB (aT 0) (aS 0) (aC 0) (aU 0) (aV 0) (aW 0) (aH 0) (aO 0), sB), (cp_C aC (aT 0) (aS 0), sC), (cp_S aS (aT 0), sS), (cp_T aT, sT), (cp_H aH (fun j => hT j 0), sH), (cp_O aO, sO)]) H → va_D A (jx_ws cI cT [(cp_B aB (aT 0) (aS 0) (aC 0) (aU 0) (aV 0) (aW 0) (aH 0) (aO 0), sB), (cp_C aC (aT 0) (aS 0), sC), (cp_S aS (aT 0), sS), (cp_T aT, sT), (cp_H aH (fun j => hT j 0), sH), (cp_O aO, sO)]) → va_S A s.heap H locs → ∀ ls : Array Slot, lv_has ls 6 [(0, .ref (aB 0)), (3, .int (jx_i l3))] → W p l e (jx_rm 5 117) s m args below meth c H locs 0 0 QQ (F0 m 34 ls [.long J0]) := by
        intro sS l3 J0 h H locs hP hD hS ls hl
        unfold wp_L_print_34 at h
        refine jx_iconst C dL_print_34 ?_
        refine lv_goto (tgt := 43) hx hb dL_print_35 (by decide) ?_
        exact J43 sS l3 J0 0 h _ _ hP hD hS ls (lv_sub hl [0, 1] rfl)
      refine lv_iload_n hx hb dL_print_6 rfl (lv_at hl 2 rfl) ?_
      refine jx_bipush C dL_print_7 (by decide) ?_
      refine jx_cge C h.1 (jx_inR (by decide) (by decide)) (tgt := 52) dL_print_9 (by decide) (fun hc => ?_) (fun hc => ?_)
      · have h := h.2.2 hc
        exact K52E sS L1 h _ _ hP hD hS ls (lv_sub hl [0, 1] rfl)
      · have h := h.2.1 hc
        refine lv_ldc2 hx hb C.2.2.2.1 (C.2.2.2.2 _ kcl_L_11) dL_print_12 ?_
        refine lv_lload_n hx hb dL_print_15 rfl (lv_at hl 1 rfl) ?_
        refine lv_lmul hx hb dL_print_16 ?_
        refine lv_iload_n hx hb dL_print_17 rfl (lv_at hl 2 rfl) ?_
        refine jx_iconst C dL_print_18 ?_
        refine jx_eeq C h.1 (tgt := 34) dL_print_19 (by decide) (fun hc => ?_) (fun hc => ?_)
        · have h := h.2.1 hc
          exact J34 sS l3 ((31 : Int64) * L1) h _ _ hP hD hS ls (lv_sub hl [0, 2] rfl)
        · have h := h.2.2 hc
          refine lv_iload_n hx hb dL_print_22 rfl (lv_at hl 2 rfl) ?_
          refine jx_bipush C dL_print_23 (by decide) ?_
          refine jx_eeq C h.1 (tgt := 34) dL_print_25 (by decide) (fun hc => ?_) (fun hc => ?_)
          · have h := h.2.1 hc
            exact J34 sS l3 ((31 : Int64) * L1) h _ _ hP hD hS ls (lv_sub hl [0, 2] rfl)
          · have h := h.2.2 hc
            refine lv_iload_n hx hb dL_print_28 rfl (lv_at hl 2 rfl) ?_
            refine jx_bipush C dL_print_29 (by decide) ?_
            refine jx_ene C h.1 (tgt := 38) dL_print_31 (by decide) (fun hc => ?_) (fun hc => ?_)
            · have h := h.2.2 hc
              refine lv_aload_n hx hb dL_print_38 rfl (lv_at hl 0 rfl) ?_
              refine lv_iload_n hx hb dL_print_39 rfl (lv_at hl 2 rfl) ?_
              refine jx_callVI C hK hP hD hS hA (ct_B_count l D cI cT aB aC aS aT aW aV aU aH hT aO _ sB sC sS sT sH sO l3 h) ms_X7_count lk_L_13 [0, 1, 2, 3, 4, 5] rfl rfl (fun _ => rfl) (cs' := (fun u => [(cp_B aB (aT 0) (aS 0) (aC 0) (aU 0) (aV 0) (aW 0) (aH 0) (aO 0), sB), (cp_C aC (aT 0) (aS 0), sC), (cp_S aS (aT 0), u), (cp_T aT, sT), (cp_H aH (fun j => hT j 0), sH), (cp_O aO, sO)])) (fun _ => rfl) (fun _ => rfl) 0 0 rfl rfl rfl rfl rfl hl.1 rfl rfl dL_print_40 ⟨Nat.le_refl _, Nat.le_refl _⟩ (fun r40 sS_40 H locs h hP hD hS => ?_)
              have hP : va_P D vwCl (jx_ws cI cT [(cp_B aB (aT 0) (aS 0) (aC 0) (aU 0) (aV 0) (aW 0) (aH 0) (aO 0), sB), (cp_C aC (aT 0) (aS 0), sC), (cp_S aS (aT 0), sS_40), (cp_T aT, sT), (cp_H aH (fun j => hT j 0), sH), (cp_O aO, sO)]) H := hP
              have hD : va_D A (jx_ws cI cT [(cp_B aB (aT 0) (aS 0) (aC 0) (aU 0) (aV 0) (aW 0) (aH 0) (aO 0), sB), (cp_C aC (aT 0) (aS 0), sC), (cp_S aS (aT 0), sS_40), (cp_T aT, sT), (cp_H aH (fun j => hT j 0), sH), (cp_O aO, sO)]) := hD
              exact J43 sS_40 l3 ((31 : Int64) * L1) r40 h _ _ hP hD hS ls (lv_sub hl [0, 2] rfl)
            · have h := h.2.1 hc
              exact J34 sS l3 ((31 : Int64) * L1) h _ _ hP hD hS ls (lv_sub hl [0, 2] rfl)
  have Lo54 : ∀ (K97 : jx_St × Int64 → Prop) (n : Nat) (sS : jx_St) (L1 : Int64) (l3 : Int), jx_it (fun B54 v => wp_L_print_54 Q sB sC sT sH sO K97 B54 v.1 v.2.1 v.2.2) n (sS, L1, l3) → (∀ (sS : jx_St) (L1 : Int64), K97 (sS, L1) → ∀ (H : Heap) (locs : List Loc), va_P D vwCl (jx_ws cI cT [(cp_B aB (aT 0) (aS 0) (aC 0) (aU 0) (aV 0) (aW 0) (aH 0) (aO 0), sB), (cp_C aC (aT 0) (aS 0), sC), (cp_S aS (aT 0), sS), (cp_T aT, sT), (cp_H aH (fun j => hT j 0), sH), (cp_O aO, sO)]) H → va_D A (jx_ws cI cT [(cp_B aB (aT 0) (aS 0) (aC 0) (aU 0) (aV 0) (aW 0) (aH 0) (aO 0), sB), (cp_C aC (aT 0) (aS 0), sC), (cp_S aS (aT 0), sS), (cp_T aT, sT), (cp_H aH (fun j => hT j 0), sH), (cp_O aO, sO)]) → va_S A s.heap H locs → ∀ ls : Array Slot, lv_has ls 6 [(0, .ref (aB 0)), (1, .long L1)] → W p l e (jx_rm 5 117) s m args below meth c H locs 0 0 QQ (F0 m 97 ls [])) → ∀ (H : Heap) (locs : List Loc), va_P D vwCl (jx_ws cI cT [(cp_B aB (aT 0) (aS 0) (aC 0) (aU 0) (aV 0) (aW 0) (aH 0) (aO 0), sB), (cp_C aC (aT 0) (aS 0), sC), (cp_S aS (aT 0), sS), (cp_T aT, sT), (cp_H aH (fun j => hT j 0), sH), (cp_O aO, sO)]) H → va_D A (jx_ws cI cT [(cp_B aB (aT 0) (aS 0) (aC 0) (aU 0) (aV 0) (aW 0) (aH 0) (aO 0), sB), (cp_C aC (aT 0) (aS 0), sC), (cp_S aS (aT 0), sS), (cp_T aT, sT), (cp_H aH (fun j => hT j 0), sH), (cp_O aO, sO)]) → va_S A s.heap H locs → ∀ ls : Array Slot, lv_has ls 6 [(0, .ref (aB 0)), (1, .long L1), (3, .int (jx_i l3))] → W p l e (jx_rm 5 117) s m args below meth c H locs 0 0 QQ (F0 m 54 ls []) := by
    intro K97 n
    induction n with
    | zero =>
      intro sS L1 l3 h
      exact (show False from h).elim
    | succ n ih =>
      intro sS L1 l3 h K97E H locs hP hD hS ls hl
      have h : wp_L_print_54 Q sB sC sT sH sO K97 (jx_it (fun B54 v => wp_L_print_54 Q sB sC sT sH sO K97 B54 v.1 v.2.1 v.2.2) n) sS L1 l3 := h
      have ih := fun sS L1 l3 h => ih sS L1 l3 h K97E
      generalize jx_it (fun B54 v => wp_L_print_54 Q sB sC sT sH sO K97 B54 v.1 v.2.1 v.2.2) n = B54 at h ih
      unfold wp_L_print_54 at h
      have Lo63 : ∀ (l3 : Int) (K91 : jx_St × Int64 → Prop) (n : Nat) (sS : jx_St) (L1 : Int64) (l4 : Int), jx_it (fun B63 v => wp_L_print_63 Q sB sC sT sH sO K91 l3 B63 v.1 v.2.1 v.2.2) n (sS, L1, l4) → (∀ (sS : jx_St) (L1 : Int64), K91 (sS, L1) → ∀ (H : Heap) (locs : List Loc), va_P D vwCl (jx_ws cI cT [(cp_B aB (aT 0) (aS 0) (aC 0) (aU 0) (aV 0) (aW 0) (aH 0) (aO 0), sB), (cp_C aC (aT 0) (aS 0), sC), (cp_S aS (aT 0), sS), (cp_T aT, sT), (cp_H aH (fun j => hT j 0), sH), (cp_O aO, sO)]) H → va_D A (jx_ws cI cT [(cp_B aB (aT 0) (aS 0) (aC 0) (aU 0) (aV 0) (aW 0) (aH 0) (aO 0), sB), (cp_C aC (aT 0) (aS 0), sC), (cp_S aS (aT 0), sS), (cp_T aT, sT), (cp_H aH (fun j => hT j 0), sH), (cp_O aO, sO)]) → va_S A s.heap H locs → ∀ ls : Array Slot, lv_has ls 6 [(0, .ref (aB 0)), (1, .long L1), (3, .int (jx_i l3))] → W p l e (jx_rm 5 117) s m args below meth c H locs 0 0 QQ (F0 m 91 ls [])) → ∀ (H : Heap) (locs : List Loc), va_P D vwCl (jx_ws cI cT [(cp_B aB (aT 0) (aS 0) (aC 0) (aU 0) (aV 0) (aW 0) (aH 0) (aO 0), sB), (cp_C aC (aT 0) (aS 0), sC), (cp_S aS (aT 0), sS), (cp_T aT, sT), (cp_H aH (fun j => hT j 0), sH), (cp_O aO, sO)]) H → va_D A (jx_ws cI cT [(cp_B aB (aT 0) (aS 0) (aC 0) (aU 0) (aV 0) (aW 0) (aH 0) (aO 0), sB), (cp_C aC (aT 0) (aS 0), sC), (cp_S aS (aT 0), sS), (cp_T aT, sT), (cp_H aH (fun j => hT j 0), sH), (cp_O aO, sO)]) → va_S A s.heap H locs → ∀ ls : Array Slot, lv_has ls 6 [(0, .ref (aB 0)), (1, .long L1), (3, .int (jx_i l3)), (4, .int (jx_i l4))] → W p l e (jx_rm 5 117) s m args below meth c H locs 0 0 QQ (F0 m 63 ls []) := by
        intro l3 K91 n
        induction n with
        | zero =>
          intro sS L1 l4 h
          exact (show False from h).elim
        | succ n ih =>
          intro sS L1 l4 h K91E H locs hP hD hS ls hl
          have h : wp_L_print_63 Q sB sC sT sH sO K91 l3 (jx_it (fun B63 v => wp_L_print_63 Q sB sC sT sH sO K91 l3 B63 v.1 v.2.1 v.2.2) n) sS L1 l4 := h
          have ih := fun sS L1 l4 h => ih sS L1 l4 h K91E
          generalize jx_it (fun B63 v => wp_L_print_63 Q sB sC sT sH sO K91 l3 B63 v.1 v.2.1 v.2.2) n = B63 at h ih
          unfold wp_L_print_63 at h
          refine lv_iload hx hb dL_print_63 (lv_at hl 3 rfl) ?_
          refine jx_bipush C dL_print_65 (by decide) ?_
          refine jx_cge C h.1 (jx_inR (by decide) (by decide)) (tgt := 91) dL_print_67 (by decide) (fun hc => ?_) (fun hc => ?_)
          · have h := h.2.2 hc
            exact K91E sS L1 h _ _ hP hD hS ls (lv_sub hl [0, 1, 2] rfl)
          · have h := h.2.1 hc
            refine lv_ldc2 hx hb C.2.2.2.1 (C.2.2.2.2 _ kcl_L_11) dL_print_70 ?_
            refine lv_lload_n hx hb dL_print_73 rfl (lv_at hl 1 rfl) ?_
            refine lv_lmul hx hb dL_print_74 ?_
            refine lv_aload_n hx hb dL_print_75 rfl (lv_at hl 0 rfl) ?_
            refine lv_iload_n hx hb dL_print_76 rfl (lv_at hl 2 rfl) ?_
            refine lv_iload hx hb dL_print_77 (lv_at hl 3 rfl) ?_
            refine jx_callVI C hK hP hD hS hA (ct_B_boxOf l D cI cT aB aC aS aT aW aV aU aH hT aO _ sB sS sT l3 l4 h) ms_X7_boxOf lk_L_19 [0, 2, 3] rfl rfl (fun _ => rfl) (cs' := (fun u => [(cp_B aB (aT 0) (aS 0) (aC 0) (aU 0) (aV 0) (aW 0) (aH 0) (aO 0), sB), (cp_C aC (aT 0) (aS 0), sC), (cp_S aS (aT 0), u), (cp_T aT, sT), (cp_H aH (fun j => hT j 0), sH), (cp_O aO, sO)])) (fun _ => rfl) (fun _ => rfl) 0 0 rfl rfl rfl rfl rfl hl.1 rfl rfl dL_print_79 ⟨Nat.le_refl _, Nat.le_refl _⟩ (fun r79 sS_79 H locs h hP hD hS => ?_)
            have hP : va_P D vwCl (jx_ws cI cT [(cp_B aB (aT 0) (aS 0) (aC 0) (aU 0) (aV 0) (aW 0) (aH 0) (aO 0), sB), (cp_C aC (aT 0) (aS 0), sC), (cp_S aS (aT 0), sS_79), (cp_T aT, sT), (cp_H aH (fun j => hT j 0), sH), (cp_O aO, sO)]) H := hP
            have hD : va_D A (jx_ws cI cT [(cp_B aB (aT 0) (aS 0) (aC 0) (aU 0) (aV 0) (aW 0) (aH 0) (aO 0), sB), (cp_C aC (aT 0) (aS 0), sC), (cp_S aS (aT 0), sS_79), (cp_T aT, sT), (cp_H aH (fun j => hT j 0), sH), (cp_O aO, sO)]) := hD
            refine lv_i2l (v := jx_l r79) hx hb dL_print_82 rfl ?_
            refine lv_ladd hx hb dL_print_83 ?_
            refine lv_lstore_n (lv' := [(1, .long (((31 : Int64) * L1) + (jx_l r79))), (0, .ref (aB 0)), (3, .int (jx_i l3)), (4, .int (jx_i l4))]) hx hb dL_print_84 rfl hl (by decide) rfl (fun ls hl => ?_)
            refine jx_iinc C (lv' := [(4, .int (jx_i (l4 + 1))), (1, .long (((31 : Int64) * L1) + (jx_l r79))), (0, .ref (aB 0)), (3, .int (jx_i l3))]) dL_print_85 hl (k := 3) rfl (by decide) rfl (fun ls hl => ?_)
            refine lv_goto (tgt := 63) hx hb dL_print_88 (by decide) ?_
            exact ih sS_79 (((31 : Int64) * L1) + (jx_l r79)) (l4 + 1) h _ _ hP hD hS ls (lv_sub hl [2, 1, 3, 0] rfl)
      have J91 : ∀ (sS : jx_St) (L1 : Int64) (l3 : Int), wp_L_print_91 Q sB sC sT sH sO B54 K97 sS L1 l3 → ∀ (H : Heap) (locs : List Loc), va_P D vwCl (jx_ws cI cT [(cp_B aB (aT 0) (aS 0) (aC 0) (aU 0) (aV 0) (aW 0) (aH 0) (aO 0), sB), (cp_C aC (aT 0) (aS 0), sC), (cp_S aS (aT 0), sS), (cp_T aT, sT), (cp_H aH (fun j => hT j 0), sH), (cp_O aO, sO)]) H → va_D A (jx_ws cI cT [(cp_B aB (aT 0) (aS 0) (aC 0) (aU 0) (aV 0) (aW 0) (aH 0) (aO 0), sB), (cp_C aC (aT 0) (aS 0), sC), (cp_S aS (aT 0), sS), (cp_T aT, sT), (cp_H aH (fun j => hT j 0), sH), (cp_O aO, sO)]) → va_S A s.heap H locs → ∀ ls : Array Slot, lv_has ls 6 [(0, .ref (aB 0)), (1, .long L1), (3, .int (jx_i l3))] → W p l e (jx_rm 5 117) s m args below meth c H locs 0 0 QQ (F0 m 91 ls []) := by
        intro sS L1 l3 h H locs hP hD hS ls hl
        unfold wp_L_print_91 at h
        refine jx_iinc C (lv' := [(3, .int (jx_i (l3 + 1))), (0, .ref (aB 0)), (1, .long L1)]) dL_print_91 hl (k := 2) rfl (by decide) rfl (fun ls hl => ?_)
        refine lv_goto (tgt := 54) hx hb dL_print_94 (by decide) ?_
        exact ih sS L1 (l3 + 1) h _ _ hP hD hS ls (lv_sub hl [1, 2, 0] rfl)
      refine lv_iload_n hx hb dL_print_54 rfl (lv_at hl 2 rfl) ?_
      refine jx_bipush C dL_print_55 (by decide) ?_
      refine jx_cge C h.1 (jx_inR (by decide) (by decide)) (tgt := 97) dL_print_57 (by decide) (fun hc => ?_) (fun hc => ?_)
      · have h := h.2.2 hc
        exact K97E sS L1 h _ _ hP hD hS ls (lv_sub hl [0, 1] rfl)
      · have h := h.2.1 hc
        refine jx_iconst C dL_print_60 ?_
        refine lv_istore (lv' := [(4, .int (jx_i 0)), (0, .ref (aB 0)), (1, .long L1), (3, .int (jx_i l3))]) hx hb dL_print_61 hl (by decide) rfl (fun ls hl => ?_)
        obtain ⟨n, h⟩ := h
        refine Lo63 l3 _ n sS L1 0 h ?_ _ _ hP hD hS ls (lv_sub hl [1, 2, 3, 0] rfl)
        · intro sS L1 h H locs hP hD hS ls hl
          exact J91 sS L1 l3 h _ _ hP hD hS ls (lv_sub hl [0, 1, 2] rfl)
  have Lo99 : ∀ (K180 : jx_St × Int64 → Prop) (n : Nat) (sS : jx_St) (L1 : Int64) (l3 : Int), jx_it (fun B99 v => wp_L_print_99 Q sB sC sT sH sO K180 B99 v.1 v.2.1 v.2.2) n (sS, L1, l3) → (∀ (sS : jx_St) (L1 : Int64), K180 (sS, L1) → ∀ (H : Heap) (locs : List Loc), va_P D vwCl (jx_ws cI cT [(cp_B aB (aT 0) (aS 0) (aC 0) (aU 0) (aV 0) (aW 0) (aH 0) (aO 0), sB), (cp_C aC (aT 0) (aS 0), sC), (cp_S aS (aT 0), sS), (cp_T aT, sT), (cp_H aH (fun j => hT j 0), sH), (cp_O aO, sO)]) H → va_D A (jx_ws cI cT [(cp_B aB (aT 0) (aS 0) (aC 0) (aU 0) (aV 0) (aW 0) (aH 0) (aO 0), sB), (cp_C aC (aT 0) (aS 0), sC), (cp_S aS (aT 0), sS), (cp_T aT, sT), (cp_H aH (fun j => hT j 0), sH), (cp_O aO, sO)]) → va_S A s.heap H locs → ∀ ls : Array Slot, lv_has ls 6 [(1, .long L1)] → W p l e (jx_rm 5 117) s m args below meth c H locs 0 0 QQ (F0 m 180 ls [])) → ∀ (H : Heap) (locs : List Loc), va_P D vwCl (jx_ws cI cT [(cp_B aB (aT 0) (aS 0) (aC 0) (aU 0) (aV 0) (aW 0) (aH 0) (aO 0), sB), (cp_C aC (aT 0) (aS 0), sC), (cp_S aS (aT 0), sS), (cp_T aT, sT), (cp_H aH (fun j => hT j 0), sH), (cp_O aO, sO)]) H → va_D A (jx_ws cI cT [(cp_B aB (aT 0) (aS 0) (aC 0) (aU 0) (aV 0) (aW 0) (aH 0) (aO 0), sB), (cp_C aC (aT 0) (aS 0), sC), (cp_S aS (aT 0), sS), (cp_T aT, sT), (cp_H aH (fun j => hT j 0), sH), (cp_O aO, sO)]) → va_S A s.heap H locs → ∀ ls : Array Slot, lv_has ls 6 [(0, .ref (aB 0)), (1, .long L1), (3, .int (jx_i l3))] → W p l e (jx_rm 5 117) s m args below meth c H locs 0 0 QQ (F0 m 99 ls []) := by
    intro K180 n
    induction n with
    | zero =>
      intro sS L1 l3 h
      exact (show False from h).elim
    | succ n ih =>
      intro sS L1 l3 h K180E H locs hP hD hS ls hl
      have h : wp_L_print_99 Q sB sC sT sH sO K180 (jx_it (fun B99 v => wp_L_print_99 Q sB sC sT sH sO K180 B99 v.1 v.2.1 v.2.2) n) sS L1 l3 := h
      have ih := fun sS L1 l3 h => ih sS L1 l3 h K180E
      generalize jx_it (fun B99 v => wp_L_print_99 Q sB sC sT sH sO K180 B99 v.1 v.2.1 v.2.2) n = B99 at h ih
      unfold wp_L_print_99 at h
      have Lo111 : ∀ (l3 : Int) (K161 : jx_St × Int64 → Prop) (n : Nat) (sS : jx_St) (L1 : Int64) (l4 : Int), jx_it (fun B111 v => wp_L_print_111 Q sB sC sT sH sO K161 l3 B111 v.1 v.2.1 v.2.2) n (sS, L1, l4) → (∀ (sS : jx_St) (L1 : Int64), K161 (sS, L1) → ∀ (H : Heap) (locs : List Loc), va_P D vwCl (jx_ws cI cT [(cp_B aB (aT 0) (aS 0) (aC 0) (aU 0) (aV 0) (aW 0) (aH 0) (aO 0), sB), (cp_C aC (aT 0) (aS 0), sC), (cp_S aS (aT 0), sS), (cp_T aT, sT), (cp_H aH (fun j => hT j 0), sH), (cp_O aO, sO)]) H → va_D A (jx_ws cI cT [(cp_B aB (aT 0) (aS 0) (aC 0) (aU 0) (aV 0) (aW 0) (aH 0) (aO 0), sB), (cp_C aC (aT 0) (aS 0), sC), (cp_S aS (aT 0), sS), (cp_T aT, sT), (cp_H aH (fun j => hT j 0), sH), (cp_O aO, sO)]) → va_S A s.heap H locs → ∀ ls : Array Slot, lv_has ls 6 [(0, .ref (aB 0)), (1, .long L1), (3, .int (jx_i l3))] → W p l e (jx_rm 5 117) s m args below meth c H locs 0 0 QQ (F0 m 161 ls [])) → ∀ (H : Heap) (locs : List Loc), va_P D vwCl (jx_ws cI cT [(cp_B aB (aT 0) (aS 0) (aC 0) (aU 0) (aV 0) (aW 0) (aH 0) (aO 0), sB), (cp_C aC (aT 0) (aS 0), sC), (cp_S aS (aT 0), sS), (cp_T aT, sT), (cp_H aH (fun j => hT j 0), sH), (cp_O aO, sO)]) H → va_D A (jx_ws cI cT [(cp_B aB (aT 0) (aS 0) (aC 0) (aU 0) (aV 0) (aW 0) (aH 0) (aO 0), sB), (cp_C aC (aT 0) (aS 0), sC), (cp_S aS (aT 0), sS), (cp_T aT, sT), (cp_H aH (fun j => hT j 0), sH), (cp_O aO, sO)]) → va_S A s.heap H locs → ∀ ls : Array Slot, lv_has ls 6 [(0, .ref (aB 0)), (1, .long L1), (3, .int (jx_i l3)), (4, .int (jx_i l4))] → W p l e (jx_rm 5 117) s m args below meth c H locs 0 0 QQ (F0 m 111 ls []) := by
        intro l3 K161 n
        induction n with
        | zero =>
          intro sS L1 l4 h
          exact (show False from h).elim
        | succ n ih =>
          intro sS L1 l4 h K161E H locs hP hD hS ls hl
          have h : wp_L_print_111 Q sB sC sT sH sO K161 l3 (jx_it (fun B111 v => wp_L_print_111 Q sB sC sT sH sO K161 l3 B111 v.1 v.2.1 v.2.2) n) sS L1 l4 := h
          have ih := fun sS L1 l4 h => ih sS L1 l4 h K161E
          generalize jx_it (fun B111 v => wp_L_print_111 Q sB sC sT sH sO K161 l3 B111 v.1 v.2.1 v.2.2) n = B111 at h ih
          unfold wp_L_print_111 at h
          have Lo125 : ∀ (l3 : Int) (l4 : Int) (K155 : jx_St × Int64 → Prop) (n : Nat) (sS : jx_St) (L1 : Int64) (l5 : Int), jx_it (fun B125 v => wp_L_print_125 Q sB sC sT sH sO K155 l3 l4 B125 v.1 v.2.1 v.2.2) n (sS, L1, l5) → (∀ (sS : jx_St) (L1 : Int64), K155 (sS, L1) → ∀ (H : Heap) (locs : List Loc), va_P D vwCl (jx_ws cI cT [(cp_B aB (aT 0) (aS 0) (aC 0) (aU 0) (aV 0) (aW 0) (aH 0) (aO 0), sB), (cp_C aC (aT 0) (aS 0), sC), (cp_S aS (aT 0), sS), (cp_T aT, sT), (cp_H aH (fun j => hT j 0), sH), (cp_O aO, sO)]) H → va_D A (jx_ws cI cT [(cp_B aB (aT 0) (aS 0) (aC 0) (aU 0) (aV 0) (aW 0) (aH 0) (aO 0), sB), (cp_C aC (aT 0) (aS 0), sC), (cp_S aS (aT 0), sS), (cp_T aT, sT), (cp_H aH (fun j => hT j 0), sH), (cp_O aO, sO)]) → va_S A s.heap H locs → ∀ ls : Array Slot, lv_has ls 6 [(0, .ref (aB 0)), (1, .long L1), (3, .int (jx_i l3)), (4, .int (jx_i l4))] → W p l e (jx_rm 5 117) s m args below meth c H locs 0 0 QQ (F0 m 155 ls [])) → ∀ (H : Heap) (locs : List Loc), va_P D vwCl (jx_ws cI cT [(cp_B aB (aT 0) (aS 0) (aC 0) (aU 0) (aV 0) (aW 0) (aH 0) (aO 0), sB), (cp_C aC (aT 0) (aS 0), sC), (cp_S aS (aT 0), sS), (cp_T aT, sT), (cp_H aH (fun j => hT j 0), sH), (cp_O aO, sO)]) H → va_D A (jx_ws cI cT [(cp_B aB (aT 0) (aS 0) (aC 0) (aU 0) (aV 0) (aW 0) (aH 0) (aO 0), sB), (cp_C aC (aT 0) (aS 0), sC), (cp_S aS (aT 0), sS), (cp_T aT, sT), (cp_H aH (fun j => hT j 0), sH), (cp_O aO, sO)]) → va_S A s.heap H locs → ∀ ls : Array Slot, lv_has ls 6 [(0, .ref (aB 0)), (1, .long L1), (3, .int (jx_i l3)), (4, .int (jx_i l4)), (5, .int (jx_i l5))] → W p l e (jx_rm 5 117) s m args below meth c H locs 0 0 QQ (F0 m 125 ls []) := by
            intro l3 l4 K155 n
            induction n with
            | zero =>
              intro sS L1 l5 h
              exact (show False from h).elim
            | succ n ih =>
              intro sS L1 l5 h K155E H locs hP hD hS ls hl
              have h : wp_L_print_125 Q sB sC sT sH sO K155 l3 l4 (jx_it (fun B125 v => wp_L_print_125 Q sB sC sT sH sO K155 l3 l4 B125 v.1 v.2.1 v.2.2) n) sS L1 l5 := h
              have ih := fun sS L1 l5 h => ih sS L1 l5 h K155E
              generalize jx_it (fun B125 v => wp_L_print_125 Q sB sC sT sH sO K155 l3 l4 B125 v.1 v.2.1 v.2.2) n = B125 at h ih
              unfold wp_L_print_125 at h
              refine lv_iload hx hb dL_print_125 (lv_at hl 4 rfl) ?_
              refine jx_bipush C dL_print_127 (by decide) ?_
              refine jx_cge C h.1 (jx_inR (by decide) (by decide)) (tgt := 155) dL_print_129 (by decide) (fun hc => ?_) (fun hc => ?_)
              · have h := h.2.2 hc
                exact K155E sS L1 h _ _ hP hD hS ls (lv_sub hl [0, 1, 2, 3] rfl)
              · have h := h.2.1 hc
                refine lv_ldc2 hx hb C.2.2.2.1 (C.2.2.2.2 _ kcl_L_11) dL_print_132 ?_
                refine lv_lload_n hx hb dL_print_135 rfl (lv_at hl 1 rfl) ?_
                refine lv_lmul hx hb dL_print_136 ?_
                refine lv_aload_n hx hb dL_print_137 rfl (lv_at hl 0 rfl) ?_
                refine lv_iload_n hx hb dL_print_138 rfl (lv_at hl 2 rfl) ?_
                refine lv_iload hx hb dL_print_139 (lv_at hl 3 rfl) ?_
                refine lv_iload hx hb dL_print_141 (lv_at hl 4 rfl) ?_
                refine jx_callVI C hK hP hD hS hA (ct_B_nodeOf l D cI cT aB aC aS aT aW aV aU aH hT aO _ sB sS sT l3 l4 l5 h) ms_X7_nodeOf lk_L_23 [0, 2, 3] rfl rfl (fun _ => rfl) (cs' := (fun u => [(cp_B aB (aT 0) (aS 0) (aC 0) (aU 0) (aV 0) (aW 0) (aH 0) (aO 0), sB), (cp_C aC (aT 0) (aS 0), sC), (cp_S aS (aT 0), u), (cp_T aT, sT), (cp_H aH (fun j => hT j 0), sH), (cp_O aO, sO)])) (fun _ => rfl) (fun _ => rfl) 0 0 rfl rfl rfl rfl rfl hl.1 rfl rfl dL_print_143 ⟨Nat.le_refl _, Nat.le_refl _⟩ (fun r143 sS_143 H locs h hP hD hS => ?_)
                have hP : va_P D vwCl (jx_ws cI cT [(cp_B aB (aT 0) (aS 0) (aC 0) (aU 0) (aV 0) (aW 0) (aH 0) (aO 0), sB), (cp_C aC (aT 0) (aS 0), sC), (cp_S aS (aT 0), sS_143), (cp_T aT, sT), (cp_H aH (fun j => hT j 0), sH), (cp_O aO, sO)]) H := hP
                have hD : va_D A (jx_ws cI cT [(cp_B aB (aT 0) (aS 0) (aC 0) (aU 0) (aV 0) (aW 0) (aH 0) (aO 0), sB), (cp_C aC (aT 0) (aS 0), sC), (cp_S aS (aT 0), sS_143), (cp_T aT, sT), (cp_H aH (fun j => hT j 0), sH), (cp_O aO, sO)]) := hD
                refine lv_i2l (v := jx_l r143) hx hb dL_print_146 rfl ?_
                refine lv_ladd hx hb dL_print_147 ?_
                refine lv_lstore_n (lv' := [(1, .long (((31 : Int64) * L1) + (jx_l r143))), (0, .ref (aB 0)), (3, .int (jx_i l3)), (4, .int (jx_i l4)), (5, .int (jx_i l5))]) hx hb dL_print_148 rfl hl (by decide) rfl (fun ls hl => ?_)
                refine jx_iinc C (lv' := [(5, .int (jx_i (l5 + 1))), (1, .long (((31 : Int64) * L1) + (jx_l r143))), (0, .ref (aB 0)), (3, .int (jx_i l3)), (4, .int (jx_i l4))]) dL_print_149 hl (k := 4) rfl (by decide) rfl (fun ls hl => ?_)
                refine lv_goto (tgt := 125) hx hb dL_print_152 (by decide) ?_
                exact ih sS_143 (((31 : Int64) * L1) + (jx_l r143)) (l5 + 1) h _ _ hP hD hS ls (lv_sub hl [2, 1, 3, 4, 0] rfl)
          have J155 : ∀ (sS : jx_St) (L1 : Int64) (l4 : Int), wp_L_print_155 Q sB sC sT sH sO B111 K161 sS L1 l3 l4 → ∀ (H : Heap) (locs : List Loc), va_P D vwCl (jx_ws cI cT [(cp_B aB (aT 0) (aS 0) (aC 0) (aU 0) (aV 0) (aW 0) (aH 0) (aO 0), sB), (cp_C aC (aT 0) (aS 0), sC), (cp_S aS (aT 0), sS), (cp_T aT, sT), (cp_H aH (fun j => hT j 0), sH), (cp_O aO, sO)]) H → va_D A (jx_ws cI cT [(cp_B aB (aT 0) (aS 0) (aC 0) (aU 0) (aV 0) (aW 0) (aH 0) (aO 0), sB), (cp_C aC (aT 0) (aS 0), sC), (cp_S aS (aT 0), sS), (cp_T aT, sT), (cp_H aH (fun j => hT j 0), sH), (cp_O aO, sO)]) → va_S A s.heap H locs → ∀ ls : Array Slot, lv_has ls 6 [(0, .ref (aB 0)), (1, .long L1), (3, .int (jx_i l3)), (4, .int (jx_i l4))] → W p l e (jx_rm 5 117) s m args below meth c H locs 0 0 QQ (F0 m 155 ls []) := by
            intro sS L1 l4 h H locs hP hD hS ls hl
            unfold wp_L_print_155 at h
            refine jx_iinc C (lv' := [(4, .int (jx_i (l4 + 1))), (0, .ref (aB 0)), (1, .long L1), (3, .int (jx_i l3))]) dL_print_155 hl (k := 3) rfl (by decide) rfl (fun ls hl => ?_)
            refine lv_goto (tgt := 111) hx hb dL_print_158 (by decide) ?_
            exact ih sS L1 (l4 + 1) h _ _ hP hD hS ls (lv_sub hl [1, 2, 3, 0] rfl)
          refine lv_aload_n hx hb dL_print_111 rfl (lv_at hl 0 rfl) ?_
          refine lv_iload_n hx hb dL_print_112 rfl (lv_at hl 2 rfl) ?_
          refine lv_iload hx hb dL_print_113 (lv_at hl 3 rfl) ?_
          refine jx_iconst C dL_print_115 ?_
          refine jx_callVI C hK hP hD hS hA (ct_B_nodeOf l D cI cT aB aC aS aT aW aV aU aH hT aO _ sB sS sT l3 l4 4 h) ms_X7_nodeOf lk_L_23 [0, 2, 3] rfl rfl (fun _ => rfl) (cs' := (fun u => [(cp_B aB (aT 0) (aS 0) (aC 0) (aU 0) (aV 0) (aW 0) (aH 0) (aO 0), sB), (cp_C aC (aT 0) (aS 0), sC), (cp_S aS (aT 0), u), (cp_T aT, sT), (cp_H aH (fun j => hT j 0), sH), (cp_O aO, sO)])) (fun _ => rfl) (fun _ => rfl) 0 0 rfl rfl rfl rfl rfl hl.1 rfl rfl dL_print_116 ⟨Nat.le_refl _, Nat.le_refl _⟩ (fun r116 sS_116 H locs h hP hD hS => ?_)
          have hP : va_P D vwCl (jx_ws cI cT [(cp_B aB (aT 0) (aS 0) (aC 0) (aU 0) (aV 0) (aW 0) (aH 0) (aO 0), sB), (cp_C aC (aT 0) (aS 0), sC), (cp_S aS (aT 0), sS_116), (cp_T aT, sT), (cp_H aH (fun j => hT j 0), sH), (cp_O aO, sO)]) H := hP
          have hD : va_D A (jx_ws cI cT [(cp_B aB (aT 0) (aS 0) (aC 0) (aU 0) (aV 0) (aW 0) (aH 0) (aO 0), sB), (cp_C aC (aT 0) (aS 0), sC), (cp_S aS (aT 0), sS_116), (cp_T aT, sT), (cp_H aH (fun j => hT j 0), sH), (cp_O aO, sO)]) := hD
          refine jx_zlt C h.1 (tgt := 161) dL_print_119 (by decide) (fun hc => ?_) (fun hc => ?_)
          · have h := h.2.1 hc
            exact K161E sS_116 L1 h _ _ hP hD hS ls (lv_sub hl [0, 1, 2] rfl)
          · have h := h.2.2 hc
            refine jx_iconst C dL_print_122 ?_
            refine lv_istore (lv' := [(5, .int (jx_i 0)), (0, .ref (aB 0)), (1, .long L1), (3, .int (jx_i l3)), (4, .int (jx_i l4))]) hx hb dL_print_123 hl (by decide) rfl (fun ls hl => ?_)
            obtain ⟨n, h⟩ := h
            refine Lo125 l3 l4 _ n sS_116 L1 0 h ?_ _ _ hP hD hS ls (lv_sub hl [1, 2, 3, 4, 0] rfl)
            · intro sS L1 h H locs hP hD hS ls hl
              exact J155 sS L1 l4 h _ _ hP hD hS ls (lv_sub hl [0, 1, 2, 3] rfl)
      have J161 : ∀ (sS : jx_St) (L1 : Int64) (l3 : Int), wp_L_print_161 Q sB sC sT sH sO B99 K180 sS L1 l3 → ∀ (H : Heap) (locs : List Loc), va_P D vwCl (jx_ws cI cT [(cp_B aB (aT 0) (aS 0) (aC 0) (aU 0) (aV 0) (aW 0) (aH 0) (aO 0), sB), (cp_C aC (aT 0) (aS 0), sC), (cp_S aS (aT 0), sS), (cp_T aT, sT), (cp_H aH (fun j => hT j 0), sH), (cp_O aO, sO)]) H → va_D A (jx_ws cI cT [(cp_B aB (aT 0) (aS 0) (aC 0) (aU 0) (aV 0) (aW 0) (aH 0) (aO 0), sB), (cp_C aC (aT 0) (aS 0), sC), (cp_S aS (aT 0), sS), (cp_T aT, sT), (cp_H aH (fun j => hT j 0), sH), (cp_O aO, sO)]) → va_S A s.heap H locs → ∀ ls : Array Slot, lv_has ls 6 [(0, .ref (aB 0)), (1, .long L1), (3, .int (jx_i l3))] → W p l e (jx_rm 5 117) s m args below meth c H locs 0 0 QQ (F0 m 161 ls []) := by
        intro sS L1 l3 h H locs hP hD hS ls hl
        unfold wp_L_print_161 at h
        refine lv_ldc2 hx hb C.2.2.2.1 (C.2.2.2.2 _ kcl_L_11) dL_print_161 ?_
        refine lv_lload_n hx hb dL_print_164 rfl (lv_at hl 1 rfl) ?_
        refine lv_lmul hx hb dL_print_165 ?_
        refine lv_aload_n hx hb dL_print_166 rfl (lv_at hl 0 rfl) ?_
        refine lv_iload_n hx hb dL_print_167 rfl (lv_at hl 2 rfl) ?_
        refine jx_callVI C hK hP hD hS hA (ct_B_overlaps l D cI cT aB aC aS aT aW aV aU aH hT aO _ sB sS sT l3 h) ms_X7_overlaps lk_L_27 [0, 2, 3] rfl rfl (fun _ => rfl) (cs' := (fun u => [(cp_B aB (aT 0) (aS 0) (aC 0) (aU 0) (aV 0) (aW 0) (aH 0) (aO 0), sB), (cp_C aC (aT 0) (aS 0), sC), (cp_S aS (aT 0), u), (cp_T aT, sT), (cp_H aH (fun j => hT j 0), sH), (cp_O aO, sO)])) (fun _ => rfl) (fun _ => rfl) 0 0 rfl rfl rfl rfl rfl hl.1 rfl rfl dL_print_168 ⟨Nat.le_refl _, Nat.le_refl _⟩ (fun r168 sS_168 H locs h hP hD hS => ?_)
        have hP : va_P D vwCl (jx_ws cI cT [(cp_B aB (aT 0) (aS 0) (aC 0) (aU 0) (aV 0) (aW 0) (aH 0) (aO 0), sB), (cp_C aC (aT 0) (aS 0), sC), (cp_S aS (aT 0), sS_168), (cp_T aT, sT), (cp_H aH (fun j => hT j 0), sH), (cp_O aO, sO)]) H := hP
        have hD : va_D A (jx_ws cI cT [(cp_B aB (aT 0) (aS 0) (aC 0) (aU 0) (aV 0) (aW 0) (aH 0) (aO 0), sB), (cp_C aC (aT 0) (aS 0), sC), (cp_S aS (aT 0), sS_168), (cp_T aT, sT), (cp_H aH (fun j => hT j 0), sH), (cp_O aO, sO)]) := hD
        refine lv_i2l (v := jx_l r168) hx hb dL_print_171 rfl ?_
        refine lv_ladd hx hb dL_print_172 ?_
        refine lv_lstore_n (lv' := [(1, .long (((31 : Int64) * L1) + (jx_l r168))), (0, .ref (aB 0)), (3, .int (jx_i l3))]) hx hb dL_print_173 rfl hl (by decide) rfl (fun ls hl => ?_)
        refine jx_iinc C (lv' := [(3, .int (jx_i (l3 + 1))), (1, .long (((31 : Int64) * L1) + (jx_l r168))), (0, .ref (aB 0))]) dL_print_174 hl (k := 2) rfl (by decide) rfl (fun ls hl => ?_)
        refine lv_goto (tgt := 99) hx hb dL_print_177 (by decide) ?_
        exact ih sS_168 (((31 : Int64) * L1) + (jx_l r168)) (l3 + 1) h _ _ hP hD hS ls (lv_sub hl [2, 1, 0] rfl)
      refine lv_iload_n hx hb dL_print_99 rfl (lv_at hl 2 rfl) ?_
      refine lv_aload_n hx hb dL_print_100 rfl (lv_at hl 0 rfl) ?_
      refine jx_iconst C dL_print_101 ?_
      refine jx_callVI C hK hP hD hS hA (ct_B_count l D cI cT aB aC aS aT aW aV aU aH hT aO _ sB sC sS sT sH sO 1 h) ms_X7_count lk_L_13 [0, 1, 2, 3, 4, 5] rfl rfl (fun _ => rfl) (cs' := (fun u => [(cp_B aB (aT 0) (aS 0) (aC 0) (aU 0) (aV 0) (aW 0) (aH 0) (aO 0), sB), (cp_C aC (aT 0) (aS 0), sC), (cp_S aS (aT 0), u), (cp_T aT, sT), (cp_H aH (fun j => hT j 0), sH), (cp_O aO, sO)])) (fun _ => rfl) (fun _ => rfl) 0 0 rfl rfl rfl rfl rfl hl.1 rfl rfl dL_print_102 ⟨Nat.le_refl _, Nat.le_refl _⟩ (fun r102 sS_102 H locs h hP hD hS => ?_)
      have hP : va_P D vwCl (jx_ws cI cT [(cp_B aB (aT 0) (aS 0) (aC 0) (aU 0) (aV 0) (aW 0) (aH 0) (aO 0), sB), (cp_C aC (aT 0) (aS 0), sC), (cp_S aS (aT 0), sS_102), (cp_T aT, sT), (cp_H aH (fun j => hT j 0), sH), (cp_O aO, sO)]) H := hP
      have hD : va_D A (jx_ws cI cT [(cp_B aB (aT 0) (aS 0) (aC 0) (aU 0) (aV 0) (aW 0) (aH 0) (aO 0), sB), (cp_C aC (aT 0) (aS 0), sC), (cp_S aS (aT 0), sS_102), (cp_T aT, sT), (cp_H aH (fun j => hT j 0), sH), (cp_O aO, sO)]) := hD
      refine jx_cge C h.1 h.2.1 (tgt := 180) dL_print_105 (by decide) (fun hc => ?_) (fun hc => ?_)
      · have h := h.2.2.2 hc
        exact K180E sS_102 L1 h _ _ hP hD hS ls (lv_sub hl [1] rfl)
      · have h := h.2.2.1 hc
        refine jx_iconst C dL_print_108 ?_
        refine lv_istore (lv' := [(4, .int (jx_i 0)), (0, .ref (aB 0)), (1, .long L1), (3, .int (jx_i l3))]) hx hb dL_print_109 hl (by decide) rfl (fun ls hl => ?_)
        obtain ⟨n, h⟩ := h
        refine Lo111 l3 _ n sS_102 L1 0 h ?_ _ _ hP hD hS ls (lv_sub hl [1, 2, 3, 0] rfl)
        · intro sS L1 h H locs hP hD hS ls hl
          exact J161 sS L1 l3 h _ _ hP hD hS ls (lv_sub hl [0, 1, 2] rfl)
  have J180 : ∀ (sS : jx_St) (L1 : Int64), wp_L_print_180 Q sB sC sT sH sO sS L1 → ∀ (H : Heap) (locs : List Loc), va_P D vwCl (jx_ws cI cT [(cp_B aB (aT 0) (aS 0) (aC 0) (aU 0) (aV 0) (aW 0) (aH 0) (aO 0), sB), (cp_C aC (aT 0) (aS 0), sC), (cp_S aS (aT 0), sS), (cp_T aT, sT), (cp_H aH (fun j => hT j 0), sH), (cp_O aO, sO)]) H → va_D A (jx_ws cI cT [(cp_B aB (aT 0) (aS 0) (aC 0) (aU 0) (aV 0) (aW 0) (aH 0) (aO 0), sB), (cp_C aC (aT 0) (aS 0), sC), (cp_S aS (aT 0), sS), (cp_T aT, sT), (cp_H aH (fun j => hT j 0), sH), (cp_O aO, sO)]) → va_S A s.heap H locs → ∀ ls : Array Slot, lv_has ls 6 [(1, .long L1)] → W p l e (jx_rm 5 117) s m args below meth c H locs 0 0 QQ (F0 m 180 ls []) := by
    intro sS L1 h H locs hP hD hS ls hl
    unfold wp_L_print_180 at h
    refine lv_lload_n hx hb dL_print_180 rfl (lv_at hl 0 rfl) ?_
    exact jx_rL C hr hlk hAe hS hQQ sS hP h dL_print_181
  have J97 : ∀ (sS : jx_St) (L1 : Int64), wp_L_print_97 Q sB sC sT sH sO sS L1 → ∀ (H : Heap) (locs : List Loc), va_P D vwCl (jx_ws cI cT [(cp_B aB (aT 0) (aS 0) (aC 0) (aU 0) (aV 0) (aW 0) (aH 0) (aO 0), sB), (cp_C aC (aT 0) (aS 0), sC), (cp_S aS (aT 0), sS), (cp_T aT, sT), (cp_H aH (fun j => hT j 0), sH), (cp_O aO, sO)]) H → va_D A (jx_ws cI cT [(cp_B aB (aT 0) (aS 0) (aC 0) (aU 0) (aV 0) (aW 0) (aH 0) (aO 0), sB), (cp_C aC (aT 0) (aS 0), sC), (cp_S aS (aT 0), sS), (cp_T aT, sT), (cp_H aH (fun j => hT j 0), sH), (cp_O aO, sO)]) → va_S A s.heap H locs → ∀ ls : Array Slot, lv_has ls 6 [(0, .ref (aB 0)), (1, .long L1)] → W p l e (jx_rm 5 117) s m args below meth c H locs 0 0 QQ (F0 m 97 ls []) := by
    intro sS L1 h H locs hP hD hS ls hl
    unfold wp_L_print_97 at h
    refine jx_iconst C dL_print_97 ?_
    refine lv_istore_n (lv' := [(3, .int (jx_i 0)), (0, .ref (aB 0)), (1, .long L1)]) hx hb dL_print_98 rfl hl (by decide) rfl (fun ls hl => ?_)
    obtain ⟨n, h⟩ := h
    refine Lo99 _ n sS L1 0 h ?_ _ _ hP hD hS ls (lv_sub hl [1, 2, 0] rfl)
    · intro sS L1 h H locs hP hD hS ls hl
      exact J180 sS L1 h _ _ hP hD hS ls (lv_sub hl [0] rfl)
  have J52 : ∀ (sS : jx_St) (L1 : Int64), wp_L_print_52 Q sB sC sT sH sO sS L1 → ∀ (H : Heap) (locs : List Loc), va_P D vwCl (jx_ws cI cT [(cp_B aB (aT 0) (aS 0) (aC 0) (aU 0) (aV 0) (aW 0) (aH 0) (aO 0), sB), (cp_C aC (aT 0) (aS 0), sC), (cp_S aS (aT 0), sS), (cp_T aT, sT), (cp_H aH (fun j => hT j 0), sH), (cp_O aO, sO)]) H → va_D A (jx_ws cI cT [(cp_B aB (aT 0) (aS 0) (aC 0) (aU 0) (aV 0) (aW 0) (aH 0) (aO 0), sB), (cp_C aC (aT 0) (aS 0), sC), (cp_S aS (aT 0), sS), (cp_T aT, sT), (cp_H aH (fun j => hT j 0), sH), (cp_O aO, sO)]) → va_S A s.heap H locs → ∀ ls : Array Slot, lv_has ls 6 [(0, .ref (aB 0)), (1, .long L1)] → W p l e (jx_rm 5 117) s m args below meth c H locs 0 0 QQ (F0 m 52 ls []) := by
    intro sS L1 h H locs hP hD hS ls hl
    unfold wp_L_print_52 at h
    refine jx_iconst C dL_print_52 ?_
    refine lv_istore_n (lv' := [(3, .int (jx_i 0)), (0, .ref (aB 0)), (1, .long L1)]) hx hb dL_print_53 rfl hl (by decide) rfl (fun ls hl => ?_)
    obtain ⟨n, h⟩ := h
    refine Lo54 _ n sS L1 0 h ?_ _ _ hP hD hS ls (lv_sub hl [1, 2, 0] rfl)
    · intro sS L1 h H locs hP hD hS ls hl
      exact J97 sS L1 h _ _ hP hD hS ls (lv_sub hl [0, 1] rfl)
  refine lv_ldc2 hx hb C.2.2.2.1 (C.2.2.2.2 _ kcl_L_9) dL_print_0 ?_
  refine lv_lstore_n (lv' := [(1, .long (7 : Int64)), (0, .ref (aB 0))]) hx hb dL_print_3 rfl hl (by decide) rfl (fun ls hl => ?_)
  refine jx_iconst C dL_print_4 ?_
  refine lv_istore_n (lv' := [(3, .int (jx_i 0)), (1, .long (7 : Int64)), (0, .ref (aB 0))]) hx hb dL_print_5 rfl hl (by decide) rfl (fun ls hl => ?_)
  obtain ⟨n, h⟩ := h
  refine Lo6 _ n sS (7 : Int64) 0 h ?_ _ _ hP hD hS ls (lv_sub hl [2, 1, 0] rfl)
  · intro sS L1 h H locs hP hD hS ls hl
    exact J52 sS L1 h _ _ hP hD hS ls (lv_sub hl [0, 1] rfl)
