set_option maxRecDepth 100000 in
set_option maxHeartbeats 4000000 in
theorem ct_Box_side (l : Launch) (D : va_G) (cI cT : ClassId) (Q : Int → Prop) (l0 : Int) (l1 : Int) (h : wp_Box_side Q l0 l1) : jx_KI (Unit) l D cI cT yX0_side cX0_side 2 .int 0 0 [.int (jx_i l0), .int (jx_i l1)] [] (fun _ => []) (fun x _ => Q x) := by
  refine jx_ent (own := RX0) (by decide) rfl (Nat.le_of_ble_eq_true rfl) ?_
  intro p e s m args below meth c A QQ C hr hlk hK hAe hA hP hD hS ls hl hQQ
  have hl : lv_has ls 2 [(0, .int (jx_i l0)), (1, .int (jx_i l1))] := hl
  have hx := C.1
  have hb := C.2.1
  unfold wp_Box_side at h
  refine lv_iload_n hx hb dX0_side_0 rfl (lv_at hl 0 rfl) ?_
  refine jx_bipush C dX0_side_1 (by decide) ?_
  refine lv_iload_n hx hb dX0_side_3 rfl (lv_at hl 1 rfl) ?_
  refine jx_imul C dX0_side_4 ?_
  refine jx_ishr C dX0_side_5 ?_
  refine jx_bipush C dX0_side_6 (by decide) ?_
  refine jx_iand C dX0_side_8 ?_
  exact jx_rI C hr hlk hAe hS hQQ () hP h dX0_side_9
set_option maxRecDepth 100000 in
set_option maxHeartbeats 4000000 in
theorem ct_Box_apart (l : Launch) (D : va_G) (cI cT : ClassId) (Q : Int → Prop) (l0 : Int) (l1 : Int) (h : wp_Box_apart Q l0 l1) : jx_KI (Unit) l D cI cT yX0_apart cX0_apart 4 .int 1 21 [.int (jx_i l0), .int (jx_i l1)] [] (fun _ => []) (fun x _ => Q x) := by
  refine jx_ent (own := RX0) (by decide) rfl (Nat.le_of_ble_eq_true rfl) ?_
  intro p e s m args below meth c A QQ C hr hlk hK hAe hA hP hD hS ls hl hQQ
  have hl : lv_has ls 4 [(0, .int (jx_i l0)), (1, .int (jx_i l1))] := hl
  have hx := C.1
  have hb := C.2.1
  unfold wp_Box_apart at h
  refine lv_iload_n hx hb dX0_apart_0 rfl (lv_at hl 0 rfl) ?_
  refine jx_iconst C dX0_apart_1 ?_
  refine jx_callSI C hK hP hD hS hA (ct_Box_side l D cI cT  _  l0 0 h) ms_X0_side lk_X0_9 [] rfl rfl (fun _ => rfl) (cs' := (fun _ => [])) (fun _ => rfl) (fun _ => rfl) rfl rfl hl.1 rfl rfl dX0_apart_2 ⟨Nat.le_refl _, Nat.le_refl _⟩ (fun r2 _ H locs h hP hD hS => ?_)
  have hP : va_P D vwCl (jx_ws cI cT []) H := hP
  have hD : va_D A (jx_ws cI cT []) := hD
  refine lv_iload_n hx hb dX0_apart_5 rfl (lv_at hl 0 rfl) ?_
  refine jx_iconst C dX0_apart_6 ?_
  refine jx_callSI C hK hP hD hS hA (ct_Box_side l D cI cT  _  l0 2 h) ms_X0_side lk_X0_9 [] rfl rfl (fun _ => rfl) (cs' := (fun _ => [])) (fun _ => rfl) (fun _ => rfl) rfl rfl hl.1 rfl rfl dX0_apart_7 ⟨Nat.le_refl _, Nat.le_refl _⟩ (fun r7 _ H locs h hP hD hS => ?_)
  have hP : va_P D vwCl (jx_ws cI cT []) H := hP
  have hD : va_D A (jx_ws cI cT []) := hD
  refine jx_iadd C dX0_apart_10 ?_
  refine lv_iload_n hx hb dX0_apart_11 rfl (lv_at hl 1 rfl) ?_
  refine jx_iconst C dX0_apart_12 ?_
  refine jx_callSI C hK hP hD hS hA (ct_Box_side l D cI cT  _  l1 0 h) ms_X0_side lk_X0_9 [] rfl rfl (fun _ => rfl) (cs' := (fun _ => [])) (fun _ => rfl) (fun _ => rfl) rfl rfl hl.1 rfl rfl dX0_apart_13 ⟨Nat.le_refl _, Nat.le_refl _⟩ (fun r13 _ H locs h hP hD hS => ?_)
  have hP : va_P D vwCl (jx_ws cI cT []) H := hP
  have hD : va_D A (jx_ws cI cT []) := hD
  refine jx_isub C dX0_apart_16 ?_
  refine lv_iload_n hx hb dX0_apart_17 rfl (lv_at hl 1 rfl) ?_
  refine jx_iconst C dX0_apart_18 ?_
  refine jx_callSI C hK hP hD hS hA (ct_Box_side l D cI cT  _  l1 2 h) ms_X0_side lk_X0_9 [] rfl rfl (fun _ => rfl) (cs' := (fun _ => [])) (fun _ => rfl) (fun _ => rfl) rfl rfl hl.1 rfl rfl dX0_apart_19 ⟨Nat.le_refl _, Nat.le_refl _⟩ (fun r19 _ H locs h hP hD hS => ?_)
  have hP : va_P D vwCl (jx_ws cI cT []) H := hP
  have hD : va_D A (jx_ws cI cT []) := hD
  refine jx_isub C dX0_apart_22 ?_
  refine lv_istore_n (lv' := [(2, .int (jx_i (((r2 + r7) - r13) - r19))), (0, .int (jx_i l0)), (1, .int (jx_i l1))]) hx hb dX0_apart_23 rfl hl (by decide) rfl (fun ls hl => ?_)
  refine lv_iload_n hx hb dX0_apart_24 rfl (lv_at hl 1 rfl) ?_
  refine jx_iconst C dX0_apart_25 ?_
  refine jx_callSI C hK hP hD hS hA (ct_Box_side l D cI cT  _  l0 1 h) ms_X0_side lk_X0_9 [] rfl rfl (fun _ => rfl) (cs' := (fun _ => [])) (fun _ => rfl) (fun _ => rfl) rfl rfl hl.1 rfl rfl dX0_apart_26 ⟨Nat.le_refl _, Nat.le_refl _⟩ (fun r26 _ H locs h hP hD hS => ?_)
  have hP : va_P D vwCl (jx_ws cI cT []) H := hP
  have hD : va_D A (jx_ws cI cT []) := hD
  refine lv_iload_n hx hb dX0_apart_29 rfl (lv_at hl 1 rfl) ?_
  refine jx_iconst C dX0_apart_30 ?_
  refine jx_callSI C hK hP hD hS hA (ct_Box_side l D cI cT  _  l0 3 h) ms_X0_side lk_X0_9 [] rfl rfl (fun _ => rfl) (cs' := (fun _ => [])) (fun _ => rfl) (fun _ => rfl) rfl rfl hl.1 rfl rfl dX0_apart_31 ⟨Nat.le_refl _, Nat.le_refl _⟩ (fun r31 _ H locs h hP hD hS => ?_)
  have hP : va_P D vwCl (jx_ws cI cT []) H := hP
  have hD : va_D A (jx_ws cI cT []) := hD
  refine jx_iadd C dX0_apart_34 ?_
  refine lv_iload_n hx hb dX0_apart_35 rfl (lv_at hl 2 rfl) ?_
  refine jx_iconst C dX0_apart_36 ?_
  refine jx_callSI C hK hP hD hS hA (ct_Box_side l D cI cT  _  l1 1 h) ms_X0_side lk_X0_9 [] rfl rfl (fun _ => rfl) (cs' := (fun _ => [])) (fun _ => rfl) (fun _ => rfl) rfl rfl hl.1 rfl rfl dX0_apart_37 ⟨Nat.le_refl _, Nat.le_refl _⟩ (fun r37 _ H locs h hP hD hS => ?_)
  have hP : va_P D vwCl (jx_ws cI cT []) H := hP
  have hD : va_D A (jx_ws cI cT []) := hD
  refine jx_isub C dX0_apart_40 ?_
  refine lv_iload_n hx hb dX0_apart_41 rfl (lv_at hl 2 rfl) ?_
  refine jx_iconst C dX0_apart_42 ?_
  refine jx_callSI C hK hP hD hS hA (ct_Box_side l D cI cT  _  l1 3 h) ms_X0_side lk_X0_9 [] rfl rfl (fun _ => rfl) (cs' := (fun _ => [])) (fun _ => rfl) (fun _ => rfl) rfl rfl hl.1 rfl rfl dX0_apart_43 ⟨Nat.le_refl _, Nat.le_refl _⟩ (fun r43 _ H locs h hP hD hS => ?_)
  have hP : va_P D vwCl (jx_ws cI cT []) H := hP
  have hD : va_D A (jx_ws cI cT []) := hD
  refine jx_isub C dX0_apart_46 ?_
  refine lv_istore_n (lv' := [(3, .int (jx_i (((r26 + r31) - r37) - r43))), (2, .int (jx_i (((r2 + r7) - r13) - r19))), (0, .int (jx_i l0)), (1, .int (jx_i l1))]) hx hb dX0_apart_47 rfl hl (by decide) rfl (fun ls hl => ?_)
  refine lv_iload_n hx hb dX0_apart_48 rfl (lv_at hl 1 rfl) ?_
  refine lv_iload_n hx hb dX0_apart_49 rfl (lv_at hl 1 rfl) ?_
  refine jx_imul C dX0_apart_50 ?_
  refine lv_iload_n hx hb dX0_apart_51 rfl (lv_at hl 0 rfl) ?_
  refine lv_iload_n hx hb dX0_apart_52 rfl (lv_at hl 0 rfl) ?_
  refine jx_imul C dX0_apart_53 ?_
  refine jx_iadd C dX0_apart_54 ?_
  exact jx_rI C hr hlk hAe hS hQQ () hP h dX0_apart_55
set_option maxRecDepth 100000 in
set_option maxHeartbeats 4000000 in
theorem ct_Box_area (l : Launch) (D : va_G) (cI cT : ClassId) (Q : Int → Prop) (l0 : Int) (h : wp_Box_area Q l0) : jx_KI (Unit) l D cI cT yX0_area cX0_area 1 .int 1 21 [.int (jx_i l0)] [] (fun _ => []) (fun x _ => Q x) := by
  refine jx_ent (own := RX0) (by decide) rfl (Nat.le_of_ble_eq_true rfl) ?_
  intro p e s m args below meth c A QQ C hr hlk hK hAe hA hP hD hS ls hl hQQ
  have hl : lv_has ls 1 [(0, .int (jx_i l0))] := hl
  have hx := C.1
  have hb := C.2.1
  unfold wp_Box_area at h
  refine lv_iload_n hx hb dX0_area_0 rfl (lv_at hl 0 rfl) ?_
  refine jx_iconst C dX0_area_1 ?_
  refine jx_cne C h.1 (jx_inR (by decide) (by decide)) (tgt := 9) dX0_area_2 (by decide) (fun hc => ?_) (fun hc => ?_)
  · have h := h.2.2 hc
    refine lv_iload_n hx hb dX0_area_9 rfl (lv_at hl 0 rfl) ?_
    refine jx_iconst C dX0_area_10 ?_
    refine jx_callSI C hK hP hD hS hA (ct_Box_side l D cI cT  _  l0 2 h) ms_X0_side lk_X0_9 [] rfl rfl (fun _ => rfl) (cs' := (fun _ => [])) (fun _ => rfl) (fun _ => rfl) rfl rfl hl.1 rfl rfl dX0_area_11 ⟨Nat.le_refl _, Nat.le_refl _⟩ (fun r11 _ H locs h hP hD hS => ?_)
    have hP : va_P D vwCl (jx_ws cI cT []) H := hP
    have hD : va_D A (jx_ws cI cT []) := hD
    refine lv_iload_n hx hb dX0_area_14 rfl (lv_at hl 0 rfl) ?_
    refine jx_iconst C dX0_area_15 ?_
    refine jx_callSI C hK hP hD hS hA (ct_Box_side l D cI cT  _  l0 0 h) ms_X0_side lk_X0_9 [] rfl rfl (fun _ => rfl) (cs' := (fun _ => [])) (fun _ => rfl) (fun _ => rfl) rfl rfl hl.1 rfl rfl dX0_area_16 ⟨Nat.le_refl _, Nat.le_refl _⟩ (fun r16 _ H locs h hP hD hS => ?_)
    have hP : va_P D vwCl (jx_ws cI cT []) H := hP
    have hD : va_D A (jx_ws cI cT []) := hD
    refine jx_isub C dX0_area_19 ?_
    refine lv_iload_n hx hb dX0_area_20 rfl (lv_at hl 0 rfl) ?_
    refine jx_iconst C dX0_area_21 ?_
    refine jx_callSI C hK hP hD hS hA (ct_Box_side l D cI cT  _  l0 3 h) ms_X0_side lk_X0_9 [] rfl rfl (fun _ => rfl) (cs' := (fun _ => [])) (fun _ => rfl) (fun _ => rfl) rfl rfl hl.1 rfl rfl dX0_area_22 ⟨Nat.le_refl _, Nat.le_refl _⟩ (fun r22 _ H locs h hP hD hS => ?_)
    have hP : va_P D vwCl (jx_ws cI cT []) H := hP
    have hD : va_D A (jx_ws cI cT []) := hD
    refine lv_iload_n hx hb dX0_area_25 rfl (lv_at hl 0 rfl) ?_
    refine jx_iconst C dX0_area_26 ?_
    refine jx_callSI C hK hP hD hS hA (ct_Box_side l D cI cT  _  l0 1 h) ms_X0_side lk_X0_9 [] rfl rfl (fun _ => rfl) (cs' := (fun _ => [])) (fun _ => rfl) (fun _ => rfl) rfl rfl hl.1 rfl rfl dX0_area_27 ⟨Nat.le_refl _, Nat.le_refl _⟩ (fun r27 _ H locs h hP hD hS => ?_)
    have hP : va_P D vwCl (jx_ws cI cT []) H := hP
    have hD : va_D A (jx_ws cI cT []) := hD
    refine jx_isub C dX0_area_30 ?_
    refine jx_imul C dX0_area_31 ?_
    exact jx_rI C hr hlk hAe hS hQQ () hP h dX0_area_32
  · have h := h.2.1 hc
    refine jx_iconst C dX0_area_5 ?_
    refine lv_goto (tgt := 32) hx hb dX0_area_6 (by decide) ?_
    exact jx_rI C hr hlk hAe hS hQQ () hP h dX0_area_32
set_option maxRecDepth 100000 in
set_option maxHeartbeats 4000000 in
theorem ct_Box_of (l : Launch) (D : va_G) (cI cT : ClassId) (Q : Int → Prop) (l0 : Int) (l1 : Int) (l2 : Int) (l3 : Int) (h : wp_Box_of Q l0 l1 l2 l3) : jx_KI (Unit) l D cI cT yX0_of cX0_of 4 .int 0 0 [.int (jx_i l0), .int (jx_i l1), .int (jx_i l2), .int (jx_i l3)] [] (fun _ => []) (fun x _ => Q x) := by
  refine jx_ent (own := RX0) (by decide) rfl (Nat.le_of_ble_eq_true rfl) ?_
  intro p e s m args below meth c A QQ C hr hlk hK hAe hA hP hD hS ls hl hQQ
  have hl : lv_has ls 4 [(0, .int (jx_i l0)), (1, .int (jx_i l1)), (2, .int (jx_i l2)), (3, .int (jx_i l3))] := hl
  have hx := C.1
  have hb := C.2.1
  unfold wp_Box_of at h
  refine lv_iload_n hx hb dX0_of_0 rfl (lv_at hl 0 rfl) ?_
  refine lv_iload_n hx hb dX0_of_1 rfl (lv_at hl 1 rfl) ?_
  refine jx_bipush C dX0_of_2 (by decide) ?_
  refine jx_ishl C dX0_of_4 ?_
  refine jx_ior C dX0_of_5 ?_
  refine lv_iload_n hx hb dX0_of_6 rfl (lv_at hl 2 rfl) ?_
  refine jx_bipush C dX0_of_7 (by decide) ?_
  refine jx_ishl C dX0_of_9 ?_
  refine jx_ior C dX0_of_10 ?_
  refine lv_iload_n hx hb dX0_of_11 rfl (lv_at hl 3 rfl) ?_
  refine jx_bipush C dX0_of_12 (by decide) ?_
  refine jx_ishl C dX0_of_14 ?_
  refine jx_ior C dX0_of_15 ?_
  exact jx_rI C hr hlk hAe hS hQQ () hP h dX0_of_16
set_option maxRecDepth 100000 in
set_option maxHeartbeats 4000000 in
theorem ct_Box_around (l : Launch) (D : va_G) (cI cT : ClassId) (Q : Int → Prop) (l0 : Int) (l1 : Int) (h : wp_Box_around Q l0 l1) : jx_KI (Unit) l D cI cT yX0_around cX0_around 2 .int 1 23 [.int (jx_i l0), .int (jx_i l1)] [] (fun _ => []) (fun x _ => Q x) := by
  refine jx_ent (own := RX0) (by decide) rfl (Nat.le_of_ble_eq_true rfl) ?_
  intro p e s m args below meth c A QQ C hr hlk hK hAe hA hP hD hS ls hl hQQ
  have hl : lv_has ls 2 [(0, .int (jx_i l0)), (1, .int (jx_i l1))] := hl
  have hx := C.1
  have hb := C.2.1
  unfold wp_Box_around at h
  have J10 : wp_Box_around_10 Q l0 l1 → ∀ (H : Heap) (locs : List Loc), va_P D vwCl (jx_ws cI cT []) H → va_D A (jx_ws cI cT []) → va_S A s.heap H locs → ∀ ls : Array Slot, lv_has ls 2 [(0, .int (jx_i l0)), (1, .int (jx_i l1))] → W p l e (jx_rm 1 23) s m args below meth c H locs 0 0 QQ (F0 m 10 ls []) := by
    intro h H locs hP hD hS ls hl
    unfold wp_Box_around_10 at h
    refine lv_iload_n hx hb dX0_around_10 rfl (lv_at hl 0 rfl) ?_
    refine jx_iconst C dX0_around_11 ?_
    refine jx_cne C h.1 (jx_inR (by decide) (by decide)) (tgt := 19) dX0_around_12 (by decide) (fun hc => ?_) (fun hc => ?_)
    · have h := h.2.2 hc
      refine lv_iload_n hx hb dX0_around_19 rfl (lv_at hl 0 rfl) ?_
      exact jx_rI C hr hlk hAe hS hQQ () hP h dX0_around_20
    · have h := h.2.1 hc
      refine lv_iload_n hx hb dX0_around_15 rfl (lv_at hl 1 rfl) ?_
      refine lv_goto (tgt := 20) hx hb dX0_around_16 (by decide) ?_
      exact jx_rI C hr hlk hAe hS hQQ () hP h dX0_around_20
  refine lv_iload_n hx hb dX0_around_0 rfl (lv_at hl 0 rfl) ?_
  refine jx_iconst C dX0_around_1 ?_
  refine jx_ceq C h.1 (jx_inR (by decide) (by decide)) (tgt := 10) dX0_around_2 (by decide) (fun hc => ?_) (fun hc => ?_)
  · have h := h.2.1 hc
    exact J10  h _ _ hP hD hS ls (lv_sub hl [0, 1] rfl)
  · have h := h.2.2 hc
    refine lv_iload_n hx hb dX0_around_5 rfl (lv_at hl 1 rfl) ?_
    refine jx_iconst C dX0_around_6 ?_
    refine jx_cne C h.1 (jx_inR (by decide) (by decide)) (tgt := 21) dX0_around_7 (by decide) (fun hc => ?_) (fun hc => ?_)
    · have h := h.2.2 hc
      refine lv_iload_n hx hb dX0_around_21 rfl (lv_at hl 0 rfl) ?_
      refine jx_iconst C dX0_around_22 ?_
      refine jx_callSI C hK hP hD hS hA (ct_Box_side l D cI cT  _  l0 0 h) ms_X0_side lk_X0_9 [] rfl rfl (fun _ => rfl) (cs' := (fun _ => [])) (fun _ => rfl) (fun _ => rfl) rfl rfl hl.1 rfl rfl dX0_around_23 ⟨Nat.le_refl _, Nat.le_refl _⟩ (fun r23 _ H locs h hP hD hS => ?_)
      have hP : va_P D vwCl (jx_ws cI cT []) H := hP
      have hD : va_D A (jx_ws cI cT []) := hD
      refine lv_iload_n hx hb dX0_around_26 rfl (lv_at hl 1 rfl) ?_
      refine jx_iconst C dX0_around_27 ?_
      refine jx_callSI C hK hP hD hS hA (ct_Box_side l D cI cT  _  l1 0 h) ms_X0_side lk_X0_9 [] rfl rfl (fun _ => rfl) (cs' := (fun _ => [])) (fun _ => rfl) (fun _ => rfl) rfl rfl hl.1 rfl rfl dX0_around_28 ⟨Nat.le_refl _, Nat.le_refl _⟩ (fun r28 _ H locs h hP hD hS => ?_)
      have hP : va_P D vwCl (jx_ws cI cT []) H := hP
      have hD : va_D A (jx_ws cI cT []) := hD
      refine jx_min C h.1 h.2.1 lk_X0_15 hl.1 rfl dX0_around_31 ⟨Nat.le_refl _, Nat.le_refl _⟩ jx_wMin ?_
      have h := h.2.2
      refine lv_iload_n hx hb dX0_around_34 rfl (lv_at hl 0 rfl) ?_
      refine jx_iconst C dX0_around_35 ?_
      refine jx_callSI C hK hP hD hS hA (ct_Box_side l D cI cT  _  l0 1 h) ms_X0_side lk_X0_9 [] rfl rfl (fun _ => rfl) (cs' := (fun _ => [])) (fun _ => rfl) (fun _ => rfl) rfl rfl hl.1 rfl rfl dX0_around_36 ⟨Nat.le_refl _, Nat.le_refl _⟩ (fun r36 _ H locs h hP hD hS => ?_)
      have hP : va_P D vwCl (jx_ws cI cT []) H := hP
      have hD : va_D A (jx_ws cI cT []) := hD
      refine lv_iload_n hx hb dX0_around_39 rfl (lv_at hl 1 rfl) ?_
      refine jx_iconst C dX0_around_40 ?_
      refine jx_callSI C hK hP hD hS hA (ct_Box_side l D cI cT  _  l1 1 h) ms_X0_side lk_X0_9 [] rfl rfl (fun _ => rfl) (cs' := (fun _ => [])) (fun _ => rfl) (fun _ => rfl) rfl rfl hl.1 rfl rfl dX0_around_41 ⟨Nat.le_refl _, Nat.le_refl _⟩ (fun r41 _ H locs h hP hD hS => ?_)
      have hP : va_P D vwCl (jx_ws cI cT []) H := hP
      have hD : va_D A (jx_ws cI cT []) := hD
      refine jx_min C h.1 h.2.1 lk_X0_15 hl.1 rfl dX0_around_44 ⟨Nat.le_refl _, Nat.le_refl _⟩ jx_wMin ?_
      have h := h.2.2
      refine lv_iload_n hx hb dX0_around_47 rfl (lv_at hl 0 rfl) ?_
      refine jx_iconst C dX0_around_48 ?_
      refine jx_callSI C hK hP hD hS hA (ct_Box_side l D cI cT  _  l0 2 h) ms_X0_side lk_X0_9 [] rfl rfl (fun _ => rfl) (cs' := (fun _ => [])) (fun _ => rfl) (fun _ => rfl) rfl rfl hl.1 rfl rfl dX0_around_49 ⟨Nat.le_refl _, Nat.le_refl _⟩ (fun r49 _ H locs h hP hD hS => ?_)
      have hP : va_P D vwCl (jx_ws cI cT []) H := hP
      have hD : va_D A (jx_ws cI cT []) := hD
      refine lv_iload_n hx hb dX0_around_52 rfl (lv_at hl 1 rfl) ?_
      refine jx_iconst C dX0_around_53 ?_
      refine jx_callSI C hK hP hD hS hA (ct_Box_side l D cI cT  _  l1 2 h) ms_X0_side lk_X0_9 [] rfl rfl (fun _ => rfl) (cs' := (fun _ => [])) (fun _ => rfl) (fun _ => rfl) rfl rfl hl.1 rfl rfl dX0_around_54 ⟨Nat.le_refl _, Nat.le_refl _⟩ (fun r54 _ H locs h hP hD hS => ?_)
      have hP : va_P D vwCl (jx_ws cI cT []) H := hP
      have hD : va_D A (jx_ws cI cT []) := hD
      refine jx_max C h.1 h.2.1 lk_X0_20 hl.1 rfl dX0_around_57 ⟨Nat.le_refl _, Nat.le_refl _⟩ jx_wMax ?_
      have h := h.2.2
      refine lv_iload_n hx hb dX0_around_60 rfl (lv_at hl 0 rfl) ?_
      refine jx_iconst C dX0_around_61 ?_
      refine jx_callSI C hK hP hD hS hA (ct_Box_side l D cI cT  _  l0 3 h) ms_X0_side lk_X0_9 [] rfl rfl (fun _ => rfl) (cs' := (fun _ => [])) (fun _ => rfl) (fun _ => rfl) rfl rfl hl.1 rfl rfl dX0_around_62 ⟨Nat.le_refl _, Nat.le_refl _⟩ (fun r62 _ H locs h hP hD hS => ?_)
      have hP : va_P D vwCl (jx_ws cI cT []) H := hP
      have hD : va_D A (jx_ws cI cT []) := hD
      refine lv_iload_n hx hb dX0_around_65 rfl (lv_at hl 1 rfl) ?_
      refine jx_iconst C dX0_around_66 ?_
      refine jx_callSI C hK hP hD hS hA (ct_Box_side l D cI cT  _  l1 3 h) ms_X0_side lk_X0_9 [] rfl rfl (fun _ => rfl) (cs' := (fun _ => [])) (fun _ => rfl) (fun _ => rfl) rfl rfl hl.1 rfl rfl dX0_around_67 ⟨Nat.le_refl _, Nat.le_refl _⟩ (fun r67 _ H locs h hP hD hS => ?_)
      have hP : va_P D vwCl (jx_ws cI cT []) H := hP
      have hD : va_D A (jx_ws cI cT []) := hD
      refine jx_max C h.1 h.2.1 lk_X0_20 hl.1 rfl dX0_around_70 ⟨Nat.le_refl _, Nat.le_refl _⟩ jx_wMax ?_
      have h := h.2.2
      refine jx_callSI C hK hP hD hS hA (ct_Box_of l D cI cT  _  (min r23 r28) (min r36 r41) (max r49 r54) (max r62 r67) h) ms_X0_of lk_X0_23 [] rfl rfl (fun _ => rfl) (cs' := (fun _ => [])) (fun _ => rfl) (fun _ => rfl) rfl rfl hl.1 rfl rfl dX0_around_73 ⟨Nat.le_refl _, Nat.le_refl _⟩ (fun r73 _ H locs h hP hD hS => ?_)
      have hP : va_P D vwCl (jx_ws cI cT []) H := hP
      have hD : va_D A (jx_ws cI cT []) := hD
      exact jx_rI C hr hlk hAe hS hQQ () hP h dX0_around_76
    · have h := h.2.1 hc
      exact J10  h _ _ hP hD hS ls (lv_sub hl [0, 1] rfl)
set_option maxRecDepth 100000 in
set_option maxHeartbeats 4000000 in
theorem ct_Box_touch (l : Launch) (D : va_G) (cI cT : ClassId) (Q : Int → Prop) (l0 : Int) (l1 : Int) (h : wp_Box_touch Q l0 l1) : jx_KI (Unit) l D cI cT yX0_touch cX0_touch 2 .boolean 1 21 [.int (jx_i l0), .int (jx_i l1)] [] (fun _ => []) (fun x _ => Q x) := by
  refine jx_ent (own := RX0) (by decide) rfl (Nat.le_of_ble_eq_true rfl) ?_
  intro p e s m args below meth c A QQ C hr hlk hK hAe hA hP hD hS ls hl hQQ
  have hl : lv_has ls 2 [(0, .int (jx_i l0)), (1, .int (jx_i l1))] := hl
  have hx := C.1
  have hb := C.2.1
  unfold wp_Box_touch at h
  refine lv_iload_n hx hb dX0_touch_0 rfl (lv_at hl 0 rfl) ?_
  refine jx_iconst C dX0_touch_1 ?_
  refine jx_ceq C h.1 (jx_inR (by decide) (by decide)) (tgt := 66) dX0_touch_2 (by decide) (fun hc => ?_) (fun hc => ?_)
  · have h := h.2.1 hc
    refine jx_iconst C dX0_touch_66 ?_
    exact jx_rZ C hr hlk hAe hS hQQ (by decide) () hP h dX0_touch_67
  · have h := h.2.2 hc
    refine lv_iload_n hx hb dX0_touch_5 rfl (lv_at hl 1 rfl) ?_
    refine jx_iconst C dX0_touch_6 ?_
    refine jx_ceq C h.1 (jx_inR (by decide) (by decide)) (tgt := 66) dX0_touch_7 (by decide) (fun hc => ?_) (fun hc => ?_)
    · have h := h.2.1 hc
      refine jx_iconst C dX0_touch_66 ?_
      exact jx_rZ C hr hlk hAe hS hQQ (by decide) () hP h dX0_touch_67
    · have h := h.2.2 hc
      refine lv_iload_n hx hb dX0_touch_10 rfl (lv_at hl 0 rfl) ?_
      refine jx_iconst C dX0_touch_11 ?_
      refine jx_callSI C hK hP hD hS hA (ct_Box_side l D cI cT  _  l0 0 h) ms_X0_side lk_X0_9 [] rfl rfl (fun _ => rfl) (cs' := (fun _ => [])) (fun _ => rfl) (fun _ => rfl) rfl rfl hl.1 rfl rfl dX0_touch_12 ⟨Nat.le_refl _, Nat.le_refl _⟩ (fun r12 _ H locs h hP hD hS => ?_)
      have hP : va_P D vwCl (jx_ws cI cT []) H := hP
      have hD : va_D A (jx_ws cI cT []) := hD
      refine lv_iload_n hx hb dX0_touch_15 rfl (lv_at hl 1 rfl) ?_
      refine jx_iconst C dX0_touch_16 ?_
      refine jx_callSI C hK hP hD hS hA (ct_Box_side l D cI cT  _  l1 2 h) ms_X0_side lk_X0_9 [] rfl rfl (fun _ => rfl) (cs' := (fun _ => [])) (fun _ => rfl) (fun _ => rfl) rfl rfl hl.1 rfl rfl dX0_touch_17 ⟨Nat.le_refl _, Nat.le_refl _⟩ (fun r17 _ H locs h hP hD hS => ?_)
      have hP : va_P D vwCl (jx_ws cI cT []) H := hP
      have hD : va_D A (jx_ws cI cT []) := hD
      refine jx_cgt C h.1 h.2.1 (tgt := 66) dX0_touch_20 (by decide) (fun hc => ?_) (fun hc => ?_)
      · have h := h.2.2.2 hc
        refine jx_iconst C dX0_touch_66 ?_
        exact jx_rZ C hr hlk hAe hS hQQ (by decide) () hP h dX0_touch_67
      · have h := h.2.2.1 hc
        refine lv_iload_n hx hb dX0_touch_23 rfl (lv_at hl 1 rfl) ?_
        refine jx_iconst C dX0_touch_24 ?_
        refine jx_callSI C hK hP hD hS hA (ct_Box_side l D cI cT  _  l1 0 h) ms_X0_side lk_X0_9 [] rfl rfl (fun _ => rfl) (cs' := (fun _ => [])) (fun _ => rfl) (fun _ => rfl) rfl rfl hl.1 rfl rfl dX0_touch_25 ⟨Nat.le_refl _, Nat.le_refl _⟩ (fun r25 _ H locs h hP hD hS => ?_)
        have hP : va_P D vwCl (jx_ws cI cT []) H := hP
        have hD : va_D A (jx_ws cI cT []) := hD
        refine lv_iload_n hx hb dX0_touch_28 rfl (lv_at hl 0 rfl) ?_
        refine jx_iconst C dX0_touch_29 ?_
        refine jx_callSI C hK hP hD hS hA (ct_Box_side l D cI cT  _  l0 2 h) ms_X0_side lk_X0_9 [] rfl rfl (fun _ => rfl) (cs' := (fun _ => [])) (fun _ => rfl) (fun _ => rfl) rfl rfl hl.1 rfl rfl dX0_touch_30 ⟨Nat.le_refl _, Nat.le_refl _⟩ (fun r30 _ H locs h hP hD hS => ?_)
        have hP : va_P D vwCl (jx_ws cI cT []) H := hP
        have hD : va_D A (jx_ws cI cT []) := hD
        refine jx_cgt C h.1 h.2.1 (tgt := 66) dX0_touch_33 (by decide) (fun hc => ?_) (fun hc => ?_)
        · have h := h.2.2.2 hc
          refine jx_iconst C dX0_touch_66 ?_
          exact jx_rZ C hr hlk hAe hS hQQ (by decide) () hP h dX0_touch_67
        · have h := h.2.2.1 hc
          refine lv_iload_n hx hb dX0_touch_36 rfl (lv_at hl 0 rfl) ?_
          refine jx_iconst C dX0_touch_37 ?_
          refine jx_callSI C hK hP hD hS hA (ct_Box_side l D cI cT  _  l0 1 h) ms_X0_side lk_X0_9 [] rfl rfl (fun _ => rfl) (cs' := (fun _ => [])) (fun _ => rfl) (fun _ => rfl) rfl rfl hl.1 rfl rfl dX0_touch_38 ⟨Nat.le_refl _, Nat.le_refl _⟩ (fun r38 _ H locs h hP hD hS => ?_)
          have hP : va_P D vwCl (jx_ws cI cT []) H := hP
          have hD : va_D A (jx_ws cI cT []) := hD
          refine lv_iload_n hx hb dX0_touch_41 rfl (lv_at hl 1 rfl) ?_
          refine jx_iconst C dX0_touch_42 ?_
          refine jx_callSI C hK hP hD hS hA (ct_Box_side l D cI cT  _  l1 3 h) ms_X0_side lk_X0_9 [] rfl rfl (fun _ => rfl) (cs' := (fun _ => [])) (fun _ => rfl) (fun _ => rfl) rfl rfl hl.1 rfl rfl dX0_touch_43 ⟨Nat.le_refl _, Nat.le_refl _⟩ (fun r43 _ H locs h hP hD hS => ?_)
          have hP : va_P D vwCl (jx_ws cI cT []) H := hP
          have hD : va_D A (jx_ws cI cT []) := hD
          refine jx_cgt C h.1 h.2.1 (tgt := 66) dX0_touch_46 (by decide) (fun hc => ?_) (fun hc => ?_)
          · have h := h.2.2.2 hc
            refine jx_iconst C dX0_touch_66 ?_
            exact jx_rZ C hr hlk hAe hS hQQ (by decide) () hP h dX0_touch_67
          · have h := h.2.2.1 hc
            refine lv_iload_n hx hb dX0_touch_49 rfl (lv_at hl 1 rfl) ?_
            refine jx_iconst C dX0_touch_50 ?_
            refine jx_callSI C hK hP hD hS hA (ct_Box_side l D cI cT  _  l1 1 h) ms_X0_side lk_X0_9 [] rfl rfl (fun _ => rfl) (cs' := (fun _ => [])) (fun _ => rfl) (fun _ => rfl) rfl rfl hl.1 rfl rfl dX0_touch_51 ⟨Nat.le_refl _, Nat.le_refl _⟩ (fun r51 _ H locs h hP hD hS => ?_)
            have hP : va_P D vwCl (jx_ws cI cT []) H := hP
            have hD : va_D A (jx_ws cI cT []) := hD
            refine lv_iload_n hx hb dX0_touch_54 rfl (lv_at hl 0 rfl) ?_
            refine jx_iconst C dX0_touch_55 ?_
            refine jx_callSI C hK hP hD hS hA (ct_Box_side l D cI cT  _  l0 3 h) ms_X0_side lk_X0_9 [] rfl rfl (fun _ => rfl) (cs' := (fun _ => [])) (fun _ => rfl) (fun _ => rfl) rfl rfl hl.1 rfl rfl dX0_touch_56 ⟨Nat.le_refl _, Nat.le_refl _⟩ (fun r56 _ H locs h hP hD hS => ?_)
            have hP : va_P D vwCl (jx_ws cI cT []) H := hP
            have hD : va_D A (jx_ws cI cT []) := hD
            refine jx_cgt C h.1 h.2.1 (tgt := 66) dX0_touch_59 (by decide) (fun hc => ?_) (fun hc => ?_)
            · have h := h.2.2.2 hc
              refine jx_iconst C dX0_touch_66 ?_
              exact jx_rZ C hr hlk hAe hS hQQ (by decide) () hP h dX0_touch_67
            · have h := h.2.2.1 hc
              refine jx_iconst C dX0_touch_62 ?_
              refine lv_goto (tgt := 67) hx hb dX0_touch_63 (by decide) ?_
              exact jx_rZ C hr hlk hAe hS hQQ (by decide) () hP h dX0_touch_67
set_option maxRecDepth 100000 in
set_option maxHeartbeats 4000000 in
theorem ct_Box_common (l : Launch) (D : va_G) (cI cT : ClassId) (Q : Int → Prop) (l0 : Int) (l1 : Int) (h : wp_Box_common Q l0 l1) : jx_KI (Unit) l D cI cT yX0_common cX0_common 4 .int 2 42 [.int (jx_i l0), .int (jx_i l1)] [] (fun _ => []) (fun x _ => Q x) := by
  refine jx_ent (own := RX0) (by decide) rfl (Nat.le_of_ble_eq_true rfl) ?_
  intro p e s m args below meth c A QQ C hr hlk hK hAe hA hP hD hS ls hl hQQ
  have hl : lv_has ls 4 [(0, .int (jx_i l0)), (1, .int (jx_i l1))] := hl
  have hx := C.1
  have hb := C.2.1
  unfold wp_Box_common at h
  refine lv_iload_n hx hb dX0_common_0 rfl (lv_at hl 0 rfl) ?_
  refine lv_iload_n hx hb dX0_common_1 rfl (lv_at hl 1 rfl) ?_
  refine jx_callSI C hK hP hD hS hA (ct_Box_touch l D cI cT  _  l0 l1 h) ms_X0_touch lk_X0_27 [] rfl rfl (fun _ => rfl) (cs' := (fun _ => [])) (fun _ => rfl) (fun _ => rfl) rfl rfl hl.1 rfl rfl dX0_common_2 ⟨Nat.le_refl _, Nat.le_refl _⟩ (fun r2 _ H locs h hP hD hS => ?_)
  have hP : va_P D vwCl (jx_ws cI cT []) H := hP
  have hD : va_D A (jx_ws cI cT []) := hD
  refine jx_zne C h.1 (tgt := 10) dX0_common_5 (by decide) (fun hc => ?_) (fun hc => ?_)
  · have h := h.2.2 hc
    refine lv_iload_n hx hb dX0_common_10 rfl (lv_at hl 0 rfl) ?_
    refine jx_iconst C dX0_common_11 ?_
    refine jx_callSI C hK hP hD hS hA (ct_Box_side l D cI cT  _  l0 2 h) ms_X0_side lk_X0_9 [] rfl rfl (fun _ => rfl) (cs' := (fun _ => [])) (fun _ => rfl) (fun _ => rfl) rfl rfl hl.1 rfl rfl dX0_common_12 ⟨Nat.le_refl _, Nat.le_refl _⟩ (fun r12 _ H locs h hP hD hS => ?_)
    have hP : va_P D vwCl (jx_ws cI cT []) H := hP
    have hD : va_D A (jx_ws cI cT []) := hD
    refine lv_iload_n hx hb dX0_common_15 rfl (lv_at hl 1 rfl) ?_
    refine jx_iconst C dX0_common_16 ?_
    refine jx_callSI C hK hP hD hS hA (ct_Box_side l D cI cT  _  l1 2 h) ms_X0_side lk_X0_9 [] rfl rfl (fun _ => rfl) (cs' := (fun _ => [])) (fun _ => rfl) (fun _ => rfl) rfl rfl hl.1 rfl rfl dX0_common_17 ⟨Nat.le_refl _, Nat.le_refl _⟩ (fun r17 _ H locs h hP hD hS => ?_)
    have hP : va_P D vwCl (jx_ws cI cT []) H := hP
    have hD : va_D A (jx_ws cI cT []) := hD
    refine jx_min C h.1 h.2.1 lk_X0_15 hl.1 rfl dX0_common_20 ⟨Nat.le_refl _, Nat.le_refl _⟩ jx_wMin ?_
    have h := h.2.2
    refine lv_iload_n hx hb dX0_common_23 rfl (lv_at hl 0 rfl) ?_
    refine jx_iconst C dX0_common_24 ?_
    refine jx_callSI C hK hP hD hS hA (ct_Box_side l D cI cT  _  l0 0 h) ms_X0_side lk_X0_9 [] rfl rfl (fun _ => rfl) (cs' := (fun _ => [])) (fun _ => rfl) (fun _ => rfl) rfl rfl hl.1 rfl rfl dX0_common_25 ⟨Nat.le_refl _, Nat.le_refl _⟩ (fun r25 _ H locs h hP hD hS => ?_)
    have hP : va_P D vwCl (jx_ws cI cT []) H := hP
    have hD : va_D A (jx_ws cI cT []) := hD
    refine lv_iload_n hx hb dX0_common_28 rfl (lv_at hl 1 rfl) ?_
    refine jx_iconst C dX0_common_29 ?_
    refine jx_callSI C hK hP hD hS hA (ct_Box_side l D cI cT  _  l1 0 h) ms_X0_side lk_X0_9 [] rfl rfl (fun _ => rfl) (cs' := (fun _ => [])) (fun _ => rfl) (fun _ => rfl) rfl rfl hl.1 rfl rfl dX0_common_30 ⟨Nat.le_refl _, Nat.le_refl _⟩ (fun r30 _ H locs h hP hD hS => ?_)
    have hP : va_P D vwCl (jx_ws cI cT []) H := hP
    have hD : va_D A (jx_ws cI cT []) := hD
    refine jx_max C h.1 h.2.1 lk_X0_20 hl.1 rfl dX0_common_33 ⟨Nat.le_refl _, Nat.le_refl _⟩ jx_wMax ?_
    have h := h.2.2
    refine jx_isub C dX0_common_36 ?_
    refine lv_istore_n (lv' := [(2, .int (jx_i ((min r12 r17) - (max r25 r30)))), (0, .int (jx_i l0)), (1, .int (jx_i l1))]) hx hb dX0_common_37 rfl hl (by decide) rfl (fun ls hl => ?_)
    refine lv_iload_n hx hb dX0_common_38 rfl (lv_at hl 1 rfl) ?_
    refine jx_iconst C dX0_common_39 ?_
    refine jx_callSI C hK hP hD hS hA (ct_Box_side l D cI cT  _  l0 3 h) ms_X0_side lk_X0_9 [] rfl rfl (fun _ => rfl) (cs' := (fun _ => [])) (fun _ => rfl) (fun _ => rfl) rfl rfl hl.1 rfl rfl dX0_common_40 ⟨Nat.le_refl _, Nat.le_refl _⟩ (fun r40 _ H locs h hP hD hS => ?_)
    have hP : va_P D vwCl (jx_ws cI cT []) H := hP
    have hD : va_D A (jx_ws cI cT []) := hD
    refine lv_iload_n hx hb dX0_common_43 rfl (lv_at hl 2 rfl) ?_
    refine jx_iconst C dX0_common_44 ?_
    refine jx_callSI C hK hP hD hS hA (ct_Box_side l D cI cT  _  l1 3 h) ms_X0_side lk_X0_9 [] rfl rfl (fun _ => rfl) (cs' := (fun _ => [])) (fun _ => rfl) (fun _ => rfl) rfl rfl hl.1 rfl rfl dX0_common_45 ⟨Nat.le_refl _, Nat.le_refl _⟩ (fun r45 _ H locs h hP hD hS => ?_)
    have hP : va_P D vwCl (jx_ws cI cT []) H := hP
    have hD : va_D A (jx_ws cI cT []) := hD
    refine jx_min C h.1 h.2.1 lk_X0_15 hl.1 rfl dX0_common_48 ⟨Nat.le_refl _, Nat.le_refl _⟩ jx_wMin ?_
    have h := h.2.2
    refine lv_iload_n hx hb dX0_common_51 rfl (lv_at hl 1 rfl) ?_
    refine jx_iconst C dX0_common_52 ?_
    refine jx_callSI C hK hP hD hS hA (ct_Box_side l D cI cT  _  l0 1 h) ms_X0_side lk_X0_9 [] rfl rfl (fun _ => rfl) (cs' := (fun _ => [])) (fun _ => rfl) (fun _ => rfl) rfl rfl hl.1 rfl rfl dX0_common_53 ⟨Nat.le_refl _, Nat.le_refl _⟩ (fun r53 _ H locs h hP hD hS => ?_)
    have hP : va_P D vwCl (jx_ws cI cT []) H := hP
    have hD : va_D A (jx_ws cI cT []) := hD
    refine lv_iload_n hx hb dX0_common_56 rfl (lv_at hl 2 rfl) ?_
    refine jx_iconst C dX0_common_57 ?_
    refine jx_callSI C hK hP hD hS hA (ct_Box_side l D cI cT  _  l1 1 h) ms_X0_side lk_X0_9 [] rfl rfl (fun _ => rfl) (cs' := (fun _ => [])) (fun _ => rfl) (fun _ => rfl) rfl rfl hl.1 rfl rfl dX0_common_58 ⟨Nat.le_refl _, Nat.le_refl _⟩ (fun r58 _ H locs h hP hD hS => ?_)
    have hP : va_P D vwCl (jx_ws cI cT []) H := hP
    have hD : va_D A (jx_ws cI cT []) := hD
    refine jx_max C h.1 h.2.1 lk_X0_20 hl.1 rfl dX0_common_61 ⟨Nat.le_refl _, Nat.le_refl _⟩ jx_wMax ?_
    have h := h.2.2
    refine jx_isub C dX0_common_64 ?_
    refine lv_istore_n (lv' := [(3, .int (jx_i ((min r40 r45) - (max r53 r58)))), (2, .int (jx_i ((min r12 r17) - (max r25 r30)))), (0, .int (jx_i l0)), (1, .int (jx_i l1))]) hx hb dX0_common_65 rfl hl (by decide) rfl (fun ls hl => ?_)
    refine lv_iload_n hx hb dX0_common_66 rfl (lv_at hl 1 rfl) ?_
    refine lv_iload_n hx hb dX0_common_67 rfl (lv_at hl 0 rfl) ?_
    refine jx_imul C dX0_common_68 ?_
    exact jx_rI C hr hlk hAe hS hQQ () hP h dX0_common_69
  · have h := h.2.1 hc
    refine jx_iconst C dX0_common_8 ?_
    exact jx_rI C hr hlk hAe hS hQQ () hP h dX0_common_9
set_option maxRecDepth 100000 in
set_option maxHeartbeats 4000000 in
theorem ct_Box_distance (l : Launch) (D : va_G) (cI cT : ClassId) (Q : Int → Prop) (l0 : Int) (l1 : Int) (l2 : Int) (h : wp_Box_distance Q l0 l1 l2) : jx_KI (Unit) l D cI cT yX0_distance cX0_distance 5 .int 1 21 [.int (jx_i l0), .int (jx_i l1), .int (jx_i l2)] [] (fun _ => []) (fun x _ => Q x) := by
  refine jx_ent (own := RX0) (by decide) rfl (Nat.le_of_ble_eq_true rfl) ?_
  intro p e s m args below meth c A QQ C hr hlk hK hAe hA hP hD hS ls hl hQQ
  have hl : lv_has ls 5 [(0, .int (jx_i l0)), (1, .int (jx_i l1)), (2, .int (jx_i l2))] := hl
  have hx := C.1
  have hb := C.2.1
  unfold wp_Box_distance at h
  refine jx_iconst C dX0_distance_0 ?_
  refine lv_iload_n hx hb dX0_distance_1 rfl (lv_at hl 0 rfl) ?_
  refine jx_iconst C dX0_distance_2 ?_
  refine jx_callSI C hK hP hD hS hA (ct_Box_side l D cI cT  _  l0 0 h) ms_X0_side lk_X0_9 [] rfl rfl (fun _ => rfl) (cs' := (fun _ => [])) (fun _ => rfl) (fun _ => rfl) rfl rfl hl.1 rfl rfl dX0_distance_3 ⟨Nat.le_refl _, Nat.le_refl _⟩ (fun r3 _ H locs h hP hD hS => ?_)
  have hP : va_P D vwCl (jx_ws cI cT []) H := hP
  have hD : va_D A (jx_ws cI cT []) := hD
  refine lv_iload_n hx hb dX0_distance_6 rfl (lv_at hl 1 rfl) ?_
  refine jx_isub C dX0_distance_7 ?_
  refine lv_iload_n hx hb dX0_distance_8 rfl (lv_at hl 1 rfl) ?_
  refine lv_iload_n hx hb dX0_distance_9 rfl (lv_at hl 0 rfl) ?_
  refine jx_iconst C dX0_distance_10 ?_
  refine jx_callSI C hK hP hD hS hA (ct_Box_side l D cI cT  _  l0 2 h) ms_X0_side lk_X0_9 [] rfl rfl (fun _ => rfl) (cs' := (fun _ => [])) (fun _ => rfl) (fun _ => rfl) rfl rfl hl.1 rfl rfl dX0_distance_11 ⟨Nat.le_refl _, Nat.le_refl _⟩ (fun r11 _ H locs h hP hD hS => ?_)
  have hP : va_P D vwCl (jx_ws cI cT []) H := hP
  have hD : va_D A (jx_ws cI cT []) := hD
  refine jx_isub C dX0_distance_14 ?_
  refine jx_max C h.1 h.2.1 lk_X0_20 hl.1 rfl dX0_distance_15 ⟨Nat.le_refl _, Nat.le_refl _⟩ jx_wMax ?_
  have h := h.2.2
  refine jx_max C (jx_inR (by decide) (by decide)) h.1 lk_X0_20 hl.1 rfl dX0_distance_18 ⟨Nat.le_refl _, Nat.le_refl _⟩ jx_wMax ?_
  have h := h.2
  refine lv_istore_n (lv' := [(3, .int (jx_i (max 0 (max (r3 - l1) (l1 - r11))))), (0, .int (jx_i l0)), (1, .int (jx_i l1)), (2, .int (jx_i l2))]) hx hb dX0_distance_21 rfl hl (by decide) rfl (fun ls hl => ?_)
  refine jx_iconst C dX0_distance_22 ?_
  refine lv_iload_n hx hb dX0_distance_23 rfl (lv_at hl 1 rfl) ?_
  refine jx_iconst C dX0_distance_24 ?_
  refine jx_callSI C hK hP hD hS hA (ct_Box_side l D cI cT  _  l0 1 h) ms_X0_side lk_X0_9 [] rfl rfl (fun _ => rfl) (cs' := (fun _ => [])) (fun _ => rfl) (fun _ => rfl) rfl rfl hl.1 rfl rfl dX0_distance_25 ⟨Nat.le_refl _, Nat.le_refl _⟩ (fun r25 _ H locs h hP hD hS => ?_)
  have hP : va_P D vwCl (jx_ws cI cT []) H := hP
  have hD : va_D A (jx_ws cI cT []) := hD
  refine lv_iload_n hx hb dX0_distance_28 rfl (lv_at hl 3 rfl) ?_
  refine jx_isub C dX0_distance_29 ?_
  refine lv_iload_n hx hb dX0_distance_30 rfl (lv_at hl 3 rfl) ?_
  refine lv_iload_n hx hb dX0_distance_31 rfl (lv_at hl 1 rfl) ?_
  refine jx_iconst C dX0_distance_32 ?_
  refine jx_callSI C hK hP hD hS hA (ct_Box_side l D cI cT  _  l0 3 h) ms_X0_side lk_X0_9 [] rfl rfl (fun _ => rfl) (cs' := (fun _ => [])) (fun _ => rfl) (fun _ => rfl) rfl rfl hl.1 rfl rfl dX0_distance_33 ⟨Nat.le_refl _, Nat.le_refl _⟩ (fun r33 _ H locs h hP hD hS => ?_)
  have hP : va_P D vwCl (jx_ws cI cT []) H := hP
  have hD : va_D A (jx_ws cI cT []) := hD
  refine jx_isub C dX0_distance_36 ?_
  refine jx_max C h.1 h.2.1 lk_X0_20 hl.1 rfl dX0_distance_37 ⟨Nat.le_refl _, Nat.le_refl _⟩ jx_wMax ?_
  have h := h.2.2
  refine jx_max C (jx_inR (by decide) (by decide)) h.1 lk_X0_20 hl.1 rfl dX0_distance_40 ⟨Nat.le_refl _, Nat.le_refl _⟩ jx_wMax ?_
  have h := h.2
  refine lv_istore (lv' := [(4, .int (jx_i (max 0 (max (r25 - l2) (l2 - r33))))), (3, .int (jx_i (max 0 (max (r3 - l1) (l1 - r11))))), (0, .int (jx_i l0)), (1, .int (jx_i l1)), (2, .int (jx_i l2))]) hx hb dX0_distance_43 hl (by decide) rfl (fun ls hl => ?_)
  refine lv_iload_n hx hb dX0_distance_45 rfl (lv_at hl 1 rfl) ?_
  refine lv_iload_n hx hb dX0_distance_46 rfl (lv_at hl 1 rfl) ?_
  refine jx_imul C dX0_distance_47 ?_
  refine lv_iload hx hb dX0_distance_48 (lv_at hl 0 rfl) ?_
  refine lv_iload hx hb dX0_distance_50 (lv_at hl 0 rfl) ?_
  refine jx_imul C dX0_distance_52 ?_
  refine jx_iadd C dX0_distance_53 ?_
  exact jx_rI C hr hlk hAe hS hQQ () hP h dX0_distance_54
set_option maxRecDepth 100000 in
set_option maxHeartbeats 4000000 in
theorem ct_Box_key (l : Launch) (D : va_G) (cI cT : ClassId) (Q : Int → Prop) (l0 : Int) (l1 : Int) (h : wp_Box_key Q l0 l1) : jx_KI (Unit) l D cI cT yX0_key cX0_key 2 .int 1 21 [.int (jx_i l0), .int (jx_i l1)] [] (fun _ => []) (fun x _ => Q x) := by
  refine jx_ent (own := RX0) (by decide) rfl (Nat.le_of_ble_eq_true rfl) ?_
  intro p e s m args below meth c A QQ C hr hlk hK hAe hA hP hD hS ls hl hQQ
  have hl : lv_has ls 2 [(0, .int (jx_i l0)), (1, .int (jx_i l1))] := hl
  have hx := C.1
  have hb := C.2.1
  unfold wp_Box_key at h
  refine lv_iload_n hx hb dX0_key_0 rfl (lv_at hl 0 rfl) ?_
  refine lv_iload_n hx hb dX0_key_1 rfl (lv_at hl 1 rfl) ?_
  refine jx_callSI C hK hP hD hS hA (ct_Box_side l D cI cT  _  l0 l1 h) ms_X0_side lk_X0_9 [] rfl rfl (fun _ => rfl) (cs' := (fun _ => [])) (fun _ => rfl) (fun _ => rfl) rfl rfl hl.1 rfl rfl dX0_key_2 ⟨Nat.le_refl _, Nat.le_refl _⟩ (fun r2 _ H locs h hP hD hS => ?_)
  have hP : va_P D vwCl (jx_ws cI cT []) H := hP
  have hD : va_D A (jx_ws cI cT []) := hD
  refine jx_bipush C dX0_key_5 (by decide) ?_
  refine jx_ishl C dX0_key_7 ?_
  refine lv_iload_n hx hb dX0_key_8 rfl (lv_at hl 0 rfl) ?_
  refine lv_iload_n hx hb dX0_key_9 rfl (lv_at hl 1 rfl) ?_
  refine jx_iconst C dX0_key_10 ?_
  refine jx_iadd C dX0_key_11 ?_
  refine jx_callSI C hK hP hD hS hA (ct_Box_side l D cI cT  _  l0 (l1 + 2) h) ms_X0_side lk_X0_9 [] rfl rfl (fun _ => rfl) (cs' := (fun _ => [])) (fun _ => rfl) (fun _ => rfl) rfl rfl hl.1 rfl rfl dX0_key_12 ⟨Nat.le_refl _, Nat.le_refl _⟩ (fun r12 _ H locs h hP hD hS => ?_)
  have hP : va_P D vwCl (jx_ws cI cT []) H := hP
  have hD : va_D A (jx_ws cI cT []) := hD
  refine jx_ior C dX0_key_15 ?_
  exact jx_rI C hr hlk hAe hS hQQ () hP h dX0_key_16
