set_option maxRecDepth 100000 in
set_option maxHeartbeats 4000000 in
theorem ct_M_in (l : Launch) (D : va_G) (cI cT : ClassId) (Q : Int → Prop) (l0 : Int) (l1 : Int) (l2 : Int) (h : wp_M_in Q l0 l1 l2) : jx_KI (Unit) l D cI cT yX8_in cX8_in 3 .boolean 0 0 [.int (jx_i l0), .int (jx_i l1), .int (jx_i l2)] [] (fun _ => []) (fun x _ => Q x) := by
  refine jx_ent (own := RX8) (by decide) rfl (Nat.le_of_ble_eq_true rfl) ?_
  intro p e s m args below meth c A QQ C hr hlk hK hAe hA hP hD hS ls hl hQQ
  have hl : lv_has ls 3 [(0, .int (jx_i l0)), (1, .int (jx_i l1)), (2, .int (jx_i l2))] := hl
  have hx := C.1
  have hb := C.2.1
  unfold wp_M_in at h
  refine lv_iload_n hx hb dX8_in_0 rfl (lv_at hl 0 rfl) ?_
  refine lv_iload_n hx hb dX8_in_1 rfl (lv_at hl 1 rfl) ?_
  refine jx_clt C h.1 h.2.1 (tgt := 14) dX8_in_2 (by decide) (fun hc => ?_) (fun hc => ?_)
  · have h := h.2.2.1 hc
    refine jx_iconst C dX8_in_14 ?_
    exact jx_rZ C hr hlk hAe hS hQQ (by decide) () hP h dX8_in_15
  · have h := h.2.2.2 hc
    refine lv_iload_n hx hb dX8_in_5 rfl (lv_at hl 0 rfl) ?_
    refine lv_iload_n hx hb dX8_in_6 rfl (lv_at hl 2 rfl) ?_
    refine jx_cgt C h.1 h.2.1 (tgt := 14) dX8_in_7 (by decide) (fun hc => ?_) (fun hc => ?_)
    · have h := h.2.2.2 hc
      refine jx_iconst C dX8_in_14 ?_
      exact jx_rZ C hr hlk hAe hS hQQ (by decide) () hP h dX8_in_15
    · have h := h.2.2.1 hc
      refine jx_iconst C dX8_in_10 ?_
      refine lv_goto (tgt := 15) hx hb dX8_in_11 (by decide) ?_
      exact jx_rZ C hr hlk hAe hS hQQ (by decide) () hP h dX8_in_15
set_option maxRecDepth 100000 in
set_option maxHeartbeats 4000000 in
theorem ct_M_areSides (l : Launch) (D : va_G) (cI cT : ClassId) (Q : Int → Prop) (l0 : Int) (l1 : Int) (l2 : Int) (l3 : Int) (h : wp_M_areSides Q l0 l1 l2 l3) : jx_KI (Unit) l D cI cT yX8_areSides cX8_areSides 4 .boolean 1 22 [.int (jx_i l0), .int (jx_i l1), .int (jx_i l2), .int (jx_i l3)] [] (fun _ => []) (fun x _ => Q x) := by
  refine jx_ent (own := RX8) (by decide) rfl (Nat.le_of_ble_eq_true rfl) ?_
  intro p e s m args below meth c A QQ C hr hlk hK hAe hA hP hD hS ls hl hQQ
  have hl : lv_has ls 4 [(0, .int (jx_i l0)), (1, .int (jx_i l1)), (2, .int (jx_i l2)), (3, .int (jx_i l3))] := hl
  have hx := C.1
  have hb := C.2.1
  unfold wp_M_areSides at h
  refine lv_iload_n hx hb dX8_areSides_0 rfl (lv_at hl 0 rfl) ?_
  refine jx_iconst C dX8_areSides_1 ?_
  refine jx_bipush C dX8_areSides_2 (by decide) ?_
  refine jx_callSI C hK hP hD hS hA (ct_M_in l D cI cT  _  l0 0 99 h) ms_X8_in lk_X8_180 [] rfl rfl (fun _ => rfl) (cs' := (fun _ => [])) (fun _ => rfl) (fun _ => rfl) rfl rfl hl.1 rfl rfl dX8_areSides_4 ⟨Nat.le_refl _, Nat.le_refl _⟩ (fun r4 _ H locs h hP hD hS => ?_)
  have hP : va_P D vwCl (jx_ws cI cT []) H := hP
  have hD : va_D A (jx_ws cI cT []) := hD
  refine jx_zeq C h.1 (tgt := 44) dX8_areSides_7 (by decide) (fun hc => ?_) (fun hc => ?_)
  · have h := h.2.1 hc
    refine jx_iconst C dX8_areSides_44 ?_
    exact jx_rZ C hr hlk hAe hS hQQ (by decide) () hP h dX8_areSides_45
  · have h := h.2.2 hc
    refine lv_iload_n hx hb dX8_areSides_10 rfl (lv_at hl 1 rfl) ?_
    refine jx_iconst C dX8_areSides_11 ?_
    refine jx_bipush C dX8_areSides_12 (by decide) ?_
    refine jx_callSI C hK hP hD hS hA (ct_M_in l D cI cT  _  l1 0 99 h) ms_X8_in lk_X8_180 [] rfl rfl (fun _ => rfl) (cs' := (fun _ => [])) (fun _ => rfl) (fun _ => rfl) rfl rfl hl.1 rfl rfl dX8_areSides_14 ⟨Nat.le_refl _, Nat.le_refl _⟩ (fun r14 _ H locs h hP hD hS => ?_)
    have hP : va_P D vwCl (jx_ws cI cT []) H := hP
    have hD : va_D A (jx_ws cI cT []) := hD
    refine jx_zeq C h.1 (tgt := 44) dX8_areSides_17 (by decide) (fun hc => ?_) (fun hc => ?_)
    · have h := h.2.1 hc
      refine jx_iconst C dX8_areSides_44 ?_
      exact jx_rZ C hr hlk hAe hS hQQ (by decide) () hP h dX8_areSides_45
    · have h := h.2.2 hc
      refine lv_iload_n hx hb dX8_areSides_20 rfl (lv_at hl 2 rfl) ?_
      refine lv_iload_n hx hb dX8_areSides_21 rfl (lv_at hl 0 rfl) ?_
      refine jx_bipush C dX8_areSides_22 (by decide) ?_
      refine jx_callSI C hK hP hD hS hA (ct_M_in l D cI cT  _  l2 l0 99 h) ms_X8_in lk_X8_180 [] rfl rfl (fun _ => rfl) (cs' := (fun _ => [])) (fun _ => rfl) (fun _ => rfl) rfl rfl hl.1 rfl rfl dX8_areSides_24 ⟨Nat.le_refl _, Nat.le_refl _⟩ (fun r24 _ H locs h hP hD hS => ?_)
      have hP : va_P D vwCl (jx_ws cI cT []) H := hP
      have hD : va_D A (jx_ws cI cT []) := hD
      refine jx_zeq C h.1 (tgt := 44) dX8_areSides_27 (by decide) (fun hc => ?_) (fun hc => ?_)
      · have h := h.2.1 hc
        refine jx_iconst C dX8_areSides_44 ?_
        exact jx_rZ C hr hlk hAe hS hQQ (by decide) () hP h dX8_areSides_45
      · have h := h.2.2 hc
        refine lv_iload_n hx hb dX8_areSides_30 rfl (lv_at hl 3 rfl) ?_
        refine lv_iload_n hx hb dX8_areSides_31 rfl (lv_at hl 1 rfl) ?_
        refine jx_bipush C dX8_areSides_32 (by decide) ?_
        refine jx_callSI C hK hP hD hS hA (ct_M_in l D cI cT  _  l3 l1 99 h) ms_X8_in lk_X8_180 [] rfl rfl (fun _ => rfl) (cs' := (fun _ => [])) (fun _ => rfl) (fun _ => rfl) rfl rfl hl.1 rfl rfl dX8_areSides_34 ⟨Nat.le_refl _, Nat.le_refl _⟩ (fun r34 _ H locs h hP hD hS => ?_)
        have hP : va_P D vwCl (jx_ws cI cT []) H := hP
        have hD : va_D A (jx_ws cI cT []) := hD
        refine jx_zeq C h.1 (tgt := 44) dX8_areSides_37 (by decide) (fun hc => ?_) (fun hc => ?_)
        · have h := h.2.1 hc
          refine jx_iconst C dX8_areSides_44 ?_
          exact jx_rZ C hr hlk hAe hS hQQ (by decide) () hP h dX8_areSides_45
        · have h := h.2.2 hc
          refine jx_iconst C dX8_areSides_40 ?_
          refine lv_goto (tgt := 45) hx hb dX8_areSides_41 (by decide) ?_
          exact jx_rZ C hr hlk hAe hS hQQ (by decide) () hP h dX8_areSides_45
set_option maxRecDepth 100000 in
set_option maxHeartbeats 4000000 in
theorem ct_M_levelOf (l : Launch) (D : va_G) (cI cT : ClassId) (aM : Nat → Nat) (Q : Int → Prop) (sM : jx_St) (l1 : Int) (h : wp_M_levelOf Q sM l1) : jx_KI (Unit) l D cI cT yX8_levelOf cX8_levelOf 2 .int 0 0 [.ref (aM 0), .int (jx_i l1)] [(cp_M aM, sM)] (fun _ => [(cp_M aM, sM)]) (fun x _ => Q x) := by
  refine jx_ent (own := RX8) (by decide) rfl (Nat.le_of_ble_eq_true rfl) ?_
  intro p e s m args below meth c A QQ C hr hlk hK hAe hA hP hD hS ls hl hQQ
  have hl : lv_has ls 2 [(0, .ref (aM 0)), (1, .int (jx_i l1))] := hl
  have hx := C.1
  have hb := C.2.1
  unfold wp_M_levelOf at h
  refine lv_aload_n hx hb dX8_levelOf_0 rfl (lv_at hl 0 rfl) ?_
  refine jx_getR C hK hP 0 0 0 rfl rfl rfl fl_X8_7 dX8_levelOf_1 ?_
  refine jx_sipush C dX8_levelOf_4 (by decide) ?_
  refine lv_iload_n hx hb dX8_levelOf_7 rfl (lv_at hl 1 rfl) ?_
  refine jx_iadd C dX8_levelOf_8 ?_
  refine jx_iald C hK hP 0 1 rfl rfl rfl h.1 dX8_levelOf_9 ?_
  have h := h.2
  exact jx_rI C hr hlk hAe hS hQQ () hP h dX8_levelOf_10
set_option maxRecDepth 100000 in
set_option maxHeartbeats 4000000 in
theorem ct_M_manyOf (l : Launch) (D : va_G) (cI cT : ClassId) (aM : Nat → Nat) (Q : Int → Prop) (sM : jx_St) (l1 : Int) (h : wp_M_manyOf Q sM l1) : jx_KI (Unit) l D cI cT yX8_manyOf cX8_manyOf 2 .int 0 0 [.ref (aM 0), .int (jx_i l1)] [(cp_M aM, sM)] (fun _ => [(cp_M aM, sM)]) (fun x _ => Q x) := by
  refine jx_ent (own := RX8) (by decide) rfl (Nat.le_of_ble_eq_true rfl) ?_
  intro p e s m args below meth c A QQ C hr hlk hK hAe hA hP hD hS ls hl hQQ
  have hl : lv_has ls 2 [(0, .ref (aM 0)), (1, .int (jx_i l1))] := hl
  have hx := C.1
  have hb := C.2.1
  unfold wp_M_manyOf at h
  refine lv_aload_n hx hb dX8_manyOf_0 rfl (lv_at hl 0 rfl) ?_
  refine jx_getR C hK hP 0 0 0 rfl rfl rfl fl_X8_7 dX8_manyOf_1 ?_
  refine jx_sipush C dX8_manyOf_4 (by decide) ?_
  refine lv_iload_n hx hb dX8_manyOf_7 rfl (lv_at hl 1 rfl) ?_
  refine jx_iadd C dX8_manyOf_8 ?_
  refine jx_iald C hK hP 0 1 rfl rfl rfl h.1 dX8_manyOf_9 ?_
  have h := h.2
  exact jx_rI C hr hlk hAe hS hQQ () hP h dX8_manyOf_10
set_option maxRecDepth 100000 in
set_option maxHeartbeats 4000000 in
theorem ct_M_thing (l : Launch) (D : va_G) (cI cT : ClassId) (aM : Nat → Nat) (Q : Int → Prop) (sM : jx_St) (l1 : Int) (l2 : Int) (h : wp_M_thing Q sM l1 l2) : jx_KI (Unit) l D cI cT yX8_thing cX8_thing 3 .int 0 0 [.ref (aM 0), .int (jx_i l1), .int (jx_i l2)] [(cp_M aM, sM)] (fun _ => [(cp_M aM, sM)]) (fun x _ => Q x) := by
  refine jx_ent (own := RX8) (by decide) rfl (Nat.le_of_ble_eq_true rfl) ?_
  intro p e s m args below meth c A QQ C hr hlk hK hAe hA hP hD hS ls hl hQQ
  have hl : lv_has ls 3 [(0, .ref (aM 0)), (1, .int (jx_i l1)), (2, .int (jx_i l2))] := hl
  have hx := C.1
  have hb := C.2.1
  unfold wp_M_thing at h
  refine lv_aload_n hx hb dX8_thing_0 rfl (lv_at hl 0 rfl) ?_
  refine jx_getR C hK hP 0 0 0 rfl rfl rfl fl_X8_7 dX8_thing_1 ?_
  refine jx_sipush C dX8_thing_4 (by decide) ?_
  refine jx_iconst C dX8_thing_7 ?_
  refine lv_iload_n hx hb dX8_thing_8 rfl (lv_at hl 1 rfl) ?_
  refine jx_imul C dX8_thing_9 ?_
  refine jx_iadd C dX8_thing_10 ?_
  refine lv_iload_n hx hb dX8_thing_11 rfl (lv_at hl 2 rfl) ?_
  refine jx_iadd C dX8_thing_12 ?_
  refine jx_iald C hK hP 0 1 rfl rfl rfl h.1 dX8_thing_13 ?_
  have h := h.2
  exact jx_rI C hr hlk hAe hS hQQ () hP h dX8_thing_14
set_option maxRecDepth 100000 in
set_option maxHeartbeats 4000000 in
theorem ct_M_side (l : Launch) (D : va_G) (cI cT : ClassId) (aM : Nat → Nat) (Q : Int → Prop) (sM : jx_St) (l1 : Int) (l2 : Int) (l3 : Int) (h : wp_M_side Q sM l1 l2 l3) : jx_KI (Unit) l D cI cT yX8_side cX8_side 4 .int 0 0 [.ref (aM 0), .int (jx_i l1), .int (jx_i l2), .int (jx_i l3)] [(cp_M aM, sM)] (fun _ => [(cp_M aM, sM)]) (fun x _ => Q x) := by
  refine jx_ent (own := RX8) (by decide) rfl (Nat.le_of_ble_eq_true rfl) ?_
  intro p e s m args below meth c A QQ C hr hlk hK hAe hA hP hD hS ls hl hQQ
  have hl : lv_has ls 4 [(0, .ref (aM 0)), (1, .int (jx_i l1)), (2, .int (jx_i l2)), (3, .int (jx_i l3))] := hl
  have hx := C.1
  have hb := C.2.1
  unfold wp_M_side at h
  refine lv_iload_n hx hb dX8_side_0 rfl (lv_at hl 2 rfl) ?_
  refine jx_zne C h.1 (tgt := 20) dX8_side_1 (by decide) (fun hc => ?_) (fun hc => ?_)
  · have h := h.2.2 hc
    refine lv_aload_n hx hb dX8_side_20 rfl (lv_at hl 0 rfl) ?_
    refine jx_getR C hK hP 0 0 7 rfl rfl rfl fl_X8_22 dX8_side_21 ?_
    refine jx_iconst C dX8_side_24 ?_
    refine lv_iload_n hx hb dX8_side_25 rfl (lv_at hl 1 rfl) ?_
    refine jx_imul C dX8_side_26 ?_
    refine lv_iload_n hx hb dX8_side_27 rfl (lv_at hl 3 rfl) ?_
    refine jx_iadd C dX8_side_28 ?_
    refine jx_iald C hK hP 0 5 rfl rfl rfl h.1 dX8_side_29 ?_
    have h := h.2
    exact jx_rI C hr hlk hAe hS hQQ () hP h dX8_side_30
  · have h := h.2.1 hc
    refine lv_aload_n hx hb dX8_side_4 rfl (lv_at hl 0 rfl) ?_
    refine jx_getR C hK hP 0 0 0 rfl rfl rfl fl_X8_7 dX8_side_5 ?_
    refine jx_bipush C dX8_side_8 (by decide) ?_
    refine jx_iconst C dX8_side_10 ?_
    refine lv_iload_n hx hb dX8_side_11 rfl (lv_at hl 1 rfl) ?_
    refine jx_imul C dX8_side_12 ?_
    refine jx_iadd C dX8_side_13 ?_
    refine lv_iload_n hx hb dX8_side_14 rfl (lv_at hl 3 rfl) ?_
    refine jx_iadd C dX8_side_15 ?_
    refine jx_iald C hK hP 0 1 rfl rfl rfl h.1 dX8_side_16 ?_
    have h := h.2
    refine lv_goto (tgt := 30) hx hb dX8_side_17 (by decide) ?_
    exact jx_rI C hr hlk hAe hS hQQ () hP h dX8_side_30
set_option maxRecDepth 100000 in
set_option maxHeartbeats 4000000 in
theorem ct_M_most (l : Launch) (D : va_G) (cI cT : ClassId) (Q : Int → Prop) (l0 : Int) (l1 : Int) (h : wp_M_most Q l0 l1) : jx_KI (Unit) l D cI cT yX8_most cX8_most 2 .int 0 0 [.int (jx_i l0), .int (jx_i l1)] [] (fun _ => []) (fun x _ => Q x) := by
  refine jx_ent (own := RX8) (by decide) rfl (Nat.le_of_ble_eq_true rfl) ?_
  intro p e s m args below meth c A QQ C hr hlk hK hAe hA hP hD hS ls hl hQQ
  have hl : lv_has ls 2 [(0, .int (jx_i l0)), (1, .int (jx_i l1))] := hl
  have hx := C.1
  have hb := C.2.1
  unfold wp_M_most at h
  refine lv_iload_n hx hb dX8_most_0 rfl (lv_at hl 0 rfl) ?_
  refine lv_iload_n hx hb dX8_most_1 rfl (lv_at hl 1 rfl) ?_
  refine jx_cle C h.1 h.2.1 (tgt := 9) dX8_most_2 (by decide) (fun hc => ?_) (fun hc => ?_)
  · have h := h.2.2.1 hc
    refine lv_iload_n hx hb dX8_most_9 rfl (lv_at hl 1 rfl) ?_
    exact jx_rI C hr hlk hAe hS hQQ () hP h dX8_most_10
  · have h := h.2.2.2 hc
    refine lv_iload_n hx hb dX8_most_5 rfl (lv_at hl 0 rfl) ?_
    refine lv_goto (tgt := 10) hx hb dX8_most_6 (by decide) ?_
    exact jx_rI C hr hlk hAe hS hQQ () hP h dX8_most_10
set_option maxRecDepth 100000 in
set_option maxHeartbeats 4000000 in
theorem ct_M_least (l : Launch) (D : va_G) (cI cT : ClassId) (Q : Int → Prop) (l0 : Int) (l1 : Int) (h : wp_M_least Q l0 l1) : jx_KI (Unit) l D cI cT yX8_least cX8_least 2 .int 0 0 [.int (jx_i l0), .int (jx_i l1)] [] (fun _ => []) (fun x _ => Q x) := by
  refine jx_ent (own := RX8) (by decide) rfl (Nat.le_of_ble_eq_true rfl) ?_
  intro p e s m args below meth c A QQ C hr hlk hK hAe hA hP hD hS ls hl hQQ
  have hl : lv_has ls 2 [(0, .int (jx_i l0)), (1, .int (jx_i l1))] := hl
  have hx := C.1
  have hb := C.2.1
  unfold wp_M_least at h
  refine lv_iload_n hx hb dX8_least_0 rfl (lv_at hl 0 rfl) ?_
  refine lv_iload_n hx hb dX8_least_1 rfl (lv_at hl 1 rfl) ?_
  refine jx_cge C h.1 h.2.1 (tgt := 9) dX8_least_2 (by decide) (fun hc => ?_) (fun hc => ?_)
  · have h := h.2.2.2 hc
    refine lv_iload_n hx hb dX8_least_9 rfl (lv_at hl 1 rfl) ?_
    exact jx_rI C hr hlk hAe hS hQQ () hP h dX8_least_10
  · have h := h.2.2.1 hc
    refine lv_iload_n hx hb dX8_least_5 rfl (lv_at hl 0 rfl) ?_
    refine lv_goto (tgt := 10) hx hb dX8_least_6 (by decide) ?_
    exact jx_rI C hr hlk hAe hS hQQ () hP h dX8_least_10
set_option maxRecDepth 100000 in
set_option maxHeartbeats 4000000 in
theorem ct_M_layNode (l : Launch) (D : va_G) (cI cT : ClassId) (aM : Nat → Nat) (Q : jx_St → Prop) (sM : jx_St) (l1 : Int) (h : wp_M_layNode Q sM l1) : jx_KV jx_St l D cI cT yX8_layNode cX8_layNode 8 1 23 [.ref (aM 0), .int (jx_i l1)] [(cp_M aM, sM)] (fun u => [(cp_M aM, u)]) Q := by
  refine jx_ent (own := RX8) (by decide) rfl (Nat.le_of_ble_eq_true rfl) ?_
  intro p e s m args below meth c A QQ C hr hlk hK hAe hA hP hD hS ls hl hQQ
  have hl : lv_has ls 8 [(0, .ref (aM 0)), (1, .int (jx_i l1))] := hl
  have hx := C.1
  have hb := C.2.1
  unfold wp_M_layNode at h
  have Lo15 : ∀ (l2 : Int) (n : Nat) (sM : jx_St) (l3 : Int), jx_it (fun B15 v => wp_M_layNode_15 Q l1 l2 B15 v.1 v.2) n (sM, l3) → ∀ (H : Heap) (locs : List Loc), va_P D vwCl (jx_ws cI cT [(cp_M aM, sM)]) H → va_D A (jx_ws cI cT [(cp_M aM, sM)]) → va_S A s.heap H locs → ∀ ls : Array Slot, lv_has ls 8 [(0, .ref (aM 0)), (1, .int (jx_i l1)), (2, .int (jx_i l2)), (3, .int (jx_i l3))] → W p l e (jx_rm 1 23) s m args below meth c H locs 0 0 QQ (F0 m 15 ls []) := by
    intro l2 n
    induction n with
    | zero =>
      intro sM l3 h
      exact (show False from h).elim
    | succ n ih =>
      intro sM l3 h H locs hP hD hS ls hl
      have h : wp_M_layNode_15 Q l1 l2 (jx_it (fun B15 v => wp_M_layNode_15 Q l1 l2 B15 v.1 v.2) n) sM l3 := h
      have ih := fun sM l3 h => ih sM l3 h
      generalize jx_it (fun B15 v => wp_M_layNode_15 Q l1 l2 B15 v.1 v.2) n = B15 at h ih
      unfold wp_M_layNode_15 at h
      have Lo59 : ∀ (l2 : Int) (l3 : Int) (l4 : Int) (K138 : jx_St → Prop) (n : Nat) (sM : jx_St) (l5 : Int), jx_it (fun B59 v => wp_M_layNode_59 Q l1 K138 l2 l3 l4 B59 v.1 v.2) n (sM, l5) → (∀ (sM : jx_St), K138 sM → ∀ (H : Heap) (locs : List Loc), va_P D vwCl (jx_ws cI cT [(cp_M aM, sM)]) H → va_D A (jx_ws cI cT [(cp_M aM, sM)]) → va_S A s.heap H locs → ∀ ls : Array Slot, lv_has ls 8 [(0, .ref (aM 0)), (1, .int (jx_i l1)), (2, .int (jx_i l2)), (3, .int (jx_i l3))] → W p l e (jx_rm 1 23) s m args below meth c H locs 0 0 QQ (F0 m 138 ls [])) → ∀ (H : Heap) (locs : List Loc), va_P D vwCl (jx_ws cI cT [(cp_M aM, sM)]) H → va_D A (jx_ws cI cT [(cp_M aM, sM)]) → va_S A s.heap H locs → ∀ ls : Array Slot, lv_has ls 8 [(0, .ref (aM 0)), (1, .int (jx_i l1)), (2, .int (jx_i l2)), (3, .int (jx_i l3)), (4, .int (jx_i l4)), (5, .int (jx_i l5))] → W p l e (jx_rm 1 23) s m args below meth c H locs 0 0 QQ (F0 m 59 ls []) := by
        intro l2 l3 l4 K138 n
        induction n with
        | zero =>
          intro sM l5 h
          exact (show False from h).elim
        | succ n ih =>
          intro sM l5 h K138E H locs hP hD hS ls hl
          have h : wp_M_layNode_59 Q l1 K138 l2 l3 l4 (jx_it (fun B59 v => wp_M_layNode_59 Q l1 K138 l2 l3 l4 B59 v.1 v.2) n) sM l5 := h
          have ih := fun sM l5 h => ih sM l5 h K138E
          generalize jx_it (fun B59 v => wp_M_layNode_59 Q l1 K138 l2 l3 l4 B59 v.1 v.2) n = B59 at h ih
          unfold wp_M_layNode_59 at h
          have J131 : ∀ (sM : jx_St) (l5 : Int) (t1 : Int) (t2 : Int), wp_M_layNode_131 Q l1 B59 K138 sM l2 l3 l4 l5 t1 t2 → ∀ (H : Heap) (locs : List Loc), va_P D vwCl (jx_ws cI cT [(cp_M aM, sM)]) H → va_D A (jx_ws cI cT [(cp_M aM, sM)]) → va_S A s.heap H locs → ∀ ls : Array Slot, lv_has ls 8 [(0, .ref (aM 0)), (1, .int (jx_i l1)), (2, .int (jx_i l2)), (3, .int (jx_i l3)), (4, .int (jx_i l4)), (5, .int (jx_i l5))] → W p l e (jx_rm 1 23) s m args below meth c H locs 0 0 QQ (F0 m 131 ls [.int (jx_i t2), .int (jx_i t1), .ref (aM 5)]) := by
            intro sM l5 t1 t2 h H locs hP hD hS ls hl
            unfold wp_M_layNode_131 at h
            refine jx_iast C hK hP hD hS 0 5 rfl rfl rfl rfl h.1 rfl dX8_layNode_131 (fun H locs hP hD hS => ?_)
            have h := h.2
            have hP : va_P D vwCl (jx_ws cI cT [(cp_M aM, (jx_su sM 7 t1 t2))]) H := hP
            have hD : va_D A (jx_ws cI cT [(cp_M aM, (jx_su sM 7 t1 t2))]) := hD
            refine jx_iinc C (lv' := [(5, .int (jx_i (l5 + 1))), (0, .ref (aM 0)), (1, .int (jx_i l1)), (2, .int (jx_i l2)), (3, .int (jx_i l3)), (4, .int (jx_i l4))]) dX8_layNode_132 hl (k := 5) rfl (by decide) rfl (fun ls hl => ?_)
            refine lv_goto (tgt := 59) hx hb dX8_layNode_135 (by decide) ?_
            exact ih (jx_su sM 7 t1 t2) (l5 + 1) h _ _ hP hD hS ls (lv_sub hl [1, 2, 3, 4, 5, 0] rfl)
          refine lv_iload hx hb dX8_layNode_59 (lv_at hl 5 rfl) ?_
          refine jx_iconst C dX8_layNode_61 ?_
          refine jx_cge C h.1 (jx_inR (by decide) (by decide)) (tgt := 138) dX8_layNode_62 (by decide) (fun hc => ?_) (fun hc => ?_)
          · have h := h.2.2 hc
            exact K138E sM h _ _ hP hD hS ls (lv_sub hl [0, 1, 2, 3] rfl)
          · have h := h.2.1 hc
            refine lv_aload_n hx hb dX8_layNode_65 rfl (lv_at hl 0 rfl) ?_
            refine lv_iload hx hb dX8_layNode_66 (lv_at hl 4 rfl) ?_
            refine lv_iload_n hx hb dX8_layNode_68 rfl (lv_at hl 2 rfl) ?_
            refine lv_iload hx hb dX8_layNode_69 (lv_at hl 5 rfl) ?_
            refine jx_callVI C hK hP hD hS hA (ct_M_side l D cI cT aM _ sM l4 l2 l5 h) ms_X8_side lk_X8_92 [0] rfl rfl (fun _ => rfl) (cs' := (fun _ => [(cp_M aM, sM)])) (fun _ => rfl) (fun _ => rfl) 0 0 rfl rfl rfl rfl rfl hl.1 rfl rfl dX8_layNode_71 ⟨Nat.le_refl _, Nat.le_refl _⟩ (fun r71 _ H locs h hP hD hS => ?_)
            have hP : va_P D vwCl (jx_ws cI cT [(cp_M aM, sM)]) H := hP
            have hD : va_D A (jx_ws cI cT [(cp_M aM, sM)]) := hD
            refine lv_istore (lv' := [(6, .int (jx_i r71)), (0, .ref (aM 0)), (1, .int (jx_i l1)), (2, .int (jx_i l2)), (3, .int (jx_i l3)), (4, .int (jx_i l4)), (5, .int (jx_i l5))]) hx hb dX8_layNode_74 hl (by decide) rfl (fun ls hl => ?_)
            refine lv_aload_n hx hb dX8_layNode_76 rfl (lv_at hl 1 rfl) ?_
            refine jx_getR C hK hP 0 0 7 rfl rfl rfl fl_X8_22 dX8_layNode_77 ?_
            refine jx_iconst C dX8_layNode_80 ?_
            refine lv_iload_n hx hb dX8_layNode_81 rfl (lv_at hl 2 rfl) ?_
            refine jx_imul C dX8_layNode_82 ?_
            refine lv_iload hx hb dX8_layNode_83 (lv_at hl 6 rfl) ?_
            refine jx_iadd C dX8_layNode_85 ?_
            refine jx_iald C hK hP 0 5 rfl rfl rfl h.1 dX8_layNode_86 ?_
            have h := h.2
            refine lv_istore (lv' := [(7, .int (jx_i (sM 7 ((4 * l1) + l5)))), (6, .int (jx_i r71)), (0, .ref (aM 0)), (1, .int (jx_i l1)), (2, .int (jx_i l2)), (3, .int (jx_i l3)), (4, .int (jx_i l4)), (5, .int (jx_i l5))]) hx hb dX8_layNode_87 hl (by decide) rfl (fun ls hl => ?_)
            refine lv_aload_n hx hb dX8_layNode_89 rfl (lv_at hl 2 rfl) ?_
            refine jx_getR C hK hP 0 0 7 rfl rfl rfl fl_X8_22 dX8_layNode_90 ?_
            refine jx_iconst C dX8_layNode_93 ?_
            refine lv_iload_n hx hb dX8_layNode_94 rfl (lv_at hl 3 rfl) ?_
            refine jx_imul C dX8_layNode_95 ?_
            refine lv_iload hx hb dX8_layNode_96 (lv_at hl 7 rfl) ?_
            refine jx_iadd C dX8_layNode_98 ?_
            refine lv_iload_n hx hb dX8_layNode_99 rfl (lv_at hl 5 rfl) ?_
            refine jx_zne C h.1 (tgt := 108) dX8_layNode_100 (by decide) (fun hc => ?_) (fun hc => ?_)
            · have h := h.2.2 hc
              refine lv_iload hx hb dX8_layNode_108 (lv_at hl 7 rfl) ?_
              refine jx_iconst C dX8_layNode_110 ?_
              refine jx_cge C h.1 (jx_inR (by decide) (by decide)) (tgt := 124) dX8_layNode_111 (by decide) (fun hc => ?_) (fun hc => ?_)
              · have h := h.2.2 hc
                refine lv_iload hx hb dX8_layNode_124 (lv_at hl 0 rfl) ?_
                refine lv_iload hx hb dX8_layNode_126 (lv_at hl 1 rfl) ?_
                refine jx_callSI C hK hP hD hS hA (ct_M_most l D cI cT  _  (sM 7 ((4 * l1) + l5)) r71 h) ms_X8_most lk_X8_99 [] rfl rfl (fun _ => rfl) (cs' := (fun _ => [(cp_M aM, sM)])) (fun _ => rfl) (fun _ => rfl) rfl rfl hl.1 rfl rfl dX8_layNode_128 ⟨Nat.le_refl _, Nat.le_refl _⟩ (fun r128 _ H locs h hP hD hS => ?_)
                have hP : va_P D vwCl (jx_ws cI cT [(cp_M aM, sM)]) H := hP
                have hD : va_D A (jx_ws cI cT [(cp_M aM, sM)]) := hD
                exact J131 sM l5 ((4 * l1) + l5) r128 h _ _ hP hD hS ls (lv_sub hl [2, 3, 4, 5, 6, 7] rfl)
              · have h := h.2.1 hc
                refine lv_iload hx hb dX8_layNode_114 (lv_at hl 0 rfl) ?_
                refine lv_iload hx hb dX8_layNode_116 (lv_at hl 1 rfl) ?_
                refine jx_callSI C hK hP hD hS hA (ct_M_least l D cI cT  _  (sM 7 ((4 * l1) + l5)) r71 h) ms_X8_least lk_X8_96 [] rfl rfl (fun _ => rfl) (cs' := (fun _ => [(cp_M aM, sM)])) (fun _ => rfl) (fun _ => rfl) rfl rfl hl.1 rfl rfl dX8_layNode_118 ⟨Nat.le_refl _, Nat.le_refl _⟩ (fun r118 _ H locs h hP hD hS => ?_)
                have hP : va_P D vwCl (jx_ws cI cT [(cp_M aM, sM)]) H := hP
                have hD : va_D A (jx_ws cI cT [(cp_M aM, sM)]) := hD
                refine lv_goto (tgt := 131) hx hb dX8_layNode_121 (by decide) ?_
                exact J131 sM l5 ((4 * l1) + l5) r118 h _ _ hP hD hS ls (lv_sub hl [2, 3, 4, 5, 6, 7] rfl)
            · have h := h.2.1 hc
              refine lv_iload hx hb dX8_layNode_103 (lv_at hl 1 rfl) ?_
              refine lv_goto (tgt := 131) hx hb dX8_layNode_105 (by decide) ?_
              exact J131 sM l5 ((4 * l1) + l5) r71 h _ _ hP hD hS ls (lv_sub hl [2, 3, 4, 5, 6, 7] rfl)
      have J138 : ∀ (sM : jx_St) (l3 : Int), wp_M_layNode_138 Q l1 B15 sM l2 l3 → ∀ (H : Heap) (locs : List Loc), va_P D vwCl (jx_ws cI cT [(cp_M aM, sM)]) H → va_D A (jx_ws cI cT [(cp_M aM, sM)]) → va_S A s.heap H locs → ∀ ls : Array Slot, lv_has ls 8 [(0, .ref (aM 0)), (1, .int (jx_i l1)), (2, .int (jx_i l2)), (3, .int (jx_i l3))] → W p l e (jx_rm 1 23) s m args below meth c H locs 0 0 QQ (F0 m 138 ls []) := by
        intro sM l3 h H locs hP hD hS ls hl
        unfold wp_M_layNode_138 at h
        refine jx_iinc C (lv' := [(3, .int (jx_i (l3 + 1))), (0, .ref (aM 0)), (1, .int (jx_i l1)), (2, .int (jx_i l2))]) dX8_layNode_138 hl (k := 3) rfl (by decide) rfl (fun ls hl => ?_)
        refine lv_goto (tgt := 15) hx hb dX8_layNode_141 (by decide) ?_
        exact ih sM (l3 + 1) h _ _ hP hD hS ls (lv_sub hl [1, 2, 3, 0] rfl)
      have J54 : ∀ (sM : jx_St) (l3 : Int) (l4 : Int) (t1 : Int) (t2 : Int) (t3 : Int), wp_M_layNode_54 Q l1 B15 sM l2 l3 l4 t1 t2 t3 → ∀ (H : Heap) (locs : List Loc), va_P D vwCl (jx_ws cI cT [(cp_M aM, sM)]) H → va_D A (jx_ws cI cT [(cp_M aM, sM)]) → va_S A s.heap H locs → ∀ ls : Array Slot, lv_has ls 8 [(0, .ref (aM 0)), (1, .int (jx_i l1)), (2, .int (jx_i l2)), (3, .int (jx_i l3)), (4, .int (jx_i l4))] → W p l e (jx_rm 1 23) s m args below meth c H locs 0 0 QQ (F0 m 54 ls [.int (jx_i t3), .int (jx_i t2), .int (jx_i t1), .ref (aM 6)]) := by
        intro sM l3 l4 t1 t2 t3 h H locs hP hD hS ls hl
        unfold wp_M_layNode_54 at h
        refine jx_iadd C dX8_layNode_54 ?_
        refine jx_iast C hK hP hD hS 0 6 rfl rfl rfl rfl h.1 rfl dX8_layNode_55 (fun H locs hP hD hS => ?_)
        have h := h.2
        have hP : va_P D vwCl (jx_ws cI cT [(cp_M aM, (jx_su sM 8 t1 (t2 + t3)))]) H := hP
        have hD : va_D A (jx_ws cI cT [(cp_M aM, (jx_su sM 8 t1 (t2 + t3)))]) := hD
        refine jx_iconst C dX8_layNode_56 ?_
        refine lv_istore (lv' := [(5, .int (jx_i 0)), (0, .ref (aM 0)), (1, .int (jx_i l1)), (2, .int (jx_i l2)), (3, .int (jx_i l3)), (4, .int (jx_i l4))]) hx hb dX8_layNode_57 hl (by decide) rfl (fun ls hl => ?_)
        obtain ⟨n, h⟩ := h
        refine Lo59 l2 l3 l4 _ n (jx_su sM 8 t1 (t2 + t3)) 0 h ?_ _ _ hP hD hS ls (lv_sub hl [1, 2, 3, 4, 5, 0] rfl)
        · intro sM h H locs hP hD hS ls hl
          exact J138 sM l3 h _ _ hP hD hS ls (lv_sub hl [0, 1, 2, 3] rfl)
      refine lv_iload_n hx hb dX8_layNode_15 rfl (lv_at hl 3 rfl) ?_
      refine lv_aload_n hx hb dX8_layNode_16 rfl (lv_at hl 0 rfl) ?_
      refine lv_iload_n hx hb dX8_layNode_17 rfl (lv_at hl 1 rfl) ?_
      refine jx_callVI C hK hP hD hS hA (ct_M_manyOf l D cI cT aM _ sM l1 h) ms_X8_manyOf lk_X8_85 [0] rfl rfl (fun _ => rfl) (cs' := (fun _ => [(cp_M aM, sM)])) (fun _ => rfl) (fun _ => rfl) 0 0 rfl rfl rfl rfl rfl hl.1 rfl rfl dX8_layNode_18 ⟨Nat.le_refl _, Nat.le_refl _⟩ (fun r18 _ H locs h hP hD hS => ?_)
      have hP : va_P D vwCl (jx_ws cI cT [(cp_M aM, sM)]) H := hP
      have hD : va_D A (jx_ws cI cT [(cp_M aM, sM)]) := hD
      refine jx_cge C h.1 h.2.1 (tgt := 144) dX8_layNode_21 (by decide) (fun hc => ?_) (fun hc => ?_)
      · have h := h.2.2.2 hc
        exact jx_rV C hr hlk hAe hS hQQ sM hP h dX8_layNode_144
      · have h := h.2.2.1 hc
        refine lv_aload_n hx hb dX8_layNode_24 rfl (lv_at hl 0 rfl) ?_
        refine lv_iload_n hx hb dX8_layNode_25 rfl (lv_at hl 1 rfl) ?_
        refine lv_iload_n hx hb dX8_layNode_26 rfl (lv_at hl 3 rfl) ?_
        refine jx_callVI C hK hP hD hS hA (ct_M_thing l D cI cT aM _ sM l1 l3 h) ms_X8_thing lk_X8_88 [0] rfl rfl (fun _ => rfl) (cs' := (fun _ => [(cp_M aM, sM)])) (fun _ => rfl) (fun _ => rfl) 0 0 rfl rfl rfl rfl rfl hl.1 rfl rfl dX8_layNode_27 ⟨Nat.le_refl _, Nat.le_refl _⟩ (fun r27 _ H locs h hP hD hS => ?_)
        have hP : va_P D vwCl (jx_ws cI cT [(cp_M aM, sM)]) H := hP
        have hD : va_D A (jx_ws cI cT [(cp_M aM, sM)]) := hD
        refine lv_istore (lv' := [(4, .int (jx_i r27)), (0, .ref (aM 0)), (1, .int (jx_i l1)), (2, .int (jx_i l2)), (3, .int (jx_i l3))]) hx hb dX8_layNode_30 hl (by decide) rfl (fun ls hl => ?_)
        refine lv_aload_n hx hb dX8_layNode_32 rfl (lv_at hl 1 rfl) ?_
        refine jx_getR C hK hP 0 0 8 rfl rfl rfl fl_X8_25 dX8_layNode_33 ?_
        refine lv_iload_n hx hb dX8_layNode_36 rfl (lv_at hl 2 rfl) ?_
        refine lv_dup2_11 hx hb dX8_layNode_37 rfl rfl ?_
        refine jx_iald C hK hP 0 6 rfl rfl rfl h.1 dX8_layNode_38 ?_
        have h := h.2
        refine lv_iload_n hx hb dX8_layNode_39 rfl (lv_at hl 3 rfl) ?_
        refine jx_zne C h.1 (tgt := 47) dX8_layNode_40 (by decide) (fun hc => ?_) (fun hc => ?_)
        · have h := h.2.2 hc
          refine lv_aload_n hx hb dX8_layNode_47 rfl (lv_at hl 1 rfl) ?_
          refine jx_getR C hK hP 0 0 8 rfl rfl rfl fl_X8_25 dX8_layNode_48 ?_
          refine lv_iload hx hb dX8_layNode_51 (lv_at hl 0 rfl) ?_
          refine jx_iald C hK hP 0 6 rfl rfl rfl h.1 dX8_layNode_53 ?_
          have h := h.2
          exact J54 sM l3 r27 l1 (sM 8 l1) (sM 8 r27) h _ _ hP hD hS ls (lv_sub hl [1, 2, 3, 4, 0] rfl)
        · have h := h.2.1 hc
          refine jx_iconst C dX8_layNode_43 ?_
          refine lv_goto (tgt := 54) hx hb dX8_layNode_44 (by decide) ?_
          exact J54 sM l3 r27 l1 (sM 8 l1) 1 h _ _ hP hD hS ls (lv_sub hl [1, 2, 3, 4, 0] rfl)
  refine lv_aload_n hx hb dX8_layNode_0 rfl (lv_at hl 0 rfl) ?_
  refine lv_iload_n hx hb dX8_layNode_1 rfl (lv_at hl 1 rfl) ?_
  refine jx_callVI C hK hP hD hS hA (ct_M_levelOf l D cI cT aM _ sM l1 h) ms_X8_levelOf lk_X8_81 [0] rfl rfl (fun _ => rfl) (cs' := (fun _ => [(cp_M aM, sM)])) (fun _ => rfl) (fun _ => rfl) 0 0 rfl rfl rfl rfl rfl hl.1 rfl rfl dX8_layNode_2 ⟨Nat.le_refl _, Nat.le_refl _⟩ (fun r2 _ H locs h hP hD hS => ?_)
  have hP : va_P D vwCl (jx_ws cI cT [(cp_M aM, sM)]) H := hP
  have hD : va_D A (jx_ws cI cT [(cp_M aM, sM)]) := hD
  refine lv_istore_n (lv' := [(2, .int (jx_i r2)), (0, .ref (aM 0)), (1, .int (jx_i l1))]) hx hb dX8_layNode_5 rfl hl (by decide) rfl (fun ls hl => ?_)
  refine lv_aload_n hx hb dX8_layNode_6 rfl (lv_at hl 1 rfl) ?_
  refine jx_getR C hK hP 0 0 8 rfl rfl rfl fl_X8_25 dX8_layNode_7 ?_
  refine lv_iload_n hx hb dX8_layNode_10 rfl (lv_at hl 2 rfl) ?_
  refine jx_iconst C dX8_layNode_11 ?_
  refine jx_iast C hK hP hD hS 0 6 rfl rfl rfl rfl h.1 rfl dX8_layNode_12 (fun H locs hP hD hS => ?_)
  have h := h.2
  have hP : va_P D vwCl (jx_ws cI cT [(cp_M aM, (jx_su sM 8 l1 0))]) H := hP
  have hD : va_D A (jx_ws cI cT [(cp_M aM, (jx_su sM 8 l1 0))]) := hD
  refine jx_iconst C dX8_layNode_13 ?_
  refine lv_istore_n (lv' := [(3, .int (jx_i 0)), (2, .int (jx_i r2)), (0, .ref (aM 0)), (1, .int (jx_i l1))]) hx hb dX8_layNode_14 rfl hl (by decide) rfl (fun ls hl => ?_)
  obtain ⟨n, h⟩ := h
  refine Lo15 r2 n (jx_su sM 8 l1 0) 0 h _ _ hP hD hS ls (lv_sub hl [2, 3, 1, 0] rfl)
set_option maxRecDepth 100000 in
set_option maxHeartbeats 4000000 in
theorem ct_M_lay (l : Launch) (D : va_G) (cI cT : ClassId) (aM : Nat → Nat) (Q : jx_St → Prop) (sM : jx_St) (h : wp_M_lay Q sM) : jx_KV jx_St l D cI cT yX8_lay cX8_lay 3 2 50 [.ref (aM 0)] [(cp_M aM, sM)] (fun u => [(cp_M aM, u)]) Q := by
  refine jx_ent (own := RX8) (by decide) rfl (Nat.le_of_ble_eq_true rfl) ?_
  intro p e s m args below meth c A QQ C hr hlk hK hAe hA hP hD hS ls hl hQQ
  have hl : lv_has ls 3 [(0, .ref (aM 0))] := hl
  have hx := C.1
  have hb := C.2.1
  unfold wp_M_lay at h
  have Lo2 : ∀ (n : Nat) (sM : jx_St) (l1 : Int), jx_it (fun B2 v => wp_M_lay_2 Q B2 v.1 v.2) n (sM, l1) → ∀ (H : Heap) (locs : List Loc), va_P D vwCl (jx_ws cI cT [(cp_M aM, sM)]) H → va_D A (jx_ws cI cT [(cp_M aM, sM)]) → va_S A s.heap H locs → ∀ ls : Array Slot, lv_has ls 3 [(0, .ref (aM 0)), (1, .int (jx_i l1))] → W p l e (jx_rm 2 50) s m args below meth c H locs 0 0 QQ (F0 m 2 ls []) := by
    intro n
    induction n with
    | zero =>
      intro sM l1 h
      exact (show False from h).elim
    | succ n ih =>
      intro sM l1 h H locs hP hD hS ls hl
      have h : wp_M_lay_2 Q (jx_it (fun B2 v => wp_M_lay_2 Q B2 v.1 v.2) n) sM l1 := h
      have ih := fun sM l1 h => ih sM l1 h
      generalize jx_it (fun B2 v => wp_M_lay_2 Q B2 v.1 v.2) n = B2 at h ih
      unfold wp_M_lay_2 at h
      have Lo18 : ∀ (l1 : Int) (K44 : jx_St → Prop) (n : Nat) (sM : jx_St) (l2 : Int), jx_it (fun B18 v => wp_M_lay_18 Q K44 l1 B18 v.1 v.2) n (sM, l2) → (∀ (sM : jx_St), K44 sM → ∀ (H : Heap) (locs : List Loc), va_P D vwCl (jx_ws cI cT [(cp_M aM, sM)]) H → va_D A (jx_ws cI cT [(cp_M aM, sM)]) → va_S A s.heap H locs → ∀ ls : Array Slot, lv_has ls 3 [(0, .ref (aM 0)), (1, .int (jx_i l1))] → W p l e (jx_rm 2 50) s m args below meth c H locs 0 0 QQ (F0 m 44 ls [])) → ∀ (H : Heap) (locs : List Loc), va_P D vwCl (jx_ws cI cT [(cp_M aM, sM)]) H → va_D A (jx_ws cI cT [(cp_M aM, sM)]) → va_S A s.heap H locs → ∀ ls : Array Slot, lv_has ls 3 [(0, .ref (aM 0)), (1, .int (jx_i l1)), (2, .int (jx_i l2))] → W p l e (jx_rm 2 50) s m args below meth c H locs 0 0 QQ (F0 m 18 ls []) := by
        intro l1 K44 n
        induction n with
        | zero =>
          intro sM l2 h
          exact (show False from h).elim
        | succ n ih =>
          intro sM l2 h K44E H locs hP hD hS ls hl
          have h : wp_M_lay_18 Q K44 l1 (jx_it (fun B18 v => wp_M_lay_18 Q K44 l1 B18 v.1 v.2) n) sM l2 := h
          have ih := fun sM l2 h => ih sM l2 h K44E
          generalize jx_it (fun B18 v => wp_M_lay_18 Q K44 l1 B18 v.1 v.2) n = B18 at h ih
          unfold wp_M_lay_18 at h
          have J38 : ∀ (sM : jx_St) (l2 : Int), wp_M_lay_38 Q B18 K44 sM l1 l2 → ∀ (H : Heap) (locs : List Loc), va_P D vwCl (jx_ws cI cT [(cp_M aM, sM)]) H → va_D A (jx_ws cI cT [(cp_M aM, sM)]) → va_S A s.heap H locs → ∀ ls : Array Slot, lv_has ls 3 [(0, .ref (aM 0)), (1, .int (jx_i l1)), (2, .int (jx_i l2))] → W p l e (jx_rm 2 50) s m args below meth c H locs 0 0 QQ (F0 m 38 ls []) := by
            intro sM l2 h H locs hP hD hS ls hl
            unfold wp_M_lay_38 at h
            refine jx_iinc C (lv' := [(2, .int (jx_i (l2 + 1))), (0, .ref (aM 0)), (1, .int (jx_i l1))]) dX8_lay_38 hl (k := 2) rfl (by decide) rfl (fun ls hl => ?_)
            refine lv_goto (tgt := 18) hx hb dX8_lay_41 (by decide) ?_
            exact ih sM (l2 + 1) h _ _ hP hD hS ls (lv_sub hl [1, 2, 0] rfl)
          refine lv_iload_n hx hb dX8_lay_18 rfl (lv_at hl 2 rfl) ?_
          refine jx_bipush C dX8_lay_19 (by decide) ?_
          refine jx_cge C h.1 (jx_inR (by decide) (by decide)) (tgt := 44) dX8_lay_21 (by decide) (fun hc => ?_) (fun hc => ?_)
          · have h := h.2.2 hc
            exact K44E sM h _ _ hP hD hS ls (lv_sub hl [0, 1] rfl)
          · have h := h.2.1 hc
            refine lv_aload_n hx hb dX8_lay_24 rfl (lv_at hl 0 rfl) ?_
            refine lv_iload_n hx hb dX8_lay_25 rfl (lv_at hl 2 rfl) ?_
            refine jx_callVI C hK hP hD hS hA (ct_M_levelOf l D cI cT aM _ sM l2 h) ms_X8_levelOf lk_X8_81 [0] rfl rfl (fun _ => rfl) (cs' := (fun _ => [(cp_M aM, sM)])) (fun _ => rfl) (fun _ => rfl) 0 0 rfl rfl rfl rfl rfl hl.1 rfl rfl dX8_lay_26 ⟨Nat.le_refl _, Nat.le_refl _⟩ (fun r26 _ H locs h hP hD hS => ?_)
            have hP : va_P D vwCl (jx_ws cI cT [(cp_M aM, sM)]) H := hP
            have hD : va_D A (jx_ws cI cT [(cp_M aM, sM)]) := hD
            refine lv_iload_n hx hb dX8_lay_29 rfl (lv_at hl 1 rfl) ?_
            refine jx_cne C h.1 h.2.1 (tgt := 38) dX8_lay_30 (by decide) (fun hc => ?_) (fun hc => ?_)
            · have h := h.2.2.2 hc
              exact J38 sM l2 h _ _ hP hD hS ls (lv_sub hl [0, 1, 2] rfl)
            · have h := h.2.2.1 hc
              refine lv_aload_n hx hb dX8_lay_33 rfl (lv_at hl 0 rfl) ?_
              refine lv_iload_n hx hb dX8_lay_34 rfl (lv_at hl 2 rfl) ?_
              refine jx_callVV C hK hP hD hS hA (ct_M_layNode l D cI cT aM _ sM l2 h) ms_X8_layNode lk_X8_102 [0] rfl rfl (fun _ => rfl) (cs' := (fun u => [(cp_M aM, u)])) (fun _ => rfl) (fun _ => rfl) 0 0 rfl rfl rfl rfl rfl hl.1 rfl rfl dX8_lay_35 ⟨Nat.le_refl _, Nat.le_refl _⟩ (fun sM_35 H locs h hP hD hS => ?_)
              have hP : va_P D vwCl (jx_ws cI cT [(cp_M aM, sM_35)]) H := hP
              have hD : va_D A (jx_ws cI cT [(cp_M aM, sM_35)]) := hD
              exact J38 sM_35 l2 h _ _ hP hD hS ls (lv_sub hl [0, 1, 2] rfl)
      have J44 : ∀ (sM : jx_St) (l1 : Int), wp_M_lay_44 Q B2 sM l1 → ∀ (H : Heap) (locs : List Loc), va_P D vwCl (jx_ws cI cT [(cp_M aM, sM)]) H → va_D A (jx_ws cI cT [(cp_M aM, sM)]) → va_S A s.heap H locs → ∀ ls : Array Slot, lv_has ls 3 [(0, .ref (aM 0)), (1, .int (jx_i l1))] → W p l e (jx_rm 2 50) s m args below meth c H locs 0 0 QQ (F0 m 44 ls []) := by
        intro sM l1 h H locs hP hD hS ls hl
        unfold wp_M_lay_44 at h
        refine jx_iinc C (lv' := [(1, .int (jx_i (l1 + 1))), (0, .ref (aM 0))]) dX8_lay_44 hl (k := 1) rfl (by decide) rfl (fun ls hl => ?_)
        refine lv_goto (tgt := 2) hx hb dX8_lay_47 (by decide) ?_
        exact ih sM (l1 + 1) h _ _ hP hD hS ls (lv_sub hl [1, 0] rfl)
      refine lv_iload_n hx hb dX8_lay_2 rfl (lv_at hl 1 rfl) ?_
      refine lv_aload_n hx hb dX8_lay_3 rfl (lv_at hl 0 rfl) ?_
      refine lv_aload_n hx hb dX8_lay_4 rfl (lv_at hl 0 rfl) ?_
      refine jx_getR C hK hP 0 0 0 rfl rfl rfl fl_X8_7 dX8_lay_5 ?_
      refine jx_iconst C dX8_lay_8 ?_
      refine jx_iald C hK hP 0 1 rfl rfl rfl (show jx_B _ _ from ⟨by decide, by decide⟩) dX8_lay_9 ?_
      refine jx_callVI C hK hP hD hS hA (ct_M_levelOf l D cI cT aM _ sM (sM 0 0) h) ms_X8_levelOf lk_X8_81 [0] rfl rfl (fun _ => rfl) (cs' := (fun _ => [(cp_M aM, sM)])) (fun _ => rfl) (fun _ => rfl) 0 0 rfl rfl rfl rfl rfl hl.1 rfl rfl dX8_lay_10 ⟨Nat.le_refl _, Nat.le_refl _⟩ (fun r10 _ H locs h hP hD hS => ?_)
      have hP : va_P D vwCl (jx_ws cI cT [(cp_M aM, sM)]) H := hP
      have hD : va_D A (jx_ws cI cT [(cp_M aM, sM)]) := hD
      refine jx_cgt C h.1 h.2.1 (tgt := 50) dX8_lay_13 (by decide) (fun hc => ?_) (fun hc => ?_)
      · have h := h.2.2.2 hc
        exact jx_rV C hr hlk hAe hS hQQ sM hP h dX8_lay_50
      · have h := h.2.2.1 hc
        refine jx_iconst C dX8_lay_16 ?_
        refine lv_istore_n (lv' := [(2, .int (jx_i 0)), (0, .ref (aM 0)), (1, .int (jx_i l1))]) hx hb dX8_lay_17 rfl hl (by decide) rfl (fun ls hl => ?_)
        obtain ⟨n, h⟩ := h
        refine Lo18 l1 _ n sM 0 h ?_ _ _ hP hD hS ls (lv_sub hl [1, 2, 0] rfl)
        · intro sM h H locs hP hD hS ls hl
          exact J44 sM l1 h _ _ hP hD hS ls (lv_sub hl [0, 1] rfl)
  refine jx_iconst C dX8_lay_0 ?_
  refine lv_istore_n (lv' := [(1, .int (jx_i 0)), (0, .ref (aM 0))]) hx hb dX8_lay_1 rfl hl (by decide) rfl (fun ls hl => ?_)
  obtain ⟨n, h⟩ := h
  refine Lo2 n sM 0 h _ _ hP hD hS ls (lv_sub hl [1, 0] rfl)
set_option maxRecDepth 100000 in
set_option maxHeartbeats 4000000 in
theorem ct_M_takes_one (l : Launch) (D : va_G) (cI cT : ClassId) (aM : Nat → Nat) (Q : jx_St → Prop) (sM : jx_St) (l2 : Int) (l3 : Int) (h : wp_M_takes_one Q sM l2 l3) : jx_KV jx_St l D cI cT yX8_takes cX8_takes 5 1 23 [.ref (aM 0), .ref (aM 7), .int (jx_i l2), .int (jx_i l3)] [(cp_M aM, sM)] (fun u => [(cp_M aM, u)]) Q := by
  refine jx_ent (own := RX8) (by decide) rfl (Nat.le_of_ble_eq_true rfl) ?_
  intro p e s m args below meth c A QQ C hr hlk hK hAe hA hP hD hS ls hl hQQ
  have hl : lv_has ls 5 [(0, .ref (aM 0)), (1, .ref (aM 7)), (2, .int (jx_i l2)), (3, .int (jx_i l3))] := hl
  have hx := C.1
  have hb := C.2.1
  unfold wp_M_takes_one at h
  have Lo3 : ∀ (n : Nat) (sM : jx_St) (l4 : Int), jx_it (fun B3 v => wp_M_takes_one_3 Q l2 l3 B3 v.1 v.2) n (sM, l4) → ∀ (H : Heap) (locs : List Loc), va_P D vwCl (jx_ws cI cT [(cp_M aM, sM)]) H → va_D A (jx_ws cI cT [(cp_M aM, sM)]) → va_S A s.heap H locs → ∀ ls : Array Slot, lv_has ls 5 [(0, .ref (aM 0)), (1, .ref (aM 7)), (2, .int (jx_i l2)), (3, .int (jx_i l3)), (4, .int (jx_i l4))] → W p l e (jx_rm 1 23) s m args below meth c H locs 0 0 QQ (F0 m 3 ls []) := by
    intro n
    induction n with
    | zero =>
      intro sM l4 h
      exact (show False from h).elim
    | succ n ih =>
      intro sM l4 h H locs hP hD hS ls hl
      have h : wp_M_takes_one_3 Q l2 l3 (jx_it (fun B3 v => wp_M_takes_one_3 Q l2 l3 B3 v.1 v.2) n) sM l4 := h
      have ih := fun sM l4 h => ih sM l4 h
      generalize jx_it (fun B3 v => wp_M_takes_one_3 Q l2 l3 B3 v.1 v.2) n = B3 at h ih
      unfold wp_M_takes_one_3 at h
      refine lv_iload hx hb dX8_takes_3 (lv_at hl 4 rfl) ?_
      refine jx_iconst C dX8_takes_5 ?_
      refine jx_cge C h.1 (jx_inR (by decide) (by decide)) (tgt := 27) dX8_takes_6 (by decide) (fun hc => ?_) (fun hc => ?_)
      · have h := h.2.2 hc
        exact jx_rV C hr hlk hAe hS hQQ sM hP h dX8_takes_27
      · have h := h.2.1 hc
        refine lv_aload_n hx hb dX8_takes_9 rfl (lv_at hl 1 rfl) ?_
        refine lv_iload hx hb dX8_takes_10 (lv_at hl 4 rfl) ?_
        refine lv_aload_n hx hb dX8_takes_12 rfl (lv_at hl 0 rfl) ?_
        refine lv_iload_n hx hb dX8_takes_13 rfl (lv_at hl 2 rfl) ?_
        refine lv_iload_n hx hb dX8_takes_14 rfl (lv_at hl 3 rfl) ?_
        refine lv_iload hx hb dX8_takes_15 (lv_at hl 4 rfl) ?_
        refine jx_callVI C hK hP hD hS hA (ct_M_side l D cI cT aM _ sM l2 l3 l4 h) ms_X8_side lk_X8_92 [0] rfl rfl (fun _ => rfl) (cs' := (fun _ => [(cp_M aM, sM)])) (fun _ => rfl) (fun _ => rfl) 0 0 rfl rfl rfl rfl rfl hl.1 rfl rfl dX8_takes_17 ⟨Nat.le_refl _, Nat.le_refl _⟩ (fun r17 _ H locs h hP hD hS => ?_)
        have hP : va_P D vwCl (jx_ws cI cT [(cp_M aM, sM)]) H := hP
        have hD : va_D A (jx_ws cI cT [(cp_M aM, sM)]) := hD
        refine jx_iast C hK hP hD hS 0 7 rfl rfl rfl rfl h.1 rfl dX8_takes_20 (fun H locs hP hD hS => ?_)
        have h := h.2
        have hP : va_P D vwCl (jx_ws cI cT [(cp_M aM, (jx_su sM 9 l4 r17))]) H := hP
        have hD : va_D A (jx_ws cI cT [(cp_M aM, (jx_su sM 9 l4 r17))]) := hD
        refine jx_iinc C (lv' := [(4, .int (jx_i (l4 + 1))), (0, .ref (aM 0)), (1, .ref (aM 7)), (2, .int (jx_i l2)), (3, .int (jx_i l3))]) dX8_takes_21 hl (k := 4) rfl (by decide) rfl (fun ls hl => ?_)
        refine lv_goto (tgt := 3) hx hb dX8_takes_24 (by decide) ?_
        exact ih (jx_su sM 9 l4 r17) (l4 + 1) h _ _ hP hD hS ls (lv_sub hl [1, 2, 3, 4, 0] rfl)
  refine jx_iconst C dX8_takes_0 ?_
  refine lv_istore (lv' := [(4, .int (jx_i 0)), (0, .ref (aM 0)), (1, .ref (aM 7)), (2, .int (jx_i l2)), (3, .int (jx_i l3))]) hx hb dX8_takes_1 hl (by decide) rfl (fun ls hl => ?_)
  obtain ⟨n, h⟩ := h
  refine Lo3 n sM 0 h _ _ hP hD hS ls (lv_sub hl [1, 2, 3, 4, 0] rfl)
set_option maxRecDepth 100000 in
set_option maxHeartbeats 4000000 in
theorem ct_M_areas (l : Launch) (D : va_G) (cI cT : ClassId) (aM : Nat → Nat) (Q : Int → jx_St → Prop) (sM : jx_St) (h : wp_M_areas Q sM) : jx_KI jx_St l D cI cT yX8_areas cX8_areas 3 .int 3 72 [.ref (aM 0)] [(cp_M aM, sM)] (fun u => [(cp_M aM, u)]) Q := by
  refine jx_ent (own := RX8) (by decide) rfl (Nat.le_of_ble_eq_true rfl) ?_
  intro p e s m args below meth c A QQ C hr hlk hK hAe hA hP hD hS ls hl hQQ
  have hl : lv_has ls 3 [(0, .ref (aM 0))] := hl
  have hx := C.1
  have hb := C.2.1
  unfold wp_M_areas at h
  have Lo8 : ∀ (n : Nat) (sM : jx_St) (l1 : Int) (l2 : Int), jx_it (fun B8 v => wp_M_areas_8 Q B8 v.1 v.2.1 v.2.2) n (sM, l1, l2) → ∀ (H : Heap) (locs : List Loc), va_P D vwCl (jx_ws cI cT [(cp_M aM, sM)]) H → va_D A (jx_ws cI cT [(cp_M aM, sM)]) → va_S A s.heap H locs → ∀ ls : Array Slot, lv_has ls 3 [(0, .ref (aM 0)), (1, .int (jx_i l1)), (2, .int (jx_i l2))] → W p l e (jx_rm 3 72) s m args below meth c H locs 0 0 QQ (F0 m 8 ls []) := by
    intro n
    induction n with
    | zero =>
      intro sM l1 l2 h
      exact (show False from h).elim
    | succ n ih =>
      intro sM l1 l2 h H locs hP hD hS ls hl
      have h : wp_M_areas_8 Q (jx_it (fun B8 v => wp_M_areas_8 Q B8 v.1 v.2.1 v.2.2) n) sM l1 l2 := h
      have ih := fun sM l1 l2 h => ih sM l1 l2 h
      generalize jx_it (fun B8 v => wp_M_areas_8 Q B8 v.1 v.2.1 v.2.2) n = B8 at h ih
      unfold wp_M_areas_8 at h
      have J50 : ∀ (sM : jx_St) (l1 : Int) (l2 : Int), wp_M_areas_50 Q B8 sM l1 l2 → ∀ (H : Heap) (locs : List Loc), va_P D vwCl (jx_ws cI cT [(cp_M aM, sM)]) H → va_D A (jx_ws cI cT [(cp_M aM, sM)]) → va_S A s.heap H locs → ∀ ls : Array Slot, lv_has ls 3 [(0, .ref (aM 0)), (1, .int (jx_i l1)), (2, .int (jx_i l2))] → W p l e (jx_rm 3 72) s m args below meth c H locs 0 0 QQ (F0 m 50 ls []) := by
        intro sM l1 l2 h H locs hP hD hS ls hl
        unfold wp_M_areas_50 at h
        refine jx_iinc C (lv' := [(2, .int (jx_i (l2 + 1))), (0, .ref (aM 0)), (1, .int (jx_i l1))]) dX8_areas_50 hl (k := 2) rfl (by decide) rfl (fun ls hl => ?_)
        refine lv_goto (tgt := 8) hx hb dX8_areas_53 (by decide) ?_
        exact ih sM l1 (l2 + 1) h _ _ hP hD hS ls (lv_sub hl [1, 2, 0] rfl)
      refine lv_iload_n hx hb dX8_areas_8 rfl (lv_at hl 2 rfl) ?_
      refine jx_bipush C dX8_areas_9 (by decide) ?_
      refine jx_cge C h.1 (jx_inR (by decide) (by decide)) (tgt := 56) dX8_areas_11 (by decide) (fun hc => ?_) (fun hc => ?_)
      · have h := h.2.2 hc
        refine lv_iload_n hx hb dX8_areas_56 rfl (lv_at hl 1 rfl) ?_
        exact jx_rI C hr hlk hAe hS hQQ sM hP h dX8_areas_57
      · have h := h.2.1 hc
        refine lv_aload_n hx hb dX8_areas_14 rfl (lv_at hl 0 rfl) ?_
        refine lv_iload_n hx hb dX8_areas_15 rfl (lv_at hl 2 rfl) ?_
        refine jx_callVI C hK hP hD hS hA (ct_M_levelOf l D cI cT aM _ sM l2 h) ms_X8_levelOf lk_X8_81 [0] rfl rfl (fun _ => rfl) (cs' := (fun _ => [(cp_M aM, sM)])) (fun _ => rfl) (fun _ => rfl) 0 0 rfl rfl rfl rfl rfl hl.1 rfl rfl dX8_areas_16 ⟨Nat.le_refl _, Nat.le_refl _⟩ (fun r16 _ H locs h hP hD hS => ?_)
        have hP : va_P D vwCl (jx_ws cI cT [(cp_M aM, sM)]) H := hP
        have hD : va_D A (jx_ws cI cT [(cp_M aM, sM)]) := hD
        refine jx_zne C h.1 (tgt := 50) dX8_areas_19 (by decide) (fun hc => ?_) (fun hc => ?_)
        · have h := h.2.2 hc
          exact J50 sM l1 l2 h _ _ hP hD hS ls (lv_sub hl [0, 1, 2] rfl)
        · have h := h.2.1 hc
          refine lv_aload_n hx hb dX8_areas_22 rfl (lv_at hl 0 rfl) ?_
          refine lv_iload_n hx hb dX8_areas_23 rfl (lv_at hl 2 rfl) ?_
          refine jx_callVI C hK hP hD hS hA (ct_M_manyOf l D cI cT aM _ sM l2 h) ms_X8_manyOf lk_X8_85 [0] rfl rfl (fun _ => rfl) (cs' := (fun _ => [(cp_M aM, sM)])) (fun _ => rfl) (fun _ => rfl) 0 0 rfl rfl rfl rfl rfl hl.1 rfl rfl dX8_areas_24 ⟨Nat.le_refl _, Nat.le_refl _⟩ (fun r24 _ H locs h hP hD hS => ?_)
          have hP : va_P D vwCl (jx_ws cI cT [(cp_M aM, sM)]) H := hP
          have hD : va_D A (jx_ws cI cT [(cp_M aM, sM)]) := hD
          refine jx_zle C h.1 (tgt := 50) dX8_areas_27 (by decide) (fun hc => ?_) (fun hc => ?_)
          · have h := h.2.1 hc
            exact J50 sM l1 l2 h _ _ hP hD hS ls (lv_sub hl [0, 1, 2] rfl)
          · have h := h.2.2 hc
            refine lv_aload_n hx hb dX8_areas_30 rfl (lv_at hl 0 rfl) ?_
            refine lv_aload_n hx hb dX8_areas_31 rfl (lv_at hl 0 rfl) ?_
            refine jx_getR C hK hP 0 0 9 rfl rfl rfl fl_X8_28 dX8_areas_32 ?_
            refine lv_iload_n hx hb dX8_areas_35 rfl (lv_at hl 2 rfl) ?_
            refine jx_iconst C dX8_areas_36 ?_
            refine jx_callVV C hK hP hD hS hA (ct_M_takes_one l D cI cT aM _ sM l2 1 h) ms_X8_takes lk_X8_112 [0] rfl rfl (fun _ => rfl) (cs' := (fun u => [(cp_M aM, u)])) (fun _ => rfl) (fun _ => rfl) 0 0 rfl rfl rfl rfl rfl hl.1 rfl rfl dX8_areas_37 ⟨Nat.le_refl _, Nat.le_refl _⟩ (fun sM_37 H locs h hP hD hS => ?_)
            have hP : va_P D vwCl (jx_ws cI cT [(cp_M aM, sM_37)]) H := hP
            have hD : va_D A (jx_ws cI cT [(cp_M aM, sM_37)]) := hD
            refine lv_iload_n hx hb dX8_areas_40 rfl (lv_at hl 1 rfl) ?_
            refine lv_aload_n hx hb dX8_areas_41 rfl (lv_at hl 0 rfl) ?_
            refine jx_getR C hK hP 0 0 9 rfl rfl rfl fl_X8_28 dX8_areas_42 ?_
            refine jx_callArea C hK hP hD hS hA 0 7 rfl rfl rfl lk_X8_116 hl.1 rfl rfl dX8_areas_45 ⟨Nat.le_refl _, Nat.le_refl _⟩ (fun H locs hP hS => ?_)
            refine jx_iadd C dX8_areas_48 ?_
            refine lv_istore_n (lv' := [(1, .int (jx_i (l1 + (jx_area (sM_37 9))))), (0, .ref (aM 0)), (2, .int (jx_i l2))]) hx hb dX8_areas_49 rfl hl (by decide) rfl (fun ls hl => ?_)
            exact J50 sM_37 (l1 + (jx_area (sM_37 9))) l2 h _ _ hP hD hS ls (lv_sub hl [1, 0, 2] rfl)
  refine lv_aload_n hx hb dX8_areas_0 rfl (lv_at hl 0 rfl) ?_
  refine jx_callVV C hK hP hD hS hA (ct_M_lay l D cI cT aM _ sM  h) ms_X8_lay lk_X8_126 [0] rfl rfl (fun _ => rfl) (cs' := (fun u => [(cp_M aM, u)])) (fun _ => rfl) (fun _ => rfl) 0 0 rfl rfl rfl rfl rfl hl.1 rfl rfl dX8_areas_1 ⟨Nat.le_refl _, Nat.le_refl _⟩ (fun sM_1 H locs h hP hD hS => ?_)
  have hP : va_P D vwCl (jx_ws cI cT [(cp_M aM, sM_1)]) H := hP
  have hD : va_D A (jx_ws cI cT [(cp_M aM, sM_1)]) := hD
  refine jx_iconst C dX8_areas_4 ?_
  refine lv_istore_n (lv' := [(1, .int (jx_i 0)), (0, .ref (aM 0))]) hx hb dX8_areas_5 rfl hl (by decide) rfl (fun ls hl => ?_)
  refine jx_iconst C dX8_areas_6 ?_
  refine lv_istore_n (lv' := [(2, .int (jx_i 0)), (1, .int (jx_i 0)), (0, .ref (aM 0))]) hx hb dX8_areas_7 rfl hl (by decide) rfl (fun ls hl => ?_)
  obtain ⟨n, h⟩ := h
  refine Lo8 n sM_1 0 0 h _ _ hP hD hS ls (lv_sub hl [2, 1, 0] rfl)
set_option maxRecDepth 100000 in
set_option maxHeartbeats 4000000 in
theorem ct_M_back (l : Launch) (D : va_G) (cI cT : ClassId) (aM : Nat → Nat) (Q : jx_St → Prop) (sM : jx_St) (h : wp_M_back Q sM) : jx_KV jx_St l D cI cT yX8_back cX8_back 2 0 0 [.ref (aM 0)] [(cp_M aM, sM)] (fun u => [(cp_M aM, u)]) Q := by
  refine jx_ent (own := RX8) (by decide) rfl (Nat.le_of_ble_eq_true rfl) ?_
  intro p e s m args below meth c A QQ C hr hlk hK hAe hA hP hD hS ls hl hQQ
  have hl : lv_has ls 2 [(0, .ref (aM 0))] := hl
  have hx := C.1
  have hb := C.2.1
  unfold wp_M_back at h
  have Lo2 : ∀ (n : Nat) (sM : jx_St) (l1 : Int), jx_it (fun B2 v => wp_M_back_2 Q B2 v.1 v.2) n (sM, l1) → ∀ (H : Heap) (locs : List Loc), va_P D vwCl (jx_ws cI cT [(cp_M aM, sM)]) H → va_D A (jx_ws cI cT [(cp_M aM, sM)]) → va_S A s.heap H locs → ∀ ls : Array Slot, lv_has ls 2 [(0, .ref (aM 0)), (1, .int (jx_i l1))] → W p l e (jx_rm 0 0) s m args below meth c H locs 0 0 QQ (F0 m 2 ls []) := by
    intro n
    induction n with
    | zero =>
      intro sM l1 h
      exact (show False from h).elim
    | succ n ih =>
      intro sM l1 h H locs hP hD hS ls hl
      have h : wp_M_back_2 Q (jx_it (fun B2 v => wp_M_back_2 Q B2 v.1 v.2) n) sM l1 := h
      have ih := fun sM l1 h => ih sM l1 h
      generalize jx_it (fun B2 v => wp_M_back_2 Q B2 v.1 v.2) n = B2 at h ih
      unfold wp_M_back_2 at h
      refine lv_iload_n hx hb dX8_back_2 rfl (lv_at hl 1 rfl) ?_
      refine jx_sipush C dX8_back_3 (by decide) ?_
      refine jx_cge C h.1 (jx_inR (by decide) (by decide)) (tgt := 27) dX8_back_6 (by decide) (fun hc => ?_) (fun hc => ?_)
      · have h := h.2.2 hc
        exact jx_rV C hr hlk hAe hS hQQ sM hP h dX8_back_27
      · have h := h.2.1 hc
        refine lv_aload_n hx hb dX8_back_9 rfl (lv_at hl 0 rfl) ?_
        refine jx_getR C hK hP 0 0 0 rfl rfl rfl fl_X8_7 dX8_back_10 ?_
        refine lv_iload_n hx hb dX8_back_13 rfl (lv_at hl 1 rfl) ?_
        refine lv_aload_n hx hb dX8_back_14 rfl (lv_at hl 0 rfl) ?_
        refine jx_getR C hK hP 0 0 1 rfl rfl rfl fl_X8_13 dX8_back_15 ?_
        refine lv_iload_n hx hb dX8_back_18 rfl (lv_at hl 1 rfl) ?_
        refine jx_iald C hK hP 0 2 rfl rfl rfl h.1 dX8_back_19 ?_
        have h := h.2
        refine jx_iast C hK hP hD hS 0 1 rfl rfl rfl rfl h.1 rfl dX8_back_20 (fun H locs hP hD hS => ?_)
        have h := h.2
        have hP : va_P D vwCl (jx_ws cI cT [(cp_M aM, (jx_su sM 0 l1 (sM 1 l1)))]) H := hP
        have hD : va_D A (jx_ws cI cT [(cp_M aM, (jx_su sM 0 l1 (sM 1 l1)))]) := hD
        refine jx_iinc C (lv' := [(1, .int (jx_i (l1 + 1))), (0, .ref (aM 0))]) dX8_back_21 hl (k := 1) rfl (by decide) rfl (fun ls hl => ?_)
        refine lv_goto (tgt := 2) hx hb dX8_back_24 (by decide) ?_
        exact ih (jx_su sM 0 l1 (sM 1 l1)) (l1 + 1) h _ _ hP hD hS ls (lv_sub hl [1, 0] rfl)
  refine jx_iconst C dX8_back_0 ?_
  refine lv_istore_n (lv' := [(1, .int (jx_i 0)), (0, .ref (aM 0))]) hx hb dX8_back_1 rfl hl (by decide) rfl (fun ls hl => ?_)
  obtain ⟨n, h⟩ := h
  refine Lo2 n sM 0 h _ _ hP hD hS ls (lv_sub hl [1, 0] rfl)
set_option maxRecDepth 100000 in
set_option maxHeartbeats 4000000 in
theorem ct_M_boxMany (l : Launch) (D : va_G) (cI cT : ClassId) (aM : Nat → Nat) (Q : Int → Prop) (sM : jx_St) (h : wp_M_boxMany Q sM) : jx_KI (Unit) l D cI cT yX8_boxMany cX8_boxMany 3 .int 0 0 [.ref (aM 0)] [(cp_M aM, sM)] (fun _ => [(cp_M aM, sM)]) (fun x _ => Q x) := by
  refine jx_ent (own := RX8) (by decide) rfl (Nat.le_of_ble_eq_true rfl) ?_
  intro p e s m args below meth c A QQ C hr hlk hK hAe hA hP hD hS ls hl hQQ
  have hl : lv_has ls 3 [(0, .ref (aM 0))] := hl
  have hx := C.1
  have hb := C.2.1
  unfold wp_M_boxMany at h
  have Lo4 : ∀ (n : Nat) (l1 : Int) (l2 : Int), jx_it (fun B4 v => wp_M_boxMany_4 Q sM B4 v.1 v.2) n (l1, l2) → ∀ (H : Heap) (locs : List Loc), va_P D vwCl (jx_ws cI cT [(cp_M aM, sM)]) H → va_D A (jx_ws cI cT [(cp_M aM, sM)]) → va_S A s.heap H locs → ∀ ls : Array Slot, lv_has ls 3 [(0, .ref (aM 0)), (1, .int (jx_i l1)), (2, .int (jx_i l2))] → W p l e (jx_rm 0 0) s m args below meth c H locs 0 0 QQ (F0 m 4 ls []) := by
    intro n
    induction n with
    | zero =>
      intro l1 l2 h
      exact (show False from h).elim
    | succ n ih =>
      intro l1 l2 h H locs hP hD hS ls hl
      have h : wp_M_boxMany_4 Q sM (jx_it (fun B4 v => wp_M_boxMany_4 Q sM B4 v.1 v.2) n) l1 l2 := h
      have ih := fun l1 l2 h => ih l1 l2 h
      generalize jx_it (fun B4 v => wp_M_boxMany_4 Q sM B4 v.1 v.2) n = B4 at h ih
      unfold wp_M_boxMany_4 at h
      refine lv_iload_n hx hb dX8_boxMany_4 rfl (lv_at hl 2 rfl) ?_
      refine jx_bipush C dX8_boxMany_5 (by decide) ?_
      refine jx_cge C h.1 (jx_inR (by decide) (by decide)) (tgt := 27) dX8_boxMany_7 (by decide) (fun hc => ?_) (fun hc => ?_)
      · have h := h.2.2 hc
        refine lv_iload_n hx hb dX8_boxMany_27 rfl (lv_at hl 1 rfl) ?_
        exact jx_rI C hr hlk hAe hS hQQ () hP h dX8_boxMany_28
      · have h := h.2.1 hc
        refine lv_iload_n hx hb dX8_boxMany_10 rfl (lv_at hl 1 rfl) ?_
        refine lv_aload_n hx hb dX8_boxMany_11 rfl (lv_at hl 0 rfl) ?_
        refine jx_getR C hK hP 0 0 0 rfl rfl rfl fl_X8_7 dX8_boxMany_12 ?_
        refine jx_iconst C dX8_boxMany_15 ?_
        refine lv_iload_n hx hb dX8_boxMany_16 rfl (lv_at hl 2 rfl) ?_
        refine jx_iadd C dX8_boxMany_17 ?_
        refine jx_iald C hK hP 0 1 rfl rfl rfl h.1 dX8_boxMany_18 ?_
        have h := h.2
        refine jx_iadd C dX8_boxMany_19 ?_
        refine lv_istore_n (lv' := [(1, .int (jx_i (l1 + (sM 0 (4 + l2))))), (0, .ref (aM 0)), (2, .int (jx_i l2))]) hx hb dX8_boxMany_20 rfl hl (by decide) rfl (fun ls hl => ?_)
        refine jx_iinc C (lv' := [(2, .int (jx_i (l2 + 1))), (1, .int (jx_i (l1 + (sM 0 (4 + l2))))), (0, .ref (aM 0))]) dX8_boxMany_21 hl (k := 2) rfl (by decide) rfl (fun ls hl => ?_)
        refine lv_goto (tgt := 4) hx hb dX8_boxMany_24 (by decide) ?_
        exact ih (l1 + (sM 0 (4 + l2))) (l2 + 1) h _ _ hP hD hS ls (lv_sub hl [2, 1, 0] rfl)
  refine jx_iconst C dX8_boxMany_0 ?_
  refine lv_istore_n (lv' := [(1, .int (jx_i 0)), (0, .ref (aM 0))]) hx hb dX8_boxMany_1 rfl hl (by decide) rfl (fun ls hl => ?_)
  refine jx_iconst C dX8_boxMany_2 ?_
  refine lv_istore_n (lv' := [(2, .int (jx_i 0)), (1, .int (jx_i 0)), (0, .ref (aM 0))]) hx hb dX8_boxMany_3 rfl hl (by decide) rfl (fun ls hl => ?_)
  obtain ⟨n, h⟩ := h
  refine Lo4 n 0 0 h _ _ hP hD hS ls (lv_sub hl [2, 1, 0] rfl)
set_option maxRecDepth 100000 in
set_option maxHeartbeats 4000000 in
theorem ct_M_isBox (l : Launch) (D : va_G) (cI cT : ClassId) (Q : Int → Prop) (l0 : Int) (h : wp_M_isBox Q l0) : jx_KI (Unit) l D cI cT yX8_isBox cX8_isBox 1 .boolean 1 22 [.int (jx_i l0)] [] (fun _ => []) (fun x _ => Q x) := by
  refine jx_ent (own := RX8) (by decide) rfl (Nat.le_of_ble_eq_true rfl) ?_
  intro p e s m args below meth c A QQ C hr hlk hK hAe hA hP hD hS ls hl hQQ
  have hl : lv_has ls 1 [(0, .int (jx_i l0))] := hl
  have hx := C.1
  have hb := C.2.1
  unfold wp_M_isBox at h
  refine lv_iload_n hx hb dX8_isBox_0 rfl (lv_at hl 0 rfl) ?_
  refine jx_iconst C dX8_isBox_1 ?_
  refine jx_bipush C dX8_isBox_2 (by decide) ?_
  refine jx_callSI C hK hP hD hS hA (ct_M_in l D cI cT  _  l0 0 30 h) ms_X8_in lk_X8_180 [] rfl rfl (fun _ => rfl) (cs' := (fun _ => [])) (fun _ => rfl) (fun _ => rfl) rfl rfl hl.1 rfl rfl dX8_isBox_4 ⟨Nat.le_refl _, Nat.le_refl _⟩ (fun r4 _ H locs h hP hD hS => ?_)
  have hP : va_P D vwCl (jx_ws cI cT []) H := hP
  have hD : va_D A (jx_ws cI cT []) := hD
  exact jx_rZ C hr hlk hAe hS hQQ h.1 () hP h.2 dX8_isBox_7
set_option maxRecDepth 100000 in
set_option maxHeartbeats 4000000 in
theorem ct_M_isThere (l : Launch) (D : va_G) (cI cT : ClassId) (aM : Nat → Nat) (Q : Int → Prop) (sM : jx_St) (l1 : Int) (h : wp_M_isThere Q sM l1) : jx_KI (Unit) l D cI cT yX8_isThere cX8_isThere 2 .boolean 0 0 [.ref (aM 0), .int (jx_i l1)] [(cp_M aM, sM)] (fun _ => [(cp_M aM, sM)]) (fun x _ => Q x) := by
  refine jx_ent (own := RX8) (by decide) rfl (Nat.le_of_ble_eq_true rfl) ?_
  intro p e s m args below meth c A QQ C hr hlk hK hAe hA hP hD hS ls hl hQQ
  have hl : lv_has ls 2 [(0, .ref (aM 0)), (1, .int (jx_i l1))] := hl
  have hx := C.1
  have hb := C.2.1
  unfold wp_M_isThere at h
  refine lv_aload_n hx hb dX8_isThere_0 rfl (lv_at hl 0 rfl) ?_
  refine jx_getR C hK hP 0 0 0 rfl rfl rfl fl_X8_7 dX8_isThere_1 ?_
  refine jx_iconst C dX8_isThere_4 ?_
  refine lv_iload_n hx hb dX8_isThere_5 rfl (lv_at hl 1 rfl) ?_
  refine jx_iadd C dX8_isThere_6 ?_
  refine jx_iald C hK hP 0 1 rfl rfl rfl h.1 dX8_isThere_7 ?_
  have h := h.2
  refine jx_iconst C dX8_isThere_8 ?_
  refine jx_cne C h.1 (jx_inR (by decide) (by decide)) (tgt := 16) dX8_isThere_9 (by decide) (fun hc => ?_) (fun hc => ?_)
  · have h := h.2.2 hc
    refine jx_iconst C dX8_isThere_16 ?_
    exact jx_rZ C hr hlk hAe hS hQQ (by decide) () hP h dX8_isThere_17
  · have h := h.2.1 hc
    refine jx_iconst C dX8_isThere_12 ?_
    refine lv_goto (tgt := 17) hx hb dX8_isThere_13 (by decide) ?_
    exact jx_rZ C hr hlk hAe hS hQQ (by decide) () hP h dX8_isThere_17
set_option maxRecDepth 100000 in
set_option maxHeartbeats 4000000 in
theorem ct_M_placeIn (l : Launch) (D : va_G) (cI cT : ClassId) (aM : Nat → Nat) (Q : Int → Prop) (sM : jx_St) (l1 : Int) (l2 : Int) (h : wp_M_placeIn Q sM l1 l2) : jx_KI (Unit) l D cI cT yX8_placeIn cX8_placeIn 4 .int 1 22 [.ref (aM 0), .int (jx_i l1), .int (jx_i l2)] [(cp_M aM, sM)] (fun _ => [(cp_M aM, sM)]) (fun x _ => Q x) := by
  refine jx_ent (own := RX8) (by decide) rfl (Nat.le_of_ble_eq_true rfl) ?_
  intro p e s m args below meth c A QQ C hr hlk hK hAe hA hP hD hS ls hl hQQ
  have hl : lv_has ls 4 [(0, .ref (aM 0)), (1, .int (jx_i l1)), (2, .int (jx_i l2))] := hl
  have hx := C.1
  have hb := C.2.1
  unfold wp_M_placeIn at h
  have Lo2 : ∀ (n : Nat) (l3 : Int), jx_it (fun B2 v => wp_M_placeIn_2 Q sM l1 l2 B2 v) n l3 → ∀ (H : Heap) (locs : List Loc), va_P D vwCl (jx_ws cI cT [(cp_M aM, sM)]) H → va_D A (jx_ws cI cT [(cp_M aM, sM)]) → va_S A s.heap H locs → ∀ ls : Array Slot, lv_has ls 4 [(0, .ref (aM 0)), (1, .int (jx_i l1)), (2, .int (jx_i l2)), (3, .int (jx_i l3))] → W p l e (jx_rm 1 22) s m args below meth c H locs 0 0 QQ (F0 m 2 ls []) := by
    intro n
    induction n with
    | zero =>
      intro l3 h
      exact (show False from h).elim
    | succ n ih =>
      intro l3 h H locs hP hD hS ls hl
      have h : wp_M_placeIn_2 Q sM l1 l2 (jx_it (fun B2 v => wp_M_placeIn_2 Q sM l1 l2 B2 v) n) l3 := h
      have ih := fun l3 h => ih l3 h
      generalize jx_it (fun B2 v => wp_M_placeIn_2 Q sM l1 l2 B2 v) n = B2 at h ih
      unfold wp_M_placeIn_2 at h
      refine lv_iload_n hx hb dX8_placeIn_2 rfl (lv_at hl 3 rfl) ?_
      refine lv_aload_n hx hb dX8_placeIn_3 rfl (lv_at hl 0 rfl) ?_
      refine lv_iload_n hx hb dX8_placeIn_4 rfl (lv_at hl 1 rfl) ?_
      refine jx_callVI C hK hP hD hS hA (ct_M_manyOf l D cI cT aM _ sM l1 h) ms_X8_manyOf lk_X8_85 [0] rfl rfl (fun _ => rfl) (cs' := (fun _ => [(cp_M aM, sM)])) (fun _ => rfl) (fun _ => rfl) 0 0 rfl rfl rfl rfl rfl hl.1 rfl rfl dX8_placeIn_5 ⟨Nat.le_refl _, Nat.le_refl _⟩ (fun r5 _ H locs h hP hD hS => ?_)
      have hP : va_P D vwCl (jx_ws cI cT [(cp_M aM, sM)]) H := hP
      have hD : va_D A (jx_ws cI cT [(cp_M aM, sM)]) := hD
      refine jx_cge C h.1 h.2.1 (tgt := 29) dX8_placeIn_8 (by decide) (fun hc => ?_) (fun hc => ?_)
      · have h := h.2.2.2 hc
        refine jx_iconst C dX8_placeIn_29 ?_
        exact jx_rI C hr hlk hAe hS hQQ () hP h dX8_placeIn_30
      · have h := h.2.2.1 hc
        refine lv_aload_n hx hb dX8_placeIn_11 rfl (lv_at hl 0 rfl) ?_
        refine lv_iload_n hx hb dX8_placeIn_12 rfl (lv_at hl 1 rfl) ?_
        refine lv_iload_n hx hb dX8_placeIn_13 rfl (lv_at hl 3 rfl) ?_
        refine jx_callVI C hK hP hD hS hA (ct_M_thing l D cI cT aM _ sM l1 l3 h) ms_X8_thing lk_X8_88 [0] rfl rfl (fun _ => rfl) (cs' := (fun _ => [(cp_M aM, sM)])) (fun _ => rfl) (fun _ => rfl) 0 0 rfl rfl rfl rfl rfl hl.1 rfl rfl dX8_placeIn_14 ⟨Nat.le_refl _, Nat.le_refl _⟩ (fun r14 _ H locs h hP hD hS => ?_)
        have hP : va_P D vwCl (jx_ws cI cT [(cp_M aM, sM)]) H := hP
        have hD : va_D A (jx_ws cI cT [(cp_M aM, sM)]) := hD
        refine lv_iload_n hx hb dX8_placeIn_17 rfl (lv_at hl 2 rfl) ?_
        refine jx_cne C h.1 h.2.1 (tgt := 23) dX8_placeIn_18 (by decide) (fun hc => ?_) (fun hc => ?_)
        · have h := h.2.2.2 hc
          refine jx_iinc C (lv' := [(3, .int (jx_i (l3 + 1))), (0, .ref (aM 0)), (1, .int (jx_i l1)), (2, .int (jx_i l2))]) dX8_placeIn_23 hl (k := 3) rfl (by decide) rfl (fun ls hl => ?_)
          refine lv_goto (tgt := 2) hx hb dX8_placeIn_26 (by decide) ?_
          exact ih (l3 + 1) h _ _ hP hD hS ls (lv_sub hl [1, 2, 3, 0] rfl)
        · have h := h.2.2.1 hc
          refine lv_iload_n hx hb dX8_placeIn_21 rfl (lv_at hl 3 rfl) ?_
          exact jx_rI C hr hlk hAe hS hQQ () hP h dX8_placeIn_22
  refine jx_iconst C dX8_placeIn_0 ?_
  refine lv_istore_n (lv' := [(3, .int (jx_i 0)), (0, .ref (aM 0)), (1, .int (jx_i l1)), (2, .int (jx_i l2))]) hx hb dX8_placeIn_1 rfl hl (by decide) rfl (fun ls hl => ?_)
  obtain ⟨n, h⟩ := h
  refine Lo2 n 0 h _ _ hP hD hS ls (lv_sub hl [1, 2, 3, 0] rfl)
set_option maxRecDepth 100000 in
set_option maxHeartbeats 4000000 in
theorem ct_M_holder (l : Launch) (D : va_G) (cI cT : ClassId) (aM : Nat → Nat) (Q : Int → Prop) (sM : jx_St) (l1 : Int) (l2 : Int) (h : wp_M_holder Q sM l1 l2) : jx_KI (Unit) l D cI cT yX8_holder cX8_holder 4 .int 2 45 [.ref (aM 0), .int (jx_i l1), .int (jx_i l2)] [(cp_M aM, sM)] (fun _ => [(cp_M aM, sM)]) (fun x _ => Q x) := by
  refine jx_ent (own := RX8) (by decide) rfl (Nat.le_of_ble_eq_true rfl) ?_
  intro p e s m args below meth c A QQ C hr hlk hK hAe hA hP hD hS ls hl hQQ
  have hl : lv_has ls 4 [(0, .ref (aM 0)), (1, .int (jx_i l1)), (2, .int (jx_i l2))] := hl
  have hx := C.1
  have hb := C.2.1
  unfold wp_M_holder at h
  have Lo2 : ∀ (n : Nat) (l3 : Int), jx_it (fun B2 v => wp_M_holder_2 Q sM l1 l2 B2 v) n l3 → ∀ (H : Heap) (locs : List Loc), va_P D vwCl (jx_ws cI cT [(cp_M aM, sM)]) H → va_D A (jx_ws cI cT [(cp_M aM, sM)]) → va_S A s.heap H locs → ∀ ls : Array Slot, lv_has ls 4 [(0, .ref (aM 0)), (1, .int (jx_i l1)), (2, .int (jx_i l2)), (3, .int (jx_i l3))] → W p l e (jx_rm 2 45) s m args below meth c H locs 0 0 QQ (F0 m 2 ls []) := by
    intro n
    induction n with
    | zero =>
      intro l3 h
      exact (show False from h).elim
    | succ n ih =>
      intro l3 h H locs hP hD hS ls hl
      have h : wp_M_holder_2 Q sM l1 l2 (jx_it (fun B2 v => wp_M_holder_2 Q sM l1 l2 B2 v) n) l3 := h
      have ih := fun l3 h => ih l3 h
      generalize jx_it (fun B2 v => wp_M_holder_2 Q sM l1 l2 B2 v) n = B2 at h ih
      unfold wp_M_holder_2 at h
      have J28 : ∀ (l3 : Int), wp_M_holder_28 Q sM l1 l2 B2 l3 → ∀ (H : Heap) (locs : List Loc), va_P D vwCl (jx_ws cI cT [(cp_M aM, sM)]) H → va_D A (jx_ws cI cT [(cp_M aM, sM)]) → va_S A s.heap H locs → ∀ ls : Array Slot, lv_has ls 4 [(0, .ref (aM 0)), (1, .int (jx_i l1)), (2, .int (jx_i l2)), (3, .int (jx_i l3))] → W p l e (jx_rm 2 45) s m args below meth c H locs 0 0 QQ (F0 m 28 ls []) := by
        intro l3 h H locs hP hD hS ls hl
        unfold wp_M_holder_28 at h
        refine jx_iinc C (lv' := [(3, .int (jx_i (l3 + 1))), (0, .ref (aM 0)), (1, .int (jx_i l1)), (2, .int (jx_i l2))]) dX8_holder_28 hl (k := 3) rfl (by decide) rfl (fun ls hl => ?_)
        refine lv_goto (tgt := 2) hx hb dX8_holder_31 (by decide) ?_
        exact ih (l3 + 1) h _ _ hP hD hS ls (lv_sub hl [1, 2, 3, 0] rfl)
      refine lv_iload_n hx hb dX8_holder_2 rfl (lv_at hl 3 rfl) ?_
      refine jx_bipush C dX8_holder_3 (by decide) ?_
      refine jx_cge C h.1 (jx_inR (by decide) (by decide)) (tgt := 34) dX8_holder_5 (by decide) (fun hc => ?_) (fun hc => ?_)
      · have h := h.2.2 hc
        refine jx_iconst C dX8_holder_34 ?_
        exact jx_rI C hr hlk hAe hS hQQ () hP h dX8_holder_35
      · have h := h.2.1 hc
        refine lv_aload_n hx hb dX8_holder_8 rfl (lv_at hl 0 rfl) ?_
        refine lv_iload_n hx hb dX8_holder_9 rfl (lv_at hl 3 rfl) ?_
        refine jx_callVI C hK hP hD hS hA (ct_M_levelOf l D cI cT aM _ sM l3 h) ms_X8_levelOf lk_X8_81 [0] rfl rfl (fun _ => rfl) (cs' := (fun _ => [(cp_M aM, sM)])) (fun _ => rfl) (fun _ => rfl) 0 0 rfl rfl rfl rfl rfl hl.1 rfl rfl dX8_holder_10 ⟨Nat.le_refl _, Nat.le_refl _⟩ (fun r10 _ H locs h hP hD hS => ?_)
        have hP : va_P D vwCl (jx_ws cI cT [(cp_M aM, sM)]) H := hP
        have hD : va_D A (jx_ws cI cT [(cp_M aM, sM)]) := hD
        refine lv_iload_n hx hb dX8_holder_13 rfl (lv_at hl 2 rfl) ?_
        refine jx_cne C h.1 h.2.1 (tgt := 28) dX8_holder_14 (by decide) (fun hc => ?_) (fun hc => ?_)
        · have h := h.2.2.2 hc
          exact J28 l3 h _ _ hP hD hS ls (lv_sub hl [0, 1, 2, 3] rfl)
        · have h := h.2.2.1 hc
          refine lv_aload_n hx hb dX8_holder_17 rfl (lv_at hl 0 rfl) ?_
          refine lv_iload_n hx hb dX8_holder_18 rfl (lv_at hl 3 rfl) ?_
          refine lv_iload_n hx hb dX8_holder_19 rfl (lv_at hl 1 rfl) ?_
          refine jx_callVI C hK hP hD hS hA (ct_M_placeIn l D cI cT aM _ sM l3 l1 h) ms_X8_placeIn lk_X8_106 [0] rfl rfl (fun _ => rfl) (cs' := (fun _ => [(cp_M aM, sM)])) (fun _ => rfl) (fun _ => rfl) 0 0 rfl rfl rfl rfl rfl hl.1 rfl rfl dX8_holder_20 ⟨Nat.le_refl _, Nat.le_refl _⟩ (fun r20 _ H locs h hP hD hS => ?_)
          have hP : va_P D vwCl (jx_ws cI cT [(cp_M aM, sM)]) H := hP
          have hD : va_D A (jx_ws cI cT [(cp_M aM, sM)]) := hD
          refine jx_zlt C h.1 (tgt := 28) dX8_holder_23 (by decide) (fun hc => ?_) (fun hc => ?_)
          · have h := h.2.1 hc
            exact J28 l3 h _ _ hP hD hS ls (lv_sub hl [0, 1, 2, 3] rfl)
          · have h := h.2.2 hc
            refine lv_iload_n hx hb dX8_holder_26 rfl (lv_at hl 3 rfl) ?_
            exact jx_rI C hr hlk hAe hS hQQ () hP h dX8_holder_27
  refine jx_iconst C dX8_holder_0 ?_
  refine lv_istore_n (lv' := [(3, .int (jx_i 0)), (0, .ref (aM 0)), (1, .int (jx_i l1)), (2, .int (jx_i l2))]) hx hb dX8_holder_1 rfl hl (by decide) rfl (fun ls hl => ?_)
  obtain ⟨n, h⟩ := h
  refine Lo2 n 0 h _ _ hP hD hS ls (lv_sub hl [1, 2, 3, 0] rfl)
set_option maxRecDepth 100000 in
set_option maxHeartbeats 4000000 in
theorem ct_M_layRow (l : Launch) (D : va_G) (cI cT : ClassId) (aM : Nat → Nat) (Q : jx_St → Prop) (sM : jx_St) (l1 : Int) (h : wp_M_layRow Q sM l1) : jx_KV jx_St l D cI cT yX8_layRow cX8_layRow 6 1 22 [.ref (aM 0), .int (jx_i l1)] [(cp_M aM, sM)] (fun u => [(cp_M aM, u)]) Q := by
  refine jx_ent (own := RX8) (by decide) rfl (Nat.le_of_ble_eq_true rfl) ?_
  intro p e s m args below meth c A QQ C hr hlk hK hAe hA hP hD hS ls hl hQQ
  have hl : lv_has ls 6 [(0, .ref (aM 0)), (1, .int (jx_i l1))] := hl
  have hx := C.1
  have hb := C.2.1
  unfold wp_M_layRow at h
  have Lo28 : ∀ (n : Nat) (sM : jx_St) (l2 : Int), jx_it (fun B28 v => wp_M_layRow_28 Q l1 B28 v.1 v.2) n (sM, l2) → ∀ (H : Heap) (locs : List Loc), va_P D vwCl (jx_ws cI cT [(cp_M aM, sM)]) H → va_D A (jx_ws cI cT [(cp_M aM, sM)]) → va_S A s.heap H locs → ∀ ls : Array Slot, lv_has ls 6 [(0, .ref (aM 0)), (1, .int (jx_i l1)), (2, .int (jx_i l2))] → W p l e (jx_rm 1 22) s m args below meth c H locs 0 0 QQ (F0 m 28 ls []) := by
    intro n
    induction n with
    | zero =>
      intro sM l2 h
      exact (show False from h).elim
    | succ n ih =>
      intro sM l2 h H locs hP hD hS ls hl
      have h : wp_M_layRow_28 Q l1 (jx_it (fun B28 v => wp_M_layRow_28 Q l1 B28 v.1 v.2) n) sM l2 := h
      have ih := fun sM l2 h => ih sM l2 h
      generalize jx_it (fun B28 v => wp_M_layRow_28 Q l1 B28 v.1 v.2) n = B28 at h ih
      unfold wp_M_layRow_28 at h
      have Lo38 : ∀ (l2 : Int) (K100 : jx_St × Int → Prop) (n : Nat) (sM : jx_St) (l3 : Int) (l4 : Int), jx_it (fun B38 v => wp_M_layRow_38 Q l1 K100 l2 B38 v.1 v.2.1 v.2.2) n (sM, l3, l4) → (∀ (sM : jx_St) (l3 : Int), K100 (sM, l3) → ∀ (H : Heap) (locs : List Loc), va_P D vwCl (jx_ws cI cT [(cp_M aM, sM)]) H → va_D A (jx_ws cI cT [(cp_M aM, sM)]) → va_S A s.heap H locs → ∀ ls : Array Slot, lv_has ls 6 [(0, .ref (aM 0)), (1, .int (jx_i l1)), (2, .int (jx_i l2)), (3, .int (jx_i l3))] → W p l e (jx_rm 1 22) s m args below meth c H locs 0 0 QQ (F0 m 100 ls [])) → ∀ (H : Heap) (locs : List Loc), va_P D vwCl (jx_ws cI cT [(cp_M aM, sM)]) H → va_D A (jx_ws cI cT [(cp_M aM, sM)]) → va_S A s.heap H locs → ∀ ls : Array Slot, lv_has ls 6 [(0, .ref (aM 0)), (1, .int (jx_i l1)), (2, .int (jx_i l2)), (3, .int (jx_i l3)), (4, .int (jx_i l4))] → W p l e (jx_rm 1 22) s m args below meth c H locs 0 0 QQ (F0 m 38 ls []) := by
        intro l2 K100 n
        induction n with
        | zero =>
          intro sM l3 l4 h
          exact (show False from h).elim
        | succ n ih =>
          intro sM l3 l4 h K100E H locs hP hD hS ls hl
          have h : wp_M_layRow_38 Q l1 K100 l2 (jx_it (fun B38 v => wp_M_layRow_38 Q l1 K100 l2 B38 v.1 v.2.1 v.2.2) n) sM l3 l4 := h
          have ih := fun sM l3 l4 h => ih sM l3 l4 h K100E
          generalize jx_it (fun B38 v => wp_M_layRow_38 Q l1 K100 l2 B38 v.1 v.2.1 v.2.2) n = B38 at h ih
          unfold wp_M_layRow_38 at h
          have Lo50 : ∀ (l2 : Int) (l4 : Int) (K94 : jx_St × Int → Prop) (n : Nat) (sM : jx_St) (l3 : Int) (l5 : Int), jx_it (fun B50 v => wp_M_layRow_50 Q l1 K94 l2 l4 B50 v.1 v.2.1 v.2.2) n (sM, l3, l5) → (∀ (sM : jx_St) (l3 : Int), K94 (sM, l3) → ∀ (H : Heap) (locs : List Loc), va_P D vwCl (jx_ws cI cT [(cp_M aM, sM)]) H → va_D A (jx_ws cI cT [(cp_M aM, sM)]) → va_S A s.heap H locs → ∀ ls : Array Slot, lv_has ls 6 [(0, .ref (aM 0)), (1, .int (jx_i l1)), (2, .int (jx_i l2)), (3, .int (jx_i l3)), (4, .int (jx_i l4))] → W p l e (jx_rm 1 22) s m args below meth c H locs 0 0 QQ (F0 m 94 ls [])) → ∀ (H : Heap) (locs : List Loc), va_P D vwCl (jx_ws cI cT [(cp_M aM, sM)]) H → va_D A (jx_ws cI cT [(cp_M aM, sM)]) → va_S A s.heap H locs → ∀ ls : Array Slot, lv_has ls 6 [(0, .ref (aM 0)), (1, .int (jx_i l1)), (2, .int (jx_i l2)), (3, .int (jx_i l3)), (4, .int (jx_i l4)), (5, .int (jx_i l5))] → W p l e (jx_rm 1 22) s m args below meth c H locs 0 0 QQ (F0 m 50 ls []) := by
            intro l2 l4 K94 n
            induction n with
            | zero =>
              intro sM l3 l5 h
              exact (show False from h).elim
            | succ n ih =>
              intro sM l3 l5 h K94E H locs hP hD hS ls hl
              have h : wp_M_layRow_50 Q l1 K94 l2 l4 (jx_it (fun B50 v => wp_M_layRow_50 Q l1 K94 l2 l4 B50 v.1 v.2.1 v.2.2) n) sM l3 l5 := h
              have ih := fun sM l3 l5 h => ih sM l3 l5 h K94E
              generalize jx_it (fun B50 v => wp_M_layRow_50 Q l1 K94 l2 l4 B50 v.1 v.2.1 v.2.2) n = B50 at h ih
              unfold wp_M_layRow_50 at h
              refine lv_iload hx hb dX8_layRow_50 (lv_at hl 5 rfl) ?_
              refine lv_aload_n hx hb dX8_layRow_52 rfl (lv_at hl 0 rfl) ?_
              refine lv_aload_n hx hb dX8_layRow_53 rfl (lv_at hl 0 rfl) ?_
              refine jx_getR C hK hP 0 0 25 rfl rfl rfl fl_X8_64 dX8_layRow_54 ?_
              refine lv_iload hx hb dX8_layRow_57 (lv_at hl 4 rfl) ?_
              refine jx_iald C hK hP 0 19 rfl rfl rfl h.1 dX8_layRow_59 ?_
              have h := h.2
              refine jx_callVI C hK hP hD hS hA (ct_M_manyOf l D cI cT aM _ sM (sM 25 l4) h) ms_X8_manyOf lk_X8_85 [0] rfl rfl (fun _ => rfl) (cs' := (fun _ => [(cp_M aM, sM)])) (fun _ => rfl) (fun _ => rfl) 0 0 rfl rfl rfl rfl rfl hl.1 rfl rfl dX8_layRow_60 ⟨Nat.le_refl _, Nat.le_refl _⟩ (fun r60 _ H locs h hP hD hS => ?_)
              have hP : va_P D vwCl (jx_ws cI cT [(cp_M aM, sM)]) H := hP
              have hD : va_D A (jx_ws cI cT [(cp_M aM, sM)]) := hD
              refine jx_cge C h.1 h.2.1 (tgt := 94) dX8_layRow_63 (by decide) (fun hc => ?_) (fun hc => ?_)
              · have h := h.2.2.2 hc
                exact K94E sM l3 h _ _ hP hD hS ls (lv_sub hl [0, 1, 2, 3, 4] rfl)
              · have h := h.2.2.1 hc
                refine lv_aload_n hx hb dX8_layRow_66 rfl (lv_at hl 0 rfl) ?_
                refine jx_getR C hK hP 0 0 26 rfl rfl rfl fl_X8_67 dX8_layRow_67 ?_
                refine lv_iload_n hx hb dX8_layRow_70 rfl (lv_at hl 3 rfl) ?_
                refine lv_aload_n hx hb dX8_layRow_71 rfl (lv_at hl 0 rfl) ?_
                refine lv_aload_n hx hb dX8_layRow_72 rfl (lv_at hl 0 rfl) ?_
                refine jx_getR C hK hP 0 0 25 rfl rfl rfl fl_X8_64 dX8_layRow_73 ?_
                refine lv_iload hx hb dX8_layRow_76 (lv_at hl 4 rfl) ?_
                refine jx_iald C hK hP 0 19 rfl rfl rfl h.1 dX8_layRow_78 ?_
                have h := h.2
                refine lv_iload hx hb dX8_layRow_79 (lv_at hl 5 rfl) ?_
                refine jx_callVI C hK hP hD hS hA (ct_M_thing l D cI cT aM _ sM (sM 25 l4) l5 h) ms_X8_thing lk_X8_88 [0] rfl rfl (fun _ => rfl) (cs' := (fun _ => [(cp_M aM, sM)])) (fun _ => rfl) (fun _ => rfl) 0 0 rfl rfl rfl rfl rfl hl.1 rfl rfl dX8_layRow_81 ⟨Nat.le_refl _, Nat.le_refl _⟩ (fun r81 _ H locs h hP hD hS => ?_)
                have hP : va_P D vwCl (jx_ws cI cT [(cp_M aM, sM)]) H := hP
                have hD : va_D A (jx_ws cI cT [(cp_M aM, sM)]) := hD
                refine jx_iast C hK hP hD hS 0 20 rfl rfl rfl rfl h.1 rfl dX8_layRow_84 (fun H locs hP hD hS => ?_)
                have h := h.2
                have hP : va_P D vwCl (jx_ws cI cT [(cp_M aM, (jx_su sM 26 l3 r81))]) H := hP
                have hD : va_D A (jx_ws cI cT [(cp_M aM, (jx_su sM 26 l3 r81))]) := hD
                refine jx_iinc C (lv' := [(3, .int (jx_i (l3 + 1))), (0, .ref (aM 0)), (1, .int (jx_i l1)), (2, .int (jx_i l2)), (4, .int (jx_i l4)), (5, .int (jx_i l5))]) dX8_layRow_85 hl (k := 3) rfl (by decide) rfl (fun ls hl => ?_)
                refine jx_iinc C (lv' := [(5, .int (jx_i (l5 + 1))), (3, .int (jx_i (l3 + 1))), (0, .ref (aM 0)), (1, .int (jx_i l1)), (2, .int (jx_i l2)), (4, .int (jx_i l4))]) dX8_layRow_88 hl (k := 5) rfl (by decide) rfl (fun ls hl => ?_)
                refine lv_goto (tgt := 50) hx hb dX8_layRow_91 (by decide) ?_
                exact ih (jx_su sM 26 l3 r81) (l3 + 1) (l5 + 1) h _ _ hP hD hS ls (lv_sub hl [2, 3, 4, 1, 5, 0] rfl)
          have J94 : ∀ (sM : jx_St) (l3 : Int) (l4 : Int), wp_M_layRow_94 Q l1 B38 K100 sM l2 l3 l4 → ∀ (H : Heap) (locs : List Loc), va_P D vwCl (jx_ws cI cT [(cp_M aM, sM)]) H → va_D A (jx_ws cI cT [(cp_M aM, sM)]) → va_S A s.heap H locs → ∀ ls : Array Slot, lv_has ls 6 [(0, .ref (aM 0)), (1, .int (jx_i l1)), (2, .int (jx_i l2)), (3, .int (jx_i l3)), (4, .int (jx_i l4))] → W p l e (jx_rm 1 22) s m args below meth c H locs 0 0 QQ (F0 m 94 ls []) := by
            intro sM l3 l4 h H locs hP hD hS ls hl
            unfold wp_M_layRow_94 at h
            refine jx_iinc C (lv' := [(4, .int (jx_i (l4 + 1))), (0, .ref (aM 0)), (1, .int (jx_i l1)), (2, .int (jx_i l2)), (3, .int (jx_i l3))]) dX8_layRow_94 hl (k := 4) rfl (by decide) rfl (fun ls hl => ?_)
            refine lv_goto (tgt := 38) hx hb dX8_layRow_97 (by decide) ?_
            exact ih sM l3 (l4 + 1) h _ _ hP hD hS ls (lv_sub hl [1, 2, 3, 4, 0] rfl)
          refine lv_iload hx hb dX8_layRow_38 (lv_at hl 4 rfl) ?_
          refine lv_aload_n hx hb dX8_layRow_40 rfl (lv_at hl 0 rfl) ?_
          refine jx_getI C hK hP 0 0 27 rfl rfl rfl fl_X8_215 dX8_layRow_41 ?_
          refine jx_cge C h.1 h.2.1 (tgt := 100) dX8_layRow_44 (by decide) (fun hc => ?_) (fun hc => ?_)
          · have h := h.2.2.2 hc
            exact K100E sM l3 h _ _ hP hD hS ls (lv_sub hl [0, 1, 2, 3] rfl)
          · have h := h.2.2.1 hc
            refine jx_iconst C dX8_layRow_47 ?_
            refine lv_istore (lv' := [(5, .int (jx_i 0)), (0, .ref (aM 0)), (1, .int (jx_i l1)), (2, .int (jx_i l2)), (3, .int (jx_i l3)), (4, .int (jx_i l4))]) hx hb dX8_layRow_48 hl (by decide) rfl (fun ls hl => ?_)
            obtain ⟨n, h⟩ := h
            refine Lo50 l2 l4 _ n sM l3 0 h ?_ _ _ hP hD hS ls (lv_sub hl [1, 2, 3, 4, 5, 0] rfl)
            · intro sM l3 h H locs hP hD hS ls hl
              exact J94 sM l3 l4 h _ _ hP hD hS ls (lv_sub hl [0, 1, 2, 3, 4] rfl)
      have Lo103 : ∀ (l2 : Int) (l3 : Int) (K129 : jx_St → Prop) (n : Nat) (sM : jx_St) (l4 : Int), jx_it (fun B103 v => wp_M_layRow_103 Q l1 K129 l2 l3 B103 v.1 v.2) n (sM, l4) → (∀ (sM : jx_St), K129 sM → ∀ (H : Heap) (locs : List Loc), va_P D vwCl (jx_ws cI cT [(cp_M aM, sM)]) H → va_D A (jx_ws cI cT [(cp_M aM, sM)]) → va_S A s.heap H locs → ∀ ls : Array Slot, lv_has ls 6 [(0, .ref (aM 0)), (1, .int (jx_i l1)), (2, .int (jx_i l2)), (3, .int (jx_i l3))] → W p l e (jx_rm 1 22) s m args below meth c H locs 0 0 QQ (F0 m 129 ls [])) → ∀ (H : Heap) (locs : List Loc), va_P D vwCl (jx_ws cI cT [(cp_M aM, sM)]) H → va_D A (jx_ws cI cT [(cp_M aM, sM)]) → va_S A s.heap H locs → ∀ ls : Array Slot, lv_has ls 6 [(0, .ref (aM 0)), (1, .int (jx_i l1)), (2, .int (jx_i l2)), (3, .int (jx_i l3)), (4, .int (jx_i l4))] → W p l e (jx_rm 1 22) s m args below meth c H locs 0 0 QQ (F0 m 103 ls []) := by
        intro l2 l3 K129 n
        induction n with
        | zero =>
          intro sM l4 h
          exact (show False from h).elim
        | succ n ih =>
          intro sM l4 h K129E H locs hP hD hS ls hl
          have h : wp_M_layRow_103 Q l1 K129 l2 l3 (jx_it (fun B103 v => wp_M_layRow_103 Q l1 K129 l2 l3 B103 v.1 v.2) n) sM l4 := h
          have ih := fun sM l4 h => ih sM l4 h K129E
          generalize jx_it (fun B103 v => wp_M_layRow_103 Q l1 K129 l2 l3 B103 v.1 v.2) n = B103 at h ih
          unfold wp_M_layRow_103 at h
          refine lv_iload hx hb dX8_layRow_103 (lv_at hl 4 rfl) ?_
          refine lv_iload_n hx hb dX8_layRow_105 rfl (lv_at hl 3 rfl) ?_
          refine jx_cge C h.1 h.2.1 (tgt := 129) dX8_layRow_106 (by decide) (fun hc => ?_) (fun hc => ?_)
          · have h := h.2.2.2 hc
            exact K129E sM h _ _ hP hD hS ls (lv_sub hl [0, 1, 2, 3] rfl)
          · have h := h.2.2.1 hc
            refine lv_aload_n hx hb dX8_layRow_109 rfl (lv_at hl 0 rfl) ?_
            refine jx_getR C hK hP 0 0 25 rfl rfl rfl fl_X8_64 dX8_layRow_110 ?_
            refine lv_iload hx hb dX8_layRow_113 (lv_at hl 4 rfl) ?_
            refine lv_aload_n hx hb dX8_layRow_115 rfl (lv_at hl 0 rfl) ?_
            refine jx_getR C hK hP 0 0 26 rfl rfl rfl fl_X8_67 dX8_layRow_116 ?_
            refine lv_iload hx hb dX8_layRow_119 (lv_at hl 4 rfl) ?_
            refine jx_iald C hK hP 0 20 rfl rfl rfl h.1 dX8_layRow_121 ?_
            have h := h.2
            refine jx_iast C hK hP hD hS 0 19 rfl rfl rfl rfl h.1 rfl dX8_layRow_122 (fun H locs hP hD hS => ?_)
            have h := h.2
            have hP : va_P D vwCl (jx_ws cI cT [(cp_M aM, (jx_su sM 25 l4 (sM 26 l4)))]) H := hP
            have hD : va_D A (jx_ws cI cT [(cp_M aM, (jx_su sM 25 l4 (sM 26 l4)))]) := hD
            refine jx_iinc C (lv' := [(4, .int (jx_i (l4 + 1))), (0, .ref (aM 0)), (1, .int (jx_i l1)), (2, .int (jx_i l2)), (3, .int (jx_i l3))]) dX8_layRow_123 hl (k := 4) rfl (by decide) rfl (fun ls hl => ?_)
            refine lv_goto (tgt := 103) hx hb dX8_layRow_126 (by decide) ?_
            exact ih (jx_su sM 25 l4 (sM 26 l4)) (l4 + 1) h _ _ hP hD hS ls (lv_sub hl [1, 2, 3, 4, 0] rfl)
      have J129 : ∀ (sM : jx_St) (l2 : Int) (l3 : Int), wp_M_layRow_129 Q l1 B28 sM l2 l3 → ∀ (H : Heap) (locs : List Loc), va_P D vwCl (jx_ws cI cT [(cp_M aM, sM)]) H → va_D A (jx_ws cI cT [(cp_M aM, sM)]) → va_S A s.heap H locs → ∀ ls : Array Slot, lv_has ls 6 [(0, .ref (aM 0)), (1, .int (jx_i l1)), (2, .int (jx_i l2)), (3, .int (jx_i l3))] → W p l e (jx_rm 1 22) s m args below meth c H locs 0 0 QQ (F0 m 129 ls []) := by
        intro sM l2 l3 h H locs hP hD hS ls hl
        unfold wp_M_layRow_129 at h
        refine lv_aload_n hx hb dX8_layRow_129 rfl (lv_at hl 0 rfl) ?_
        refine lv_iload_n hx hb dX8_layRow_130 rfl (lv_at hl 3 rfl) ?_
        refine jx_putI C hK hP hD hS 0 0 27 rfl rfl rfl rfl rfl fl_X8_215 fw_X8_27 ⟨rfl, rfl⟩ rfl dX8_layRow_131 (fun H locs hP hD hS => ?_)
        have hP : va_P D vwCl (jx_ws cI cT [(cp_M aM, (jx_su sM 27 0 l3))]) H := hP
        have hD : va_D A (jx_ws cI cT [(cp_M aM, (jx_su sM 27 0 l3))]) := hD
        refine jx_iinc C (lv' := [(2, .int (jx_i (l2 + (-1)))), (0, .ref (aM 0)), (1, .int (jx_i l1)), (3, .int (jx_i l3))]) dX8_layRow_134 hl (k := 2) rfl (by decide) rfl (fun ls hl => ?_)
        refine lv_goto (tgt := 28) hx hb dX8_layRow_137 (by decide) ?_
        exact ih (jx_su sM 27 0 l3) (l2 + (-1)) h _ _ hP hD hS ls (lv_sub hl [1, 2, 0] rfl)
      have J100 : ∀ (sM : jx_St) (l2 : Int) (l3 : Int), wp_M_layRow_100 Q l1 B28 sM l2 l3 → ∀ (H : Heap) (locs : List Loc), va_P D vwCl (jx_ws cI cT [(cp_M aM, sM)]) H → va_D A (jx_ws cI cT [(cp_M aM, sM)]) → va_S A s.heap H locs → ∀ ls : Array Slot, lv_has ls 6 [(0, .ref (aM 0)), (1, .int (jx_i l1)), (2, .int (jx_i l2)), (3, .int (jx_i l3))] → W p l e (jx_rm 1 22) s m args below meth c H locs 0 0 QQ (F0 m 100 ls []) := by
        intro sM l2 l3 h H locs hP hD hS ls hl
        unfold wp_M_layRow_100 at h
        refine jx_iconst C dX8_layRow_100 ?_
        refine lv_istore (lv' := [(4, .int (jx_i 0)), (0, .ref (aM 0)), (1, .int (jx_i l1)), (2, .int (jx_i l2)), (3, .int (jx_i l3))]) hx hb dX8_layRow_101 hl (by decide) rfl (fun ls hl => ?_)
        obtain ⟨n, h⟩ := h
        refine Lo103 l2 l3 _ n sM 0 h ?_ _ _ hP hD hS ls (lv_sub hl [1, 2, 3, 4, 0] rfl)
        · intro sM h H locs hP hD hS ls hl
          exact J129 sM l2 l3 h _ _ hP hD hS ls (lv_sub hl [0, 1, 2, 3] rfl)
      refine lv_iload_n hx hb dX8_layRow_28 rfl (lv_at hl 2 rfl) ?_
      refine lv_iload_n hx hb dX8_layRow_29 rfl (lv_at hl 1 rfl) ?_
      refine jx_cle C h.1 h.2.1 (tgt := 140) dX8_layRow_30 (by decide) (fun hc => ?_) (fun hc => ?_)
      · have h := h.2.2.1 hc
        exact jx_rV C hr hlk hAe hS hQQ sM hP h dX8_layRow_140
      · have h := h.2.2.2 hc
        refine jx_iconst C dX8_layRow_33 ?_
        refine lv_istore_n (lv' := [(3, .int (jx_i 0)), (0, .ref (aM 0)), (1, .int (jx_i l1)), (2, .int (jx_i l2))]) hx hb dX8_layRow_34 rfl hl (by decide) rfl (fun ls hl => ?_)
        refine jx_iconst C dX8_layRow_35 ?_
        refine lv_istore (lv' := [(4, .int (jx_i 0)), (3, .int (jx_i 0)), (0, .ref (aM 0)), (1, .int (jx_i l1)), (2, .int (jx_i l2))]) hx hb dX8_layRow_36 hl (by decide) rfl (fun ls hl => ?_)
        obtain ⟨n, h⟩ := h
        refine Lo38 l2 _ n sM 0 0 h ?_ _ _ hP hD hS ls (lv_sub hl [2, 3, 4, 1, 0] rfl)
        · intro sM l3 h H locs hP hD hS ls hl
          exact J100 sM l2 l3 h _ _ hP hD hS ls (lv_sub hl [0, 1, 2, 3] rfl)
  refine lv_aload_n hx hb dX8_layRow_0 rfl (lv_at hl 0 rfl) ?_
  refine jx_getR C hK hP 0 0 25 rfl rfl rfl fl_X8_64 dX8_layRow_1 ?_
  refine jx_iconst C dX8_layRow_4 ?_
  refine lv_aload_n hx hb dX8_layRow_5 rfl (lv_at hl 0 rfl) ?_
  refine jx_getR C hK hP 0 0 0 rfl rfl rfl fl_X8_7 dX8_layRow_6 ?_
  refine jx_iconst C dX8_layRow_9 ?_
  refine jx_iald C hK hP 0 1 rfl rfl rfl (show jx_B _ _ from ⟨by decide, by decide⟩) dX8_layRow_10 ?_
  refine jx_iast C hK hP hD hS 0 19 rfl rfl rfl rfl (show jx_B _ _ from ⟨by decide, by decide⟩) rfl dX8_layRow_11 (fun H locs hP hD hS => ?_)
  have hP : va_P D vwCl (jx_ws cI cT [(cp_M aM, (jx_su sM 25 0 (sM 0 0)))]) H := hP
  have hD : va_D A (jx_ws cI cT [(cp_M aM, (jx_su sM 25 0 (sM 0 0)))]) := hD
  refine lv_aload_n hx hb dX8_layRow_12 rfl (lv_at hl 0 rfl) ?_
  refine jx_iconst C dX8_layRow_13 ?_
  refine jx_putI C hK hP hD hS 0 0 27 rfl rfl rfl rfl rfl fl_X8_215 fw_X8_27 ⟨rfl, rfl⟩ rfl dX8_layRow_14 (fun H locs hP hD hS => ?_)
  have hP : va_P D vwCl (jx_ws cI cT [(cp_M aM, (jx_su (jx_su sM 25 0 (sM 0 0)) 27 0 1))]) H := hP
  have hD : va_D A (jx_ws cI cT [(cp_M aM, (jx_su (jx_su sM 25 0 (sM 0 0)) 27 0 1))]) := hD
  refine lv_aload_n hx hb dX8_layRow_17 rfl (lv_at hl 0 rfl) ?_
  refine lv_aload_n hx hb dX8_layRow_18 rfl (lv_at hl 0 rfl) ?_
  refine jx_getR C hK hP 0 0 0 rfl rfl rfl fl_X8_7 dX8_layRow_19 ?_
  refine jx_iconst C dX8_layRow_22 ?_
  refine jx_iald C hK hP 0 1 rfl rfl rfl (show jx_B _ _ from ⟨by decide, by decide⟩) dX8_layRow_23 ?_
  refine jx_callVI C hK hP hD hS hA (ct_M_levelOf l D cI cT aM _ (jx_su (jx_su sM 25 0 (sM 0 0)) 27 0 1) ((jx_su (jx_su sM 25 0 (sM 0 0)) 27 0 1) 0 0) h) ms_X8_levelOf lk_X8_81 [0] rfl rfl (fun _ => rfl) (cs' := (fun _ => [(cp_M aM, (jx_su (jx_su sM 25 0 (sM 0 0)) 27 0 1))])) (fun _ => rfl) (fun _ => rfl) 0 0 rfl rfl rfl rfl rfl hl.1 rfl rfl dX8_layRow_24 ⟨Nat.le_refl _, Nat.le_refl _⟩ (fun r24 _ H locs h hP hD hS => ?_)
  have hP : va_P D vwCl (jx_ws cI cT [(cp_M aM, (jx_su (jx_su sM 25 0 (sM 0 0)) 27 0 1))]) H := hP
  have hD : va_D A (jx_ws cI cT [(cp_M aM, (jx_su (jx_su sM 25 0 (sM 0 0)) 27 0 1))]) := hD
  refine lv_istore_n (lv' := [(2, .int (jx_i r24)), (0, .ref (aM 0)), (1, .int (jx_i l1))]) hx hb dX8_layRow_27 rfl hl (by decide) rfl (fun ls hl => ?_)
  obtain ⟨n, h⟩ := h
  refine Lo28 n (jx_su (jx_su sM 25 0 (sM 0 0)) 27 0 1) r24 h _ _ hP hD hS ls (lv_sub hl [1, 2, 0] rfl)
set_option maxRecDepth 100000 in
set_option maxHeartbeats 4000000 in
theorem ct_M_placeOf (l : Launch) (D : va_G) (cI cT : ClassId) (aM : Nat → Nat) (Q : Int → jx_St → Prop) (sM : jx_St) (l1 : Int) (h : wp_M_placeOf Q sM l1) : jx_KI jx_St l D cI cT yX8_placeOf cX8_placeOf 3 .int 2 47 [.ref (aM 0), .int (jx_i l1)] [(cp_M aM, sM)] (fun u => [(cp_M aM, u)]) Q := by
  refine jx_ent (own := RX8) (by decide) rfl (Nat.le_of_ble_eq_true rfl) ?_
  intro p e s m args below meth c A QQ C hr hlk hK hAe hA hP hD hS ls hl hQQ
  have hl : lv_has ls 3 [(0, .ref (aM 0)), (1, .int (jx_i l1))] := hl
  have hx := C.1
  have hb := C.2.1
  unfold wp_M_placeOf at h
  have Lo11 : ∀ (sM : jx_St) (n : Nat) (l2 : Int), jx_it (fun B11 v => wp_M_placeOf_11 Q l1 sM B11 v) n l2 → ∀ (H : Heap) (locs : List Loc), va_P D vwCl (jx_ws cI cT [(cp_M aM, sM)]) H → va_D A (jx_ws cI cT [(cp_M aM, sM)]) → va_S A s.heap H locs → ∀ ls : Array Slot, lv_has ls 3 [(0, .ref (aM 0)), (1, .int (jx_i l1)), (2, .int (jx_i l2))] → W p l e (jx_rm 2 47) s m args below meth c H locs 0 0 QQ (F0 m 11 ls []) := by
    intro sM n
    induction n with
    | zero =>
      intro l2 h
      exact (show False from h).elim
    | succ n ih =>
      intro l2 h H locs hP hD hS ls hl
      have h : wp_M_placeOf_11 Q l1 sM (jx_it (fun B11 v => wp_M_placeOf_11 Q l1 sM B11 v) n) l2 := h
      have ih := fun l2 h => ih l2 h
      generalize jx_it (fun B11 v => wp_M_placeOf_11 Q l1 sM B11 v) n = B11 at h ih
      unfold wp_M_placeOf_11 at h
      refine lv_aload_n hx hb dX8_placeOf_11 rfl (lv_at hl 0 rfl) ?_
      refine jx_getR C hK hP 0 0 25 rfl rfl rfl fl_X8_64 dX8_placeOf_12 ?_
      refine lv_iload_n hx hb dX8_placeOf_15 rfl (lv_at hl 2 rfl) ?_
      refine jx_iald C hK hP 0 19 rfl rfl rfl h.1 dX8_placeOf_16 ?_
      have h := h.2
      refine lv_iload_n hx hb dX8_placeOf_17 rfl (lv_at hl 1 rfl) ?_
      refine jx_ceq C h.1 h.2.1 (tgt := 27) dX8_placeOf_18 (by decide) (fun hc => ?_) (fun hc => ?_)
      · have h := h.2.2.1 hc
        refine lv_iload_n hx hb dX8_placeOf_27 rfl (lv_at hl 2 rfl) ?_
        exact jx_rI C hr hlk hAe hS hQQ sM hP h dX8_placeOf_28
      · have h := h.2.2.2 hc
        refine jx_iinc C (lv' := [(2, .int (jx_i (l2 + 1))), (0, .ref (aM 0)), (1, .int (jx_i l1))]) dX8_placeOf_21 hl (k := 2) rfl (by decide) rfl (fun ls hl => ?_)
        refine lv_goto (tgt := 11) hx hb dX8_placeOf_24 (by decide) ?_
        exact ih (l2 + 1) h _ _ hP hD hS ls (lv_sub hl [1, 2, 0] rfl)
  refine lv_aload_n hx hb dX8_placeOf_0 rfl (lv_at hl 0 rfl) ?_
  refine lv_aload_n hx hb dX8_placeOf_1 rfl (lv_at hl 0 rfl) ?_
  refine lv_iload_n hx hb dX8_placeOf_2 rfl (lv_at hl 1 rfl) ?_
  refine jx_callVI C hK hP hD hS hA (ct_M_levelOf l D cI cT aM _ sM l1 h) ms_X8_levelOf lk_X8_81 [0] rfl rfl (fun _ => rfl) (cs' := (fun _ => [(cp_M aM, sM)])) (fun _ => rfl) (fun _ => rfl) 0 0 rfl rfl rfl rfl rfl hl.1 rfl rfl dX8_placeOf_3 ⟨Nat.le_refl _, Nat.le_refl _⟩ (fun r3 _ H locs h hP hD hS => ?_)
  have hP : va_P D vwCl (jx_ws cI cT [(cp_M aM, sM)]) H := hP
  have hD : va_D A (jx_ws cI cT [(cp_M aM, sM)]) := hD
  refine jx_callVV C hK hP hD hS hA (ct_M_layRow l D cI cT aM _ sM r3 h) ms_X8_layRow lk_X8_218 [0] rfl rfl (fun _ => rfl) (cs' := (fun u => [(cp_M aM, u)])) (fun _ => rfl) (fun _ => rfl) 0 0 rfl rfl rfl rfl rfl hl.1 rfl rfl dX8_placeOf_6 ⟨Nat.le_refl _, Nat.le_refl _⟩ (fun sM_6 H locs h hP hD hS => ?_)
  have hP : va_P D vwCl (jx_ws cI cT [(cp_M aM, sM_6)]) H := hP
  have hD : va_D A (jx_ws cI cT [(cp_M aM, sM_6)]) := hD
  refine jx_iconst C dX8_placeOf_9 ?_
  refine lv_istore_n (lv' := [(2, .int (jx_i 0)), (0, .ref (aM 0)), (1, .int (jx_i l1))]) hx hb dX8_placeOf_10 rfl hl (by decide) rfl (fun ls hl => ?_)
  obtain ⟨n, h⟩ := h
  refine Lo11 sM_6 n 0 h _ _ hP hD hS ls (lv_sub hl [1, 2, 0] rfl)
set_option maxRecDepth 100000 in
set_option maxHeartbeats 4000000 in
theorem ct_M_boxOf (l : Launch) (D : va_G) (cI cT : ClassId) (aM : Nat → Nat) (Q : Int → jx_St → Prop) (sM : jx_St) (l1 : Int) (l2 : Int) (h : wp_M_boxOf Q sM l1 l2) : jx_KI jx_St l D cI cT yX8_boxOf cX8_boxOf 4 .int 3 69 [.ref (aM 0), .int (jx_i l1), .int (jx_i l2)] [(cp_M aM, sM)] (fun u => [(cp_M aM, u)]) Q := by
  refine jx_ent (own := RX8) (by decide) rfl (Nat.le_of_ble_eq_true rfl) ?_
  intro p e s m args below meth c A QQ C hr hlk hK hAe hA hP hD hS ls hl hQQ
  have hl : lv_has ls 4 [(0, .ref (aM 0)), (1, .int (jx_i l1)), (2, .int (jx_i l2))] := hl
  have hx := C.1
  have hb := C.2.1
  unfold wp_M_boxOf at h
  have J45 : ∀ (sM : jx_St) (t0 : Int), wp_M_boxOf_45 Q l1 l2 sM t0 → ∀ (H : Heap) (locs : List Loc), va_P D vwCl (jx_ws cI cT [(cp_M aM, sM)]) H → va_D A (jx_ws cI cT [(cp_M aM, sM)]) → va_S A s.heap H locs → ∀ ls : Array Slot, lv_has ls 4 [(0, .ref (aM 0)), (1, .int (jx_i l1)), (2, .int (jx_i l2))] → W p l e (jx_rm 3 69) s m args below meth c H locs 0 0 QQ (F0 m 45 ls [.int (jx_i t0)]) := by
    intro sM t0 h H locs hP hD hS ls hl
    unfold wp_M_boxOf_45 at h
    refine lv_istore_n (lv' := [(3, .int (jx_i t0)), (0, .ref (aM 0)), (1, .int (jx_i l1)), (2, .int (jx_i l2))]) hx hb dX8_boxOf_45 rfl hl (by decide) rfl (fun ls hl => ?_)
    refine lv_iload_n hx hb dX8_boxOf_46 rfl (lv_at hl 3 rfl) ?_
    refine jx_iconst C dX8_boxOf_47 ?_
    refine jx_cge C h.1 (jx_inR (by decide) (by decide)) (tgt := 67) dX8_boxOf_48 (by decide) (fun hc => ?_) (fun hc => ?_)
    · have h := h.2.2 hc
      refine lv_iload_n hx hb dX8_boxOf_67 rfl (lv_at hl 3 rfl) ?_
      refine jx_iconst C dX8_boxOf_68 ?_
      refine jx_cne C h.1 (jx_inR (by decide) (by decide)) (tgt := 80) dX8_boxOf_69 (by decide) (fun hc => ?_) (fun hc => ?_)
      · have h := h.2.2 hc
        refine lv_aload_n hx hb dX8_boxOf_80 rfl (lv_at hl 1 rfl) ?_
        refine lv_iload_n hx hb dX8_boxOf_81 rfl (lv_at hl 0 rfl) ?_
        refine lv_iload_n hx hb dX8_boxOf_82 rfl (lv_at hl 2 rfl) ?_
        refine jx_callVI C hK hP hD hS hA (ct_M_placeIn l D cI cT aM _ sM t0 l1 h) ms_X8_placeIn lk_X8_106 [0] rfl rfl (fun _ => rfl) (cs' := (fun _ => [(cp_M aM, sM)])) (fun _ => rfl) (fun _ => rfl) 0 0 rfl rfl rfl rfl rfl hl.1 rfl rfl dX8_boxOf_83 ⟨Nat.le_refl _, Nat.le_refl _⟩ (fun r83 _ H locs h hP hD hS => ?_)
        have hP : va_P D vwCl (jx_ws cI cT [(cp_M aM, sM)]) H := hP
        have hD : va_D A (jx_ws cI cT [(cp_M aM, sM)]) := hD
        exact jx_rI C hr hlk hAe hS hQQ sM hP h dX8_boxOf_86
      · have h := h.2.1 hc
        refine lv_aload_n hx hb dX8_boxOf_72 rfl (lv_at hl 1 rfl) ?_
        refine lv_iload_n hx hb dX8_boxOf_73 rfl (lv_at hl 0 rfl) ?_
        refine jx_callVI C hK hP hD hS hA (ct_M_placeOf l D cI cT aM _ sM t0 h) ms_X8_placeOf lk_X8_222 [0] rfl rfl (fun _ => rfl) (cs' := (fun u => [(cp_M aM, u)])) (fun _ => rfl) (fun _ => rfl) 0 0 rfl rfl rfl rfl rfl hl.1 rfl rfl dX8_boxOf_74 ⟨Nat.le_refl _, Nat.le_refl _⟩ (fun r74 sM_74 H locs h hP hD hS => ?_)
        have hP : va_P D vwCl (jx_ws cI cT [(cp_M aM, sM_74)]) H := hP
        have hD : va_D A (jx_ws cI cT [(cp_M aM, sM_74)]) := hD
        refine lv_goto (tgt := 86) hx hb dX8_boxOf_77 (by decide) ?_
        exact jx_rI C hr hlk hAe hS hQQ sM_74 hP h dX8_boxOf_86
    · have h := h.2.1 hc
      refine lv_aload_n hx hb dX8_boxOf_51 rfl (lv_at hl 1 rfl) ?_
      refine jx_getR C hK hP 0 0 0 rfl rfl rfl fl_X8_7 dX8_boxOf_52 ?_
      refine jx_bipush C dX8_boxOf_55 (by decide) ?_
      refine jx_iconst C dX8_boxOf_57 ?_
      refine lv_iload_n hx hb dX8_boxOf_58 rfl (lv_at hl 2 rfl) ?_
      refine jx_imul C dX8_boxOf_59 ?_
      refine jx_iadd C dX8_boxOf_60 ?_
      refine lv_iload_n hx hb dX8_boxOf_61 rfl (lv_at hl 3 rfl) ?_
      refine jx_iadd C dX8_boxOf_62 ?_
      refine jx_iald C hK hP 0 1 rfl rfl rfl h.1 dX8_boxOf_63 ?_
      have h := h.2
      refine lv_goto (tgt := 86) hx hb dX8_boxOf_64 (by decide) ?_
      exact jx_rI C hr hlk hAe hS hQQ sM hP h dX8_boxOf_86
  refine lv_iload_n hx hb dX8_boxOf_0 rfl (lv_at hl 1 rfl) ?_
  refine jx_callSI C hK hP hD hS hA (ct_M_isBox l D cI cT  _  l1 h) ms_X8_isBox lk_X8_184 [] rfl rfl (fun _ => rfl) (cs' := (fun _ => [(cp_M aM, sM)])) (fun _ => rfl) (fun _ => rfl) rfl rfl hl.1 rfl rfl dX8_boxOf_1 ⟨Nat.le_refl _, Nat.le_refl _⟩ (fun r1 _ H locs h hP hD hS => ?_)
  have hP : va_P D vwCl (jx_ws cI cT [(cp_M aM, sM)]) H := hP
  have hD : va_D A (jx_ws cI cT [(cp_M aM, sM)]) := hD
  refine jx_zeq C h.1 (tgt := 16) dX8_boxOf_4 (by decide) (fun hc => ?_) (fun hc => ?_)
  · have h := h.2.1 hc
    refine jx_ldc C (-1000001) kc_X8_192 dX8_boxOf_16 ?_
    exact jx_rI C hr hlk hAe hS hQQ sM hP h dX8_boxOf_18
  · have h := h.2.2 hc
    refine lv_iload_n hx hb dX8_boxOf_7 rfl (lv_at hl 2 rfl) ?_
    refine jx_iconst C dX8_boxOf_8 ?_
    refine jx_iconst C dX8_boxOf_9 ?_
    refine jx_callSI C hK hP hD hS hA (ct_M_in l D cI cT  _  l2 0 5 h) ms_X8_in lk_X8_180 [] rfl rfl (fun _ => rfl) (cs' := (fun _ => [(cp_M aM, sM)])) (fun _ => rfl) (fun _ => rfl) rfl rfl hl.1 rfl rfl dX8_boxOf_10 ⟨Nat.le_refl _, Nat.le_refl _⟩ (fun r10 _ H locs h hP hD hS => ?_)
    have hP : va_P D vwCl (jx_ws cI cT [(cp_M aM, sM)]) H := hP
    have hD : va_D A (jx_ws cI cT [(cp_M aM, sM)]) := hD
    refine jx_zne C h.1 (tgt := 19) dX8_boxOf_13 (by decide) (fun hc => ?_) (fun hc => ?_)
    · have h := h.2.2 hc
      refine lv_aload_n hx hb dX8_boxOf_19 rfl (lv_at hl 0 rfl) ?_
      refine lv_iload_n hx hb dX8_boxOf_20 rfl (lv_at hl 1 rfl) ?_
      refine jx_callVI C hK hP hD hS hA (ct_M_isThere l D cI cT aM _ sM l1 h) ms_X8_isThere lk_X8_193 [0] rfl rfl (fun _ => rfl) (cs' := (fun _ => [(cp_M aM, sM)])) (fun _ => rfl) (fun _ => rfl) 0 0 rfl rfl rfl rfl rfl hl.1 rfl rfl dX8_boxOf_21 ⟨Nat.le_refl _, Nat.le_refl _⟩ (fun r21 _ H locs h hP hD hS => ?_)
      have hP : va_P D vwCl (jx_ws cI cT [(cp_M aM, sM)]) H := hP
      have hD : va_D A (jx_ws cI cT [(cp_M aM, sM)]) := hD
      refine jx_zne C h.1 (tgt := 30) dX8_boxOf_24 (by decide) (fun hc => ?_) (fun hc => ?_)
      · have h := h.2.2 hc
        refine lv_iload_n hx hb dX8_boxOf_30 rfl (lv_at hl 2 rfl) ?_
        refine jx_iconst C dX8_boxOf_31 ?_
        refine jx_cge C h.1 (jx_inR (by decide) (by decide)) (tgt := 39) dX8_boxOf_32 (by decide) (fun hc => ?_) (fun hc => ?_)
        · have h := h.2.2 hc
          refine lv_aload_n hx hb dX8_boxOf_39 rfl (lv_at hl 0 rfl) ?_
          refine lv_iload_n hx hb dX8_boxOf_40 rfl (lv_at hl 1 rfl) ?_
          refine jx_iconst C dX8_boxOf_41 ?_
          refine jx_callVI C hK hP hD hS hA (ct_M_holder l D cI cT aM _ sM l1 0 h) ms_X8_holder lk_X8_174 [0] rfl rfl (fun _ => rfl) (cs' := (fun _ => [(cp_M aM, sM)])) (fun _ => rfl) (fun _ => rfl) 0 0 rfl rfl rfl rfl rfl hl.1 rfl rfl dX8_boxOf_42 ⟨Nat.le_refl _, Nat.le_refl _⟩ (fun r42 _ H locs h hP hD hS => ?_)
          have hP : va_P D vwCl (jx_ws cI cT [(cp_M aM, sM)]) H := hP
          have hD : va_D A (jx_ws cI cT [(cp_M aM, sM)]) := hD
          exact J45 sM r42 h _ _ hP hD hS ls (lv_sub hl [0, 1, 2] rfl)
        · have h := h.2.1 hc
          refine jx_iconst C dX8_boxOf_35 ?_
          refine lv_goto (tgt := 45) hx hb dX8_boxOf_36 (by decide) ?_
          exact J45 sM (-1) h _ _ hP hD hS ls (lv_sub hl [0, 1, 2] rfl)
      · have h := h.2.1 hc
        refine jx_ldc C (-1000004) kc_X8_221 dX8_boxOf_27 ?_
        exact jx_rI C hr hlk hAe hS hQQ sM hP h dX8_boxOf_29
    · have h := h.2.1 hc
      refine jx_ldc C (-1000001) kc_X8_192 dX8_boxOf_16 ?_
      exact jx_rI C hr hlk hAe hS hQQ sM hP h dX8_boxOf_18
set_option maxRecDepth 100000 in
set_option maxHeartbeats 4000000 in
theorem ct_M_clearText (l : Launch) (D : va_G) (cI cT : ClassId) (aM : Nat → Nat) (Q : Int → jx_St → Prop) (sM : jx_St) (h : wp_M_clearText Q sM) : jx_KI jx_St l D cI cT yX8_clearText cX8_clearText 2 .int 0 0 [.ref (aM 0)] [(cp_M aM, sM)] (fun u => [(cp_M aM, u)]) Q := by
  refine jx_ent (own := RX8) (by decide) rfl (Nat.le_of_ble_eq_true rfl) ?_
  intro p e s m args below meth c A QQ C hr hlk hK hAe hA hP hD hS ls hl hQQ
  have hl : lv_has ls 2 [(0, .ref (aM 0))] := hl
  have hx := C.1
  have hb := C.2.1
  unfold wp_M_clearText at h
  refine lv_aload_n hx hb dX8_clearText_0 rfl (lv_at hl 0 rfl) ?_
  refine jx_getI C hK hP 0 0 6 rfl rfl rfl fl_X8_245 dX8_clearText_1 ?_
  refine lv_istore_n (lv' := [(1, .int (jx_i (sM 6 0))), (0, .ref (aM 0))]) hx hb dX8_clearText_4 rfl hl (by decide) rfl (fun ls hl => ?_)
  refine lv_aload_n hx hb dX8_clearText_5 rfl (lv_at hl 1 rfl) ?_
  refine jx_iconst C dX8_clearText_6 ?_
  refine jx_putI C hK hP hD hS 0 0 6 rfl rfl rfl rfl rfl fl_X8_245 fw_X8_6 ⟨rfl, rfl⟩ rfl dX8_clearText_7 (fun H locs hP hD hS => ?_)
  have hP : va_P D vwCl (jx_ws cI cT [(cp_M aM, (jx_su sM 6 0 0))]) H := hP
  have hD : va_D A (jx_ws cI cT [(cp_M aM, (jx_su sM 6 0 0))]) := hD
  refine lv_iload_n hx hb dX8_clearText_10 rfl (lv_at hl 0 rfl) ?_
  exact jx_rI C hr hlk hAe hS hQQ (jx_su sM 6 0 0) hP h dX8_clearText_11
set_option maxRecDepth 100000 in
set_option maxHeartbeats 4000000 in
theorem ct_M_puts (l : Launch) (D : va_G) (cI cT : ClassId) (aM : Nat → Nat) (Q : jx_St → Prop) (sM : jx_St) (l1 : Int) (l2 : Int) (l3 : Int) (h : wp_M_puts Q sM l1 l2 l3) : jx_KV jx_St l D cI cT yX8_puts cX8_puts 5 1 22 [.ref (aM 0), .int (jx_i l1), .int (jx_i l2), .int (jx_i l3)] [(cp_M aM, sM)] (fun u => [(cp_M aM, u)]) Q := by
  refine jx_ent (own := RX8) (by decide) rfl (Nat.le_of_ble_eq_true rfl) ?_
  intro p e s m args below meth c A QQ C hr hlk hK hAe hA hP hD hS ls hl hQQ
  have hl : lv_has ls 5 [(0, .ref (aM 0)), (1, .int (jx_i l1)), (2, .int (jx_i l2)), (3, .int (jx_i l3))] := hl
  have hx := C.1
  have hb := C.2.1
  unfold wp_M_puts at h
  have Lo7 : ∀ (K43 : jx_St → Prop) (n : Nat) (sM : jx_St) (l4 : Int), jx_it (fun B7 v => wp_M_puts_7 Q l1 l2 l3 K43 B7 v.1 v.2) n (sM, l4) → (∀ (sM : jx_St), K43 sM → ∀ (H : Heap) (locs : List Loc), va_P D vwCl (jx_ws cI cT [(cp_M aM, sM)]) H → va_D A (jx_ws cI cT [(cp_M aM, sM)]) → va_S A s.heap H locs → ∀ ls : Array Slot, lv_has ls 5 [(0, .ref (aM 0)), (1, .int (jx_i l1)), (2, .int (jx_i l2)), (3, .int (jx_i l3))] → W p l e (jx_rm 1 22) s m args below meth c H locs 0 0 QQ (F0 m 43 ls [])) → ∀ (H : Heap) (locs : List Loc), va_P D vwCl (jx_ws cI cT [(cp_M aM, sM)]) H → va_D A (jx_ws cI cT [(cp_M aM, sM)]) → va_S A s.heap H locs → ∀ ls : Array Slot, lv_has ls 5 [(0, .ref (aM 0)), (1, .int (jx_i l1)), (2, .int (jx_i l2)), (3, .int (jx_i l3)), (4, .int (jx_i l4))] → W p l e (jx_rm 1 22) s m args below meth c H locs 0 0 QQ (F0 m 7 ls []) := by
    intro K43 n
    induction n with
    | zero =>
      intro sM l4 h
      exact (show False from h).elim
    | succ n ih =>
      intro sM l4 h K43E H locs hP hD hS ls hl
      have h : wp_M_puts_7 Q l1 l2 l3 K43 (jx_it (fun B7 v => wp_M_puts_7 Q l1 l2 l3 K43 B7 v.1 v.2) n) sM l4 := h
      have ih := fun sM l4 h => ih sM l4 h K43E
      generalize jx_it (fun B7 v => wp_M_puts_7 Q l1 l2 l3 K43 B7 v.1 v.2) n = B7 at h ih
      unfold wp_M_puts_7 at h
      refine lv_iload hx hb dX8_puts_7 (lv_at hl 4 rfl) ?_
      refine lv_iload_n hx hb dX8_puts_9 rfl (lv_at hl 2 rfl) ?_
      refine jx_cle C h.1 h.2.1 (tgt := 43) dX8_puts_10 (by decide) (fun hc => ?_) (fun hc => ?_)
      · have h := h.2.2.1 hc
        exact K43E sM h _ _ hP hD hS ls (lv_sub hl [0, 1, 2, 3] rfl)
      · have h := h.2.2.2 hc
        refine lv_aload_n hx hb dX8_puts_13 rfl (lv_at hl 0 rfl) ?_
        refine jx_getR C hK hP 0 0 0 rfl rfl rfl fl_X8_7 dX8_puts_14 ?_
        refine jx_sipush C dX8_puts_17 (by decide) ?_
        refine jx_iconst C dX8_puts_20 ?_
        refine lv_iload_n hx hb dX8_puts_21 rfl (lv_at hl 1 rfl) ?_
        refine jx_imul C dX8_puts_22 ?_
        refine jx_iadd C dX8_puts_23 ?_
        refine lv_iload hx hb dX8_puts_24 (lv_at hl 4 rfl) ?_
        refine jx_iadd C dX8_puts_26 ?_
        refine lv_aload_n hx hb dX8_puts_27 rfl (lv_at hl 0 rfl) ?_
        refine lv_iload_n hx hb dX8_puts_28 rfl (lv_at hl 1 rfl) ?_
        refine lv_iload hx hb dX8_puts_29 (lv_at hl 4 rfl) ?_
        refine jx_iconst C dX8_puts_31 ?_
        refine jx_isub C dX8_puts_32 ?_
        refine jx_callVI C hK hP hD hS hA (ct_M_thing l D cI cT aM _ sM l1 (l4 - 1) h) ms_X8_thing lk_X8_88 [0] rfl rfl (fun _ => rfl) (cs' := (fun _ => [(cp_M aM, sM)])) (fun _ => rfl) (fun _ => rfl) 0 0 rfl rfl rfl rfl rfl hl.1 rfl rfl dX8_puts_33 ⟨Nat.le_refl _, Nat.le_refl _⟩ (fun r33 _ H locs h hP hD hS => ?_)
        have hP : va_P D vwCl (jx_ws cI cT [(cp_M aM, sM)]) H := hP
        have hD : va_D A (jx_ws cI cT [(cp_M aM, sM)]) := hD
        refine jx_iast C hK hP hD hS 0 1 rfl rfl rfl rfl h.1 rfl dX8_puts_36 (fun H locs hP hD hS => ?_)
        have h := h.2
        have hP : va_P D vwCl (jx_ws cI cT [(cp_M aM, (jx_su sM 0 ((239 + (5 * l1)) + l4) r33))]) H := hP
        have hD : va_D A (jx_ws cI cT [(cp_M aM, (jx_su sM 0 ((239 + (5 * l1)) + l4) r33))]) := hD
        refine jx_iinc C (lv' := [(4, .int (jx_i (l4 + (-1)))), (0, .ref (aM 0)), (1, .int (jx_i l1)), (2, .int (jx_i l2)), (3, .int (jx_i l3))]) dX8_puts_37 hl (k := 4) rfl (by decide) rfl (fun ls hl => ?_)
        refine lv_goto (tgt := 7) hx hb dX8_puts_40 (by decide) ?_
        exact ih (jx_su sM 0 ((239 + (5 * l1)) + l4) r33) (l4 + (-1)) h _ _ hP hD hS ls (lv_sub hl [1, 2, 3, 4, 0] rfl)
  have J43 : ∀ (sM : jx_St), wp_M_puts_43 Q l1 l2 l3 sM → ∀ (H : Heap) (locs : List Loc), va_P D vwCl (jx_ws cI cT [(cp_M aM, sM)]) H → va_D A (jx_ws cI cT [(cp_M aM, sM)]) → va_S A s.heap H locs → ∀ ls : Array Slot, lv_has ls 5 [(0, .ref (aM 0)), (1, .int (jx_i l1)), (2, .int (jx_i l2)), (3, .int (jx_i l3))] → W p l e (jx_rm 1 22) s m args below meth c H locs 0 0 QQ (F0 m 43 ls []) := by
    intro sM h H locs hP hD hS ls hl
    unfold wp_M_puts_43 at h
    refine lv_aload_n hx hb dX8_puts_43 rfl (lv_at hl 0 rfl) ?_
    refine jx_getR C hK hP 0 0 0 rfl rfl rfl fl_X8_7 dX8_puts_44 ?_
    refine jx_sipush C dX8_puts_47 (by decide) ?_
    refine jx_iconst C dX8_puts_50 ?_
    refine lv_iload_n hx hb dX8_puts_51 rfl (lv_at hl 1 rfl) ?_
    refine jx_imul C dX8_puts_52 ?_
    refine jx_iadd C dX8_puts_53 ?_
    refine lv_iload_n hx hb dX8_puts_54 rfl (lv_at hl 2 rfl) ?_
    refine jx_iadd C dX8_puts_55 ?_
    refine lv_iload_n hx hb dX8_puts_56 rfl (lv_at hl 3 rfl) ?_
    refine jx_iast C hK hP hD hS 0 1 rfl rfl rfl rfl h.1 rfl dX8_puts_57 (fun H locs hP hD hS => ?_)
    have h := h.2
    have hP : va_P D vwCl (jx_ws cI cT [(cp_M aM, (jx_su sM 0 ((239 + (5 * l1)) + l2) l3))]) H := hP
    have hD : va_D A (jx_ws cI cT [(cp_M aM, (jx_su sM 0 ((239 + (5 * l1)) + l2) l3))]) := hD
    refine lv_aload_n hx hb dX8_puts_58 rfl (lv_at hl 0 rfl) ?_
    refine jx_getR C hK hP 0 0 0 rfl rfl rfl fl_X8_7 dX8_puts_59 ?_
    refine jx_sipush C dX8_puts_62 (by decide) ?_
    refine lv_iload_n hx hb dX8_puts_65 rfl (lv_at hl 1 rfl) ?_
    refine jx_iadd C dX8_puts_66 ?_
    refine lv_dup2_11 hx hb dX8_puts_67 rfl rfl ?_
    refine jx_iald C hK hP 0 1 rfl rfl rfl h.1 dX8_puts_68 ?_
    have h := h.2
    refine jx_iconst C dX8_puts_69 ?_
    refine jx_iadd C dX8_puts_70 ?_
    refine jx_iast C hK hP hD hS 0 1 rfl rfl rfl rfl h.1 rfl dX8_puts_71 (fun H locs hP hD hS => ?_)
    have h := h.2
    have hP : va_P D vwCl (jx_ws cI cT [(cp_M aM, (jx_su (jx_su sM 0 ((239 + (5 * l1)) + l2) l3) 0 (199 + l1) (((jx_su sM 0 ((239 + (5 * l1)) + l2) l3) 0 (199 + l1)) + 1)))]) H := hP
    have hD : va_D A (jx_ws cI cT [(cp_M aM, (jx_su (jx_su sM 0 ((239 + (5 * l1)) + l2) l3) 0 (199 + l1) (((jx_su sM 0 ((239 + (5 * l1)) + l2) l3) 0 (199 + l1)) + 1)))]) := hD
    exact jx_rV C hr hlk hAe hS hQQ (jx_su (jx_su sM 0 ((239 + (5 * l1)) + l2) l3) 0 (199 + l1) (((jx_su sM 0 ((239 + (5 * l1)) + l2) l3) 0 (199 + l1)) + 1)) hP h dX8_puts_72
  refine lv_aload_n hx hb dX8_puts_0 rfl (lv_at hl 0 rfl) ?_
  refine lv_iload_n hx hb dX8_puts_1 rfl (lv_at hl 1 rfl) ?_
  refine jx_callVI C hK hP hD hS hA (ct_M_manyOf l D cI cT aM _ sM l1 h) ms_X8_manyOf lk_X8_85 [0] rfl rfl (fun _ => rfl) (cs' := (fun _ => [(cp_M aM, sM)])) (fun _ => rfl) (fun _ => rfl) 0 0 rfl rfl rfl rfl rfl hl.1 rfl rfl dX8_puts_2 ⟨Nat.le_refl _, Nat.le_refl _⟩ (fun r2 _ H locs h hP hD hS => ?_)
  have hP : va_P D vwCl (jx_ws cI cT [(cp_M aM, sM)]) H := hP
  have hD : va_D A (jx_ws cI cT [(cp_M aM, sM)]) := hD
  refine lv_istore (lv' := [(4, .int (jx_i r2)), (0, .ref (aM 0)), (1, .int (jx_i l1)), (2, .int (jx_i l2)), (3, .int (jx_i l3))]) hx hb dX8_puts_5 hl (by decide) rfl (fun ls hl => ?_)
  obtain ⟨n, h⟩ := h
  refine Lo7 _ n sM r2 h ?_ _ _ hP hD hS ls (lv_sub hl [1, 2, 3, 4, 0] rfl)
  · intro sM h H locs hP hD hS ls hl
    exact J43 sM h _ _ hP hD hS ls (lv_sub hl [0, 1, 2, 3] rfl)
set_option maxRecDepth 100000 in
set_option maxHeartbeats 4000000 in
theorem ct_M_newNode (l : Launch) (D : va_G) (cI cT : ClassId) (aM : Nat → Nat) (Q : Int → jx_St → Prop) (sM : jx_St) (l1 : Int) (h : wp_M_newNode Q sM l1) : jx_KI jx_St l D cI cT yX8_newNode cX8_newNode 3 .int 1 21 [.ref (aM 0), .int (jx_i l1)] [(cp_M aM, sM)] (fun u => [(cp_M aM, u)]) Q := by
  refine jx_ent (own := RX8) (by decide) rfl (Nat.le_of_ble_eq_true rfl) ?_
  intro p e s m args below meth c A QQ C hr hlk hK hAe hA hP hD hS ls hl hQQ
  have hl : lv_has ls 3 [(0, .ref (aM 0)), (1, .int (jx_i l1))] := hl
  have hx := C.1
  have hb := C.2.1
  unfold wp_M_newNode at h
  have Lo2 : ∀ (sM : jx_St) (K17 : Int → Prop) (n : Nat) (l2 : Int), jx_it (fun B2 v => wp_M_newNode_2 Q l1 K17 sM B2 v) n l2 → (∀ (l2 : Int), K17 l2 → ∀ (H : Heap) (locs : List Loc), va_P D vwCl (jx_ws cI cT [(cp_M aM, sM)]) H → va_D A (jx_ws cI cT [(cp_M aM, sM)]) → va_S A s.heap H locs → ∀ ls : Array Slot, lv_has ls 3 [(0, .ref (aM 0)), (1, .int (jx_i l1)), (2, .int (jx_i l2))] → W p l e (jx_rm 1 21) s m args below meth c H locs 0 0 QQ (F0 m 17 ls [])) → ∀ (H : Heap) (locs : List Loc), va_P D vwCl (jx_ws cI cT [(cp_M aM, sM)]) H → va_D A (jx_ws cI cT [(cp_M aM, sM)]) → va_S A s.heap H locs → ∀ ls : Array Slot, lv_has ls 3 [(0, .ref (aM 0)), (1, .int (jx_i l1)), (2, .int (jx_i l2))] → W p l e (jx_rm 1 21) s m args below meth c H locs 0 0 QQ (F0 m 2 ls []) := by
    intro sM K17 n
    induction n with
    | zero =>
      intro l2 h
      exact (show False from h).elim
    | succ n ih =>
      intro l2 h K17E H locs hP hD hS ls hl
      have h : wp_M_newNode_2 Q l1 K17 sM (jx_it (fun B2 v => wp_M_newNode_2 Q l1 K17 sM B2 v) n) l2 := h
      have ih := fun l2 h => ih l2 h K17E
      generalize jx_it (fun B2 v => wp_M_newNode_2 Q l1 K17 sM B2 v) n = B2 at h ih
      unfold wp_M_newNode_2 at h
      refine lv_aload_n hx hb dX8_newNode_2 rfl (lv_at hl 0 rfl) ?_
      refine lv_iload_n hx hb dX8_newNode_3 rfl (lv_at hl 2 rfl) ?_
      refine jx_callVI C hK hP hD hS hA (ct_M_levelOf l D cI cT aM _ sM l2 h) ms_X8_levelOf lk_X8_81 [0] rfl rfl (fun _ => rfl) (cs' := (fun _ => [(cp_M aM, sM)])) (fun _ => rfl) (fun _ => rfl) 0 0 rfl rfl rfl rfl rfl hl.1 rfl rfl dX8_newNode_4 ⟨Nat.le_refl _, Nat.le_refl _⟩ (fun r4 _ H locs h hP hD hS => ?_)
      have hP : va_P D vwCl (jx_ws cI cT [(cp_M aM, sM)]) H := hP
      have hD : va_D A (jx_ws cI cT [(cp_M aM, sM)]) := hD
      refine jx_iconst C dX8_newNode_7 ?_
      refine jx_ceq C h.1 (jx_inR (by decide) (by decide)) (tgt := 17) dX8_newNode_8 (by decide) (fun hc => ?_) (fun hc => ?_)
      · have h := h.2.1 hc
        exact K17E l2 h _ _ hP hD hS ls (lv_sub hl [0, 1, 2] rfl)
      · have h := h.2.2 hc
        refine jx_iinc C (lv' := [(2, .int (jx_i (l2 + 1))), (0, .ref (aM 0)), (1, .int (jx_i l1))]) dX8_newNode_11 hl (k := 2) rfl (by decide) rfl (fun ls hl => ?_)
        refine lv_goto (tgt := 2) hx hb dX8_newNode_14 (by decide) ?_
        exact ih (l2 + 1) h _ _ hP hD hS ls (lv_sub hl [1, 2, 0] rfl)
  have J17 : ∀ (sM : jx_St) (l2 : Int), wp_M_newNode_17 Q l1 sM l2 → ∀ (H : Heap) (locs : List Loc), va_P D vwCl (jx_ws cI cT [(cp_M aM, sM)]) H → va_D A (jx_ws cI cT [(cp_M aM, sM)]) → va_S A s.heap H locs → ∀ ls : Array Slot, lv_has ls 3 [(0, .ref (aM 0)), (1, .int (jx_i l1)), (2, .int (jx_i l2))] → W p l e (jx_rm 1 21) s m args below meth c H locs 0 0 QQ (F0 m 17 ls []) := by
    intro sM l2 h H locs hP hD hS ls hl
    unfold wp_M_newNode_17 at h
    refine lv_aload_n hx hb dX8_newNode_17 rfl (lv_at hl 0 rfl) ?_
    refine jx_getR C hK hP 0 0 0 rfl rfl rfl fl_X8_7 dX8_newNode_18 ?_
    refine jx_sipush C dX8_newNode_21 (by decide) ?_
    refine lv_iload_n hx hb dX8_newNode_24 rfl (lv_at hl 2 rfl) ?_
    refine jx_iadd C dX8_newNode_25 ?_
    refine lv_iload_n hx hb dX8_newNode_26 rfl (lv_at hl 1 rfl) ?_
    refine jx_iast C hK hP hD hS 0 1 rfl rfl rfl rfl h.1 rfl dX8_newNode_27 (fun H locs hP hD hS => ?_)
    have h := h.2
    have hP : va_P D vwCl (jx_ws cI cT [(cp_M aM, (jx_su sM 0 (159 + l2) l1))]) H := hP
    have hD : va_D A (jx_ws cI cT [(cp_M aM, (jx_su sM 0 (159 + l2) l1))]) := hD
    refine lv_aload_n hx hb dX8_newNode_28 rfl (lv_at hl 0 rfl) ?_
    refine jx_getR C hK hP 0 0 0 rfl rfl rfl fl_X8_7 dX8_newNode_29 ?_
    refine jx_sipush C dX8_newNode_32 (by decide) ?_
    refine lv_iload_n hx hb dX8_newNode_35 rfl (lv_at hl 2 rfl) ?_
    refine jx_iadd C dX8_newNode_36 ?_
    refine jx_iconst C dX8_newNode_37 ?_
    refine jx_iast C hK hP hD hS 0 1 rfl rfl rfl rfl h.1 rfl dX8_newNode_38 (fun H locs hP hD hS => ?_)
    have h := h.2
    have hP : va_P D vwCl (jx_ws cI cT [(cp_M aM, (jx_su (jx_su sM 0 (159 + l2) l1) 0 (199 + l2) 0))]) H := hP
    have hD : va_D A (jx_ws cI cT [(cp_M aM, (jx_su (jx_su sM 0 (159 + l2) l1) 0 (199 + l2) 0))]) := hD
    refine lv_iload_n hx hb dX8_newNode_39 rfl (lv_at hl 2 rfl) ?_
    exact jx_rI C hr hlk hAe hS hQQ (jx_su (jx_su sM 0 (159 + l2) l1) 0 (199 + l2) 0) hP h dX8_newNode_40
  refine jx_iconst C dX8_newNode_0 ?_
  refine lv_istore_n (lv' := [(2, .int (jx_i 0)), (0, .ref (aM 0)), (1, .int (jx_i l1))]) hx hb dX8_newNode_1 rfl hl (by decide) rfl (fun ls hl => ?_)
  obtain ⟨n, h⟩ := h
  refine Lo2 sM _ n 0 h ?_ _ _ hP hD hS ls (lv_sub hl [1, 2, 0] rfl)
  · intro l2 h H locs hP hD hS ls hl
    exact J17 sM l2 h _ _ hP hD hS ls (lv_sub hl [0, 1, 2] rfl)
set_option maxRecDepth 100000 in
set_option maxHeartbeats 4000000 in
theorem ct_M_sorts (l : Launch) (D : va_G) (cI cT : ClassId) (aM : Nat → Nat) (Q : jx_St → Prop) (sM : jx_St) (l1 : Int) (l2 : Int) (h : wp_M_sorts Q sM l1 l2) : jx_KV jx_St l D cI cT yX8_sorts cX8_sorts 7 1 23 [.ref (aM 0), .int (jx_i l1), .int (jx_i l2)] [(cp_M aM, sM)] (fun u => [(cp_M aM, u)]) Q := by
  refine jx_ent (own := RX8) (by decide) rfl (Nat.le_of_ble_eq_true rfl) ?_
  intro p e s m args below meth c A QQ C hr hlk hK hAe hA hP hD hS ls hl hQQ
  have hl : lv_has ls 7 [(0, .ref (aM 0)), (1, .int (jx_i l1)), (2, .int (jx_i l2))] := hl
  have hx := C.1
  have hb := C.2.1
  unfold wp_M_sorts at h
  have Lo9 : ∀ (l3 : Int) (n : Nat) (sM : jx_St) (l4 : Int), jx_it (fun B9 v => wp_M_sorts_9 Q l1 l2 l3 B9 v.1 v.2) n (sM, l4) → ∀ (H : Heap) (locs : List Loc), va_P D vwCl (jx_ws cI cT [(cp_M aM, sM)]) H → va_D A (jx_ws cI cT [(cp_M aM, sM)]) → va_S A s.heap H locs → ∀ ls : Array Slot, lv_has ls 7 [(0, .ref (aM 0)), (1, .int (jx_i l1)), (2, .int (jx_i l2)), (3, .int (jx_i l3)), (4, .int (jx_i l4))] → W p l e (jx_rm 1 23) s m args below meth c H locs 0 0 QQ (F0 m 9 ls []) := by
    intro l3 n
    induction n with
    | zero =>
      intro sM l4 h
      exact (show False from h).elim
    | succ n ih =>
      intro sM l4 h H locs hP hD hS ls hl
      have h : wp_M_sorts_9 Q l1 l2 l3 (jx_it (fun B9 v => wp_M_sorts_9 Q l1 l2 l3 B9 v.1 v.2) n) sM l4 := h
      have ih := fun sM l4 h => ih sM l4 h
      generalize jx_it (fun B9 v => wp_M_sorts_9 Q l1 l2 l3 B9 v.1 v.2) n = B9 at h ih
      unfold wp_M_sorts_9 at h
      have Lo28 : ∀ (l3 : Int) (l4 : Int) (l5 : Int) (K137 : jx_St × Int → Prop) (n : Nat) (sM : jx_St) (l6 : Int), jx_it (fun B28 v => wp_M_sorts_28 Q l1 l2 K137 l3 l4 l5 B28 v.1 v.2) n (sM, l6) → (∀ (sM : jx_St) (l6 : Int), K137 (sM, l6) → ∀ (H : Heap) (locs : List Loc), va_P D vwCl (jx_ws cI cT [(cp_M aM, sM)]) H → va_D A (jx_ws cI cT [(cp_M aM, sM)]) → va_S A s.heap H locs → ∀ ls : Array Slot, lv_has ls 7 [(0, .ref (aM 0)), (1, .int (jx_i l1)), (2, .int (jx_i l2)), (3, .int (jx_i l3)), (4, .int (jx_i l4)), (5, .int (jx_i l5)), (6, .int (jx_i l6))] → W p l e (jx_rm 1 23) s m args below meth c H locs 0 0 QQ (F0 m 137 ls [])) → ∀ (H : Heap) (locs : List Loc), va_P D vwCl (jx_ws cI cT [(cp_M aM, sM)]) H → va_D A (jx_ws cI cT [(cp_M aM, sM)]) → va_S A s.heap H locs → ∀ ls : Array Slot, lv_has ls 7 [(0, .ref (aM 0)), (1, .int (jx_i l1)), (2, .int (jx_i l2)), (3, .int (jx_i l3)), (4, .int (jx_i l4)), (5, .int (jx_i l5)), (6, .int (jx_i l6))] → W p l e (jx_rm 1 23) s m args below meth c H locs 0 0 QQ (F0 m 28 ls []) := by
        intro l3 l4 l5 K137 n
        induction n with
        | zero =>
          intro sM l6 h
          exact (show False from h).elim
        | succ n ih =>
          intro sM l6 h K137E H locs hP hD hS ls hl
          have h : wp_M_sorts_28 Q l1 l2 K137 l3 l4 l5 (jx_it (fun B28 v => wp_M_sorts_28 Q l1 l2 K137 l3 l4 l5 B28 v.1 v.2) n) sM l6 := h
          have ih := fun sM l6 h => ih sM l6 h K137E
          generalize jx_it (fun B28 v => wp_M_sorts_28 Q l1 l2 K137 l3 l4 l5 B28 v.1 v.2) n = B28 at h ih
          unfold wp_M_sorts_28 at h
          have J115 : ∀ (sM : jx_St) (l6 : Int), wp_M_sorts_115 Q l1 l2 B28 K137 sM l3 l4 l5 l6 → ∀ (H : Heap) (locs : List Loc), va_P D vwCl (jx_ws cI cT [(cp_M aM, sM)]) H → va_D A (jx_ws cI cT [(cp_M aM, sM)]) → va_S A s.heap H locs → ∀ ls : Array Slot, lv_has ls 7 [(0, .ref (aM 0)), (1, .int (jx_i l1)), (2, .int (jx_i l2)), (3, .int (jx_i l3)), (4, .int (jx_i l4)), (5, .int (jx_i l5)), (6, .int (jx_i l6))] → W p l e (jx_rm 1 23) s m args below meth c H locs 0 0 QQ (F0 m 115 ls []) := by
            intro sM l6 h H locs hP hD hS ls hl
            unfold wp_M_sorts_115 at h
            refine lv_aload_n hx hb dX8_sorts_115 rfl (lv_at hl 0 rfl) ?_
            refine jx_getR C hK hP 0 0 21 rfl rfl rfl fl_X8_52 dX8_sorts_116 ?_
            refine lv_iload hx hb dX8_sorts_119 (lv_at hl 6 rfl) ?_
            refine lv_aload_n hx hb dX8_sorts_121 rfl (lv_at hl 0 rfl) ?_
            refine jx_getR C hK hP 0 0 21 rfl rfl rfl fl_X8_52 dX8_sorts_122 ?_
            refine lv_iload hx hb dX8_sorts_125 (lv_at hl 6 rfl) ?_
            refine jx_iconst C dX8_sorts_127 ?_
            refine jx_isub C dX8_sorts_128 ?_
            refine jx_iald C hK hP 0 15 rfl rfl rfl h.1 dX8_sorts_129 ?_
            have h := h.2
            refine jx_iast C hK hP hD hS 0 15 rfl rfl rfl rfl h.1 rfl dX8_sorts_130 (fun H locs hP hD hS => ?_)
            have h := h.2
            have hP : va_P D vwCl (jx_ws cI cT [(cp_M aM, (jx_su sM 21 l6 (sM 21 (l6 - 1))))]) H := hP
            have hD : va_D A (jx_ws cI cT [(cp_M aM, (jx_su sM 21 l6 (sM 21 (l6 - 1))))]) := hD
            refine jx_iinc C (lv' := [(6, .int (jx_i (l6 + (-1)))), (0, .ref (aM 0)), (1, .int (jx_i l1)), (2, .int (jx_i l2)), (3, .int (jx_i l3)), (4, .int (jx_i l4)), (5, .int (jx_i l5))]) dX8_sorts_131 hl (k := 6) rfl (by decide) rfl (fun ls hl => ?_)
            refine lv_goto (tgt := 28) hx hb dX8_sorts_134 (by decide) ?_
            exact ih (jx_su sM 21 l6 (sM 21 (l6 - 1))) (l6 + (-1)) h _ _ hP hD hS ls (lv_sub hl [1, 2, 3, 4, 5, 6, 0] rfl)
          refine lv_iload hx hb dX8_sorts_28 (lv_at hl 6 rfl) ?_
          refine jx_zle C h.1 (tgt := 137) dX8_sorts_30 (by decide) (fun hc => ?_) (fun hc => ?_)
          · have h := h.2.1 hc
            exact K137E sM l6 h _ _ hP hD hS ls (lv_sub hl [0, 1, 2, 3, 4, 5, 6] rfl)
          · have h := h.2.2 hc
            refine lv_aload_n hx hb dX8_sorts_33 rfl (lv_at hl 0 rfl) ?_
            refine lv_aload_n hx hb dX8_sorts_34 rfl (lv_at hl 0 rfl) ?_
            refine jx_getR C hK hP 0 0 21 rfl rfl rfl fl_X8_52 dX8_sorts_35 ?_
            refine lv_iload hx hb dX8_sorts_38 (lv_at hl 6 rfl) ?_
            refine jx_iconst C dX8_sorts_40 ?_
            refine jx_isub C dX8_sorts_41 ?_
            refine jx_iald C hK hP 0 15 rfl rfl rfl h.1 dX8_sorts_42 ?_
            have h := h.2
            refine lv_iload_n hx hb dX8_sorts_43 rfl (lv_at hl 3 rfl) ?_
            refine lv_iload_n hx hb dX8_sorts_44 rfl (lv_at hl 2 rfl) ?_
            refine jx_callVI C hK hP hD hS hA (ct_M_side l D cI cT aM _ sM (sM 21 (l6 - 1)) l3 l2 h) ms_X8_side lk_X8_92 [0] rfl rfl (fun _ => rfl) (cs' := (fun _ => [(cp_M aM, sM)])) (fun _ => rfl) (fun _ => rfl) 0 0 rfl rfl rfl rfl rfl hl.1 rfl rfl dX8_sorts_45 ⟨Nat.le_refl _, Nat.le_refl _⟩ (fun r45 _ H locs h hP hD hS => ?_)
            have hP : va_P D vwCl (jx_ws cI cT [(cp_M aM, sM)]) H := hP
            have hD : va_D A (jx_ws cI cT [(cp_M aM, sM)]) := hD
            refine lv_aload_n hx hb dX8_sorts_48 rfl (lv_at hl 0 rfl) ?_
            refine lv_iload hx hb dX8_sorts_49 (lv_at hl 5 rfl) ?_
            refine lv_iload_n hx hb dX8_sorts_51 rfl (lv_at hl 3 rfl) ?_
            refine lv_iload_n hx hb dX8_sorts_52 rfl (lv_at hl 2 rfl) ?_
            refine jx_callVI C hK hP hD hS hA (ct_M_side l D cI cT aM _ sM l5 l3 l2 h) ms_X8_side lk_X8_92 [0] rfl rfl (fun _ => rfl) (cs' := (fun _ => [(cp_M aM, sM)])) (fun _ => rfl) (fun _ => rfl) 0 0 rfl rfl rfl rfl rfl hl.1 rfl rfl dX8_sorts_53 ⟨Nat.le_refl _, Nat.le_refl _⟩ (fun r53 _ H locs h hP hD hS => ?_)
            have hP : va_P D vwCl (jx_ws cI cT [(cp_M aM, sM)]) H := hP
            have hD : va_D A (jx_ws cI cT [(cp_M aM, sM)]) := hD
            refine jx_cgt C h.1 h.2.1 (tgt := 115) dX8_sorts_56 (by decide) (fun hc => ?_) (fun hc => ?_)
            · have h := h.2.2.2 hc
              exact J115 sM l6 h _ _ hP hD hS ls (lv_sub hl [0, 1, 2, 3, 4, 5, 6] rfl)
            · have h := h.2.2.1 hc
              refine lv_aload_n hx hb dX8_sorts_59 rfl (lv_at hl 0 rfl) ?_
              refine lv_aload_n hx hb dX8_sorts_60 rfl (lv_at hl 0 rfl) ?_
              refine jx_getR C hK hP 0 0 21 rfl rfl rfl fl_X8_52 dX8_sorts_61 ?_
              refine lv_iload hx hb dX8_sorts_64 (lv_at hl 6 rfl) ?_
              refine jx_iconst C dX8_sorts_66 ?_
              refine jx_isub C dX8_sorts_67 ?_
              refine jx_iald C hK hP 0 15 rfl rfl rfl h.1 dX8_sorts_68 ?_
              have h := h.2
              refine lv_iload_n hx hb dX8_sorts_69 rfl (lv_at hl 3 rfl) ?_
              refine lv_iload_n hx hb dX8_sorts_70 rfl (lv_at hl 2 rfl) ?_
              refine jx_callVI C hK hP hD hS hA (ct_M_side l D cI cT aM _ sM (sM 21 (l6 - 1)) l3 l2 h) ms_X8_side lk_X8_92 [0] rfl rfl (fun _ => rfl) (cs' := (fun _ => [(cp_M aM, sM)])) (fun _ => rfl) (fun _ => rfl) 0 0 rfl rfl rfl rfl rfl hl.1 rfl rfl dX8_sorts_71 ⟨Nat.le_refl _, Nat.le_refl _⟩ (fun r71 _ H locs h hP hD hS => ?_)
              have hP : va_P D vwCl (jx_ws cI cT [(cp_M aM, sM)]) H := hP
              have hD : va_D A (jx_ws cI cT [(cp_M aM, sM)]) := hD
              refine lv_aload_n hx hb dX8_sorts_74 rfl (lv_at hl 0 rfl) ?_
              refine lv_iload hx hb dX8_sorts_75 (lv_at hl 5 rfl) ?_
              refine lv_iload_n hx hb dX8_sorts_77 rfl (lv_at hl 3 rfl) ?_
              refine lv_iload_n hx hb dX8_sorts_78 rfl (lv_at hl 2 rfl) ?_
              refine jx_callVI C hK hP hD hS hA (ct_M_side l D cI cT aM _ sM l5 l3 l2 h) ms_X8_side lk_X8_92 [0] rfl rfl (fun _ => rfl) (cs' := (fun _ => [(cp_M aM, sM)])) (fun _ => rfl) (fun _ => rfl) 0 0 rfl rfl rfl rfl rfl hl.1 rfl rfl dX8_sorts_79 ⟨Nat.le_refl _, Nat.le_refl _⟩ (fun r79 _ H locs h hP hD hS => ?_)
              have hP : va_P D vwCl (jx_ws cI cT [(cp_M aM, sM)]) H := hP
              have hD : va_D A (jx_ws cI cT [(cp_M aM, sM)]) := hD
              refine jx_cne C h.1 h.2.1 (tgt := 137) dX8_sorts_82 (by decide) (fun hc => ?_) (fun hc => ?_)
              · have h := h.2.2.2 hc
                exact K137E sM l6 h _ _ hP hD hS ls (lv_sub hl [0, 1, 2, 3, 4, 5, 6] rfl)
              · have h := h.2.2.1 hc
                refine lv_aload_n hx hb dX8_sorts_85 rfl (lv_at hl 0 rfl) ?_
                refine lv_aload_n hx hb dX8_sorts_86 rfl (lv_at hl 0 rfl) ?_
                refine jx_getR C hK hP 0 0 21 rfl rfl rfl fl_X8_52 dX8_sorts_87 ?_
                refine lv_iload hx hb dX8_sorts_90 (lv_at hl 6 rfl) ?_
                refine jx_iconst C dX8_sorts_92 ?_
                refine jx_isub C dX8_sorts_93 ?_
                refine jx_iald C hK hP 0 15 rfl rfl rfl h.1 dX8_sorts_94 ?_
                have h := h.2
                refine lv_iload_n hx hb dX8_sorts_95 rfl (lv_at hl 3 rfl) ?_
                refine jx_iconst C dX8_sorts_96 ?_
                refine lv_iload_n hx hb dX8_sorts_97 rfl (lv_at hl 2 rfl) ?_
                refine jx_iadd C dX8_sorts_98 ?_
                refine jx_callVI C hK hP hD hS hA (ct_M_side l D cI cT aM _ sM (sM 21 (l6 - 1)) l3 (2 + l2) h) ms_X8_side lk_X8_92 [0] rfl rfl (fun _ => rfl) (cs' := (fun _ => [(cp_M aM, sM)])) (fun _ => rfl) (fun _ => rfl) 0 0 rfl rfl rfl rfl rfl hl.1 rfl rfl dX8_sorts_99 ⟨Nat.le_refl _, Nat.le_refl _⟩ (fun r99 _ H locs h hP hD hS => ?_)
                have hP : va_P D vwCl (jx_ws cI cT [(cp_M aM, sM)]) H := hP
                have hD : va_D A (jx_ws cI cT [(cp_M aM, sM)]) := hD
                refine lv_aload_n hx hb dX8_sorts_102 rfl (lv_at hl 0 rfl) ?_
                refine lv_iload hx hb dX8_sorts_103 (lv_at hl 5 rfl) ?_
                refine lv_iload_n hx hb dX8_sorts_105 rfl (lv_at hl 3 rfl) ?_
                refine jx_iconst C dX8_sorts_106 ?_
                refine lv_iload_n hx hb dX8_sorts_107 rfl (lv_at hl 2 rfl) ?_
                refine jx_iadd C dX8_sorts_108 ?_
                refine jx_callVI C hK hP hD hS hA (ct_M_side l D cI cT aM _ sM l5 l3 (2 + l2) h) ms_X8_side lk_X8_92 [0] rfl rfl (fun _ => rfl) (cs' := (fun _ => [(cp_M aM, sM)])) (fun _ => rfl) (fun _ => rfl) 0 0 rfl rfl rfl rfl rfl hl.1 rfl rfl dX8_sorts_109 ⟨Nat.le_refl _, Nat.le_refl _⟩ (fun r109 _ H locs h hP hD hS => ?_)
                have hP : va_P D vwCl (jx_ws cI cT [(cp_M aM, sM)]) H := hP
                have hD : va_D A (jx_ws cI cT [(cp_M aM, sM)]) := hD
                refine jx_cle C h.1 h.2.1 (tgt := 137) dX8_sorts_112 (by decide) (fun hc => ?_) (fun hc => ?_)
                · have h := h.2.2.1 hc
                  exact K137E sM l6 h _ _ hP hD hS ls (lv_sub hl [0, 1, 2, 3, 4, 5, 6] rfl)
                · have h := h.2.2.2 hc
                  exact J115 sM l6 h _ _ hP hD hS ls (lv_sub hl [0, 1, 2, 3, 4, 5, 6] rfl)
      have J137 : ∀ (sM : jx_St) (l4 : Int) (l5 : Int) (l6 : Int), wp_M_sorts_137 Q l1 l2 B9 sM l3 l4 l5 l6 → ∀ (H : Heap) (locs : List Loc), va_P D vwCl (jx_ws cI cT [(cp_M aM, sM)]) H → va_D A (jx_ws cI cT [(cp_M aM, sM)]) → va_S A s.heap H locs → ∀ ls : Array Slot, lv_has ls 7 [(0, .ref (aM 0)), (1, .int (jx_i l1)), (2, .int (jx_i l2)), (3, .int (jx_i l3)), (4, .int (jx_i l4)), (5, .int (jx_i l5)), (6, .int (jx_i l6))] → W p l e (jx_rm 1 23) s m args below meth c H locs 0 0 QQ (F0 m 137 ls []) := by
        intro sM l4 l5 l6 h H locs hP hD hS ls hl
        unfold wp_M_sorts_137 at h
        refine lv_aload_n hx hb dX8_sorts_137 rfl (lv_at hl 0 rfl) ?_
        refine jx_getR C hK hP 0 0 21 rfl rfl rfl fl_X8_52 dX8_sorts_138 ?_
        refine lv_iload hx hb dX8_sorts_141 (lv_at hl 6 rfl) ?_
        refine lv_iload hx hb dX8_sorts_143 (lv_at hl 5 rfl) ?_
        refine jx_iast C hK hP hD hS 0 15 rfl rfl rfl rfl h.1 rfl dX8_sorts_145 (fun H locs hP hD hS => ?_)
        have h := h.2
        have hP : va_P D vwCl (jx_ws cI cT [(cp_M aM, (jx_su sM 21 l6 l5))]) H := hP
        have hD : va_D A (jx_ws cI cT [(cp_M aM, (jx_su sM 21 l6 l5))]) := hD
        refine jx_iinc C (lv' := [(4, .int (jx_i (l4 + 1))), (0, .ref (aM 0)), (1, .int (jx_i l1)), (2, .int (jx_i l2)), (3, .int (jx_i l3)), (5, .int (jx_i l5)), (6, .int (jx_i l6))]) dX8_sorts_146 hl (k := 4) rfl (by decide) rfl (fun ls hl => ?_)
        refine lv_goto (tgt := 9) hx hb dX8_sorts_149 (by decide) ?_
        exact ih (jx_su sM 21 l6 l5) (l4 + 1) h _ _ hP hD hS ls (lv_sub hl [1, 2, 3, 4, 0] rfl)
      refine lv_iload hx hb dX8_sorts_9 (lv_at hl 4 rfl) ?_
      refine jx_iconst C dX8_sorts_11 ?_
      refine jx_cge C h.1 (jx_inR (by decide) (by decide)) (tgt := 152) dX8_sorts_12 (by decide) (fun hc => ?_) (fun hc => ?_)
      · have h := h.2.2 hc
        exact jx_rV C hr hlk hAe hS hQQ sM hP h dX8_sorts_152
      · have h := h.2.1 hc
        refine lv_aload_n hx hb dX8_sorts_15 rfl (lv_at hl 0 rfl) ?_
        refine lv_iload_n hx hb dX8_sorts_16 rfl (lv_at hl 1 rfl) ?_
        refine lv_iload hx hb dX8_sorts_17 (lv_at hl 4 rfl) ?_
        refine jx_callVI C hK hP hD hS hA (ct_M_thing l D cI cT aM _ sM l1 l4 h) ms_X8_thing lk_X8_88 [0] rfl rfl (fun _ => rfl) (cs' := (fun _ => [(cp_M aM, sM)])) (fun _ => rfl) (fun _ => rfl) 0 0 rfl rfl rfl rfl rfl hl.1 rfl rfl dX8_sorts_19 ⟨Nat.le_refl _, Nat.le_refl _⟩ (fun r19 _ H locs h hP hD hS => ?_)
        have hP : va_P D vwCl (jx_ws cI cT [(cp_M aM, sM)]) H := hP
        have hD : va_D A (jx_ws cI cT [(cp_M aM, sM)]) := hD
        refine lv_istore (lv' := [(5, .int (jx_i r19)), (0, .ref (aM 0)), (1, .int (jx_i l1)), (2, .int (jx_i l2)), (3, .int (jx_i l3)), (4, .int (jx_i l4))]) hx hb dX8_sorts_22 hl (by decide) rfl (fun ls hl => ?_)
        refine lv_iload hx hb dX8_sorts_24 (lv_at hl 5 rfl) ?_
        refine lv_istore (lv' := [(6, .int (jx_i l4)), (5, .int (jx_i r19)), (0, .ref (aM 0)), (1, .int (jx_i l1)), (2, .int (jx_i l2)), (3, .int (jx_i l3)), (4, .int (jx_i l4))]) hx hb dX8_sorts_26 hl (by decide) rfl (fun ls hl => ?_)
        obtain ⟨n, h⟩ := h
        refine Lo28 l3 l4 r19 _ n sM l4 h ?_ _ _ hP hD hS ls (lv_sub hl [2, 3, 4, 5, 6, 1, 0] rfl)
        · intro sM l6 h H locs hP hD hS ls hl
          exact J137 sM l4 r19 l6 h _ _ hP hD hS ls (lv_sub hl [0, 1, 2, 3, 4, 5, 6] rfl)
  refine lv_aload_n hx hb dX8_sorts_0 rfl (lv_at hl 0 rfl) ?_
  refine lv_iload_n hx hb dX8_sorts_1 rfl (lv_at hl 1 rfl) ?_
  refine jx_callVI C hK hP hD hS hA (ct_M_levelOf l D cI cT aM _ sM l1 h) ms_X8_levelOf lk_X8_81 [0] rfl rfl (fun _ => rfl) (cs' := (fun _ => [(cp_M aM, sM)])) (fun _ => rfl) (fun _ => rfl) 0 0 rfl rfl rfl rfl rfl hl.1 rfl rfl dX8_sorts_2 ⟨Nat.le_refl _, Nat.le_refl _⟩ (fun r2 _ H locs h hP hD hS => ?_)
  have hP : va_P D vwCl (jx_ws cI cT [(cp_M aM, sM)]) H := hP
  have hD : va_D A (jx_ws cI cT [(cp_M aM, sM)]) := hD
  refine lv_istore_n (lv' := [(3, .int (jx_i r2)), (0, .ref (aM 0)), (1, .int (jx_i l1)), (2, .int (jx_i l2))]) hx hb dX8_sorts_5 rfl hl (by decide) rfl (fun ls hl => ?_)
  refine jx_iconst C dX8_sorts_6 ?_
  refine lv_istore (lv' := [(4, .int (jx_i 0)), (3, .int (jx_i r2)), (0, .ref (aM 0)), (1, .int (jx_i l1)), (2, .int (jx_i l2))]) hx hb dX8_sorts_7 hl (by decide) rfl (fun ls hl => ?_)
  obtain ⟨n, h⟩ := h
  refine Lo9 r2 n sM 0 h _ _ hP hD hS ls (lv_sub hl [2, 3, 4, 1, 0] rfl)
set_option maxRecDepth 100000 in
set_option maxHeartbeats 4000000 in
theorem ct_M_takes_two (l : Launch) (D : va_G) (cI cT : ClassId) (aM : Nat → Nat) (Q : jx_St → Prop) (sM : jx_St) (l2 : Int) (l3 : Int) (h : wp_M_takes_two Q sM l2 l3) : jx_KV jx_St l D cI cT yX8_takes cX8_takes 5 1 23 [.ref (aM 0), .ref (aM 8), .int (jx_i l2), .int (jx_i l3)] [(cp_M aM, sM)] (fun u => [(cp_M aM, u)]) Q := by
  refine jx_ent (own := RX8) (by decide) rfl (Nat.le_of_ble_eq_true rfl) ?_
  intro p e s m args below meth c A QQ C hr hlk hK hAe hA hP hD hS ls hl hQQ
  have hl : lv_has ls 5 [(0, .ref (aM 0)), (1, .ref (aM 8)), (2, .int (jx_i l2)), (3, .int (jx_i l3))] := hl
  have hx := C.1
  have hb := C.2.1
  unfold wp_M_takes_two at h
  have Lo3 : ∀ (n : Nat) (sM : jx_St) (l4 : Int), jx_it (fun B3 v => wp_M_takes_two_3 Q l2 l3 B3 v.1 v.2) n (sM, l4) → ∀ (H : Heap) (locs : List Loc), va_P D vwCl (jx_ws cI cT [(cp_M aM, sM)]) H → va_D A (jx_ws cI cT [(cp_M aM, sM)]) → va_S A s.heap H locs → ∀ ls : Array Slot, lv_has ls 5 [(0, .ref (aM 0)), (1, .ref (aM 8)), (2, .int (jx_i l2)), (3, .int (jx_i l3)), (4, .int (jx_i l4))] → W p l e (jx_rm 1 23) s m args below meth c H locs 0 0 QQ (F0 m 3 ls []) := by
    intro n
    induction n with
    | zero =>
      intro sM l4 h
      exact (show False from h).elim
    | succ n ih =>
      intro sM l4 h H locs hP hD hS ls hl
      have h : wp_M_takes_two_3 Q l2 l3 (jx_it (fun B3 v => wp_M_takes_two_3 Q l2 l3 B3 v.1 v.2) n) sM l4 := h
      have ih := fun sM l4 h => ih sM l4 h
      generalize jx_it (fun B3 v => wp_M_takes_two_3 Q l2 l3 B3 v.1 v.2) n = B3 at h ih
      unfold wp_M_takes_two_3 at h
      refine lv_iload hx hb dX8_takes_3 (lv_at hl 4 rfl) ?_
      refine jx_iconst C dX8_takes_5 ?_
      refine jx_cge C h.1 (jx_inR (by decide) (by decide)) (tgt := 27) dX8_takes_6 (by decide) (fun hc => ?_) (fun hc => ?_)
      · have h := h.2.2 hc
        exact jx_rV C hr hlk hAe hS hQQ sM hP h dX8_takes_27
      · have h := h.2.1 hc
        refine lv_aload_n hx hb dX8_takes_9 rfl (lv_at hl 1 rfl) ?_
        refine lv_iload hx hb dX8_takes_10 (lv_at hl 4 rfl) ?_
        refine lv_aload_n hx hb dX8_takes_12 rfl (lv_at hl 0 rfl) ?_
        refine lv_iload_n hx hb dX8_takes_13 rfl (lv_at hl 2 rfl) ?_
        refine lv_iload_n hx hb dX8_takes_14 rfl (lv_at hl 3 rfl) ?_
        refine lv_iload hx hb dX8_takes_15 (lv_at hl 4 rfl) ?_
        refine jx_callVI C hK hP hD hS hA (ct_M_side l D cI cT aM _ sM l2 l3 l4 h) ms_X8_side lk_X8_92 [0] rfl rfl (fun _ => rfl) (cs' := (fun _ => [(cp_M aM, sM)])) (fun _ => rfl) (fun _ => rfl) 0 0 rfl rfl rfl rfl rfl hl.1 rfl rfl dX8_takes_17 ⟨Nat.le_refl _, Nat.le_refl _⟩ (fun r17 _ H locs h hP hD hS => ?_)
        have hP : va_P D vwCl (jx_ws cI cT [(cp_M aM, sM)]) H := hP
        have hD : va_D A (jx_ws cI cT [(cp_M aM, sM)]) := hD
        refine jx_iast C hK hP hD hS 0 8 rfl rfl rfl rfl h.1 rfl dX8_takes_20 (fun H locs hP hD hS => ?_)
        have h := h.2
        have hP : va_P D vwCl (jx_ws cI cT [(cp_M aM, (jx_su sM 10 l4 r17))]) H := hP
        have hD : va_D A (jx_ws cI cT [(cp_M aM, (jx_su sM 10 l4 r17))]) := hD
        refine jx_iinc C (lv' := [(4, .int (jx_i (l4 + 1))), (0, .ref (aM 0)), (1, .ref (aM 8)), (2, .int (jx_i l2)), (3, .int (jx_i l3))]) dX8_takes_21 hl (k := 4) rfl (by decide) rfl (fun ls hl => ?_)
        refine lv_goto (tgt := 3) hx hb dX8_takes_24 (by decide) ?_
        exact ih (jx_su sM 10 l4 r17) (l4 + 1) h _ _ hP hD hS ls (lv_sub hl [1, 2, 3, 4, 0] rfl)
  refine jx_iconst C dX8_takes_0 ?_
  refine lv_istore (lv' := [(4, .int (jx_i 0)), (0, .ref (aM 0)), (1, .ref (aM 8)), (2, .int (jx_i l2)), (3, .int (jx_i l3))]) hx hb dX8_takes_1 hl (by decide) rfl (fun ls hl => ?_)
  obtain ⟨n, h⟩ := h
  refine Lo3 n sM 0 h _ _ hP hD hS ls (lv_sub hl [1, 2, 3, 4, 0] rfl)
set_option maxRecDepth 100000 in
set_option maxHeartbeats 4000000 in
theorem ct_M_common (l : Launch) (D : va_G) (cI cT : ClassId) (aM : Nat → Nat) (Q : Int → Prop) (sM : jx_St) (h : wp_M_common Q sM) : jx_KI (Unit) l D cI cT yX8_common cX8_common 3 .int 1 21 [.ref (aM 0)] [(cp_M aM, sM)] (fun _ => [(cp_M aM, sM)]) (fun x _ => Q x) := by
  refine jx_ent (own := RX8) (by decide) rfl (Nat.le_of_ble_eq_true rfl) ?_
  intro p e s m args below meth c A QQ C hr hlk hK hAe hA hP hD hS ls hl hQQ
  have hl : lv_has ls 3 [(0, .ref (aM 0))] := hl
  have hx := C.1
  have hb := C.2.1
  unfold wp_M_common at h
  refine lv_aload_n hx hb dX8_common_0 rfl (lv_at hl 0 rfl) ?_
  refine jx_getR C hK hP 0 0 9 rfl rfl rfl fl_X8_28 dX8_common_1 ?_
  refine jx_iconst C dX8_common_4 ?_
  refine jx_iald C hK hP 0 7 rfl rfl rfl (show jx_B _ _ from ⟨by decide, by decide⟩) dX8_common_5 ?_
  refine lv_aload_n hx hb dX8_common_6 rfl (lv_at hl 0 rfl) ?_
  refine jx_getR C hK hP 0 0 10 rfl rfl rfl fl_X8_31 dX8_common_7 ?_
  refine jx_iconst C dX8_common_10 ?_
  refine jx_iald C hK hP 0 8 rfl rfl rfl (show jx_B _ _ from ⟨by decide, by decide⟩) dX8_common_11 ?_
  refine jx_callSI C hK hP hD hS hA (ct_M_least l D cI cT  _  (sM 9 2) (sM 10 2) h) ms_X8_least lk_X8_96 [] rfl rfl (fun _ => rfl) (cs' := (fun _ => [(cp_M aM, sM)])) (fun _ => rfl) (fun _ => rfl) rfl rfl hl.1 rfl rfl dX8_common_12 ⟨Nat.le_refl _, Nat.le_refl _⟩ (fun r12 _ H locs h hP hD hS => ?_)
  have hP : va_P D vwCl (jx_ws cI cT [(cp_M aM, sM)]) H := hP
  have hD : va_D A (jx_ws cI cT [(cp_M aM, sM)]) := hD
  refine lv_aload_n hx hb dX8_common_15 rfl (lv_at hl 0 rfl) ?_
  refine jx_getR C hK hP 0 0 9 rfl rfl rfl fl_X8_28 dX8_common_16 ?_
  refine jx_iconst C dX8_common_19 ?_
  refine jx_iald C hK hP 0 7 rfl rfl rfl (show jx_B _ _ from ⟨by decide, by decide⟩) dX8_common_20 ?_
  refine lv_aload_n hx hb dX8_common_21 rfl (lv_at hl 0 rfl) ?_
  refine jx_getR C hK hP 0 0 10 rfl rfl rfl fl_X8_31 dX8_common_22 ?_
  refine jx_iconst C dX8_common_25 ?_
  refine jx_iald C hK hP 0 8 rfl rfl rfl (show jx_B _ _ from ⟨by decide, by decide⟩) dX8_common_26 ?_
  refine jx_callSI C hK hP hD hS hA (ct_M_most l D cI cT  _  (sM 9 0) (sM 10 0) h) ms_X8_most lk_X8_99 [] rfl rfl (fun _ => rfl) (cs' := (fun _ => [(cp_M aM, sM)])) (fun _ => rfl) (fun _ => rfl) rfl rfl hl.1 rfl rfl dX8_common_27 ⟨Nat.le_refl _, Nat.le_refl _⟩ (fun r27 _ H locs h hP hD hS => ?_)
  have hP : va_P D vwCl (jx_ws cI cT [(cp_M aM, sM)]) H := hP
  have hD : va_D A (jx_ws cI cT [(cp_M aM, sM)]) := hD
  refine jx_isub C dX8_common_30 ?_
  refine lv_istore_n (lv' := [(1, .int (jx_i (r12 - r27))), (0, .ref (aM 0))]) hx hb dX8_common_31 rfl hl (by decide) rfl (fun ls hl => ?_)
  refine lv_aload_n hx hb dX8_common_32 rfl (lv_at hl 1 rfl) ?_
  refine jx_getR C hK hP 0 0 9 rfl rfl rfl fl_X8_28 dX8_common_33 ?_
  refine jx_iconst C dX8_common_36 ?_
  refine jx_iald C hK hP 0 7 rfl rfl rfl (show jx_B _ _ from ⟨by decide, by decide⟩) dX8_common_37 ?_
  refine lv_aload_n hx hb dX8_common_38 rfl (lv_at hl 1 rfl) ?_
  refine jx_getR C hK hP 0 0 10 rfl rfl rfl fl_X8_31 dX8_common_39 ?_
  refine jx_iconst C dX8_common_42 ?_
  refine jx_iald C hK hP 0 8 rfl rfl rfl (show jx_B _ _ from ⟨by decide, by decide⟩) dX8_common_43 ?_
  refine jx_callSI C hK hP hD hS hA (ct_M_least l D cI cT  _  (sM 9 3) (sM 10 3) h) ms_X8_least lk_X8_96 [] rfl rfl (fun _ => rfl) (cs' := (fun _ => [(cp_M aM, sM)])) (fun _ => rfl) (fun _ => rfl) rfl rfl hl.1 rfl rfl dX8_common_44 ⟨Nat.le_refl _, Nat.le_refl _⟩ (fun r44 _ H locs h hP hD hS => ?_)
  have hP : va_P D vwCl (jx_ws cI cT [(cp_M aM, sM)]) H := hP
  have hD : va_D A (jx_ws cI cT [(cp_M aM, sM)]) := hD
  refine lv_aload_n hx hb dX8_common_47 rfl (lv_at hl 1 rfl) ?_
  refine jx_getR C hK hP 0 0 9 rfl rfl rfl fl_X8_28 dX8_common_48 ?_
  refine jx_iconst C dX8_common_51 ?_
  refine jx_iald C hK hP 0 7 rfl rfl rfl (show jx_B _ _ from ⟨by decide, by decide⟩) dX8_common_52 ?_
  refine lv_aload_n hx hb dX8_common_53 rfl (lv_at hl 1 rfl) ?_
  refine jx_getR C hK hP 0 0 10 rfl rfl rfl fl_X8_31 dX8_common_54 ?_
  refine jx_iconst C dX8_common_57 ?_
  refine jx_iald C hK hP 0 8 rfl rfl rfl (show jx_B _ _ from ⟨by decide, by decide⟩) dX8_common_58 ?_
  refine jx_callSI C hK hP hD hS hA (ct_M_most l D cI cT  _  (sM 9 1) (sM 10 1) h) ms_X8_most lk_X8_99 [] rfl rfl (fun _ => rfl) (cs' := (fun _ => [(cp_M aM, sM)])) (fun _ => rfl) (fun _ => rfl) rfl rfl hl.1 rfl rfl dX8_common_59 ⟨Nat.le_refl _, Nat.le_refl _⟩ (fun r59 _ H locs h hP hD hS => ?_)
  have hP : va_P D vwCl (jx_ws cI cT [(cp_M aM, sM)]) H := hP
  have hD : va_D A (jx_ws cI cT [(cp_M aM, sM)]) := hD
  refine jx_isub C dX8_common_62 ?_
  refine lv_istore_n (lv' := [(2, .int (jx_i (r44 - r59))), (1, .int (jx_i (r12 - r27))), (0, .ref (aM 0))]) hx hb dX8_common_63 rfl hl (by decide) rfl (fun ls hl => ?_)
  refine lv_iload_n hx hb dX8_common_64 rfl (lv_at hl 1 rfl) ?_
  refine jx_zle C h.1 (tgt := 78) dX8_common_65 (by decide) (fun hc => ?_) (fun hc => ?_)
  · have h := h.2.1 hc
    refine jx_iconst C dX8_common_78 ?_
    exact jx_rI C hr hlk hAe hS hQQ () hP h dX8_common_79
  · have h := h.2.2 hc
    refine lv_iload_n hx hb dX8_common_68 rfl (lv_at hl 0 rfl) ?_
    refine jx_zle C h.1 (tgt := 78) dX8_common_69 (by decide) (fun hc => ?_) (fun hc => ?_)
    · have h := h.2.1 hc
      refine jx_iconst C dX8_common_78 ?_
      exact jx_rI C hr hlk hAe hS hQQ () hP h dX8_common_79
    · have h := h.2.2 hc
      refine lv_iload_n hx hb dX8_common_72 rfl (lv_at hl 1 rfl) ?_
      refine lv_iload_n hx hb dX8_common_73 rfl (lv_at hl 0 rfl) ?_
      refine jx_imul C dX8_common_74 ?_
      refine lv_goto (tgt := 79) hx hb dX8_common_75 (by decide) ?_
      exact jx_rI C hr hlk hAe hS hQQ () hP h dX8_common_79
set_option maxRecDepth 100000 in
set_option maxHeartbeats 4000000 in
theorem ct_M_widens_two (l : Launch) (D : va_G) (cI cT : ClassId) (aM : Nat → Nat) (Q : jx_St → Prop) (sM : jx_St) (l2 : Int) (l3 : Int) (h : wp_M_widens_two Q sM l2 l3) : jx_KV jx_St l D cI cT yX8_widens cX8_widens 6 1 23 [.ref (aM 0), .ref (aM 8), .int (jx_i l2), .int (jx_i l3)] [(cp_M aM, sM)] (fun u => [(cp_M aM, u)]) Q := by
  refine jx_ent (own := RX8) (by decide) rfl (Nat.le_of_ble_eq_true rfl) ?_
  intro p e s m args below meth c A QQ C hr hlk hK hAe hA hP hD hS ls hl hQQ
  have hl : lv_has ls 6 [(0, .ref (aM 0)), (1, .ref (aM 8)), (2, .int (jx_i l2)), (3, .int (jx_i l3))] := hl
  have hx := C.1
  have hb := C.2.1
  unfold wp_M_widens_two at h
  have Lo3 : ∀ (n : Nat) (sM : jx_St) (l4 : Int), jx_it (fun B3 v => wp_M_widens_two_3 Q l2 l3 B3 v.1 v.2) n (sM, l4) → ∀ (H : Heap) (locs : List Loc), va_P D vwCl (jx_ws cI cT [(cp_M aM, sM)]) H → va_D A (jx_ws cI cT [(cp_M aM, sM)]) → va_S A s.heap H locs → ∀ ls : Array Slot, lv_has ls 6 [(0, .ref (aM 0)), (1, .ref (aM 8)), (2, .int (jx_i l2)), (3, .int (jx_i l3)), (4, .int (jx_i l4))] → W p l e (jx_rm 1 23) s m args below meth c H locs 0 0 QQ (F0 m 3 ls []) := by
    intro n
    induction n with
    | zero =>
      intro sM l4 h
      exact (show False from h).elim
    | succ n ih =>
      intro sM l4 h H locs hP hD hS ls hl
      have h : wp_M_widens_two_3 Q l2 l3 (jx_it (fun B3 v => wp_M_widens_two_3 Q l2 l3 B3 v.1 v.2) n) sM l4 := h
      have ih := fun sM l4 h => ih sM l4 h
      generalize jx_it (fun B3 v => wp_M_widens_two_3 Q l2 l3 B3 v.1 v.2) n = B3 at h ih
      unfold wp_M_widens_two_3 at h
      have J49 : ∀ (sM : jx_St) (l4 : Int) (t1 : Int) (t2 : Int), wp_M_widens_two_49 Q l2 l3 B3 sM l4 t1 t2 → ∀ (H : Heap) (locs : List Loc), va_P D vwCl (jx_ws cI cT [(cp_M aM, sM)]) H → va_D A (jx_ws cI cT [(cp_M aM, sM)]) → va_S A s.heap H locs → ∀ ls : Array Slot, lv_has ls 6 [(0, .ref (aM 0)), (1, .ref (aM 8)), (2, .int (jx_i l2)), (3, .int (jx_i l3)), (4, .int (jx_i l4))] → W p l e (jx_rm 1 23) s m args below meth c H locs 0 0 QQ (F0 m 49 ls [.int (jx_i t2), .int (jx_i t1), .ref (aM 8)]) := by
        intro sM l4 t1 t2 h H locs hP hD hS ls hl
        unfold wp_M_widens_two_49 at h
        refine jx_iast C hK hP hD hS 0 8 rfl rfl rfl rfl h.1 rfl dX8_widens_49 (fun H locs hP hD hS => ?_)
        have h := h.2
        have hP : va_P D vwCl (jx_ws cI cT [(cp_M aM, (jx_su sM 10 t1 t2))]) H := hP
        have hD : va_D A (jx_ws cI cT [(cp_M aM, (jx_su sM 10 t1 t2))]) := hD
        refine jx_iinc C (lv' := [(4, .int (jx_i (l4 + 1))), (0, .ref (aM 0)), (1, .ref (aM 8)), (2, .int (jx_i l2)), (3, .int (jx_i l3))]) dX8_widens_50 hl (k := 4) rfl (by decide) rfl (fun ls hl => ?_)
        refine lv_goto (tgt := 3) hx hb dX8_widens_53 (by decide) ?_
        exact ih (jx_su sM 10 t1 t2) (l4 + 1) h _ _ hP hD hS ls (lv_sub hl [1, 2, 3, 4, 0] rfl)
      refine lv_iload hx hb dX8_widens_3 (lv_at hl 4 rfl) ?_
      refine jx_iconst C dX8_widens_5 ?_
      refine jx_cge C h.1 (jx_inR (by decide) (by decide)) (tgt := 56) dX8_widens_6 (by decide) (fun hc => ?_) (fun hc => ?_)
      · have h := h.2.2 hc
        exact jx_rV C hr hlk hAe hS hQQ sM hP h dX8_widens_56
      · have h := h.2.1 hc
        refine lv_aload_n hx hb dX8_widens_9 rfl (lv_at hl 0 rfl) ?_
        refine lv_iload_n hx hb dX8_widens_10 rfl (lv_at hl 2 rfl) ?_
        refine lv_iload_n hx hb dX8_widens_11 rfl (lv_at hl 3 rfl) ?_
        refine lv_iload hx hb dX8_widens_12 (lv_at hl 4 rfl) ?_
        refine jx_callVI C hK hP hD hS hA (ct_M_side l D cI cT aM _ sM l2 l3 l4 h) ms_X8_side lk_X8_92 [0] rfl rfl (fun _ => rfl) (cs' := (fun _ => [(cp_M aM, sM)])) (fun _ => rfl) (fun _ => rfl) 0 0 rfl rfl rfl rfl rfl hl.1 rfl rfl dX8_widens_14 ⟨Nat.le_refl _, Nat.le_refl _⟩ (fun r14 _ H locs h hP hD hS => ?_)
        have hP : va_P D vwCl (jx_ws cI cT [(cp_M aM, sM)]) H := hP
        have hD : va_D A (jx_ws cI cT [(cp_M aM, sM)]) := hD
        refine lv_istore (lv' := [(5, .int (jx_i r14)), (0, .ref (aM 0)), (1, .ref (aM 8)), (2, .int (jx_i l2)), (3, .int (jx_i l3)), (4, .int (jx_i l4))]) hx hb dX8_widens_17 hl (by decide) rfl (fun ls hl => ?_)
        refine lv_aload_n hx hb dX8_widens_19 rfl (lv_at hl 2 rfl) ?_
        refine lv_iload hx hb dX8_widens_20 (lv_at hl 5 rfl) ?_
        refine lv_iload hx hb dX8_widens_22 (lv_at hl 5 rfl) ?_
        refine jx_iconst C dX8_widens_24 ?_
        refine jx_cge C h.1 (jx_inR (by decide) (by decide)) (tgt := 40) dX8_widens_25 (by decide) (fun hc => ?_) (fun hc => ?_)
        · have h := h.2.2 hc
          refine lv_aload_n hx hb dX8_widens_40 rfl (lv_at hl 2 rfl) ?_
          refine lv_iload hx hb dX8_widens_41 (lv_at hl 5 rfl) ?_
          refine jx_iald C hK hP 0 8 rfl rfl rfl h.1 dX8_widens_43 ?_
          have h := h.2
          refine lv_iload hx hb dX8_widens_44 (lv_at hl 0 rfl) ?_
          refine jx_callSI C hK hP hD hS hA (ct_M_most l D cI cT  _  (sM 10 l4) r14 h) ms_X8_most lk_X8_99 [] rfl rfl (fun _ => rfl) (cs' := (fun _ => [(cp_M aM, sM)])) (fun _ => rfl) (fun _ => rfl) rfl rfl hl.1 rfl rfl dX8_widens_46 ⟨Nat.le_refl _, Nat.le_refl _⟩ (fun r46 _ H locs h hP hD hS => ?_)
          have hP : va_P D vwCl (jx_ws cI cT [(cp_M aM, sM)]) H := hP
          have hD : va_D A (jx_ws cI cT [(cp_M aM, sM)]) := hD
          exact J49 sM l4 l4 r46 h _ _ hP hD hS ls (lv_sub hl [1, 2, 3, 4, 5] rfl)
        · have h := h.2.1 hc
          refine lv_aload_n hx hb dX8_widens_28 rfl (lv_at hl 2 rfl) ?_
          refine lv_iload hx hb dX8_widens_29 (lv_at hl 5 rfl) ?_
          refine jx_iald C hK hP 0 8 rfl rfl rfl h.1 dX8_widens_31 ?_
          have h := h.2
          refine lv_iload hx hb dX8_widens_32 (lv_at hl 0 rfl) ?_
          refine jx_callSI C hK hP hD hS hA (ct_M_least l D cI cT  _  (sM 10 l4) r14 h) ms_X8_least lk_X8_96 [] rfl rfl (fun _ => rfl) (cs' := (fun _ => [(cp_M aM, sM)])) (fun _ => rfl) (fun _ => rfl) rfl rfl hl.1 rfl rfl dX8_widens_34 ⟨Nat.le_refl _, Nat.le_refl _⟩ (fun r34 _ H locs h hP hD hS => ?_)
          have hP : va_P D vwCl (jx_ws cI cT [(cp_M aM, sM)]) H := hP
          have hD : va_D A (jx_ws cI cT [(cp_M aM, sM)]) := hD
          refine lv_goto (tgt := 49) hx hb dX8_widens_37 (by decide) ?_
          exact J49 sM l4 l4 r34 h _ _ hP hD hS ls (lv_sub hl [1, 2, 3, 4, 5] rfl)
  refine jx_iconst C dX8_widens_0 ?_
  refine lv_istore (lv' := [(4, .int (jx_i 0)), (0, .ref (aM 0)), (1, .ref (aM 8)), (2, .int (jx_i l2)), (3, .int (jx_i l3))]) hx hb dX8_widens_1 hl (by decide) rfl (fun ls hl => ?_)
  obtain ⟨n, h⟩ := h
  refine Lo3 n sM 0 h _ _ hP hD hS ls (lv_sub hl [1, 2, 3, 4, 0] rfl)
set_option maxRecDepth 100000 in
set_option maxHeartbeats 4000000 in
theorem ct_M_widens_one (l : Launch) (D : va_G) (cI cT : ClassId) (aM : Nat → Nat) (Q : jx_St → Prop) (sM : jx_St) (l2 : Int) (l3 : Int) (h : wp_M_widens_one Q sM l2 l3) : jx_KV jx_St l D cI cT yX8_widens cX8_widens 6 1 23 [.ref (aM 0), .ref (aM 7), .int (jx_i l2), .int (jx_i l3)] [(cp_M aM, sM)] (fun u => [(cp_M aM, u)]) Q := by
  refine jx_ent (own := RX8) (by decide) rfl (Nat.le_of_ble_eq_true rfl) ?_
  intro p e s m args below meth c A QQ C hr hlk hK hAe hA hP hD hS ls hl hQQ
  have hl : lv_has ls 6 [(0, .ref (aM 0)), (1, .ref (aM 7)), (2, .int (jx_i l2)), (3, .int (jx_i l3))] := hl
  have hx := C.1
  have hb := C.2.1
  unfold wp_M_widens_one at h
  have Lo3 : ∀ (n : Nat) (sM : jx_St) (l4 : Int), jx_it (fun B3 v => wp_M_widens_one_3 Q l2 l3 B3 v.1 v.2) n (sM, l4) → ∀ (H : Heap) (locs : List Loc), va_P D vwCl (jx_ws cI cT [(cp_M aM, sM)]) H → va_D A (jx_ws cI cT [(cp_M aM, sM)]) → va_S A s.heap H locs → ∀ ls : Array Slot, lv_has ls 6 [(0, .ref (aM 0)), (1, .ref (aM 7)), (2, .int (jx_i l2)), (3, .int (jx_i l3)), (4, .int (jx_i l4))] → W p l e (jx_rm 1 23) s m args below meth c H locs 0 0 QQ (F0 m 3 ls []) := by
    intro n
    induction n with
    | zero =>
      intro sM l4 h
      exact (show False from h).elim
    | succ n ih =>
      intro sM l4 h H locs hP hD hS ls hl
      have h : wp_M_widens_one_3 Q l2 l3 (jx_it (fun B3 v => wp_M_widens_one_3 Q l2 l3 B3 v.1 v.2) n) sM l4 := h
      have ih := fun sM l4 h => ih sM l4 h
      generalize jx_it (fun B3 v => wp_M_widens_one_3 Q l2 l3 B3 v.1 v.2) n = B3 at h ih
      unfold wp_M_widens_one_3 at h
      have J49 : ∀ (sM : jx_St) (l4 : Int) (t1 : Int) (t2 : Int), wp_M_widens_one_49 Q l2 l3 B3 sM l4 t1 t2 → ∀ (H : Heap) (locs : List Loc), va_P D vwCl (jx_ws cI cT [(cp_M aM, sM)]) H → va_D A (jx_ws cI cT [(cp_M aM, sM)]) → va_S A s.heap H locs → ∀ ls : Array Slot, lv_has ls 6 [(0, .ref (aM 0)), (1, .ref (aM 7)), (2, .int (jx_i l2)), (3, .int (jx_i l3)), (4, .int (jx_i l4))] → W p l e (jx_rm 1 23) s m args below meth c H locs 0 0 QQ (F0 m 49 ls [.int (jx_i t2), .int (jx_i t1), .ref (aM 7)]) := by
        intro sM l4 t1 t2 h H locs hP hD hS ls hl
        unfold wp_M_widens_one_49 at h
        refine jx_iast C hK hP hD hS 0 7 rfl rfl rfl rfl h.1 rfl dX8_widens_49 (fun H locs hP hD hS => ?_)
        have h := h.2
        have hP : va_P D vwCl (jx_ws cI cT [(cp_M aM, (jx_su sM 9 t1 t2))]) H := hP
        have hD : va_D A (jx_ws cI cT [(cp_M aM, (jx_su sM 9 t1 t2))]) := hD
        refine jx_iinc C (lv' := [(4, .int (jx_i (l4 + 1))), (0, .ref (aM 0)), (1, .ref (aM 7)), (2, .int (jx_i l2)), (3, .int (jx_i l3))]) dX8_widens_50 hl (k := 4) rfl (by decide) rfl (fun ls hl => ?_)
        refine lv_goto (tgt := 3) hx hb dX8_widens_53 (by decide) ?_
        exact ih (jx_su sM 9 t1 t2) (l4 + 1) h _ _ hP hD hS ls (lv_sub hl [1, 2, 3, 4, 0] rfl)
      refine lv_iload hx hb dX8_widens_3 (lv_at hl 4 rfl) ?_
      refine jx_iconst C dX8_widens_5 ?_
      refine jx_cge C h.1 (jx_inR (by decide) (by decide)) (tgt := 56) dX8_widens_6 (by decide) (fun hc => ?_) (fun hc => ?_)
      · have h := h.2.2 hc
        exact jx_rV C hr hlk hAe hS hQQ sM hP h dX8_widens_56
      · have h := h.2.1 hc
        refine lv_aload_n hx hb dX8_widens_9 rfl (lv_at hl 0 rfl) ?_
        refine lv_iload_n hx hb dX8_widens_10 rfl (lv_at hl 2 rfl) ?_
        refine lv_iload_n hx hb dX8_widens_11 rfl (lv_at hl 3 rfl) ?_
        refine lv_iload hx hb dX8_widens_12 (lv_at hl 4 rfl) ?_
        refine jx_callVI C hK hP hD hS hA (ct_M_side l D cI cT aM _ sM l2 l3 l4 h) ms_X8_side lk_X8_92 [0] rfl rfl (fun _ => rfl) (cs' := (fun _ => [(cp_M aM, sM)])) (fun _ => rfl) (fun _ => rfl) 0 0 rfl rfl rfl rfl rfl hl.1 rfl rfl dX8_widens_14 ⟨Nat.le_refl _, Nat.le_refl _⟩ (fun r14 _ H locs h hP hD hS => ?_)
        have hP : va_P D vwCl (jx_ws cI cT [(cp_M aM, sM)]) H := hP
        have hD : va_D A (jx_ws cI cT [(cp_M aM, sM)]) := hD
        refine lv_istore (lv' := [(5, .int (jx_i r14)), (0, .ref (aM 0)), (1, .ref (aM 7)), (2, .int (jx_i l2)), (3, .int (jx_i l3)), (4, .int (jx_i l4))]) hx hb dX8_widens_17 hl (by decide) rfl (fun ls hl => ?_)
        refine lv_aload_n hx hb dX8_widens_19 rfl (lv_at hl 2 rfl) ?_
        refine lv_iload hx hb dX8_widens_20 (lv_at hl 5 rfl) ?_
        refine lv_iload hx hb dX8_widens_22 (lv_at hl 5 rfl) ?_
        refine jx_iconst C dX8_widens_24 ?_
        refine jx_cge C h.1 (jx_inR (by decide) (by decide)) (tgt := 40) dX8_widens_25 (by decide) (fun hc => ?_) (fun hc => ?_)
        · have h := h.2.2 hc
          refine lv_aload_n hx hb dX8_widens_40 rfl (lv_at hl 2 rfl) ?_
          refine lv_iload hx hb dX8_widens_41 (lv_at hl 5 rfl) ?_
          refine jx_iald C hK hP 0 7 rfl rfl rfl h.1 dX8_widens_43 ?_
          have h := h.2
          refine lv_iload hx hb dX8_widens_44 (lv_at hl 0 rfl) ?_
          refine jx_callSI C hK hP hD hS hA (ct_M_most l D cI cT  _  (sM 9 l4) r14 h) ms_X8_most lk_X8_99 [] rfl rfl (fun _ => rfl) (cs' := (fun _ => [(cp_M aM, sM)])) (fun _ => rfl) (fun _ => rfl) rfl rfl hl.1 rfl rfl dX8_widens_46 ⟨Nat.le_refl _, Nat.le_refl _⟩ (fun r46 _ H locs h hP hD hS => ?_)
          have hP : va_P D vwCl (jx_ws cI cT [(cp_M aM, sM)]) H := hP
          have hD : va_D A (jx_ws cI cT [(cp_M aM, sM)]) := hD
          exact J49 sM l4 l4 r46 h _ _ hP hD hS ls (lv_sub hl [1, 2, 3, 4, 5] rfl)
        · have h := h.2.1 hc
          refine lv_aload_n hx hb dX8_widens_28 rfl (lv_at hl 2 rfl) ?_
          refine lv_iload hx hb dX8_widens_29 (lv_at hl 5 rfl) ?_
          refine jx_iald C hK hP 0 7 rfl rfl rfl h.1 dX8_widens_31 ?_
          have h := h.2
          refine lv_iload hx hb dX8_widens_32 (lv_at hl 0 rfl) ?_
          refine jx_callSI C hK hP hD hS hA (ct_M_least l D cI cT  _  (sM 9 l4) r14 h) ms_X8_least lk_X8_96 [] rfl rfl (fun _ => rfl) (cs' := (fun _ => [(cp_M aM, sM)])) (fun _ => rfl) (fun _ => rfl) rfl rfl hl.1 rfl rfl dX8_widens_34 ⟨Nat.le_refl _, Nat.le_refl _⟩ (fun r34 _ H locs h hP hD hS => ?_)
          have hP : va_P D vwCl (jx_ws cI cT [(cp_M aM, sM)]) H := hP
          have hD : va_D A (jx_ws cI cT [(cp_M aM, sM)]) := hD
          refine lv_goto (tgt := 49) hx hb dX8_widens_37 (by decide) ?_
          exact J49 sM l4 l4 r34 h _ _ hP hD hS ls (lv_sub hl [1, 2, 3, 4, 5] rfl)
  refine jx_iconst C dX8_widens_0 ?_
  refine lv_istore (lv' := [(4, .int (jx_i 0)), (0, .ref (aM 0)), (1, .ref (aM 7)), (2, .int (jx_i l2)), (3, .int (jx_i l3))]) hx hb dX8_widens_1 hl (by decide) rfl (fun ls hl => ?_)
  obtain ⟨n, h⟩ := h
  refine Lo3 n sM 0 h _ _ hP hD hS ls (lv_sub hl [1, 2, 3, 4, 0] rfl)
set_option maxRecDepth 100000 in
set_option maxHeartbeats 4000000 in
theorem ct_M_splits (l : Launch) (D : va_G) (cI cT : ClassId) (aM : Nat → Nat) (Q : Int → jx_St → Prop) (sM : jx_St) (l1 : Int) (h : wp_M_splits Q sM l1) : jx_KI jx_St l D cI cT yX8_splits cX8_splits 11 .int 3 72 [.ref (aM 0), .int (jx_i l1)] [(cp_M aM, sM)] (fun u => [(cp_M aM, u)]) Q := by
  refine jx_ent (own := RX8) (by decide) rfl (Nat.le_of_ble_eq_true rfl) ?_
  intro p e s m args below meth c A QQ C hr hlk hK hAe hA hP hD hS ls hl hQQ
  have hl : lv_has ls 11 [(0, .ref (aM 0)), (1, .int (jx_i l1))] := hl
  have hx := C.1
  have hb := C.2.1
  unfold wp_M_splits at h
  have Lo21 : ∀ (l2 : Int) (K215 : jx_St × Int → Prop) (n : Nat) (sM : jx_St) (l3 : Int) (l4 : Int) (l5 : Int) (l6 : Int), jx_it (fun B21 v => wp_M_splits_21 Q l1 K215 l2 B21 v.1 v.2.1 v.2.2.1 v.2.2.2.1 v.2.2.2.2) n (sM, l3, l4, l5, l6) → (∀ (sM : jx_St) (l3 : Int), K215 (sM, l3) → ∀ (H : Heap) (locs : List Loc), va_P D vwCl (jx_ws cI cT [(cp_M aM, sM)]) H → va_D A (jx_ws cI cT [(cp_M aM, sM)]) → va_S A s.heap H locs → ∀ ls : Array Slot, lv_has ls 11 [(0, .ref (aM 0)), (1, .int (jx_i l1)), (2, .int (jx_i l2)), (3, .int (jx_i l3))] → W p l e (jx_rm 3 72) s m args below meth c H locs 0 0 QQ (F0 m 215 ls [])) → ∀ (H : Heap) (locs : List Loc), va_P D vwCl (jx_ws cI cT [(cp_M aM, sM)]) H → va_D A (jx_ws cI cT [(cp_M aM, sM)]) → va_S A s.heap H locs → ∀ ls : Array Slot, lv_has ls 11 [(0, .ref (aM 0)), (1, .int (jx_i l1)), (2, .int (jx_i l2)), (3, .int (jx_i l3)), (4, .int (jx_i l4)), (5, .int (jx_i l5)), (6, .int (jx_i l6))] → W p l e (jx_rm 3 72) s m args below meth c H locs 0 0 QQ (F0 m 21 ls []) := by
    intro l2 K215 n
    induction n with
    | zero =>
      intro sM l3 l4 l5 l6 h
      exact (show False from h).elim
    | succ n ih =>
      intro sM l3 l4 l5 l6 h K215E H locs hP hD hS ls hl
      have h : wp_M_splits_21 Q l1 K215 l2 (jx_it (fun B21 v => wp_M_splits_21 Q l1 K215 l2 B21 v.1 v.2.1 v.2.2.1 v.2.2.2.1 v.2.2.2.2) n) sM l3 l4 l5 l6 := h
      have ih := fun sM l3 l4 l5 l6 h => ih sM l3 l4 l5 l6 h K215E
      generalize jx_it (fun B21 v => wp_M_splits_21 Q l1 K215 l2 B21 v.1 v.2.1 v.2.2.1 v.2.2.2.1 v.2.2.2.2) n = B21 at h ih
      unfold wp_M_splits_21 at h
      have Lo78 : ∀ (l2 : Int) (l3 : Int) (l4 : Int) (l5 : Int) (l6 : Int) (l7 : Int) (K120 : jx_St → Prop) (n : Nat) (sM : jx_St) (l8 : Int), jx_it (fun B78 v => wp_M_splits_78 Q l1 K120 l2 l3 l4 l5 l6 l7 B78 v.1 v.2) n (sM, l8) → (∀ (sM : jx_St), K120 sM → ∀ (H : Heap) (locs : List Loc), va_P D vwCl (jx_ws cI cT [(cp_M aM, sM)]) H → va_D A (jx_ws cI cT [(cp_M aM, sM)]) → va_S A s.heap H locs → ∀ ls : Array Slot, lv_has ls 11 [(0, .ref (aM 0)), (1, .int (jx_i l1)), (2, .int (jx_i l2)), (3, .int (jx_i l3)), (4, .int (jx_i l4)), (5, .int (jx_i l5)), (6, .int (jx_i l6)), (7, .int (jx_i l7))] → W p l e (jx_rm 3 72) s m args below meth c H locs 0 0 QQ (F0 m 120 ls [])) → ∀ (H : Heap) (locs : List Loc), va_P D vwCl (jx_ws cI cT [(cp_M aM, sM)]) H → va_D A (jx_ws cI cT [(cp_M aM, sM)]) → va_S A s.heap H locs → ∀ ls : Array Slot, lv_has ls 11 [(0, .ref (aM 0)), (1, .int (jx_i l1)), (2, .int (jx_i l2)), (3, .int (jx_i l3)), (4, .int (jx_i l4)), (5, .int (jx_i l5)), (6, .int (jx_i l6)), (7, .int (jx_i l7)), (8, .int (jx_i l8))] → W p l e (jx_rm 3 72) s m args below meth c H locs 0 0 QQ (F0 m 78 ls []) := by
        intro l2 l3 l4 l5 l6 l7 K120 n
        induction n with
        | zero =>
          intro sM l8 h
          exact (show False from h).elim
        | succ n ih =>
          intro sM l8 h K120E H locs hP hD hS ls hl
          have h : wp_M_splits_78 Q l1 K120 l2 l3 l4 l5 l6 l7 (jx_it (fun B78 v => wp_M_splits_78 Q l1 K120 l2 l3 l4 l5 l6 l7 B78 v.1 v.2) n) sM l8 := h
          have ih := fun sM l8 h => ih sM l8 h K120E
          generalize jx_it (fun B78 v => wp_M_splits_78 Q l1 K120 l2 l3 l4 l5 l6 l7 B78 v.1 v.2) n = B78 at h ih
          unfold wp_M_splits_78 at h
          have J103 : ∀ (sM : jx_St) (l8 : Int), wp_M_splits_103 Q l1 B78 K120 sM l2 l3 l4 l5 l6 l7 l8 → ∀ (H : Heap) (locs : List Loc), va_P D vwCl (jx_ws cI cT [(cp_M aM, sM)]) H → va_D A (jx_ws cI cT [(cp_M aM, sM)]) → va_S A s.heap H locs → ∀ ls : Array Slot, lv_has ls 11 [(0, .ref (aM 0)), (1, .int (jx_i l1)), (2, .int (jx_i l2)), (3, .int (jx_i l3)), (4, .int (jx_i l4)), (5, .int (jx_i l5)), (6, .int (jx_i l6)), (7, .int (jx_i l7)), (8, .int (jx_i l8))] → W p l e (jx_rm 3 72) s m args below meth c H locs 0 0 QQ (F0 m 103 ls [.ref (aM 8), .ref (aM 0)]) := by
            intro sM l8 h H locs hP hD hS ls hl
            unfold wp_M_splits_103 at h
            refine lv_aload_n hx hb dX8_splits_103 rfl (lv_at hl 0 rfl) ?_
            refine jx_getR C hK hP 0 0 21 rfl rfl rfl fl_X8_52 dX8_splits_104 ?_
            refine lv_iload hx hb dX8_splits_107 (lv_at hl 8 rfl) ?_
            refine jx_iald C hK hP 0 15 rfl rfl rfl h.1 dX8_splits_109 ?_
            have h := h.2
            refine lv_iload_n hx hb dX8_splits_110 rfl (lv_at hl 2 rfl) ?_
            refine jx_callVV C hK hP hD hS hA (ct_M_widens_two l D cI cT aM _ sM (sM 21 l8) l2 h) ms_X8_widens lk_X8_120 [0] rfl rfl (fun _ => rfl) (cs' := (fun u => [(cp_M aM, u)])) (fun _ => rfl) (fun _ => rfl) 0 0 rfl rfl rfl rfl rfl hl.1 rfl rfl dX8_splits_111 ⟨Nat.le_refl _, Nat.le_refl _⟩ (fun sM_111 H locs h hP hD hS => ?_)
            have hP : va_P D vwCl (jx_ws cI cT [(cp_M aM, sM_111)]) H := hP
            have hD : va_D A (jx_ws cI cT [(cp_M aM, sM_111)]) := hD
            refine jx_iinc C (lv' := [(8, .int (jx_i (l8 + 1))), (0, .ref (aM 0)), (1, .int (jx_i l1)), (2, .int (jx_i l2)), (3, .int (jx_i l3)), (4, .int (jx_i l4)), (5, .int (jx_i l5)), (6, .int (jx_i l6)), (7, .int (jx_i l7))]) dX8_splits_114 hl (k := 8) rfl (by decide) rfl (fun ls hl => ?_)
            refine lv_goto (tgt := 78) hx hb dX8_splits_117 (by decide) ?_
            exact ih sM_111 (l8 + 1) h _ _ hP hD hS ls (lv_sub hl [1, 2, 3, 4, 5, 6, 7, 8, 0] rfl)
          have J103_1 : ∀ (sM : jx_St) (l8 : Int), wp_M_splits_103_1 Q l1 B78 K120 sM l2 l3 l4 l5 l6 l7 l8 → ∀ (H : Heap) (locs : List Loc), va_P D vwCl (jx_ws cI cT [(cp_M aM, sM)]) H → va_D A (jx_ws cI cT [(cp_M aM, sM)]) → va_S A s.heap H locs → ∀ ls : Array Slot, lv_has ls 11 [(0, .ref (aM 0)), (1, .int (jx_i l1)), (2, .int (jx_i l2)), (3, .int (jx_i l3)), (4, .int (jx_i l4)), (5, .int (jx_i l5)), (6, .int (jx_i l6)), (7, .int (jx_i l7)), (8, .int (jx_i l8))] → W p l e (jx_rm 3 72) s m args below meth c H locs 0 0 QQ (F0 m 103 ls [.ref (aM 7), .ref (aM 0)]) := by
            intro sM l8 h H locs hP hD hS ls hl
            unfold wp_M_splits_103_1 at h
            refine lv_aload_n hx hb dX8_splits_103 rfl (lv_at hl 0 rfl) ?_
            refine jx_getR C hK hP 0 0 21 rfl rfl rfl fl_X8_52 dX8_splits_104 ?_
            refine lv_iload hx hb dX8_splits_107 (lv_at hl 8 rfl) ?_
            refine jx_iald C hK hP 0 15 rfl rfl rfl h.1 dX8_splits_109 ?_
            have h := h.2
            refine lv_iload_n hx hb dX8_splits_110 rfl (lv_at hl 2 rfl) ?_
            refine jx_callVV C hK hP hD hS hA (ct_M_widens_one l D cI cT aM _ sM (sM 21 l8) l2 h) ms_X8_widens lk_X8_120 [0] rfl rfl (fun _ => rfl) (cs' := (fun u => [(cp_M aM, u)])) (fun _ => rfl) (fun _ => rfl) 0 0 rfl rfl rfl rfl rfl hl.1 rfl rfl dX8_splits_111 ⟨Nat.le_refl _, Nat.le_refl _⟩ (fun sM_111 H locs h hP hD hS => ?_)
            have hP : va_P D vwCl (jx_ws cI cT [(cp_M aM, sM_111)]) H := hP
            have hD : va_D A (jx_ws cI cT [(cp_M aM, sM_111)]) := hD
            refine jx_iinc C (lv' := [(8, .int (jx_i (l8 + 1))), (0, .ref (aM 0)), (1, .int (jx_i l1)), (2, .int (jx_i l2)), (3, .int (jx_i l3)), (4, .int (jx_i l4)), (5, .int (jx_i l5)), (6, .int (jx_i l6)), (7, .int (jx_i l7))]) dX8_splits_114 hl (k := 8) rfl (by decide) rfl (fun ls hl => ?_)
            refine lv_goto (tgt := 78) hx hb dX8_splits_117 (by decide) ?_
            exact ih sM_111 (l8 + 1) h _ _ hP hD hS ls (lv_sub hl [1, 2, 3, 4, 5, 6, 7, 8, 0] rfl)
          refine lv_iload hx hb dX8_splits_78 (lv_at hl 8 rfl) ?_
          refine jx_iconst C dX8_splits_80 ?_
          refine jx_cge C h.1 (jx_inR (by decide) (by decide)) (tgt := 120) dX8_splits_81 (by decide) (fun hc => ?_) (fun hc => ?_)
          · have h := h.2.2 hc
            exact K120E sM h _ _ hP hD hS ls (lv_sub hl [0, 1, 2, 3, 4, 5, 6, 7] rfl)
          · have h := h.2.1 hc
            refine lv_aload_n hx hb dX8_splits_84 rfl (lv_at hl 0 rfl) ?_
            refine lv_iload hx hb dX8_splits_85 (lv_at hl 8 rfl) ?_
            refine lv_iload hx hb dX8_splits_87 (lv_at hl 7 rfl) ?_
            refine jx_cge C h.1 h.2.1 (tgt := 99) dX8_splits_89 (by decide) (fun hc => ?_) (fun hc => ?_)
            · have h := h.2.2.2 hc
              refine lv_aload_n hx hb dX8_splits_99 rfl (lv_at hl 0 rfl) ?_
              refine jx_getR C hK hP 0 0 10 rfl rfl rfl fl_X8_31 dX8_splits_100 ?_
              exact J103 sM l8 h _ _ hP hD hS ls (lv_sub hl [0, 1, 2, 3, 4, 5, 6, 7, 8] rfl)
            · have h := h.2.2.1 hc
              refine lv_aload_n hx hb dX8_splits_92 rfl (lv_at hl 0 rfl) ?_
              refine jx_getR C hK hP 0 0 9 rfl rfl rfl fl_X8_28 dX8_splits_93 ?_
              refine lv_goto (tgt := 103) hx hb dX8_splits_96 (by decide) ?_
              exact J103_1 sM l8 h _ _ hP hD hS ls (lv_sub hl [0, 1, 2, 3, 4, 5, 6, 7, 8] rfl)
      have Lo183 : ∀ (l2 : Int) (l3 : Int) (l4 : Int) (l5 : Int) (l6 : Int) (K209 : jx_St → Prop) (n : Nat) (sM : jx_St) (l10 : Int), jx_it (fun B183 v => wp_M_splits_183 Q l1 K209 l2 l3 l4 l5 l6 B183 v.1 v.2) n (sM, l10) → (∀ (sM : jx_St), K209 sM → ∀ (H : Heap) (locs : List Loc), va_P D vwCl (jx_ws cI cT [(cp_M aM, sM)]) H → va_D A (jx_ws cI cT [(cp_M aM, sM)]) → va_S A s.heap H locs → ∀ ls : Array Slot, lv_has ls 11 [(0, .ref (aM 0)), (1, .int (jx_i l1)), (2, .int (jx_i l2)), (3, .int (jx_i l3)), (4, .int (jx_i l4)), (5, .int (jx_i l5)), (6, .int (jx_i l6))] → W p l e (jx_rm 3 72) s m args below meth c H locs 0 0 QQ (F0 m 209 ls [])) → ∀ (H : Heap) (locs : List Loc), va_P D vwCl (jx_ws cI cT [(cp_M aM, sM)]) H → va_D A (jx_ws cI cT [(cp_M aM, sM)]) → va_S A s.heap H locs → ∀ ls : Array Slot, lv_has ls 11 [(0, .ref (aM 0)), (1, .int (jx_i l1)), (2, .int (jx_i l2)), (3, .int (jx_i l3)), (4, .int (jx_i l4)), (5, .int (jx_i l5)), (6, .int (jx_i l6)), (10, .int (jx_i l10))] → W p l e (jx_rm 3 72) s m args below meth c H locs 0 0 QQ (F0 m 183 ls []) := by
        intro l2 l3 l4 l5 l6 K209 n
        induction n with
        | zero =>
          intro sM l10 h
          exact (show False from h).elim
        | succ n ih =>
          intro sM l10 h K209E H locs hP hD hS ls hl
          have h : wp_M_splits_183 Q l1 K209 l2 l3 l4 l5 l6 (jx_it (fun B183 v => wp_M_splits_183 Q l1 K209 l2 l3 l4 l5 l6 B183 v.1 v.2) n) sM l10 := h
          have ih := fun sM l10 h => ih sM l10 h K209E
          generalize jx_it (fun B183 v => wp_M_splits_183 Q l1 K209 l2 l3 l4 l5 l6 B183 v.1 v.2) n = B183 at h ih
          unfold wp_M_splits_183 at h
          refine lv_iload hx hb dX8_splits_183 (lv_at hl 7 rfl) ?_
          refine jx_iconst C dX8_splits_185 ?_
          refine jx_cge C h.1 (jx_inR (by decide) (by decide)) (tgt := 209) dX8_splits_186 (by decide) (fun hc => ?_) (fun hc => ?_)
          · have h := h.2.2 hc
            exact K209E sM h _ _ hP hD hS ls (lv_sub hl [0, 1, 2, 3, 4, 5, 6] rfl)
          · have h := h.2.1 hc
            refine lv_aload_n hx hb dX8_splits_189 rfl (lv_at hl 0 rfl) ?_
            refine jx_getR C hK hP 0 0 22 rfl rfl rfl fl_X8_55 dX8_splits_190 ?_
            refine lv_iload hx hb dX8_splits_193 (lv_at hl 7 rfl) ?_
            refine lv_aload_n hx hb dX8_splits_195 rfl (lv_at hl 0 rfl) ?_
            refine jx_getR C hK hP 0 0 21 rfl rfl rfl fl_X8_52 dX8_splits_196 ?_
            refine lv_iload hx hb dX8_splits_199 (lv_at hl 7 rfl) ?_
            refine jx_iald C hK hP 0 15 rfl rfl rfl h.1 dX8_splits_201 ?_
            have h := h.2
            refine jx_iast C hK hP hD hS 0 16 rfl rfl rfl rfl h.1 rfl dX8_splits_202 (fun H locs hP hD hS => ?_)
            have h := h.2
            have hP : va_P D vwCl (jx_ws cI cT [(cp_M aM, (jx_su sM 22 l10 (sM 21 l10)))]) H := hP
            have hD : va_D A (jx_ws cI cT [(cp_M aM, (jx_su sM 22 l10 (sM 21 l10)))]) := hD
            refine jx_iinc C (lv' := [(10, .int (jx_i (l10 + 1))), (0, .ref (aM 0)), (1, .int (jx_i l1)), (2, .int (jx_i l2)), (3, .int (jx_i l3)), (4, .int (jx_i l4)), (5, .int (jx_i l5)), (6, .int (jx_i l6))]) dX8_splits_203 hl (k := 7) rfl (by decide) rfl (fun ls hl => ?_)
            refine lv_goto (tgt := 183) hx hb dX8_splits_206 (by decide) ?_
            exact ih (jx_su sM 22 l10 (sM 21 l10)) (l10 + 1) h _ _ hP hD hS ls (lv_sub hl [1, 2, 3, 4, 5, 6, 7, 0] rfl)
      have J209 : ∀ (sM : jx_St) (l3 : Int) (l4 : Int) (l5 : Int) (l6 : Int), wp_M_splits_209 Q l1 B21 K215 sM l2 l3 l4 l5 l6 → ∀ (H : Heap) (locs : List Loc), va_P D vwCl (jx_ws cI cT [(cp_M aM, sM)]) H → va_D A (jx_ws cI cT [(cp_M aM, sM)]) → va_S A s.heap H locs → ∀ ls : Array Slot, lv_has ls 11 [(0, .ref (aM 0)), (1, .int (jx_i l1)), (2, .int (jx_i l2)), (3, .int (jx_i l3)), (4, .int (jx_i l4)), (5, .int (jx_i l5)), (6, .int (jx_i l6))] → W p l e (jx_rm 3 72) s m args below meth c H locs 0 0 QQ (F0 m 209 ls []) := by
        intro sM l3 l4 l5 l6 h H locs hP hD hS ls hl
        unfold wp_M_splits_209 at h
        refine jx_iinc C (lv' := [(6, .int (jx_i (l6 + 1))), (0, .ref (aM 0)), (1, .int (jx_i l1)), (2, .int (jx_i l2)), (3, .int (jx_i l3)), (4, .int (jx_i l4)), (5, .int (jx_i l5))]) dX8_splits_209 hl (k := 6) rfl (by decide) rfl (fun ls hl => ?_)
        refine lv_goto (tgt := 21) hx hb dX8_splits_212 (by decide) ?_
        exact ih sM l3 l4 l5 (l6 + 1) h _ _ hP hD hS ls (lv_sub hl [1, 2, 3, 4, 5, 6, 0] rfl)
      have J169 : ∀ (sM : jx_St) (l6 : Int) (l7 : Int) (l8 : Int) (l9 : Int), wp_M_splits_169 Q l1 B21 K215 sM l2 l6 l7 l8 l9 → ∀ (H : Heap) (locs : List Loc), va_P D vwCl (jx_ws cI cT [(cp_M aM, sM)]) H → va_D A (jx_ws cI cT [(cp_M aM, sM)]) → va_S A s.heap H locs → ∀ ls : Array Slot, lv_has ls 11 [(0, .ref (aM 0)), (1, .int (jx_i l1)), (2, .int (jx_i l2)), (6, .int (jx_i l6)), (7, .int (jx_i l7)), (8, .int (jx_i l8)), (9, .int (jx_i l9))] → W p l e (jx_rm 3 72) s m args below meth c H locs 0 0 QQ (F0 m 169 ls []) := by
        intro sM l6 l7 l8 l9 h H locs hP hD hS ls hl
        unfold wp_M_splits_169 at h
        refine lv_iload hx hb dX8_splits_169 (lv_at hl 4 rfl) ?_
        refine lv_istore_n (lv' := [(3, .int (jx_i l7)), (0, .ref (aM 0)), (1, .int (jx_i l1)), (2, .int (jx_i l2)), (6, .int (jx_i l6)), (7, .int (jx_i l7)), (8, .int (jx_i l8)), (9, .int (jx_i l9))]) hx hb dX8_splits_171 rfl hl (by decide) rfl (fun ls hl => ?_)
        refine lv_iload hx hb dX8_splits_172 (lv_at hl 6 rfl) ?_
        refine lv_istore (lv' := [(4, .int (jx_i l8)), (3, .int (jx_i l7)), (0, .ref (aM 0)), (1, .int (jx_i l1)), (2, .int (jx_i l2)), (6, .int (jx_i l6)), (7, .int (jx_i l7)), (8, .int (jx_i l8)), (9, .int (jx_i l9))]) hx hb dX8_splits_174 hl (by decide) rfl (fun ls hl => ?_)
        refine lv_iload hx hb dX8_splits_176 (lv_at hl 8 rfl) ?_
        refine lv_istore (lv' := [(5, .int (jx_i l9)), (4, .int (jx_i l8)), (3, .int (jx_i l7)), (0, .ref (aM 0)), (1, .int (jx_i l1)), (2, .int (jx_i l2)), (6, .int (jx_i l6)), (7, .int (jx_i l7)), (8, .int (jx_i l8)), (9, .int (jx_i l9))]) hx hb dX8_splits_178 hl (by decide) rfl (fun ls hl => ?_)
        refine jx_iconst C dX8_splits_180 ?_
        refine lv_istore (lv' := [(10, .int (jx_i 0)), (5, .int (jx_i l9)), (4, .int (jx_i l8)), (3, .int (jx_i l7)), (0, .ref (aM 0)), (1, .int (jx_i l1)), (2, .int (jx_i l2)), (6, .int (jx_i l6)), (7, .int (jx_i l7)), (8, .int (jx_i l8)), (9, .int (jx_i l9))]) hx hb dX8_splits_181 hl (by decide) rfl (fun ls hl => ?_)
        obtain ⟨n, h⟩ := h
        refine Lo183 l2 l7 l8 l9 l6 _ n sM 0 h ?_ _ _ hP hD hS ls (lv_sub hl [4, 5, 6, 3, 2, 1, 7, 0] rfl)
        · intro sM h H locs hP hD hS ls hl
          exact J209 sM l7 l8 l9 l6 h _ _ hP hD hS ls (lv_sub hl [0, 1, 2, 3, 4, 5, 6] rfl)
      have J120 : ∀ (sM : jx_St) (l3 : Int) (l4 : Int) (l5 : Int) (l6 : Int) (l7 : Int), wp_M_splits_120 Q l1 B21 K215 sM l2 l3 l4 l5 l6 l7 → ∀ (H : Heap) (locs : List Loc), va_P D vwCl (jx_ws cI cT [(cp_M aM, sM)]) H → va_D A (jx_ws cI cT [(cp_M aM, sM)]) → va_S A s.heap H locs → ∀ ls : Array Slot, lv_has ls 11 [(0, .ref (aM 0)), (1, .int (jx_i l1)), (2, .int (jx_i l2)), (3, .int (jx_i l3)), (4, .int (jx_i l4)), (5, .int (jx_i l5)), (6, .int (jx_i l6)), (7, .int (jx_i l7))] → W p l e (jx_rm 3 72) s m args below meth c H locs 0 0 QQ (F0 m 120 ls []) := by
        intro sM l3 l4 l5 l6 l7 h H locs hP hD hS ls hl
        unfold wp_M_splits_120 at h
        refine lv_aload_n hx hb dX8_splits_120 rfl (lv_at hl 0 rfl) ?_
        refine jx_callVI C hK hP hD hS hA (ct_M_common l D cI cT aM _ sM  h) ms_X8_common lk_X8_148 [0] rfl rfl (fun _ => rfl) (cs' := (fun _ => [(cp_M aM, sM)])) (fun _ => rfl) (fun _ => rfl) 0 0 rfl rfl rfl rfl rfl hl.1 rfl rfl dX8_splits_121 ⟨Nat.le_refl _, Nat.le_refl _⟩ (fun r121 _ H locs h hP hD hS => ?_)
        have hP : va_P D vwCl (jx_ws cI cT [(cp_M aM, sM)]) H := hP
        have hD : va_D A (jx_ws cI cT [(cp_M aM, sM)]) := hD
        refine lv_istore (lv' := [(8, .int (jx_i r121)), (0, .ref (aM 0)), (1, .int (jx_i l1)), (2, .int (jx_i l2)), (3, .int (jx_i l3)), (4, .int (jx_i l4)), (5, .int (jx_i l5)), (6, .int (jx_i l6)), (7, .int (jx_i l7))]) hx hb dX8_splits_124 hl (by decide) rfl (fun ls hl => ?_)
        refine lv_aload_n hx hb dX8_splits_126 rfl (lv_at hl 1 rfl) ?_
        refine jx_getR C hK hP 0 0 9 rfl rfl rfl fl_X8_28 dX8_splits_127 ?_
        refine jx_callArea C hK hP hD hS hA 0 7 rfl rfl rfl lk_X8_116 hl.1 rfl rfl dX8_splits_130 ⟨Nat.le_refl _, Nat.le_refl _⟩ (fun H locs hP hS => ?_)
        refine lv_aload_n hx hb dX8_splits_133 rfl (lv_at hl 1 rfl) ?_
        refine jx_getR C hK hP 0 0 10 rfl rfl rfl fl_X8_31 dX8_splits_134 ?_
        refine jx_callArea C hK hP hD hS hA 0 8 rfl rfl rfl lk_X8_116 hl.1 rfl rfl dX8_splits_137 ⟨Nat.le_refl _, Nat.le_refl _⟩ (fun H locs hP hS => ?_)
        refine jx_iadd C dX8_splits_140 ?_
        refine lv_istore (lv' := [(9, .int (jx_i ((jx_area (sM 9)) + (jx_area (sM 10))))), (8, .int (jx_i r121)), (0, .ref (aM 0)), (1, .int (jx_i l1)), (2, .int (jx_i l2)), (3, .int (jx_i l3)), (4, .int (jx_i l4)), (5, .int (jx_i l5)), (6, .int (jx_i l6)), (7, .int (jx_i l7))]) hx hb dX8_splits_141 hl (by decide) rfl (fun ls hl => ?_)
        refine lv_iload_n hx hb dX8_splits_143 rfl (lv_at hl 5 rfl) ?_
        refine jx_iconst C dX8_splits_144 ?_
        refine jx_ceq C h.1 (jx_inR (by decide) (by decide)) (tgt := 169) dX8_splits_145 (by decide) (fun hc => ?_) (fun hc => ?_)
        · have h := h.2.1 hc
          exact J169 sM l6 l7 r121 ((jx_area (sM 9)) + (jx_area (sM 10))) h _ _ hP hD hS ls (lv_sub hl [2, 3, 4, 8, 9, 1, 0] rfl)
        · have h := h.2.2 hc
          refine lv_iload hx hb dX8_splits_148 (lv_at hl 1 rfl) ?_
          refine lv_iload hx hb dX8_splits_150 (lv_at hl 6 rfl) ?_
          refine jx_clt C h.1 h.2.1 (tgt := 169) dX8_splits_152 (by decide) (fun hc => ?_) (fun hc => ?_)
          · have h := h.2.2.1 hc
            exact J169 sM l6 l7 r121 ((jx_area (sM 9)) + (jx_area (sM 10))) h _ _ hP hD hS ls (lv_sub hl [2, 3, 4, 8, 9, 1, 0] rfl)
          · have h := h.2.2.2 hc
            refine lv_iload hx hb dX8_splits_155 (lv_at hl 1 rfl) ?_
            refine lv_iload hx hb dX8_splits_157 (lv_at hl 6 rfl) ?_
            refine jx_cne C h.1 h.2.1 (tgt := 209) dX8_splits_159 (by decide) (fun hc => ?_) (fun hc => ?_)
            · have h := h.2.2.2 hc
              exact J209 sM l3 l4 l5 l6 h _ _ hP hD hS ls (lv_sub hl [2, 3, 4, 5, 6, 7, 8] rfl)
            · have h := h.2.2.1 hc
              refine lv_iload hx hb dX8_splits_162 (lv_at hl 0 rfl) ?_
              refine lv_iload hx hb dX8_splits_164 (lv_at hl 7 rfl) ?_
              refine jx_cge C h.1 h.2.1 (tgt := 209) dX8_splits_166 (by decide) (fun hc => ?_) (fun hc => ?_)
              · have h := h.2.2.2 hc
                exact J209 sM l3 l4 l5 l6 h _ _ hP hD hS ls (lv_sub hl [2, 3, 4, 5, 6, 7, 8] rfl)
              · have h := h.2.2.1 hc
                exact J169 sM l6 l7 r121 ((jx_area (sM 9)) + (jx_area (sM 10))) h _ _ hP hD hS ls (lv_sub hl [2, 3, 4, 8, 9, 1, 0] rfl)
      refine lv_iload hx hb dX8_splits_21 (lv_at hl 6 rfl) ?_
      refine jx_iconst C dX8_splits_23 ?_
      refine jx_cge C h.1 (jx_inR (by decide) (by decide)) (tgt := 215) dX8_splits_24 (by decide) (fun hc => ?_) (fun hc => ?_)
      · have h := h.2.2 hc
        exact K215E sM l3 h _ _ hP hD hS ls (lv_sub hl [0, 1, 2, 3] rfl)
      · have h := h.2.1 hc
        refine lv_aload_n hx hb dX8_splits_27 rfl (lv_at hl 0 rfl) ?_
        refine lv_iload_n hx hb dX8_splits_28 rfl (lv_at hl 1 rfl) ?_
        refine lv_iload hx hb dX8_splits_29 (lv_at hl 6 rfl) ?_
        refine jx_iconst C dX8_splits_31 ?_
        refine jx_idiv C (by decide) dX8_splits_32 ?_
        refine jx_callVV C hK hP hD hS hA (ct_M_sorts l D cI cT aM _ sM l1 (jx_div l6 2) h) ms_X8_sorts lk_X8_145 [0] rfl rfl (fun _ => rfl) (cs' := (fun u => [(cp_M aM, u)])) (fun _ => rfl) (fun _ => rfl) 0 0 rfl rfl rfl rfl rfl hl.1 rfl rfl dX8_splits_33 ⟨Nat.le_refl _, Nat.le_refl _⟩ (fun sM_33 H locs h hP hD hS => ?_)
        have hP : va_P D vwCl (jx_ws cI cT [(cp_M aM, sM_33)]) H := hP
        have hD : va_D A (jx_ws cI cT [(cp_M aM, sM_33)]) := hD
        refine jx_iconst C dX8_splits_36 ?_
        refine lv_iload hx hb dX8_splits_37 (lv_at hl 6 rfl) ?_
        refine jx_iconst C dX8_splits_39 ?_
        refine jx_irem C (by decide) dX8_splits_40 ?_
        refine jx_iadd C dX8_splits_41 ?_
        refine lv_istore (lv' := [(7, .int (jx_i (2 + (jx_rem l6 2)))), (0, .ref (aM 0)), (1, .int (jx_i l1)), (2, .int (jx_i l2)), (3, .int (jx_i l3)), (4, .int (jx_i l4)), (5, .int (jx_i l5)), (6, .int (jx_i l6))]) hx hb dX8_splits_42 hl (by decide) rfl (fun ls hl => ?_)
        refine lv_aload_n hx hb dX8_splits_44 rfl (lv_at hl 1 rfl) ?_
        refine lv_aload_n hx hb dX8_splits_45 rfl (lv_at hl 1 rfl) ?_
        refine jx_getR C hK hP 0 0 9 rfl rfl rfl fl_X8_28 dX8_splits_46 ?_
        refine lv_aload_n hx hb dX8_splits_49 rfl (lv_at hl 1 rfl) ?_
        refine jx_getR C hK hP 0 0 21 rfl rfl rfl fl_X8_52 dX8_splits_50 ?_
        refine jx_iconst C dX8_splits_53 ?_
        refine jx_iald C hK hP 0 15 rfl rfl rfl (show jx_B _ _ from ⟨by decide, by decide⟩) dX8_splits_54 ?_
        refine lv_iload_n hx hb dX8_splits_55 rfl (lv_at hl 3 rfl) ?_
        refine jx_callVV C hK hP hD hS hA (ct_M_takes_one l D cI cT aM _ sM_33 (sM_33 21 0) l2 h) ms_X8_takes lk_X8_112 [0] rfl rfl (fun _ => rfl) (cs' := (fun u => [(cp_M aM, u)])) (fun _ => rfl) (fun _ => rfl) 0 0 rfl rfl rfl rfl rfl hl.1 rfl rfl dX8_splits_56 ⟨Nat.le_refl _, Nat.le_refl _⟩ (fun sM_56 H locs h hP hD hS => ?_)
        have hP : va_P D vwCl (jx_ws cI cT [(cp_M aM, sM_56)]) H := hP
        have hD : va_D A (jx_ws cI cT [(cp_M aM, sM_56)]) := hD
        refine lv_aload_n hx hb dX8_splits_59 rfl (lv_at hl 1 rfl) ?_
        refine lv_aload_n hx hb dX8_splits_60 rfl (lv_at hl 1 rfl) ?_
        refine jx_getR C hK hP 0 0 10 rfl rfl rfl fl_X8_31 dX8_splits_61 ?_
        refine lv_aload_n hx hb dX8_splits_64 rfl (lv_at hl 1 rfl) ?_
        refine jx_getR C hK hP 0 0 21 rfl rfl rfl fl_X8_52 dX8_splits_65 ?_
        refine lv_iload hx hb dX8_splits_68 (lv_at hl 0 rfl) ?_
        refine jx_iald C hK hP 0 15 rfl rfl rfl h.1 dX8_splits_70 ?_
        have h := h.2
        refine lv_iload_n hx hb dX8_splits_71 rfl (lv_at hl 3 rfl) ?_
        refine jx_callVV C hK hP hD hS hA (ct_M_takes_two l D cI cT aM _ sM_56 (sM_56 21 (2 + (jx_rem l6 2))) l2 h) ms_X8_takes lk_X8_112 [0] rfl rfl (fun _ => rfl) (cs' := (fun u => [(cp_M aM, u)])) (fun _ => rfl) (fun _ => rfl) 0 0 rfl rfl rfl rfl rfl hl.1 rfl rfl dX8_splits_72 ⟨Nat.le_refl _, Nat.le_refl _⟩ (fun sM_72 H locs h hP hD hS => ?_)
        have hP : va_P D vwCl (jx_ws cI cT [(cp_M aM, sM_72)]) H := hP
        have hD : va_D A (jx_ws cI cT [(cp_M aM, sM_72)]) := hD
        refine jx_iconst C dX8_splits_75 ?_
        refine lv_istore (lv' := [(8, .int (jx_i 1)), (7, .int (jx_i (2 + (jx_rem l6 2)))), (0, .ref (aM 0)), (1, .int (jx_i l1)), (2, .int (jx_i l2)), (3, .int (jx_i l3)), (4, .int (jx_i l4)), (5, .int (jx_i l5)), (6, .int (jx_i l6))]) hx hb dX8_splits_76 hl (by decide) rfl (fun ls hl => ?_)
        obtain ⟨n, h⟩ := h
        refine Lo78 l2 l3 l4 l5 l6 (2 + (jx_rem l6 2)) _ n sM_72 1 h ?_ _ _ hP hD hS ls (lv_sub hl [2, 3, 4, 5, 6, 7, 8, 1, 0] rfl)
        · intro sM h H locs hP hD hS ls hl
          exact J120 sM l3 l4 l5 l6 (2 + (jx_rem l6 2)) h _ _ hP hD hS ls (lv_sub hl [0, 1, 2, 3, 4, 5, 6, 7] rfl)
  have Lo236 : ∀ (l3 : Int) (l6 : Int) (K281 : jx_St → Prop) (n : Nat) (sM : jx_St) (l7 : Int), jx_it (fun B236 v => wp_M_splits_236 Q l1 K281 l3 l6 B236 v.1 v.2) n (sM, l7) → (∀ (sM : jx_St), K281 sM → ∀ (H : Heap) (locs : List Loc), va_P D vwCl (jx_ws cI cT [(cp_M aM, sM)]) H → va_D A (jx_ws cI cT [(cp_M aM, sM)]) → va_S A s.heap H locs → ∀ ls : Array Slot, lv_has ls 11 [(0, .ref (aM 0)), (6, .int (jx_i l6))] → W p l e (jx_rm 3 72) s m args below meth c H locs 0 0 QQ (F0 m 281 ls [])) → ∀ (H : Heap) (locs : List Loc), va_P D vwCl (jx_ws cI cT [(cp_M aM, sM)]) H → va_D A (jx_ws cI cT [(cp_M aM, sM)]) → va_S A s.heap H locs → ∀ ls : Array Slot, lv_has ls 11 [(0, .ref (aM 0)), (1, .int (jx_i l1)), (3, .int (jx_i l3)), (6, .int (jx_i l6)), (7, .int (jx_i l7))] → W p l e (jx_rm 3 72) s m args below meth c H locs 0 0 QQ (F0 m 236 ls []) := by
    intro l3 l6 K281 n
    induction n with
    | zero =>
      intro sM l7 h
      exact (show False from h).elim
    | succ n ih =>
      intro sM l7 h K281E H locs hP hD hS ls hl
      have h : wp_M_splits_236 Q l1 K281 l3 l6 (jx_it (fun B236 v => wp_M_splits_236 Q l1 K281 l3 l6 B236 v.1 v.2) n) sM l7 := h
      have ih := fun sM l7 h => ih sM l7 h K281E
      generalize jx_it (fun B236 v => wp_M_splits_236 Q l1 K281 l3 l6 B236 v.1 v.2) n = B236 at h ih
      unfold wp_M_splits_236 at h
      have J254 : ∀ (sM : jx_St) (l7 : Int) (t0 : Int), wp_M_splits_254 Q l1 B236 K281 sM l3 l6 l7 t0 → ∀ (H : Heap) (locs : List Loc), va_P D vwCl (jx_ws cI cT [(cp_M aM, sM)]) H → va_D A (jx_ws cI cT [(cp_M aM, sM)]) → va_S A s.heap H locs → ∀ ls : Array Slot, lv_has ls 11 [(0, .ref (aM 0)), (1, .int (jx_i l1)), (3, .int (jx_i l3)), (6, .int (jx_i l6)), (7, .int (jx_i l7))] → W p l e (jx_rm 3 72) s m args below meth c H locs 0 0 QQ (F0 m 254 ls [.int (jx_i t0)]) := by
        intro sM l7 t0 h H locs hP hD hS ls hl
        unfold wp_M_splits_254 at h
        refine lv_istore (lv' := [(8, .int (jx_i t0)), (0, .ref (aM 0)), (1, .int (jx_i l1)), (3, .int (jx_i l3)), (6, .int (jx_i l6)), (7, .int (jx_i l7))]) hx hb dX8_splits_254 hl (by decide) rfl (fun ls hl => ?_)
        refine lv_aload_n hx hb dX8_splits_256 rfl (lv_at hl 1 rfl) ?_
        refine lv_iload hx hb dX8_splits_257 (lv_at hl 0 rfl) ?_
        refine lv_aload_n hx hb dX8_splits_259 rfl (lv_at hl 1 rfl) ?_
        refine lv_iload hx hb dX8_splits_260 (lv_at hl 0 rfl) ?_
        refine jx_callVI C hK hP hD hS hA (ct_M_manyOf l D cI cT aM _ sM t0 h) ms_X8_manyOf lk_X8_85 [0] rfl rfl (fun _ => rfl) (cs' := (fun _ => [(cp_M aM, sM)])) (fun _ => rfl) (fun _ => rfl) 0 0 rfl rfl rfl rfl rfl hl.1 rfl rfl dX8_splits_262 ⟨Nat.le_refl _, Nat.le_refl _⟩ (fun r262 _ H locs h hP hD hS => ?_)
        have hP : va_P D vwCl (jx_ws cI cT [(cp_M aM, sM)]) H := hP
        have hD : va_D A (jx_ws cI cT [(cp_M aM, sM)]) := hD
        refine lv_aload_n hx hb dX8_splits_265 rfl (lv_at hl 1 rfl) ?_
        refine jx_getR C hK hP 0 0 22 rfl rfl rfl fl_X8_55 dX8_splits_266 ?_
        refine lv_iload hx hb dX8_splits_269 (lv_at hl 5 rfl) ?_
        refine jx_iald C hK hP 0 16 rfl rfl rfl h.1 dX8_splits_271 ?_
        have h := h.2
        refine jx_callVV C hK hP hD hS hA (ct_M_puts l D cI cT aM _ sM t0 r262 (sM 22 l7) h) ms_X8_puts lk_X8_155 [0] rfl rfl (fun _ => rfl) (cs' := (fun u => [(cp_M aM, u)])) (fun _ => rfl) (fun _ => rfl) 0 0 rfl rfl rfl rfl rfl hl.1 rfl rfl dX8_splits_272 ⟨Nat.le_refl _, Nat.le_refl _⟩ (fun sM_272 H locs h hP hD hS => ?_)
        have hP : va_P D vwCl (jx_ws cI cT [(cp_M aM, sM_272)]) H := hP
        have hD : va_D A (jx_ws cI cT [(cp_M aM, sM_272)]) := hD
        refine jx_iinc C (lv' := [(7, .int (jx_i (l7 + 1))), (8, .int (jx_i t0)), (0, .ref (aM 0)), (1, .int (jx_i l1)), (3, .int (jx_i l3)), (6, .int (jx_i l6))]) dX8_splits_275 hl (k := 5) rfl (by decide) rfl (fun ls hl => ?_)
        refine lv_goto (tgt := 236) hx hb dX8_splits_278 (by decide) ?_
        exact ih sM_272 (l7 + 1) h _ _ hP hD hS ls (lv_sub hl [2, 3, 4, 5, 0] rfl)
      refine lv_iload hx hb dX8_splits_236 (lv_at hl 4 rfl) ?_
      refine jx_iconst C dX8_splits_238 ?_
      refine jx_cge C h.1 (jx_inR (by decide) (by decide)) (tgt := 281) dX8_splits_239 (by decide) (fun hc => ?_) (fun hc => ?_)
      · have h := h.2.2 hc
        exact K281E sM h _ _ hP hD hS ls (lv_sub hl [0, 3] rfl)
      · have h := h.2.1 hc
        refine lv_iload hx hb dX8_splits_242 (lv_at hl 4 rfl) ?_
        refine lv_iload_n hx hb dX8_splits_244 rfl (lv_at hl 2 rfl) ?_
        refine jx_cge C h.1 h.2.1 (tgt := 252) dX8_splits_245 (by decide) (fun hc => ?_) (fun hc => ?_)
        · have h := h.2.2.2 hc
          refine lv_iload hx hb dX8_splits_252 (lv_at hl 3 rfl) ?_
          exact J254 sM l7 l6 h _ _ hP hD hS ls (lv_sub hl [0, 1, 2, 3, 4] rfl)
        · have h := h.2.2.1 hc
          refine lv_iload_n hx hb dX8_splits_248 rfl (lv_at hl 1 rfl) ?_
          refine lv_goto (tgt := 254) hx hb dX8_splits_249 (by decide) ?_
          exact J254 sM l7 l1 h _ _ hP hD hS ls (lv_sub hl [0, 1, 2, 3, 4] rfl)
  have J281 : ∀ (sM : jx_St) (l6 : Int), wp_M_splits_281 Q l1 sM l6 → ∀ (H : Heap) (locs : List Loc), va_P D vwCl (jx_ws cI cT [(cp_M aM, sM)]) H → va_D A (jx_ws cI cT [(cp_M aM, sM)]) → va_S A s.heap H locs → ∀ ls : Array Slot, lv_has ls 11 [(0, .ref (aM 0)), (6, .int (jx_i l6))] → W p l e (jx_rm 3 72) s m args below meth c H locs 0 0 QQ (F0 m 281 ls []) := by
    intro sM l6 h H locs hP hD hS ls hl
    unfold wp_M_splits_281 at h
    refine lv_aload_n hx hb dX8_splits_281 rfl (lv_at hl 0 rfl) ?_
    refine jx_getR C hK hP 0 0 0 rfl rfl rfl fl_X8_7 dX8_splits_282 ?_
    refine jx_iconst C dX8_splits_285 ?_
    refine lv_dup2_11 hx hb dX8_splits_286 rfl rfl ?_
    refine jx_iald C hK hP 0 1 rfl rfl rfl (show jx_B _ _ from ⟨by decide, by decide⟩) dX8_splits_287 ?_
    refine jx_iconst C dX8_splits_288 ?_
    refine jx_iadd C dX8_splits_289 ?_
    refine jx_iast C hK hP hD hS 0 1 rfl rfl rfl rfl (show jx_B _ _ from ⟨by decide, by decide⟩) rfl dX8_splits_290 (fun H locs hP hD hS => ?_)
    have hP : va_P D vwCl (jx_ws cI cT [(cp_M aM, (jx_su sM 0 2 ((sM 0 2) + 1)))]) H := hP
    have hD : va_D A (jx_ws cI cT [(cp_M aM, (jx_su sM 0 2 ((sM 0 2) + 1)))]) := hD
    refine lv_iload hx hb dX8_splits_291 (lv_at hl 1 rfl) ?_
    exact jx_rI C hr hlk hAe hS hQQ (jx_su sM 0 2 ((sM 0 2) + 1)) hP h dX8_splits_293
  have J215 : ∀ (sM : jx_St) (l2 : Int) (l3 : Int), wp_M_splits_215 Q l1 sM l2 l3 → ∀ (H : Heap) (locs : List Loc), va_P D vwCl (jx_ws cI cT [(cp_M aM, sM)]) H → va_D A (jx_ws cI cT [(cp_M aM, sM)]) → va_S A s.heap H locs → ∀ ls : Array Slot, lv_has ls 11 [(0, .ref (aM 0)), (1, .int (jx_i l1)), (2, .int (jx_i l2)), (3, .int (jx_i l3))] → W p l e (jx_rm 3 72) s m args below meth c H locs 0 0 QQ (F0 m 215 ls []) := by
    intro sM l2 l3 h H locs hP hD hS ls hl
    unfold wp_M_splits_215 at h
    refine lv_aload_n hx hb dX8_splits_215 rfl (lv_at hl 0 rfl) ?_
    refine lv_iload_n hx hb dX8_splits_216 rfl (lv_at hl 2 rfl) ?_
    refine jx_callVI C hK hP hD hS hA (ct_M_newNode l D cI cT aM _ sM l2 h) ms_X8_newNode lk_X8_152 [0] rfl rfl (fun _ => rfl) (cs' := (fun u => [(cp_M aM, u)])) (fun _ => rfl) (fun _ => rfl) 0 0 rfl rfl rfl rfl rfl hl.1 rfl rfl dX8_splits_217 ⟨Nat.le_refl _, Nat.le_refl _⟩ (fun r217 sM_217 H locs h hP hD hS => ?_)
    have hP : va_P D vwCl (jx_ws cI cT [(cp_M aM, sM_217)]) H := hP
    have hD : va_D A (jx_ws cI cT [(cp_M aM, sM_217)]) := hD
    refine lv_istore (lv' := [(6, .int (jx_i r217)), (0, .ref (aM 0)), (1, .int (jx_i l1)), (2, .int (jx_i l2)), (3, .int (jx_i l3))]) hx hb dX8_splits_220 hl (by decide) rfl (fun ls hl => ?_)
    refine lv_aload_n hx hb dX8_splits_222 rfl (lv_at hl 1 rfl) ?_
    refine jx_getR C hK hP 0 0 0 rfl rfl rfl fl_X8_7 dX8_splits_223 ?_
    refine jx_sipush C dX8_splits_226 (by decide) ?_
    refine lv_iload_n hx hb dX8_splits_229 rfl (lv_at hl 2 rfl) ?_
    refine jx_iadd C dX8_splits_230 ?_
    refine jx_iconst C dX8_splits_231 ?_
    refine jx_iast C hK hP hD hS 0 1 rfl rfl rfl rfl h.1 rfl dX8_splits_232 (fun H locs hP hD hS => ?_)
    have h := h.2
    have hP : va_P D vwCl (jx_ws cI cT [(cp_M aM, (jx_su sM_217 0 (199 + l1) 0))]) H := hP
    have hD : va_D A (jx_ws cI cT [(cp_M aM, (jx_su sM_217 0 (199 + l1) 0))]) := hD
    refine jx_iconst C dX8_splits_233 ?_
    refine lv_istore (lv' := [(7, .int (jx_i 0)), (6, .int (jx_i r217)), (0, .ref (aM 0)), (1, .int (jx_i l1)), (2, .int (jx_i l2)), (3, .int (jx_i l3))]) hx hb dX8_splits_234 hl (by decide) rfl (fun ls hl => ?_)
    obtain ⟨n, h⟩ := h
    refine Lo236 l3 r217 _ n (jx_su sM_217 0 (199 + l1) 0) 0 h ?_ _ _ hP hD hS ls (lv_sub hl [2, 3, 5, 1, 0] rfl)
    · intro sM h H locs hP hD hS ls hl
      exact J281 sM r217 h _ _ hP hD hS ls (lv_sub hl [0, 1] rfl)
  refine lv_aload_n hx hb dX8_splits_0 rfl (lv_at hl 0 rfl) ?_
  refine lv_iload_n hx hb dX8_splits_1 rfl (lv_at hl 1 rfl) ?_
  refine jx_callVI C hK hP hD hS hA (ct_M_levelOf l D cI cT aM _ sM l1 h) ms_X8_levelOf lk_X8_81 [0] rfl rfl (fun _ => rfl) (cs' := (fun _ => [(cp_M aM, sM)])) (fun _ => rfl) (fun _ => rfl) 0 0 rfl rfl rfl rfl rfl hl.1 rfl rfl dX8_splits_2 ⟨Nat.le_refl _, Nat.le_refl _⟩ (fun r2 _ H locs h hP hD hS => ?_)
  have hP : va_P D vwCl (jx_ws cI cT [(cp_M aM, sM)]) H := hP
  have hD : va_D A (jx_ws cI cT [(cp_M aM, sM)]) := hD
  refine lv_istore_n (lv' := [(2, .int (jx_i r2)), (0, .ref (aM 0)), (1, .int (jx_i l1))]) hx hb dX8_splits_5 rfl hl (by decide) rfl (fun ls hl => ?_)
  refine lv_aload_n hx hb dX8_splits_6 rfl (lv_at hl 1 rfl) ?_
  refine jx_callVV C hK hP hD hS hA (ct_M_lay l D cI cT aM _ sM  h) ms_X8_lay lk_X8_126 [0] rfl rfl (fun _ => rfl) (cs' := (fun u => [(cp_M aM, u)])) (fun _ => rfl) (fun _ => rfl) 0 0 rfl rfl rfl rfl rfl hl.1 rfl rfl dX8_splits_7 ⟨Nat.le_refl _, Nat.le_refl _⟩ (fun sM_7 H locs h hP hD hS => ?_)
  have hP : va_P D vwCl (jx_ws cI cT [(cp_M aM, sM_7)]) H := hP
  have hD : va_D A (jx_ws cI cT [(cp_M aM, sM_7)]) := hD
  refine jx_iconst C dX8_splits_10 ?_
  refine lv_istore_n (lv' := [(3, .int (jx_i (-1))), (2, .int (jx_i r2)), (0, .ref (aM 0)), (1, .int (jx_i l1))]) hx hb dX8_splits_11 rfl hl (by decide) rfl (fun ls hl => ?_)
  refine jx_iconst C dX8_splits_12 ?_
  refine lv_istore (lv' := [(4, .int (jx_i 0)), (3, .int (jx_i (-1))), (2, .int (jx_i r2)), (0, .ref (aM 0)), (1, .int (jx_i l1))]) hx hb dX8_splits_13 hl (by decide) rfl (fun ls hl => ?_)
  refine jx_iconst C dX8_splits_15 ?_
  refine lv_istore (lv' := [(5, .int (jx_i 0)), (4, .int (jx_i 0)), (3, .int (jx_i (-1))), (2, .int (jx_i r2)), (0, .ref (aM 0)), (1, .int (jx_i l1))]) hx hb dX8_splits_16 hl (by decide) rfl (fun ls hl => ?_)
  refine jx_iconst C dX8_splits_18 ?_
  refine lv_istore (lv' := [(6, .int (jx_i 0)), (5, .int (jx_i 0)), (4, .int (jx_i 0)), (3, .int (jx_i (-1))), (2, .int (jx_i r2)), (0, .ref (aM 0)), (1, .int (jx_i l1))]) hx hb dX8_splits_19 hl (by decide) rfl (fun ls hl => ?_)
  obtain ⟨n, h⟩ := h
  refine Lo21 r2 _ n sM_7 (-1) 0 0 0 h ?_ _ _ hP hD hS ls (lv_sub hl [5, 6, 4, 3, 2, 1, 0] rfl)
  · intro sM l3 h H locs hP hD hS ls hl
    exact J215 sM r2 l3 h _ _ hP hD hS ls (lv_sub hl [0, 1, 2, 3] rfl)
set_option maxRecDepth 100000 in
set_option maxHeartbeats 4000000 in
theorem ct_M_farOf (l : Launch) (D : va_G) (cI cT : ClassId) (aM : Nat → Nat) (Q : Int → Prop) (sM : jx_St) (l1 : Int) (l2 : Int) (h : wp_M_farOf Q sM l1 l2) : jx_KI (Unit) l D cI cT yX8_farOf cX8_farOf 7 .int 1 23 [.ref (aM 0), .int (jx_i l1), .int (jx_i l2)] [(cp_M aM, sM)] (fun _ => [(cp_M aM, sM)]) (fun x _ => Q x) := by
  refine jx_ent (own := RX8) (by decide) rfl (Nat.le_of_ble_eq_true rfl) ?_
  intro p e s m args below meth c A QQ C hr hlk hK hAe hA hP hD hS ls hl hQQ
  have hl : lv_has ls 7 [(0, .ref (aM 0)), (1, .int (jx_i l1)), (2, .int (jx_i l2))] := hl
  have hx := C.1
  have hb := C.2.1
  unfold wp_M_farOf at h
  have Lo8 : ∀ (K86 : Int × Int → Prop) (n : Nat) (l3 : Int) (l4 : Int) (l5 : Int), jx_it (fun B8 v => wp_M_farOf_8 Q sM l1 l2 K86 B8 v.1 v.2.1 v.2.2) n (l3, l4, l5) → (∀ (l3 : Int) (l4 : Int), K86 (l3, l4) → ∀ (H : Heap) (locs : List Loc), va_P D vwCl (jx_ws cI cT [(cp_M aM, sM)]) H → va_D A (jx_ws cI cT [(cp_M aM, sM)]) → va_S A s.heap H locs → ∀ ls : Array Slot, lv_has ls 7 [(3, .int (jx_i l3)), (4, .int (jx_i l4))] → W p l e (jx_rm 1 23) s m args below meth c H locs 0 0 QQ (F0 m 86 ls [])) → ∀ (H : Heap) (locs : List Loc), va_P D vwCl (jx_ws cI cT [(cp_M aM, sM)]) H → va_D A (jx_ws cI cT [(cp_M aM, sM)]) → va_S A s.heap H locs → ∀ ls : Array Slot, lv_has ls 7 [(0, .ref (aM 0)), (1, .int (jx_i l1)), (2, .int (jx_i l2)), (3, .int (jx_i l3)), (4, .int (jx_i l4)), (5, .int (jx_i l5))] → W p l e (jx_rm 1 23) s m args below meth c H locs 0 0 QQ (F0 m 8 ls []) := by
    intro K86 n
    induction n with
    | zero =>
      intro l3 l4 l5 h
      exact (show False from h).elim
    | succ n ih =>
      intro l3 l4 l5 h K86E H locs hP hD hS ls hl
      have h : wp_M_farOf_8 Q sM l1 l2 K86 (jx_it (fun B8 v => wp_M_farOf_8 Q sM l1 l2 K86 B8 v.1 v.2.1 v.2.2) n) l3 l4 l5 := h
      have ih := fun l3 l4 l5 h => ih l3 l4 l5 h K86E
      generalize jx_it (fun B8 v => wp_M_farOf_8 Q sM l1 l2 K86 B8 v.1 v.2.1 v.2.2) n = B8 at h ih
      unfold wp_M_farOf_8 at h
      have J77 : ∀ (l3 : Int) (l5 : Int) (t0 : Int) (t1 : Int), wp_M_farOf_77 Q sM l1 l2 B8 K86 l3 l5 t0 t1 → ∀ (H : Heap) (locs : List Loc), va_P D vwCl (jx_ws cI cT [(cp_M aM, sM)]) H → va_D A (jx_ws cI cT [(cp_M aM, sM)]) → va_S A s.heap H locs → ∀ ls : Array Slot, lv_has ls 7 [(0, .ref (aM 0)), (1, .int (jx_i l1)), (2, .int (jx_i l2)), (3, .int (jx_i l3)), (5, .int (jx_i l5))] → W p l e (jx_rm 1 23) s m args below meth c H locs 0 0 QQ (F0 m 77 ls [.int (jx_i t1), .int (jx_i t0)]) := by
        intro l3 l5 t0 t1 h H locs hP hD hS ls hl
        unfold wp_M_farOf_77 at h
        refine jx_iadd C dX8_farOf_77 ?_
        refine lv_istore (lv' := [(4, .int (jx_i (t0 + t1))), (0, .ref (aM 0)), (1, .int (jx_i l1)), (2, .int (jx_i l2)), (3, .int (jx_i l3)), (5, .int (jx_i l5))]) hx hb dX8_farOf_78 hl (by decide) rfl (fun ls hl => ?_)
        refine jx_iinc C (lv' := [(5, .int (jx_i (l5 + 1))), (4, .int (jx_i (t0 + t1))), (0, .ref (aM 0)), (1, .int (jx_i l1)), (2, .int (jx_i l2)), (3, .int (jx_i l3))]) dX8_farOf_80 hl (k := 5) rfl (by decide) rfl (fun ls hl => ?_)
        refine lv_goto (tgt := 8) hx hb dX8_farOf_83 (by decide) ?_
        exact ih l3 (t0 + t1) (l5 + 1) h _ _ hP hD hS ls (lv_sub hl [2, 3, 4, 5, 1, 0] rfl)
      have J59 : ∀ (l4 : Int) (l5 : Int) (l6 : Int) (t0 : Int) (t1 : Int), wp_M_farOf_59 Q sM l1 l2 B8 K86 l4 l5 l6 t0 t1 → ∀ (H : Heap) (locs : List Loc), va_P D vwCl (jx_ws cI cT [(cp_M aM, sM)]) H → va_D A (jx_ws cI cT [(cp_M aM, sM)]) → va_S A s.heap H locs → ∀ ls : Array Slot, lv_has ls 7 [(0, .ref (aM 0)), (1, .int (jx_i l1)), (2, .int (jx_i l2)), (4, .int (jx_i l4)), (5, .int (jx_i l5)), (6, .int (jx_i l6))] → W p l e (jx_rm 1 23) s m args below meth c H locs 0 0 QQ (F0 m 59 ls [.int (jx_i t1), .int (jx_i t0)]) := by
        intro l4 l5 l6 t0 t1 h H locs hP hD hS ls hl
        unfold wp_M_farOf_59 at h
        refine jx_iadd C dX8_farOf_59 ?_
        refine lv_istore_n (lv' := [(3, .int (jx_i (t0 + t1))), (0, .ref (aM 0)), (1, .int (jx_i l1)), (2, .int (jx_i l2)), (4, .int (jx_i l4)), (5, .int (jx_i l5)), (6, .int (jx_i l6))]) hx hb dX8_farOf_60 rfl hl (by decide) rfl (fun ls hl => ?_)
        refine lv_iload hx hb dX8_farOf_61 (lv_at hl 4 rfl) ?_
        refine lv_iload hx hb dX8_farOf_63 (lv_at hl 5 rfl) ?_
        refine jx_iconst C dX8_farOf_65 ?_
        refine jx_irem C (by decide) dX8_farOf_66 ?_
        refine jx_iconst C dX8_farOf_67 ?_
        refine jx_cne C h.1 (jx_inR (by decide) (by decide)) (tgt := 76) dX8_farOf_68 (by decide) (fun hc => ?_) (fun hc => ?_)
        · have h := h.2.2 hc
          refine jx_iconst C dX8_farOf_76 ?_
          exact J77 (t0 + t1) l5 l4 0 h _ _ hP hD hS ls (lv_sub hl [1, 2, 3, 0, 5] rfl)
        · have h := h.2.1 hc
          refine lv_iload hx hb dX8_farOf_71 (lv_at hl 6 rfl) ?_
          refine lv_goto (tgt := 77) hx hb dX8_farOf_73 (by decide) ?_
          exact J77 (t0 + t1) l5 l4 l6 h _ _ hP hD hS ls (lv_sub hl [1, 2, 3, 0, 5] rfl)
      refine lv_iload hx hb dX8_farOf_8 (lv_at hl 5 rfl) ?_
      refine jx_iconst C dX8_farOf_10 ?_
      refine jx_cge C h.1 (jx_inR (by decide) (by decide)) (tgt := 86) dX8_farOf_11 (by decide) (fun hc => ?_) (fun hc => ?_)
      · have h := h.2.2 hc
        exact K86E l3 l4 h _ _ hP hD hS ls (lv_sub hl [3, 4] rfl)
      · have h := h.2.1 hc
        refine lv_aload_n hx hb dX8_farOf_14 rfl (lv_at hl 0 rfl) ?_
        refine lv_aload_n hx hb dX8_farOf_15 rfl (lv_at hl 0 rfl) ?_
        refine lv_iload_n hx hb dX8_farOf_16 rfl (lv_at hl 1 rfl) ?_
        refine lv_iload_n hx hb dX8_farOf_17 rfl (lv_at hl 2 rfl) ?_
        refine jx_callVI C hK hP hD hS hA (ct_M_thing l D cI cT aM _ sM l1 l2 h) ms_X8_thing lk_X8_88 [0] rfl rfl (fun _ => rfl) (cs' := (fun _ => [(cp_M aM, sM)])) (fun _ => rfl) (fun _ => rfl) 0 0 rfl rfl rfl rfl rfl hl.1 rfl rfl dX8_farOf_18 ⟨Nat.le_refl _, Nat.le_refl _⟩ (fun r18 _ H locs h hP hD hS => ?_)
        have hP : va_P D vwCl (jx_ws cI cT [(cp_M aM, sM)]) H := hP
        have hD : va_D A (jx_ws cI cT [(cp_M aM, sM)]) := hD
        refine lv_aload_n hx hb dX8_farOf_21 rfl (lv_at hl 0 rfl) ?_
        refine lv_iload_n hx hb dX8_farOf_22 rfl (lv_at hl 1 rfl) ?_
        refine jx_callVI C hK hP hD hS hA (ct_M_levelOf l D cI cT aM _ sM l1 h) ms_X8_levelOf lk_X8_81 [0] rfl rfl (fun _ => rfl) (cs' := (fun _ => [(cp_M aM, sM)])) (fun _ => rfl) (fun _ => rfl) 0 0 rfl rfl rfl rfl rfl hl.1 rfl rfl dX8_farOf_23 ⟨Nat.le_refl _, Nat.le_refl _⟩ (fun r23 _ H locs h hP hD hS => ?_)
        have hP : va_P D vwCl (jx_ws cI cT [(cp_M aM, sM)]) H := hP
        have hD : va_D A (jx_ws cI cT [(cp_M aM, sM)]) := hD
        refine lv_iload hx hb dX8_farOf_26 (lv_at hl 5 rfl) ?_
        refine jx_callVI C hK hP hD hS hA (ct_M_side l D cI cT aM _ sM r18 r23 l5 h) ms_X8_side lk_X8_92 [0] rfl rfl (fun _ => rfl) (cs' := (fun _ => [(cp_M aM, sM)])) (fun _ => rfl) (fun _ => rfl) 0 0 rfl rfl rfl rfl rfl hl.1 rfl rfl dX8_farOf_28 ⟨Nat.le_refl _, Nat.le_refl _⟩ (fun r28 _ H locs h hP hD hS => ?_)
        have hP : va_P D vwCl (jx_ws cI cT [(cp_M aM, sM)]) H := hP
        have hD : va_D A (jx_ws cI cT [(cp_M aM, sM)]) := hD
        refine lv_aload_n hx hb dX8_farOf_31 rfl (lv_at hl 0 rfl) ?_
        refine jx_getR C hK hP 0 0 7 rfl rfl rfl fl_X8_22 dX8_farOf_32 ?_
        refine jx_iconst C dX8_farOf_35 ?_
        refine lv_iload_n hx hb dX8_farOf_36 rfl (lv_at hl 1 rfl) ?_
        refine jx_imul C dX8_farOf_37 ?_
        refine lv_iload hx hb dX8_farOf_38 (lv_at hl 5 rfl) ?_
        refine jx_iadd C dX8_farOf_40 ?_
        refine jx_iald C hK hP 0 5 rfl rfl rfl h.1 dX8_farOf_41 ?_
        have h := h.2
        refine jx_isub C dX8_farOf_42 ?_
        refine lv_istore (lv' := [(6, .int (jx_i (r28 - (sM 7 ((4 * l1) + l5))))), (0, .ref (aM 0)), (1, .int (jx_i l1)), (2, .int (jx_i l2)), (3, .int (jx_i l3)), (4, .int (jx_i l4)), (5, .int (jx_i l5))]) hx hb dX8_farOf_43 hl (by decide) rfl (fun ls hl => ?_)
        refine lv_iload_n hx hb dX8_farOf_45 rfl (lv_at hl 4 rfl) ?_
        refine lv_iload hx hb dX8_farOf_46 (lv_at hl 6 rfl) ?_
        refine jx_iconst C dX8_farOf_48 ?_
        refine jx_irem C (by decide) dX8_farOf_49 ?_
        refine jx_zne C h.1 (tgt := 58) dX8_farOf_50 (by decide) (fun hc => ?_) (fun hc => ?_)
        · have h := h.2.2 hc
          refine jx_iconst C dX8_farOf_58 ?_
          exact J59 l4 l5 (r28 - (sM 7 ((4 * l1) + l5))) l3 0 h _ _ hP hD hS ls (lv_sub hl [1, 2, 3, 5, 6, 0] rfl)
        · have h := h.2.1 hc
          refine lv_iload hx hb dX8_farOf_53 (lv_at hl 0 rfl) ?_
          refine lv_goto (tgt := 59) hx hb dX8_farOf_55 (by decide) ?_
          exact J59 l4 l5 (r28 - (sM 7 ((4 * l1) + l5))) l3 (r28 - (sM 7 ((4 * l1) + l5))) h _ _ hP hD hS ls (lv_sub hl [1, 2, 3, 5, 6, 0] rfl)
  have J86 : ∀ (l3 : Int) (l4 : Int), wp_M_farOf_86 Q sM l1 l2 l3 l4 → ∀ (H : Heap) (locs : List Loc), va_P D vwCl (jx_ws cI cT [(cp_M aM, sM)]) H → va_D A (jx_ws cI cT [(cp_M aM, sM)]) → va_S A s.heap H locs → ∀ ls : Array Slot, lv_has ls 7 [(3, .int (jx_i l3)), (4, .int (jx_i l4))] → W p l e (jx_rm 1 23) s m args below meth c H locs 0 0 QQ (F0 m 86 ls []) := by
    intro l3 l4 h H locs hP hD hS ls hl
    unfold wp_M_farOf_86 at h
    refine lv_iload_n hx hb dX8_farOf_86 rfl (lv_at hl 0 rfl) ?_
    refine lv_iload_n hx hb dX8_farOf_87 rfl (lv_at hl 0 rfl) ?_
    refine jx_imul C dX8_farOf_88 ?_
    refine lv_iload hx hb dX8_farOf_89 (lv_at hl 1 rfl) ?_
    refine lv_iload hx hb dX8_farOf_91 (lv_at hl 1 rfl) ?_
    refine jx_imul C dX8_farOf_93 ?_
    refine jx_iadd C dX8_farOf_94 ?_
    exact jx_rI C hr hlk hAe hS hQQ () hP h dX8_farOf_95
  refine jx_iconst C dX8_farOf_0 ?_
  refine lv_istore_n (lv' := [(3, .int (jx_i 0)), (0, .ref (aM 0)), (1, .int (jx_i l1)), (2, .int (jx_i l2))]) hx hb dX8_farOf_1 rfl hl (by decide) rfl (fun ls hl => ?_)
  refine jx_iconst C dX8_farOf_2 ?_
  refine lv_istore (lv' := [(4, .int (jx_i 0)), (3, .int (jx_i 0)), (0, .ref (aM 0)), (1, .int (jx_i l1)), (2, .int (jx_i l2))]) hx hb dX8_farOf_3 hl (by decide) rfl (fun ls hl => ?_)
  refine jx_iconst C dX8_farOf_5 ?_
  refine lv_istore (lv' := [(5, .int (jx_i 0)), (4, .int (jx_i 0)), (3, .int (jx_i 0)), (0, .ref (aM 0)), (1, .int (jx_i l1)), (2, .int (jx_i l2))]) hx hb dX8_farOf_6 hl (by decide) rfl (fun ls hl => ?_)
  obtain ⟨n, h⟩ := h
  refine Lo8 _ n 0 0 0 h ?_ _ _ hP hD hS ls (lv_sub hl [3, 4, 5, 2, 1, 0] rfl)
  · intro l3 l4 h H locs hP hD hS ls hl
    exact J86 l3 l4 h _ _ hP hD hS ls (lv_sub hl [0, 1] rfl)
set_option maxRecDepth 100000 in
set_option maxHeartbeats 4000000 in
theorem ct_M_farthest (l : Launch) (D : va_G) (cI cT : ClassId) (aM : Nat → Nat) (Q : Int → Prop) (sM : jx_St) (l1 : Int) (l2 : Int) (h : wp_M_farthest Q sM l1 l2) : jx_KI (Unit) l D cI cT yX8_farthest cX8_farthest 5 .int 2 49 [.ref (aM 0), .int (jx_i l1), .int (jx_i l2)] [(cp_M aM, sM)] (fun _ => [(cp_M aM, sM)]) (fun x _ => Q x) := by
  refine jx_ent (own := RX8) (by decide) rfl (Nat.le_of_ble_eq_true rfl) ?_
  intro p e s m args below meth c A QQ C hr hlk hK hAe hA hP hD hS ls hl hQQ
  have hl : lv_has ls 5 [(0, .ref (aM 0)), (1, .int (jx_i l1)), (2, .int (jx_i l2))] := hl
  have hx := C.1
  have hb := C.2.1
  unfold wp_M_farthest at h
  have Lo5 : ∀ (n : Nat) (l3 : Int) (l4 : Int), jx_it (fun B5 v => wp_M_farthest_5 Q sM l1 l2 B5 v.1 v.2) n (l3, l4) → ∀ (H : Heap) (locs : List Loc), va_P D vwCl (jx_ws cI cT [(cp_M aM, sM)]) H → va_D A (jx_ws cI cT [(cp_M aM, sM)]) → va_S A s.heap H locs → ∀ ls : Array Slot, lv_has ls 5 [(0, .ref (aM 0)), (1, .int (jx_i l1)), (2, .int (jx_i l2)), (3, .int (jx_i l3)), (4, .int (jx_i l4))] → W p l e (jx_rm 2 49) s m args below meth c H locs 0 0 QQ (F0 m 5 ls []) := by
    intro n
    induction n with
    | zero =>
      intro l3 l4 h
      exact (show False from h).elim
    | succ n ih =>
      intro l3 l4 h H locs hP hD hS ls hl
      have h : wp_M_farthest_5 Q sM l1 l2 (jx_it (fun B5 v => wp_M_farthest_5 Q sM l1 l2 B5 v.1 v.2) n) l3 l4 := h
      have ih := fun l3 l4 h => ih l3 l4 h
      generalize jx_it (fun B5 v => wp_M_farthest_5 Q sM l1 l2 B5 v.1 v.2) n = B5 at h ih
      unfold wp_M_farthest_5 at h
      have J45 : ∀ (l3 : Int) (l4 : Int), wp_M_farthest_45 Q sM l1 l2 B5 l3 l4 → ∀ (H : Heap) (locs : List Loc), va_P D vwCl (jx_ws cI cT [(cp_M aM, sM)]) H → va_D A (jx_ws cI cT [(cp_M aM, sM)]) → va_S A s.heap H locs → ∀ ls : Array Slot, lv_has ls 5 [(0, .ref (aM 0)), (1, .int (jx_i l1)), (2, .int (jx_i l2)), (3, .int (jx_i l3)), (4, .int (jx_i l4))] → W p l e (jx_rm 2 49) s m args below meth c H locs 0 0 QQ (F0 m 45 ls []) := by
        intro l3 l4 h H locs hP hD hS ls hl
        unfold wp_M_farthest_45 at h
        refine jx_iinc C (lv' := [(4, .int (jx_i (l4 + 1))), (0, .ref (aM 0)), (1, .int (jx_i l1)), (2, .int (jx_i l2)), (3, .int (jx_i l3))]) dX8_farthest_45 hl (k := 4) rfl (by decide) rfl (fun ls hl => ?_)
        refine lv_goto (tgt := 5) hx hb dX8_farthest_48 (by decide) ?_
        exact ih l3 (l4 + 1) h _ _ hP hD hS ls (lv_sub hl [1, 2, 3, 4, 0] rfl)
      have J42 : ∀ (l4 : Int), wp_M_farthest_42 Q sM l1 l2 B5 l4 → ∀ (H : Heap) (locs : List Loc), va_P D vwCl (jx_ws cI cT [(cp_M aM, sM)]) H → va_D A (jx_ws cI cT [(cp_M aM, sM)]) → va_S A s.heap H locs → ∀ ls : Array Slot, lv_has ls 5 [(0, .ref (aM 0)), (1, .int (jx_i l1)), (2, .int (jx_i l2)), (4, .int (jx_i l4))] → W p l e (jx_rm 2 49) s m args below meth c H locs 0 0 QQ (F0 m 42 ls []) := by
        intro l4 h H locs hP hD hS ls hl
        unfold wp_M_farthest_42 at h
        refine lv_iload hx hb dX8_farthest_42 (lv_at hl 3 rfl) ?_
        refine lv_istore_n (lv' := [(3, .int (jx_i l4)), (0, .ref (aM 0)), (1, .int (jx_i l1)), (2, .int (jx_i l2)), (4, .int (jx_i l4))]) hx hb dX8_farthest_44 rfl hl (by decide) rfl (fun ls hl => ?_)
        exact J45 l4 l4 h _ _ hP hD hS ls (lv_sub hl [1, 2, 3, 0, 4] rfl)
      refine lv_iload hx hb dX8_farthest_5 (lv_at hl 4 rfl) ?_
      refine lv_aload_n hx hb dX8_farthest_7 rfl (lv_at hl 0 rfl) ?_
      refine lv_iload_n hx hb dX8_farthest_8 rfl (lv_at hl 1 rfl) ?_
      refine jx_callVI C hK hP hD hS hA (ct_M_manyOf l D cI cT aM _ sM l1 h) ms_X8_manyOf lk_X8_85 [0] rfl rfl (fun _ => rfl) (cs' := (fun _ => [(cp_M aM, sM)])) (fun _ => rfl) (fun _ => rfl) 0 0 rfl rfl rfl rfl rfl hl.1 rfl rfl dX8_farthest_9 ⟨Nat.le_refl _, Nat.le_refl _⟩ (fun r9 _ H locs h hP hD hS => ?_)
      have hP : va_P D vwCl (jx_ws cI cT [(cp_M aM, sM)]) H := hP
      have hD : va_D A (jx_ws cI cT [(cp_M aM, sM)]) := hD
      refine jx_cge C h.1 h.2.1 (tgt := 51) dX8_farthest_12 (by decide) (fun hc => ?_) (fun hc => ?_)
      · have h := h.2.2.2 hc
        refine lv_iload_n hx hb dX8_farthest_51 rfl (lv_at hl 3 rfl) ?_
        exact jx_rI C hr hlk hAe hS hQQ () hP h dX8_farthest_52
      · have h := h.2.2.1 hc
        refine lv_iload hx hb dX8_farthest_15 (lv_at hl 4 rfl) ?_
        refine lv_iload_n hx hb dX8_farthest_17 rfl (lv_at hl 2 rfl) ?_
        refine jx_ceq C h.1 h.2.1 (tgt := 45) dX8_farthest_18 (by decide) (fun hc => ?_) (fun hc => ?_)
        · have h := h.2.2.1 hc
          exact J45 l3 l4 h _ _ hP hD hS ls (lv_sub hl [0, 1, 2, 3, 4] rfl)
        · have h := h.2.2.2 hc
          refine lv_iload_n hx hb dX8_farthest_21 rfl (lv_at hl 3 rfl) ?_
          refine jx_iconst C dX8_farthest_22 ?_
          refine jx_ceq C h.1 (jx_inR (by decide) (by decide)) (tgt := 42) dX8_farthest_23 (by decide) (fun hc => ?_) (fun hc => ?_)
          · have h := h.2.1 hc
            exact J42 l4 h _ _ hP hD hS ls (lv_sub hl [0, 1, 2, 4] rfl)
          · have h := h.2.2 hc
            refine lv_aload_n hx hb dX8_farthest_26 rfl (lv_at hl 0 rfl) ?_
            refine lv_iload_n hx hb dX8_farthest_27 rfl (lv_at hl 1 rfl) ?_
            refine lv_iload hx hb dX8_farthest_28 (lv_at hl 4 rfl) ?_
            refine jx_callVI C hK hP hD hS hA (ct_M_farOf l D cI cT aM _ sM l1 l4 h) ms_X8_farOf lk_X8_123 [0] rfl rfl (fun _ => rfl) (cs' := (fun _ => [(cp_M aM, sM)])) (fun _ => rfl) (fun _ => rfl) 0 0 rfl rfl rfl rfl rfl hl.1 rfl rfl dX8_farthest_30 ⟨Nat.le_refl _, Nat.le_refl _⟩ (fun r30 _ H locs h hP hD hS => ?_)
            have hP : va_P D vwCl (jx_ws cI cT [(cp_M aM, sM)]) H := hP
            have hD : va_D A (jx_ws cI cT [(cp_M aM, sM)]) := hD
            refine lv_aload_n hx hb dX8_farthest_33 rfl (lv_at hl 0 rfl) ?_
            refine lv_iload_n hx hb dX8_farthest_34 rfl (lv_at hl 1 rfl) ?_
            refine lv_iload_n hx hb dX8_farthest_35 rfl (lv_at hl 3 rfl) ?_
            refine jx_callVI C hK hP hD hS hA (ct_M_farOf l D cI cT aM _ sM l1 l3 h) ms_X8_farOf lk_X8_123 [0] rfl rfl (fun _ => rfl) (cs' := (fun _ => [(cp_M aM, sM)])) (fun _ => rfl) (fun _ => rfl) 0 0 rfl rfl rfl rfl rfl hl.1 rfl rfl dX8_farthest_36 ⟨Nat.le_refl _, Nat.le_refl _⟩ (fun r36 _ H locs h hP hD hS => ?_)
            have hP : va_P D vwCl (jx_ws cI cT [(cp_M aM, sM)]) H := hP
            have hD : va_D A (jx_ws cI cT [(cp_M aM, sM)]) := hD
            refine jx_clt C h.1 h.2.1 (tgt := 45) dX8_farthest_39 (by decide) (fun hc => ?_) (fun hc => ?_)
            · have h := h.2.2.1 hc
              exact J45 l3 l4 h _ _ hP hD hS ls (lv_sub hl [0, 1, 2, 3, 4] rfl)
            · have h := h.2.2.2 hc
              exact J42 l4 h _ _ hP hD hS ls (lv_sub hl [0, 1, 2, 4] rfl)
  refine jx_iconst C dX8_farthest_0 ?_
  refine lv_istore_n (lv' := [(3, .int (jx_i (-1))), (0, .ref (aM 0)), (1, .int (jx_i l1)), (2, .int (jx_i l2))]) hx hb dX8_farthest_1 rfl hl (by decide) rfl (fun ls hl => ?_)
  refine jx_iconst C dX8_farthest_2 ?_
  refine lv_istore (lv' := [(4, .int (jx_i 0)), (3, .int (jx_i (-1))), (0, .ref (aM 0)), (1, .int (jx_i l1)), (2, .int (jx_i l2))]) hx hb dX8_farthest_3 hl (by decide) rfl (fun ls hl => ?_)
  obtain ⟨n, h⟩ := h
  refine Lo5 n (-1) 0 h _ _ hP hD hS ls (lv_sub hl [2, 3, 4, 1, 0] rfl)
set_option maxRecDepth 100000 in
set_option maxHeartbeats 4000000 in
theorem ct_M_drops (l : Launch) (D : va_G) (cI cT : ClassId) (aM : Nat → Nat) (Q : jx_St → Prop) (sM : jx_St) (l1 : Int) (l2 : Int) (h : wp_M_drops Q sM l1 l2) : jx_KV jx_St l D cI cT yX8_drops cX8_drops 4 1 22 [.ref (aM 0), .int (jx_i l1), .int (jx_i l2)] [(cp_M aM, sM)] (fun u => [(cp_M aM, u)]) Q := by
  refine jx_ent (own := RX8) (by decide) rfl (Nat.le_of_ble_eq_true rfl) ?_
  intro p e s m args below meth c A QQ C hr hlk hK hAe hA hP hD hS ls hl hQQ
  have hl : lv_has ls 4 [(0, .ref (aM 0)), (1, .int (jx_i l1)), (2, .int (jx_i l2))] := hl
  have hx := C.1
  have hb := C.2.1
  unfold wp_M_drops at h
  have Lo16 : ∀ (n : Nat) (sM : jx_St) (l3 : Int), jx_it (fun B16 v => wp_M_drops_16 Q l1 l2 B16 v.1 v.2) n (sM, l3) → ∀ (H : Heap) (locs : List Loc), va_P D vwCl (jx_ws cI cT [(cp_M aM, sM)]) H → va_D A (jx_ws cI cT [(cp_M aM, sM)]) → va_S A s.heap H locs → ∀ ls : Array Slot, lv_has ls 4 [(0, .ref (aM 0)), (1, .int (jx_i l1)), (3, .int (jx_i l3))] → W p l e (jx_rm 1 22) s m args below meth c H locs 0 0 QQ (F0 m 16 ls []) := by
    intro n
    induction n with
    | zero =>
      intro sM l3 h
      exact (show False from h).elim
    | succ n ih =>
      intro sM l3 h H locs hP hD hS ls hl
      have h : wp_M_drops_16 Q l1 l2 (jx_it (fun B16 v => wp_M_drops_16 Q l1 l2 B16 v.1 v.2) n) sM l3 := h
      have ih := fun sM l3 h => ih sM l3 h
      generalize jx_it (fun B16 v => wp_M_drops_16 Q l1 l2 B16 v.1 v.2) n = B16 at h ih
      unfold wp_M_drops_16 at h
      refine lv_iload_n hx hb dX8_drops_16 rfl (lv_at hl 2 rfl) ?_
      refine lv_aload_n hx hb dX8_drops_17 rfl (lv_at hl 0 rfl) ?_
      refine lv_iload_n hx hb dX8_drops_18 rfl (lv_at hl 1 rfl) ?_
      refine jx_callVI C hK hP hD hS hA (ct_M_manyOf l D cI cT aM _ sM l1 h) ms_X8_manyOf lk_X8_85 [0] rfl rfl (fun _ => rfl) (cs' := (fun _ => [(cp_M aM, sM)])) (fun _ => rfl) (fun _ => rfl) 0 0 rfl rfl rfl rfl rfl hl.1 rfl rfl dX8_drops_19 ⟨Nat.le_refl _, Nat.le_refl _⟩ (fun r19 _ H locs h hP hD hS => ?_)
      have hP : va_P D vwCl (jx_ws cI cT [(cp_M aM, sM)]) H := hP
      have hD : va_D A (jx_ws cI cT [(cp_M aM, sM)]) := hD
      refine jx_cge C h.1 h.2.1 (tgt := 53) dX8_drops_22 (by decide) (fun hc => ?_) (fun hc => ?_)
      · have h := h.2.2.2 hc
        exact jx_rV C hr hlk hAe hS hQQ sM hP h dX8_drops_53
      · have h := h.2.2.1 hc
        refine lv_aload_n hx hb dX8_drops_25 rfl (lv_at hl 0 rfl) ?_
        refine jx_getR C hK hP 0 0 0 rfl rfl rfl fl_X8_7 dX8_drops_26 ?_
        refine jx_sipush C dX8_drops_29 (by decide) ?_
        refine jx_iconst C dX8_drops_32 ?_
        refine lv_iload_n hx hb dX8_drops_33 rfl (lv_at hl 1 rfl) ?_
        refine jx_imul C dX8_drops_34 ?_
        refine jx_iadd C dX8_drops_35 ?_
        refine lv_iload_n hx hb dX8_drops_36 rfl (lv_at hl 2 rfl) ?_
        refine jx_iadd C dX8_drops_37 ?_
        refine lv_aload_n hx hb dX8_drops_38 rfl (lv_at hl 0 rfl) ?_
        refine lv_iload_n hx hb dX8_drops_39 rfl (lv_at hl 1 rfl) ?_
        refine lv_iload_n hx hb dX8_drops_40 rfl (lv_at hl 2 rfl) ?_
        refine jx_iconst C dX8_drops_41 ?_
        refine jx_iadd C dX8_drops_42 ?_
        refine jx_callVI C hK hP hD hS hA (ct_M_thing l D cI cT aM _ sM l1 (l3 + 1) h) ms_X8_thing lk_X8_88 [0] rfl rfl (fun _ => rfl) (cs' := (fun _ => [(cp_M aM, sM)])) (fun _ => rfl) (fun _ => rfl) 0 0 rfl rfl rfl rfl rfl hl.1 rfl rfl dX8_drops_43 ⟨Nat.le_refl _, Nat.le_refl _⟩ (fun r43 _ H locs h hP hD hS => ?_)
        have hP : va_P D vwCl (jx_ws cI cT [(cp_M aM, sM)]) H := hP
        have hD : va_D A (jx_ws cI cT [(cp_M aM, sM)]) := hD
        refine jx_iast C hK hP hD hS 0 1 rfl rfl rfl rfl h.1 rfl dX8_drops_46 (fun H locs hP hD hS => ?_)
        have h := h.2
        have hP : va_P D vwCl (jx_ws cI cT [(cp_M aM, (jx_su sM 0 ((239 + (5 * l1)) + l3) r43))]) H := hP
        have hD : va_D A (jx_ws cI cT [(cp_M aM, (jx_su sM 0 ((239 + (5 * l1)) + l3) r43))]) := hD
        refine jx_iinc C (lv' := [(3, .int (jx_i (l3 + 1))), (0, .ref (aM 0)), (1, .int (jx_i l1))]) dX8_drops_47 hl (k := 2) rfl (by decide) rfl (fun ls hl => ?_)
        refine lv_goto (tgt := 16) hx hb dX8_drops_50 (by decide) ?_
        exact ih (jx_su sM 0 ((239 + (5 * l1)) + l3) r43) (l3 + 1) h _ _ hP hD hS ls (lv_sub hl [1, 2, 0] rfl)
  refine lv_aload_n hx hb dX8_drops_0 rfl (lv_at hl 0 rfl) ?_
  refine jx_getR C hK hP 0 0 0 rfl rfl rfl fl_X8_7 dX8_drops_1 ?_
  refine jx_sipush C dX8_drops_4 (by decide) ?_
  refine lv_iload_n hx hb dX8_drops_7 rfl (lv_at hl 1 rfl) ?_
  refine jx_iadd C dX8_drops_8 ?_
  refine lv_dup2_11 hx hb dX8_drops_9 rfl rfl ?_
  refine jx_iald C hK hP 0 1 rfl rfl rfl h.1 dX8_drops_10 ?_
  have h := h.2
  refine jx_iconst C dX8_drops_11 ?_
  refine jx_isub C dX8_drops_12 ?_
  refine jx_iast C hK hP hD hS 0 1 rfl rfl rfl rfl h.1 rfl dX8_drops_13 (fun H locs hP hD hS => ?_)
  have h := h.2
  have hP : va_P D vwCl (jx_ws cI cT [(cp_M aM, (jx_su sM 0 (199 + l1) ((sM 0 (199 + l1)) - 1)))]) H := hP
  have hD : va_D A (jx_ws cI cT [(cp_M aM, (jx_su sM 0 (199 + l1) ((sM 0 (199 + l1)) - 1)))]) := hD
  refine lv_iload_n hx hb dX8_drops_14 rfl (lv_at hl 2 rfl) ?_
  refine lv_istore_n (lv' := [(3, .int (jx_i l2)), (0, .ref (aM 0)), (1, .int (jx_i l1)), (2, .int (jx_i l2))]) hx hb dX8_drops_15 rfl hl (by decide) rfl (fun ls hl => ?_)
  obtain ⟨n, h⟩ := h
  refine Lo16 n (jx_su sM 0 (199 + l1) ((sM 0 (199 + l1)) - 1)) l2 h _ _ hP hD hS ls (lv_sub hl [1, 2, 0] rfl)
set_option maxRecDepth 100000 in
set_option maxHeartbeats 4000000 in
theorem ct_M_waits (l : Launch) (D : va_G) (cI cT : ClassId) (aM : Nat → Nat) (Q : jx_St → Prop) (sM : jx_St) (l1 : Int) (l2 : Int) (h : wp_M_waits Q sM l1 l2) : jx_KV jx_St l D cI cT yX8_waits cX8_waits 3 0 0 [.ref (aM 0), .int (jx_i l1), .int (jx_i l2)] [(cp_M aM, sM)] (fun u => [(cp_M aM, u)]) Q := by
  refine jx_ent (own := RX8) (by decide) rfl (Nat.le_of_ble_eq_true rfl) ?_
  intro p e s m args below meth c A QQ C hr hlk hK hAe hA hP hD hS ls hl hQQ
  have hl : lv_has ls 3 [(0, .ref (aM 0)), (1, .int (jx_i l1)), (2, .int (jx_i l2))] := hl
  have hx := C.1
  have hb := C.2.1
  unfold wp_M_waits at h
  refine lv_aload_n hx hb dX8_waits_0 rfl (lv_at hl 0 rfl) ?_
  refine jx_getR C hK hP 0 0 11 rfl rfl rfl fl_X8_34 dX8_waits_1 ?_
  refine lv_aload_n hx hb dX8_waits_4 rfl (lv_at hl 0 rfl) ?_
  refine jx_getI C hK hP 0 0 13 rfl rfl rfl fl_X8_109 dX8_waits_5 ?_
  refine lv_iload_n hx hb dX8_waits_8 rfl (lv_at hl 1 rfl) ?_
  refine jx_iast C hK hP hD hS 0 9 rfl rfl rfl rfl h.1 rfl dX8_waits_9 (fun H locs hP hD hS => ?_)
  have h := h.2
  have hP : va_P D vwCl (jx_ws cI cT [(cp_M aM, (jx_su sM 11 (sM 13 0) l1))]) H := hP
  have hD : va_D A (jx_ws cI cT [(cp_M aM, (jx_su sM 11 (sM 13 0) l1))]) := hD
  refine lv_aload_n hx hb dX8_waits_10 rfl (lv_at hl 0 rfl) ?_
  refine jx_getR C hK hP 0 0 12 rfl rfl rfl fl_X8_37 dX8_waits_11 ?_
  refine lv_aload_n hx hb dX8_waits_14 rfl (lv_at hl 0 rfl) ?_
  refine jx_getI C hK hP 0 0 13 rfl rfl rfl fl_X8_109 dX8_waits_15 ?_
  refine lv_iload_n hx hb dX8_waits_18 rfl (lv_at hl 2 rfl) ?_
  refine jx_iast C hK hP hD hS 0 10 rfl rfl rfl rfl h.1 rfl dX8_waits_19 (fun H locs hP hD hS => ?_)
  have h := h.2
  have hP : va_P D vwCl (jx_ws cI cT [(cp_M aM, (jx_su (jx_su sM 11 (sM 13 0) l1) 12 ((jx_su sM 11 (sM 13 0) l1) 13 0) l2))]) H := hP
  have hD : va_D A (jx_ws cI cT [(cp_M aM, (jx_su (jx_su sM 11 (sM 13 0) l1) 12 ((jx_su sM 11 (sM 13 0) l1) 13 0) l2))]) := hD
  refine lv_aload_n hx hb dX8_waits_20 rfl (lv_at hl 0 rfl) ?_
  refine lv_dup hx hb dX8_waits_21 rfl ?_
  refine jx_getI C hK hP 0 0 13 rfl rfl rfl fl_X8_109 dX8_waits_22 ?_
  refine jx_iconst C dX8_waits_25 ?_
  refine jx_iadd C dX8_waits_26 ?_
  refine jx_putI C hK hP hD hS 0 0 13 rfl rfl rfl rfl rfl fl_X8_109 fw_X8_13 ⟨rfl, rfl⟩ rfl dX8_waits_27 (fun H locs hP hD hS => ?_)
  have hP : va_P D vwCl (jx_ws cI cT [(cp_M aM, (jx_su (jx_su (jx_su sM 11 (sM 13 0) l1) 12 ((jx_su sM 11 (sM 13 0) l1) 13 0) l2) 13 0 (((jx_su (jx_su sM 11 (sM 13 0) l1) 12 ((jx_su sM 11 (sM 13 0) l1) 13 0) l2) 13 0) + 1)))]) H := hP
  have hD : va_D A (jx_ws cI cT [(cp_M aM, (jx_su (jx_su (jx_su sM 11 (sM 13 0) l1) 12 ((jx_su sM 11 (sM 13 0) l1) 13 0) l2) 13 0 (((jx_su (jx_su sM 11 (sM 13 0) l1) 12 ((jx_su sM 11 (sM 13 0) l1) 13 0) l2) 13 0) + 1)))]) := hD
  exact jx_rV C hr hlk hAe hS hQQ (jx_su (jx_su (jx_su sM 11 (sM 13 0) l1) 12 ((jx_su sM 11 (sM 13 0) l1) 13 0) l2) 13 0 (((jx_su (jx_su sM 11 (sM 13 0) l1) 12 ((jx_su sM 11 (sM 13 0) l1) 13 0) l2) 13 0) + 1)) hP h dX8_waits_30
set_option maxRecDepth 100000 in
set_option maxHeartbeats 4000000 in
theorem ct_M_court (l : Launch) (D : va_G) (cI cT : ClassId) (aM : Nat → Nat) (Q : jx_St → Prop) (sM : jx_St) (l1 : Int) (h : wp_M_court Q sM l1) : jx_KV jx_St l D cI cT yX8_court cX8_court 8 3 73 [.ref (aM 0), .int (jx_i l1)] [(cp_M aM, sM)] (fun u => [(cp_M aM, u)]) Q := by
  refine jx_ent (own := RX8) (by decide) rfl (Nat.le_of_ble_eq_true rfl) ?_
  intro p e s m args below meth c A QQ C hr hlk hK hAe hA hP hD hS ls hl hQQ
  have hl : lv_has ls 8 [(0, .ref (aM 0)), (1, .int (jx_i l1))] := hl
  have hx := C.1
  have hb := C.2.1
  unfold wp_M_court at h
  have J159 : ∀ (sM : jx_St) (l2 : Int) (l3 : Int) (l4 : Int) (l6 : Int) (l7 : Int) (t1 : Int) (t2 : Int), wp_M_court_159 Q l1 sM l2 l3 l4 l6 l7 t1 t2 → ∀ (H : Heap) (locs : List Loc), va_P D vwCl (jx_ws cI cT [(cp_M aM, sM)]) H → va_D A (jx_ws cI cT [(cp_M aM, sM)]) → va_S A s.heap H locs → ∀ ls : Array Slot, lv_has ls 8 [(0, .ref (aM 0)), (1, .int (jx_i l1)), (2, .int (jx_i l2)), (3, .int (jx_i l3)), (4, .int (jx_i l4)), (6, .int (jx_i l6)), (7, .int (jx_i l7))] → W p l e (jx_rm 3 73) s m args below meth c H locs 0 0 QQ (F0 m 159 ls [.int (jx_i t2), .int (jx_i t1), .ref (aM 12)]) := by
    intro sM l2 l3 l4 l6 l7 t1 t2 h H locs hP hD hS ls hl
    unfold wp_M_court_159 at h
    refine jx_iast C hK hP hD hS 0 12 rfl rfl rfl rfl h.1 rfl dX8_court_159 (fun H locs hP hD hS => ?_)
    have h := h.2
    have hP : va_P D vwCl (jx_ws cI cT [(cp_M aM, (jx_su sM 16 t1 t2))]) H := hP
    have hD : va_D A (jx_ws cI cT [(cp_M aM, (jx_su sM 16 t1 t2))]) := hD
    refine lv_aload_n hx hb dX8_court_160 rfl (lv_at hl 0 rfl) ?_
    refine lv_dup hx hb dX8_court_161 rfl ?_
    refine jx_getI C hK hP 0 0 17 rfl rfl rfl fl_X8_135 dX8_court_162 ?_
    refine jx_iconst C dX8_court_165 ?_
    refine jx_iadd C dX8_court_166 ?_
    refine jx_putI C hK hP hD hS 0 0 17 rfl rfl rfl rfl rfl fl_X8_135 fw_X8_17 ⟨rfl, rfl⟩ rfl dX8_court_167 (fun H locs hP hD hS => ?_)
    have hP : va_P D vwCl (jx_ws cI cT [(cp_M aM, (jx_su (jx_su sM 16 t1 t2) 17 0 (((jx_su sM 16 t1 t2) 17 0) + 1)))]) H := hP
    have hD : va_D A (jx_ws cI cT [(cp_M aM, (jx_su (jx_su sM 16 t1 t2) 17 0 (((jx_su sM 16 t1 t2) 17 0) + 1)))]) := hD
    refine lv_aload_n hx hb dX8_court_170 rfl (lv_at hl 0 rfl) ?_
    refine jx_getR C hK hP 0 0 0 rfl rfl rfl fl_X8_7 dX8_court_171 ?_
    refine jx_iconst C dX8_court_174 ?_
    refine lv_dup2_11 hx hb dX8_court_175 rfl rfl ?_
    refine jx_iald C hK hP 0 1 rfl rfl rfl (show jx_B _ _ from ⟨by decide, by decide⟩) dX8_court_176 ?_
    refine jx_iconst C dX8_court_177 ?_
    refine jx_iadd C dX8_court_178 ?_
    refine jx_iast C hK hP hD hS 0 1 rfl rfl rfl rfl (show jx_B _ _ from ⟨by decide, by decide⟩) rfl dX8_court_179 (fun H locs hP hD hS => ?_)
    have hP : va_P D vwCl (jx_ws cI cT [(cp_M aM, (jx_su (jx_su (jx_su sM 16 t1 t2) 17 0 (((jx_su sM 16 t1 t2) 17 0) + 1)) 0 1 (((jx_su (jx_su sM 16 t1 t2) 17 0 (((jx_su sM 16 t1 t2) 17 0) + 1)) 0 1) + 1)))]) H := hP
    have hD : va_D A (jx_ws cI cT [(cp_M aM, (jx_su (jx_su (jx_su sM 16 t1 t2) 17 0 (((jx_su sM 16 t1 t2) 17 0) + 1)) 0 1 (((jx_su (jx_su sM 16 t1 t2) 17 0 (((jx_su sM 16 t1 t2) 17 0) + 1)) 0 1) + 1)))]) := hD
    refine lv_aload_n hx hb dX8_court_180 rfl (lv_at hl 0 rfl) ?_
    refine lv_iload_n hx hb dX8_court_181 rfl (lv_at hl 1 rfl) ?_
    refine lv_iload_n hx hb dX8_court_182 rfl (lv_at hl 3 rfl) ?_
    refine lv_iload hx hb dX8_court_183 (lv_at hl 4 rfl) ?_
    refine jx_callSI C hK hP hD hS hA (ct_M_most l D cI cT  _  l3 l4 h) ms_X8_most lk_X8_99 [] rfl rfl (fun _ => rfl) (cs' := (fun _ => [(cp_M aM, (jx_su (jx_su (jx_su sM 16 t1 t2) 17 0 (((jx_su sM 16 t1 t2) 17 0) + 1)) 0 1 (((jx_su (jx_su sM 16 t1 t2) 17 0 (((jx_su sM 16 t1 t2) 17 0) + 1)) 0 1) + 1)))])) (fun _ => rfl) (fun _ => rfl) rfl rfl hl.1 rfl rfl dX8_court_185 ⟨Nat.le_refl _, Nat.le_refl _⟩ (fun r185 _ H locs h hP hD hS => ?_)
    have hP : va_P D vwCl (jx_ws cI cT [(cp_M aM, (jx_su (jx_su (jx_su sM 16 t1 t2) 17 0 (((jx_su sM 16 t1 t2) 17 0) + 1)) 0 1 (((jx_su (jx_su sM 16 t1 t2) 17 0 (((jx_su sM 16 t1 t2) 17 0) + 1)) 0 1) + 1)))]) H := hP
    have hD : va_D A (jx_ws cI cT [(cp_M aM, (jx_su (jx_su (jx_su sM 16 t1 t2) 17 0 (((jx_su sM 16 t1 t2) 17 0) + 1)) 0 1 (((jx_su (jx_su sM 16 t1 t2) 17 0 (((jx_su sM 16 t1 t2) 17 0) + 1)) 0 1) + 1)))]) := hD
    refine jx_callVV C hK hP hD hS hA (ct_M_drops l D cI cT aM _ (jx_su (jx_su (jx_su sM 16 t1 t2) 17 0 (((jx_su sM 16 t1 t2) 17 0) + 1)) 0 1 (((jx_su (jx_su sM 16 t1 t2) 17 0 (((jx_su sM 16 t1 t2) 17 0) + 1)) 0 1) + 1)) l1 r185 h) ms_X8_drops lk_X8_138 [0] rfl rfl (fun _ => rfl) (cs' := (fun u => [(cp_M aM, u)])) (fun _ => rfl) (fun _ => rfl) 0 0 rfl rfl rfl rfl rfl hl.1 rfl rfl dX8_court_188 ⟨Nat.le_refl _, Nat.le_refl _⟩ (fun sM_188 H locs h hP hD hS => ?_)
    have hP : va_P D vwCl (jx_ws cI cT [(cp_M aM, sM_188)]) H := hP
    have hD : va_D A (jx_ws cI cT [(cp_M aM, sM_188)]) := hD
    refine lv_aload_n hx hb dX8_court_191 rfl (lv_at hl 0 rfl) ?_
    refine lv_iload_n hx hb dX8_court_192 rfl (lv_at hl 1 rfl) ?_
    refine lv_iload_n hx hb dX8_court_193 rfl (lv_at hl 3 rfl) ?_
    refine lv_iload hx hb dX8_court_194 (lv_at hl 4 rfl) ?_
    refine jx_callSI C hK hP hD hS hA (ct_M_least l D cI cT  _  l3 l4 h) ms_X8_least lk_X8_96 [] rfl rfl (fun _ => rfl) (cs' := (fun _ => [(cp_M aM, sM_188)])) (fun _ => rfl) (fun _ => rfl) rfl rfl hl.1 rfl rfl dX8_court_196 ⟨Nat.le_refl _, Nat.le_refl _⟩ (fun r196 _ H locs h hP hD hS => ?_)
    have hP : va_P D vwCl (jx_ws cI cT [(cp_M aM, sM_188)]) H := hP
    have hD : va_D A (jx_ws cI cT [(cp_M aM, sM_188)]) := hD
    refine jx_callVV C hK hP hD hS hA (ct_M_drops l D cI cT aM _ sM_188 l1 r196 h) ms_X8_drops lk_X8_138 [0] rfl rfl (fun _ => rfl) (cs' := (fun u => [(cp_M aM, u)])) (fun _ => rfl) (fun _ => rfl) 0 0 rfl rfl rfl rfl rfl hl.1 rfl rfl dX8_court_199 ⟨Nat.le_refl _, Nat.le_refl _⟩ (fun sM_199 H locs h hP hD hS => ?_)
    have hP : va_P D vwCl (jx_ws cI cT [(cp_M aM, sM_199)]) H := hP
    have hD : va_D A (jx_ws cI cT [(cp_M aM, sM_199)]) := hD
    refine lv_aload_n hx hb dX8_court_202 rfl (lv_at hl 0 rfl) ?_
    refine lv_iload hx hb dX8_court_203 (lv_at hl 6 rfl) ?_
    refine lv_iload_n hx hb dX8_court_205 rfl (lv_at hl 2 rfl) ?_
    refine jx_callVV C hK hP hD hS hA (ct_M_waits l D cI cT aM _ sM_199 l7 l2 h) ms_X8_waits lk_X8_142 [0] rfl rfl (fun _ => rfl) (cs' := (fun u => [(cp_M aM, u)])) (fun _ => rfl) (fun _ => rfl) 0 0 rfl rfl rfl rfl rfl hl.1 rfl rfl dX8_court_206 ⟨Nat.le_refl _, Nat.le_refl _⟩ (fun sM_206 H locs h hP hD hS => ?_)
    have hP : va_P D vwCl (jx_ws cI cT [(cp_M aM, sM_206)]) H := hP
    have hD : va_D A (jx_ws cI cT [(cp_M aM, sM_206)]) := hD
    refine lv_aload_n hx hb dX8_court_209 rfl (lv_at hl 0 rfl) ?_
    refine lv_iload hx hb dX8_court_210 (lv_at hl 5 rfl) ?_
    refine lv_iload_n hx hb dX8_court_212 rfl (lv_at hl 2 rfl) ?_
    refine jx_callVV C hK hP hD hS hA (ct_M_waits l D cI cT aM _ sM_206 l6 l2 h) ms_X8_waits lk_X8_142 [0] rfl rfl (fun _ => rfl) (cs' := (fun u => [(cp_M aM, u)])) (fun _ => rfl) (fun _ => rfl) 0 0 rfl rfl rfl rfl rfl hl.1 rfl rfl dX8_court_213 ⟨Nat.le_refl _, Nat.le_refl _⟩ (fun sM_213 H locs h hP hD hS => ?_)
    have hP : va_P D vwCl (jx_ws cI cT [(cp_M aM, sM_213)]) H := hP
    have hD : va_D A (jx_ws cI cT [(cp_M aM, sM_213)]) := hD
    exact jx_rV C hr hlk hAe hS hQQ sM_213 hP h dX8_court_216
  have J101 : ∀ (sM : jx_St) (l2 : Int) (l3 : Int) (l4 : Int) (l6 : Int) (t1 : Int) (t2 : Int), wp_M_court_101 Q l1 sM l2 l3 l4 l6 t1 t2 → ∀ (H : Heap) (locs : List Loc), va_P D vwCl (jx_ws cI cT [(cp_M aM, sM)]) H → va_D A (jx_ws cI cT [(cp_M aM, sM)]) → va_S A s.heap H locs → ∀ ls : Array Slot, lv_has ls 8 [(0, .ref (aM 0)), (1, .int (jx_i l1)), (2, .int (jx_i l2)), (3, .int (jx_i l3)), (4, .int (jx_i l4)), (6, .int (jx_i l6))] → W p l e (jx_rm 3 73) s m args below meth c H locs 0 0 QQ (F0 m 101 ls [.int (jx_i t2), .int (jx_i t1), .ref (aM 0)]) := by
    intro sM l2 l3 l4 l6 t1 t2 h H locs hP hD hS ls hl
    unfold wp_M_court_101 at h
    refine jx_callVI C hK hP hD hS hA (ct_M_thing l D cI cT aM _ sM t1 t2 h) ms_X8_thing lk_X8_88 [0] rfl rfl (fun _ => rfl) (cs' := (fun _ => [(cp_M aM, sM)])) (fun _ => rfl) (fun _ => rfl) 0 0 rfl rfl rfl rfl rfl hl.1 rfl rfl dX8_court_101 ⟨Nat.le_refl _, Nat.le_refl _⟩ (fun r101 _ H locs h hP hD hS => ?_)
    have hP : va_P D vwCl (jx_ws cI cT [(cp_M aM, sM)]) H := hP
    have hD : va_D A (jx_ws cI cT [(cp_M aM, sM)]) := hD
    refine lv_istore (lv' := [(7, .int (jx_i r101)), (0, .ref (aM 0)), (1, .int (jx_i l1)), (2, .int (jx_i l2)), (3, .int (jx_i l3)), (4, .int (jx_i l4)), (6, .int (jx_i l6))]) hx hb dX8_court_104 hl (by decide) rfl (fun ls hl => ?_)
    refine lv_aload_n hx hb dX8_court_106 rfl (lv_at hl 1 rfl) ?_
    refine lv_dup hx hb dX8_court_107 rfl ?_
    refine jx_getI C hK hP 0 0 14 rfl rfl rfl fl_X8_132 dX8_court_108 ?_
    refine jx_iconst C dX8_court_111 ?_
    refine lv_iload_n hx hb dX8_court_112 rfl (lv_at hl 3 rfl) ?_
    refine jx_ishl C dX8_court_113 ?_
    refine jx_ior C dX8_court_114 ?_
    refine jx_putI C hK hP hD hS 0 0 14 rfl rfl rfl rfl rfl fl_X8_132 fw_X8_14 ⟨rfl, rfl⟩ rfl dX8_court_115 (fun H locs hP hD hS => ?_)
    have hP : va_P D vwCl (jx_ws cI cT [(cp_M aM, (jx_su sM 14 0 (jx_or (sM 14 0) (jx_shl 1 l2))))]) H := hP
    have hD : va_D A (jx_ws cI cT [(cp_M aM, (jx_su sM 14 0 (jx_or (sM 14 0) (jx_shl 1 l2))))]) := hD
    refine lv_aload_n hx hb dX8_court_118 rfl (lv_at hl 1 rfl) ?_
    refine jx_getR C hK hP 0 0 15 rfl rfl rfl fl_X8_40 dX8_court_119 ?_
    refine lv_aload_n hx hb dX8_court_122 rfl (lv_at hl 1 rfl) ?_
    refine jx_getI C hK hP 0 0 17 rfl rfl rfl fl_X8_135 dX8_court_123 ?_
    refine lv_iload_n hx hb dX8_court_126 rfl (lv_at hl 3 rfl) ?_
    refine jx_iast C hK hP hD hS 0 11 rfl rfl rfl rfl h.1 rfl dX8_court_127 (fun H locs hP hD hS => ?_)
    have h := h.2
    have hP : va_P D vwCl (jx_ws cI cT [(cp_M aM, (jx_su (jx_su sM 14 0 (jx_or (sM 14 0) (jx_shl 1 l2))) 15 ((jx_su sM 14 0 (jx_or (sM 14 0) (jx_shl 1 l2))) 17 0) l2))]) H := hP
    have hD : va_D A (jx_ws cI cT [(cp_M aM, (jx_su (jx_su sM 14 0 (jx_or (sM 14 0) (jx_shl 1 l2))) 15 ((jx_su sM 14 0 (jx_or (sM 14 0) (jx_shl 1 l2))) 17 0) l2))]) := hD
    refine lv_aload_n hx hb dX8_court_128 rfl (lv_at hl 1 rfl) ?_
    refine jx_getR C hK hP 0 0 16 rfl rfl rfl fl_X8_43 dX8_court_129 ?_
    refine lv_aload_n hx hb dX8_court_132 rfl (lv_at hl 1 rfl) ?_
    refine jx_getI C hK hP 0 0 17 rfl rfl rfl fl_X8_135 dX8_court_133 ?_
    refine lv_iload_n hx hb dX8_court_136 rfl (lv_at hl 3 rfl) ?_
    refine jx_zne C h.1 (tgt := 144) dX8_court_137 (by decide) (fun hc => ?_) (fun hc => ?_)
    · have h := h.2.2 hc
      refine lv_aload_n hx hb dX8_court_144 rfl (lv_at hl 1 rfl) ?_
      refine jx_getR C hK hP 0 0 8 rfl rfl rfl fl_X8_25 dX8_court_145 ?_
      refine lv_iload hx hb dX8_court_148 (lv_at hl 6 rfl) ?_
      refine jx_iald C hK hP 0 6 rfl rfl rfl h.1 dX8_court_150 ?_
      have h := h.2
      refine lv_aload_n hx hb dX8_court_151 rfl (lv_at hl 1 rfl) ?_
      refine jx_getR C hK hP 0 0 8 rfl rfl rfl fl_X8_25 dX8_court_152 ?_
      refine lv_iload hx hb dX8_court_155 (lv_at hl 0 rfl) ?_
      refine jx_iald C hK hP 0 6 rfl rfl rfl h.1 dX8_court_157 ?_
      have h := h.2
      refine jx_iadd C dX8_court_158 ?_
      exact J159 (jx_su (jx_su sM 14 0 (jx_or (sM 14 0) (jx_shl 1 l2))) 15 ((jx_su sM 14 0 (jx_or (sM 14 0) (jx_shl 1 l2))) 17 0) l2) l2 l3 l4 l6 r101 ((jx_su (jx_su sM 14 0 (jx_or (sM 14 0) (jx_shl 1 l2))) 15 ((jx_su sM 14 0 (jx_or (sM 14 0) (jx_shl 1 l2))) 17 0) l2) 17 0) (((jx_su (jx_su sM 14 0 (jx_or (sM 14 0) (jx_shl 1 l2))) 15 ((jx_su sM 14 0 (jx_or (sM 14 0) (jx_shl 1 l2))) 17 0) l2) 8 l6) + ((jx_su (jx_su sM 14 0 (jx_or (sM 14 0) (jx_shl 1 l2))) 15 ((jx_su sM 14 0 (jx_or (sM 14 0) (jx_shl 1 l2))) 17 0) l2) 8 r101)) h _ _ hP hD hS ls (lv_sub hl [1, 2, 3, 4, 5, 6, 0] rfl)
    · have h := h.2.1 hc
      refine jx_iconst C dX8_court_140 ?_
      refine lv_goto (tgt := 159) hx hb dX8_court_141 (by decide) ?_
      exact J159 (jx_su (jx_su sM 14 0 (jx_or (sM 14 0) (jx_shl 1 l2))) 15 ((jx_su sM 14 0 (jx_or (sM 14 0) (jx_shl 1 l2))) 17 0) l2) l2 l3 l4 l6 r101 ((jx_su (jx_su sM 14 0 (jx_or (sM 14 0) (jx_shl 1 l2))) 15 ((jx_su sM 14 0 (jx_or (sM 14 0) (jx_shl 1 l2))) 17 0) l2) 17 0) 2 h _ _ hP hD hS ls (lv_sub hl [1, 2, 3, 4, 5, 6, 0] rfl)
  have J83 : ∀ (sM : jx_St) (l2 : Int) (l3 : Int) (l4 : Int) (l5 : Int) (t1 : Int) (t2 : Int), wp_M_court_83 Q l1 sM l2 l3 l4 l5 t1 t2 → ∀ (H : Heap) (locs : List Loc), va_P D vwCl (jx_ws cI cT [(cp_M aM, sM)]) H → va_D A (jx_ws cI cT [(cp_M aM, sM)]) → va_S A s.heap H locs → ∀ ls : Array Slot, lv_has ls 8 [(0, .ref (aM 0)), (1, .int (jx_i l1)), (2, .int (jx_i l2)), (3, .int (jx_i l3)), (4, .int (jx_i l4)), (5, .int (jx_i l5))] → W p l e (jx_rm 3 73) s m args below meth c H locs 0 0 QQ (F0 m 83 ls [.int (jx_i t2), .int (jx_i t1), .ref (aM 0)]) := by
    intro sM l2 l3 l4 l5 t1 t2 h H locs hP hD hS ls hl
    unfold wp_M_court_83 at h
    refine jx_callVI C hK hP hD hS hA (ct_M_thing l D cI cT aM _ sM t1 t2 h) ms_X8_thing lk_X8_88 [0] rfl rfl (fun _ => rfl) (cs' := (fun _ => [(cp_M aM, sM)])) (fun _ => rfl) (fun _ => rfl) 0 0 rfl rfl rfl rfl rfl hl.1 rfl rfl dX8_court_83 ⟨Nat.le_refl _, Nat.le_refl _⟩ (fun r83 _ H locs h hP hD hS => ?_)
    have hP : va_P D vwCl (jx_ws cI cT [(cp_M aM, sM)]) H := hP
    have hD : va_D A (jx_ws cI cT [(cp_M aM, sM)]) := hD
    refine lv_istore (lv' := [(6, .int (jx_i r83)), (0, .ref (aM 0)), (1, .int (jx_i l1)), (2, .int (jx_i l2)), (3, .int (jx_i l3)), (4, .int (jx_i l4)), (5, .int (jx_i l5))]) hx hb dX8_court_86 hl (by decide) rfl (fun ls hl => ?_)
    refine lv_aload_n hx hb dX8_court_88 rfl (lv_at hl 1 rfl) ?_
    refine lv_iload_n hx hb dX8_court_89 rfl (lv_at hl 2 rfl) ?_
    refine lv_iload hx hb dX8_court_90 (lv_at hl 6 rfl) ?_
    refine jx_zeq C h.1 (tgt := 100) dX8_court_92 (by decide) (fun hc => ?_) (fun hc => ?_)
    · have h := h.2.1 hc
      refine lv_iload_n hx hb dX8_court_100 rfl (lv_at hl 4 rfl) ?_
      exact J101 sM l2 l3 l4 r83 l1 l3 h _ _ hP hD hS ls (lv_sub hl [1, 2, 3, 4, 5, 0] rfl)
    · have h := h.2.2 hc
      refine lv_iload hx hb dX8_court_95 (lv_at hl 5 rfl) ?_
      refine lv_goto (tgt := 101) hx hb dX8_court_97 (by decide) ?_
      exact J101 sM l2 l3 l4 r83 l1 l4 h _ _ hP hD hS ls (lv_sub hl [1, 2, 3, 4, 5, 0] rfl)
  have J68 : ∀ (sM : jx_St) (l2 : Int) (l3 : Int) (l4 : Int) (t0 : Int), wp_M_court_68 Q l1 sM l2 l3 l4 t0 → ∀ (H : Heap) (locs : List Loc), va_P D vwCl (jx_ws cI cT [(cp_M aM, sM)]) H → va_D A (jx_ws cI cT [(cp_M aM, sM)]) → va_S A s.heap H locs → ∀ ls : Array Slot, lv_has ls 8 [(0, .ref (aM 0)), (1, .int (jx_i l1)), (2, .int (jx_i l2)), (3, .int (jx_i l3)), (4, .int (jx_i l4))] → W p l e (jx_rm 3 73) s m args below meth c H locs 0 0 QQ (F0 m 68 ls [.int (jx_i t0)]) := by
    intro sM l2 l3 l4 t0 h H locs hP hD hS ls hl
    unfold wp_M_court_68 at h
    refine lv_istore (lv' := [(5, .int (jx_i t0)), (0, .ref (aM 0)), (1, .int (jx_i l1)), (2, .int (jx_i l2)), (3, .int (jx_i l3)), (4, .int (jx_i l4))]) hx hb dX8_court_68 hl (by decide) rfl (fun ls hl => ?_)
    refine lv_aload_n hx hb dX8_court_70 rfl (lv_at hl 1 rfl) ?_
    refine lv_iload_n hx hb dX8_court_71 rfl (lv_at hl 2 rfl) ?_
    refine lv_iload hx hb dX8_court_72 (lv_at hl 0 rfl) ?_
    refine jx_zeq C h.1 (tgt := 81) dX8_court_74 (by decide) (fun hc => ?_) (fun hc => ?_)
    · have h := h.2.1 hc
      refine lv_iload hx hb dX8_court_81 (lv_at hl 5 rfl) ?_
      exact J83 sM l2 l3 l4 t0 l1 l4 h _ _ hP hD hS ls (lv_sub hl [1, 2, 3, 4, 5, 0] rfl)
    · have h := h.2.2 hc
      refine lv_iload_n hx hb dX8_court_77 rfl (lv_at hl 4 rfl) ?_
      refine lv_goto (tgt := 83) hx hb dX8_court_78 (by decide) ?_
      exact J83 sM l2 l3 l4 t0 l1 l3 h _ _ hP hD hS ls (lv_sub hl [1, 2, 3, 4, 5, 0] rfl)
  have J63 : ∀ (sM : jx_St) (l2 : Int) (l3 : Int) (l4 : Int), wp_M_court_63 Q l1 sM l2 l3 l4 → ∀ (H : Heap) (locs : List Loc), va_P D vwCl (jx_ws cI cT [(cp_M aM, sM)]) H → va_D A (jx_ws cI cT [(cp_M aM, sM)]) → va_S A s.heap H locs → ∀ ls : Array Slot, lv_has ls 8 [(0, .ref (aM 0)), (1, .int (jx_i l1)), (2, .int (jx_i l2)), (3, .int (jx_i l3)), (4, .int (jx_i l4))] → W p l e (jx_rm 3 73) s m args below meth c H locs 0 0 QQ (F0 m 63 ls []) := by
    intro sM l2 l3 l4 h H locs hP hD hS ls hl
    unfold wp_M_court_63 at h
    refine jx_iconst C dX8_court_63 ?_
    refine lv_goto (tgt := 68) hx hb dX8_court_64 (by decide) ?_
    exact J68 sM l2 l3 l4 1 h _ _ hP hD hS ls (lv_sub hl [0, 1, 2, 3, 4] rfl)
  have J67 : ∀ (sM : jx_St) (l2 : Int) (l3 : Int) (l4 : Int), wp_M_court_67 Q l1 sM l2 l3 l4 → ∀ (H : Heap) (locs : List Loc), va_P D vwCl (jx_ws cI cT [(cp_M aM, sM)]) H → va_D A (jx_ws cI cT [(cp_M aM, sM)]) → va_S A s.heap H locs → ∀ ls : Array Slot, lv_has ls 8 [(0, .ref (aM 0)), (1, .int (jx_i l1)), (2, .int (jx_i l2)), (3, .int (jx_i l3)), (4, .int (jx_i l4))] → W p l e (jx_rm 3 73) s m args below meth c H locs 0 0 QQ (F0 m 67 ls []) := by
    intro sM l2 l3 l4 h H locs hP hD hS ls hl
    unfold wp_M_court_67 at h
    refine jx_iconst C dX8_court_67 ?_
    exact J68 sM l2 l3 l4 0 h _ _ hP hD hS ls (lv_sub hl [0, 1, 2, 3, 4] rfl)
  refine lv_aload_n hx hb dX8_court_0 rfl (lv_at hl 0 rfl) ?_
  refine lv_iload_n hx hb dX8_court_1 rfl (lv_at hl 1 rfl) ?_
  refine jx_callVI C hK hP hD hS hA (ct_M_levelOf l D cI cT aM _ sM l1 h) ms_X8_levelOf lk_X8_81 [0] rfl rfl (fun _ => rfl) (cs' := (fun _ => [(cp_M aM, sM)])) (fun _ => rfl) (fun _ => rfl) 0 0 rfl rfl rfl rfl rfl hl.1 rfl rfl dX8_court_2 ⟨Nat.le_refl _, Nat.le_refl _⟩ (fun r2 _ H locs h hP hD hS => ?_)
  have hP : va_P D vwCl (jx_ws cI cT [(cp_M aM, sM)]) H := hP
  have hD : va_D A (jx_ws cI cT [(cp_M aM, sM)]) := hD
  refine lv_istore_n (lv' := [(2, .int (jx_i r2)), (0, .ref (aM 0)), (1, .int (jx_i l1))]) hx hb dX8_court_5 rfl hl (by decide) rfl (fun ls hl => ?_)
  refine lv_aload_n hx hb dX8_court_6 rfl (lv_at hl 1 rfl) ?_
  refine jx_callVV C hK hP hD hS hA (ct_M_lay l D cI cT aM _ sM  h) ms_X8_lay lk_X8_126 [0] rfl rfl (fun _ => rfl) (cs' := (fun u => [(cp_M aM, u)])) (fun _ => rfl) (fun _ => rfl) 0 0 rfl rfl rfl rfl rfl hl.1 rfl rfl dX8_court_7 ⟨Nat.le_refl _, Nat.le_refl _⟩ (fun sM_7 H locs h hP hD hS => ?_)
  have hP : va_P D vwCl (jx_ws cI cT [(cp_M aM, sM_7)]) H := hP
  have hD : va_D A (jx_ws cI cT [(cp_M aM, sM_7)]) := hD
  refine lv_aload_n hx hb dX8_court_10 rfl (lv_at hl 1 rfl) ?_
  refine lv_iload_n hx hb dX8_court_11 rfl (lv_at hl 2 rfl) ?_
  refine jx_iconst C dX8_court_12 ?_
  refine jx_callVI C hK hP hD hS hA (ct_M_farthest l D cI cT aM _ sM_7 l1 (-1) h) ms_X8_farthest lk_X8_129 [0] rfl rfl (fun _ => rfl) (cs' := (fun _ => [(cp_M aM, sM_7)])) (fun _ => rfl) (fun _ => rfl) 0 0 rfl rfl rfl rfl rfl hl.1 rfl rfl dX8_court_13 ⟨Nat.le_refl _, Nat.le_refl _⟩ (fun r13 _ H locs h hP hD hS => ?_)
  have hP : va_P D vwCl (jx_ws cI cT [(cp_M aM, sM_7)]) H := hP
  have hD : va_D A (jx_ws cI cT [(cp_M aM, sM_7)]) := hD
  refine lv_istore_n (lv' := [(3, .int (jx_i r13)), (2, .int (jx_i r2)), (0, .ref (aM 0)), (1, .int (jx_i l1))]) hx hb dX8_court_16 rfl hl (by decide) rfl (fun ls hl => ?_)
  refine lv_aload_n hx hb dX8_court_17 rfl (lv_at hl 2 rfl) ?_
  refine lv_iload_n hx hb dX8_court_18 rfl (lv_at hl 3 rfl) ?_
  refine lv_iload_n hx hb dX8_court_19 rfl (lv_at hl 0 rfl) ?_
  refine jx_callVI C hK hP hD hS hA (ct_M_farthest l D cI cT aM _ sM_7 l1 r13 h) ms_X8_farthest lk_X8_129 [0] rfl rfl (fun _ => rfl) (cs' := (fun _ => [(cp_M aM, sM_7)])) (fun _ => rfl) (fun _ => rfl) 0 0 rfl rfl rfl rfl rfl hl.1 rfl rfl dX8_court_20 ⟨Nat.le_refl _, Nat.le_refl _⟩ (fun r20 _ H locs h hP hD hS => ?_)
  have hP : va_P D vwCl (jx_ws cI cT [(cp_M aM, sM_7)]) H := hP
  have hD : va_D A (jx_ws cI cT [(cp_M aM, sM_7)]) := hD
  refine lv_istore (lv' := [(4, .int (jx_i r20)), (3, .int (jx_i r13)), (2, .int (jx_i r2)), (0, .ref (aM 0)), (1, .int (jx_i l1))]) hx hb dX8_court_23 hl (by decide) rfl (fun ls hl => ?_)
  refine lv_aload_n hx hb dX8_court_25 rfl (lv_at hl 3 rfl) ?_
  refine lv_iload_n hx hb dX8_court_26 rfl (lv_at hl 4 rfl) ?_
  refine lv_iload_n hx hb dX8_court_27 rfl (lv_at hl 1 rfl) ?_
  refine jx_callVI C hK hP hD hS hA (ct_M_farOf l D cI cT aM _ sM_7 l1 r13 h) ms_X8_farOf lk_X8_123 [0] rfl rfl (fun _ => rfl) (cs' := (fun _ => [(cp_M aM, sM_7)])) (fun _ => rfl) (fun _ => rfl) 0 0 rfl rfl rfl rfl rfl hl.1 rfl rfl dX8_court_28 ⟨Nat.le_refl _, Nat.le_refl _⟩ (fun r28 _ H locs h hP hD hS => ?_)
  have hP : va_P D vwCl (jx_ws cI cT [(cp_M aM, sM_7)]) H := hP
  have hD : va_D A (jx_ws cI cT [(cp_M aM, sM_7)]) := hD
  refine lv_aload_n hx hb dX8_court_31 rfl (lv_at hl 3 rfl) ?_
  refine lv_iload_n hx hb dX8_court_32 rfl (lv_at hl 4 rfl) ?_
  refine lv_iload hx hb dX8_court_33 (lv_at hl 0 rfl) ?_
  refine jx_callVI C hK hP hD hS hA (ct_M_farOf l D cI cT aM _ sM_7 l1 r20 h) ms_X8_farOf lk_X8_123 [0] rfl rfl (fun _ => rfl) (cs' := (fun _ => [(cp_M aM, sM_7)])) (fun _ => rfl) (fun _ => rfl) 0 0 rfl rfl rfl rfl rfl hl.1 rfl rfl dX8_court_35 ⟨Nat.le_refl _, Nat.le_refl _⟩ (fun r35 _ H locs h hP hD hS => ?_)
  have hP : va_P D vwCl (jx_ws cI cT [(cp_M aM, sM_7)]) H := hP
  have hD : va_D A (jx_ws cI cT [(cp_M aM, sM_7)]) := hD
  refine jx_clt C h.1 h.2.1 (tgt := 63) dX8_court_38 (by decide) (fun hc => ?_) (fun hc => ?_)
  · have h := h.2.2.1 hc
    exact J63 sM_7 r2 r13 r20 h _ _ hP hD hS ls (lv_sub hl [3, 4, 2, 1, 0] rfl)
  · have h := h.2.2.2 hc
    refine lv_aload_n hx hb dX8_court_41 rfl (lv_at hl 3 rfl) ?_
    refine lv_iload_n hx hb dX8_court_42 rfl (lv_at hl 4 rfl) ?_
    refine lv_iload_n hx hb dX8_court_43 rfl (lv_at hl 1 rfl) ?_
    refine jx_callVI C hK hP hD hS hA (ct_M_farOf l D cI cT aM _ sM_7 l1 r13 h) ms_X8_farOf lk_X8_123 [0] rfl rfl (fun _ => rfl) (cs' := (fun _ => [(cp_M aM, sM_7)])) (fun _ => rfl) (fun _ => rfl) 0 0 rfl rfl rfl rfl rfl hl.1 rfl rfl dX8_court_44 ⟨Nat.le_refl _, Nat.le_refl _⟩ (fun r44 _ H locs h hP hD hS => ?_)
    have hP : va_P D vwCl (jx_ws cI cT [(cp_M aM, sM_7)]) H := hP
    have hD : va_D A (jx_ws cI cT [(cp_M aM, sM_7)]) := hD
    refine lv_aload_n hx hb dX8_court_47 rfl (lv_at hl 3 rfl) ?_
    refine lv_iload_n hx hb dX8_court_48 rfl (lv_at hl 4 rfl) ?_
    refine lv_iload hx hb dX8_court_49 (lv_at hl 0 rfl) ?_
    refine jx_callVI C hK hP hD hS hA (ct_M_farOf l D cI cT aM _ sM_7 l1 r20 h) ms_X8_farOf lk_X8_123 [0] rfl rfl (fun _ => rfl) (cs' := (fun _ => [(cp_M aM, sM_7)])) (fun _ => rfl) (fun _ => rfl) 0 0 rfl rfl rfl rfl rfl hl.1 rfl rfl dX8_court_51 ⟨Nat.le_refl _, Nat.le_refl _⟩ (fun r51 _ H locs h hP hD hS => ?_)
    have hP : va_P D vwCl (jx_ws cI cT [(cp_M aM, sM_7)]) H := hP
    have hD : va_D A (jx_ws cI cT [(cp_M aM, sM_7)]) := hD
    refine jx_cne C h.1 h.2.1 (tgt := 67) dX8_court_54 (by decide) (fun hc => ?_) (fun hc => ?_)
    · have h := h.2.2.2 hc
      exact J67 sM_7 r2 r13 r20 h _ _ hP hD hS ls (lv_sub hl [3, 4, 2, 1, 0] rfl)
    · have h := h.2.2.1 hc
      refine lv_iload_n hx hb dX8_court_57 rfl (lv_at hl 1 rfl) ?_
      refine lv_iload hx hb dX8_court_58 (lv_at hl 0 rfl) ?_
      refine jx_cge C h.1 h.2.1 (tgt := 67) dX8_court_60 (by decide) (fun hc => ?_) (fun hc => ?_)
      · have h := h.2.2.2 hc
        exact J67 sM_7 r2 r13 r20 h _ _ hP hD hS ls (lv_sub hl [3, 4, 2, 1, 0] rfl)
      · have h := h.2.2.1 hc
        exact J63 sM_7 r2 r13 r20 h _ _ hP hD hS ls (lv_sub hl [3, 4, 2, 1, 0] rfl)
set_option maxRecDepth 100000 in
set_option maxHeartbeats 4000000 in
theorem ct_M_wayOn (l : Launch) (D : va_G) (cI cT : ClassId) (aM : Nat → Nat) (Q : Int → jx_St → Prop) (sM : jx_St) (l1 : Int) (l2 : Int) (l3 : Int) (h : wp_M_wayOn Q sM l1 l2 l3) : jx_KI jx_St l D cI cT yX8_wayOn cX8_wayOn 10 .int 2 48 [.ref (aM 0), .int (jx_i l1), .int (jx_i l2), .int (jx_i l3)] [(cp_M aM, sM)] (fun u => [(cp_M aM, u)]) Q := by
  refine jx_ent (own := RX8) (by decide) rfl (Nat.le_of_ble_eq_true rfl) ?_
  intro p e s m args below meth c A QQ C hr hlk hK hAe hA hP hD hS ls hl hQQ
  have hl : lv_has ls 10 [(0, .ref (aM 0)), (1, .int (jx_i l1)), (2, .int (jx_i l2)), (3, .int (jx_i l3))] := hl
  have hx := C.1
  have hb := C.2.1
  unfold wp_M_wayOn at h
  have Lo12 : ∀ (n : Nat) (sM : jx_St) (l4 : Int) (l5 : Int) (l6 : Int) (l7 : Int), jx_it (fun B12 v => wp_M_wayOn_12 Q l1 l2 l3 B12 v.1 v.2.1 v.2.2.1 v.2.2.2.1 v.2.2.2.2) n (sM, l4, l5, l6, l7) → ∀ (H : Heap) (locs : List Loc), va_P D vwCl (jx_ws cI cT [(cp_M aM, sM)]) H → va_D A (jx_ws cI cT [(cp_M aM, sM)]) → va_S A s.heap H locs → ∀ ls : Array Slot, lv_has ls 10 [(0, .ref (aM 0)), (1, .int (jx_i l1)), (2, .int (jx_i l2)), (3, .int (jx_i l3)), (4, .int (jx_i l4)), (5, .int (jx_i l5)), (6, .int (jx_i l6)), (7, .int (jx_i l7))] → W p l e (jx_rm 2 48) s m args below meth c H locs 0 0 QQ (F0 m 12 ls []) := by
    intro n
    induction n with
    | zero =>
      intro sM l4 l5 l6 l7 h
      exact (show False from h).elim
    | succ n ih =>
      intro sM l4 l5 l6 l7 h H locs hP hD hS ls hl
      have h : wp_M_wayOn_12 Q l1 l2 l3 (jx_it (fun B12 v => wp_M_wayOn_12 Q l1 l2 l3 B12 v.1 v.2.1 v.2.2.1 v.2.2.2.1 v.2.2.2.2) n) sM l4 l5 l6 l7 := h
      have ih := fun sM l4 l5 l6 l7 h => ih sM l4 l5 l6 l7 h
      generalize jx_it (fun B12 v => wp_M_wayOn_12 Q l1 l2 l3 B12 v.1 v.2.1 v.2.2.1 v.2.2.2.1 v.2.2.2.2) n = B12 at h ih
      unfold wp_M_wayOn_12 at h
      have J117 : ∀ (sM : jx_St) (l4 : Int) (l5 : Int) (l6 : Int) (l7 : Int), wp_M_wayOn_117 Q l1 l2 l3 B12 sM l4 l5 l6 l7 → ∀ (H : Heap) (locs : List Loc), va_P D vwCl (jx_ws cI cT [(cp_M aM, sM)]) H → va_D A (jx_ws cI cT [(cp_M aM, sM)]) → va_S A s.heap H locs → ∀ ls : Array Slot, lv_has ls 10 [(0, .ref (aM 0)), (1, .int (jx_i l1)), (2, .int (jx_i l2)), (3, .int (jx_i l3)), (4, .int (jx_i l4)), (5, .int (jx_i l5)), (6, .int (jx_i l6)), (7, .int (jx_i l7))] → W p l e (jx_rm 2 48) s m args below meth c H locs 0 0 QQ (F0 m 117 ls []) := by
        intro sM l4 l5 l6 l7 h H locs hP hD hS ls hl
        unfold wp_M_wayOn_117 at h
        refine jx_iinc C (lv' := [(7, .int (jx_i (l7 + 1))), (0, .ref (aM 0)), (1, .int (jx_i l1)), (2, .int (jx_i l2)), (3, .int (jx_i l3)), (4, .int (jx_i l4)), (5, .int (jx_i l5)), (6, .int (jx_i l6))]) dX8_wayOn_117 hl (k := 7) rfl (by decide) rfl (fun ls hl => ?_)
        refine lv_goto (tgt := 12) hx hb dX8_wayOn_120 (by decide) ?_
        exact ih sM l4 l5 l6 (l7 + 1) h _ _ hP hD hS ls (lv_sub hl [1, 2, 3, 4, 5, 6, 7, 0] rfl)
      have J100 : ∀ (sM : jx_St) (l7 : Int) (l8 : Int) (l9 : Int), wp_M_wayOn_100 Q l1 l2 l3 B12 sM l7 l8 l9 → ∀ (H : Heap) (locs : List Loc), va_P D vwCl (jx_ws cI cT [(cp_M aM, sM)]) H → va_D A (jx_ws cI cT [(cp_M aM, sM)]) → va_S A s.heap H locs → ∀ ls : Array Slot, lv_has ls 10 [(0, .ref (aM 0)), (1, .int (jx_i l1)), (2, .int (jx_i l2)), (3, .int (jx_i l3)), (7, .int (jx_i l7)), (8, .int (jx_i l8)), (9, .int (jx_i l9))] → W p l e (jx_rm 2 48) s m args below meth c H locs 0 0 QQ (F0 m 100 ls []) := by
        intro sM l7 l8 l9 h H locs hP hD hS ls hl
        unfold wp_M_wayOn_100 at h
        refine lv_aload_n hx hb dX8_wayOn_100 rfl (lv_at hl 0 rfl) ?_
        refine lv_iload_n hx hb dX8_wayOn_101 rfl (lv_at hl 1 rfl) ?_
        refine lv_iload hx hb dX8_wayOn_102 (lv_at hl 4 rfl) ?_
        refine jx_callVI C hK hP hD hS hA (ct_M_thing l D cI cT aM _ sM l1 l7 h) ms_X8_thing lk_X8_88 [0] rfl rfl (fun _ => rfl) (cs' := (fun _ => [(cp_M aM, sM)])) (fun _ => rfl) (fun _ => rfl) 0 0 rfl rfl rfl rfl rfl hl.1 rfl rfl dX8_wayOn_104 ⟨Nat.le_refl _, Nat.le_refl _⟩ (fun r104 _ H locs h hP hD hS => ?_)
        have hP : va_P D vwCl (jx_ws cI cT [(cp_M aM, sM)]) H := hP
        have hD : va_D A (jx_ws cI cT [(cp_M aM, sM)]) := hD
        refine lv_istore (lv' := [(4, .int (jx_i r104)), (0, .ref (aM 0)), (1, .int (jx_i l1)), (2, .int (jx_i l2)), (3, .int (jx_i l3)), (7, .int (jx_i l7)), (8, .int (jx_i l8)), (9, .int (jx_i l9))]) hx hb dX8_wayOn_107 hl (by decide) rfl (fun ls hl => ?_)
        refine lv_iload hx hb dX8_wayOn_109 (lv_at hl 7 rfl) ?_
        refine lv_istore (lv' := [(5, .int (jx_i l9)), (4, .int (jx_i r104)), (0, .ref (aM 0)), (1, .int (jx_i l1)), (2, .int (jx_i l2)), (3, .int (jx_i l3)), (7, .int (jx_i l7)), (8, .int (jx_i l8)), (9, .int (jx_i l9))]) hx hb dX8_wayOn_111 hl (by decide) rfl (fun ls hl => ?_)
        refine lv_iload hx hb dX8_wayOn_113 (lv_at hl 7 rfl) ?_
        refine lv_istore (lv' := [(6, .int (jx_i l8)), (5, .int (jx_i l9)), (4, .int (jx_i r104)), (0, .ref (aM 0)), (1, .int (jx_i l1)), (2, .int (jx_i l2)), (3, .int (jx_i l3)), (7, .int (jx_i l7)), (8, .int (jx_i l8)), (9, .int (jx_i l9))]) hx hb dX8_wayOn_115 hl (by decide) rfl (fun ls hl => ?_)
        exact J117 sM r104 l9 l8 l7 h _ _ hP hD hS ls (lv_sub hl [3, 4, 5, 6, 2, 1, 0, 7] rfl)
      refine lv_iload hx hb dX8_wayOn_12 (lv_at hl 7 rfl) ?_
      refine lv_aload_n hx hb dX8_wayOn_14 rfl (lv_at hl 0 rfl) ?_
      refine lv_iload_n hx hb dX8_wayOn_15 rfl (lv_at hl 1 rfl) ?_
      refine jx_callVI C hK hP hD hS hA (ct_M_manyOf l D cI cT aM _ sM l1 h) ms_X8_manyOf lk_X8_85 [0] rfl rfl (fun _ => rfl) (cs' := (fun _ => [(cp_M aM, sM)])) (fun _ => rfl) (fun _ => rfl) 0 0 rfl rfl rfl rfl rfl hl.1 rfl rfl dX8_wayOn_16 ⟨Nat.le_refl _, Nat.le_refl _⟩ (fun r16 _ H locs h hP hD hS => ?_)
      have hP : va_P D vwCl (jx_ws cI cT [(cp_M aM, sM)]) H := hP
      have hD : va_D A (jx_ws cI cT [(cp_M aM, sM)]) := hD
      refine jx_cge C h.1 h.2.1 (tgt := 123) dX8_wayOn_19 (by decide) (fun hc => ?_) (fun hc => ?_)
      · have h := h.2.2.2 hc
        refine lv_iload hx hb dX8_wayOn_123 (lv_at hl 4 rfl) ?_
        exact jx_rI C hr hlk hAe hS hQQ sM hP h dX8_wayOn_125
      · have h := h.2.2.1 hc
        refine lv_aload_n hx hb dX8_wayOn_22 rfl (lv_at hl 0 rfl) ?_
        refine lv_aload_n hx hb dX8_wayOn_23 rfl (lv_at hl 0 rfl) ?_
        refine jx_getR C hK hP 0 0 9 rfl rfl rfl fl_X8_28 dX8_wayOn_24 ?_
        refine lv_aload_n hx hb dX8_wayOn_27 rfl (lv_at hl 0 rfl) ?_
        refine lv_iload_n hx hb dX8_wayOn_28 rfl (lv_at hl 1 rfl) ?_
        refine lv_iload hx hb dX8_wayOn_29 (lv_at hl 7 rfl) ?_
        refine jx_callVI C hK hP hD hS hA (ct_M_thing l D cI cT aM _ sM l1 l7 h) ms_X8_thing lk_X8_88 [0] rfl rfl (fun _ => rfl) (cs' := (fun _ => [(cp_M aM, sM)])) (fun _ => rfl) (fun _ => rfl) 0 0 rfl rfl rfl rfl rfl hl.1 rfl rfl dX8_wayOn_31 ⟨Nat.le_refl _, Nat.le_refl _⟩ (fun r31 _ H locs h hP hD hS => ?_)
        have hP : va_P D vwCl (jx_ws cI cT [(cp_M aM, sM)]) H := hP
        have hD : va_D A (jx_ws cI cT [(cp_M aM, sM)]) := hD
        refine lv_aload_n hx hb dX8_wayOn_34 rfl (lv_at hl 0 rfl) ?_
        refine lv_iload_n hx hb dX8_wayOn_35 rfl (lv_at hl 1 rfl) ?_
        refine jx_callVI C hK hP hD hS hA (ct_M_levelOf l D cI cT aM _ sM l1 h) ms_X8_levelOf lk_X8_81 [0] rfl rfl (fun _ => rfl) (cs' := (fun _ => [(cp_M aM, sM)])) (fun _ => rfl) (fun _ => rfl) 0 0 rfl rfl rfl rfl rfl hl.1 rfl rfl dX8_wayOn_36 ⟨Nat.le_refl _, Nat.le_refl _⟩ (fun r36 _ H locs h hP hD hS => ?_)
        have hP : va_P D vwCl (jx_ws cI cT [(cp_M aM, sM)]) H := hP
        have hD : va_D A (jx_ws cI cT [(cp_M aM, sM)]) := hD
        refine jx_callVV C hK hP hD hS hA (ct_M_takes_one l D cI cT aM _ sM r31 r36 h) ms_X8_takes lk_X8_112 [0] rfl rfl (fun _ => rfl) (cs' := (fun u => [(cp_M aM, u)])) (fun _ => rfl) (fun _ => rfl) 0 0 rfl rfl rfl rfl rfl hl.1 rfl rfl dX8_wayOn_39 ⟨Nat.le_refl _, Nat.le_refl _⟩ (fun sM_39 H locs h hP hD hS => ?_)
        have hP : va_P D vwCl (jx_ws cI cT [(cp_M aM, sM_39)]) H := hP
        have hD : va_D A (jx_ws cI cT [(cp_M aM, sM_39)]) := hD
        refine lv_aload_n hx hb dX8_wayOn_42 rfl (lv_at hl 0 rfl) ?_
        refine jx_getR C hK hP 0 0 9 rfl rfl rfl fl_X8_28 dX8_wayOn_43 ?_
        refine jx_callArea C hK hP hD hS hA 0 7 rfl rfl rfl lk_X8_116 hl.1 rfl rfl dX8_wayOn_46 ⟨Nat.le_refl _, Nat.le_refl _⟩ (fun H locs hP hS => ?_)
        refine lv_istore (lv' := [(8, .int (jx_i (jx_area (sM_39 9)))), (0, .ref (aM 0)), (1, .int (jx_i l1)), (2, .int (jx_i l2)), (3, .int (jx_i l3)), (4, .int (jx_i l4)), (5, .int (jx_i l5)), (6, .int (jx_i l6)), (7, .int (jx_i l7))]) hx hb dX8_wayOn_49 hl (by decide) rfl (fun ls hl => ?_)
        refine lv_aload_n hx hb dX8_wayOn_51 rfl (lv_at hl 1 rfl) ?_
        refine lv_aload_n hx hb dX8_wayOn_52 rfl (lv_at hl 1 rfl) ?_
        refine jx_getR C hK hP 0 0 9 rfl rfl rfl fl_X8_28 dX8_wayOn_53 ?_
        refine lv_iload_n hx hb dX8_wayOn_56 rfl (lv_at hl 3 rfl) ?_
        refine lv_iload_n hx hb dX8_wayOn_57 rfl (lv_at hl 4 rfl) ?_
        refine jx_callVV C hK hP hD hS hA (ct_M_widens_one l D cI cT aM _ sM_39 l2 l3 h) ms_X8_widens lk_X8_120 [0] rfl rfl (fun _ => rfl) (cs' := (fun u => [(cp_M aM, u)])) (fun _ => rfl) (fun _ => rfl) 0 0 rfl rfl rfl rfl rfl hl.1 rfl rfl dX8_wayOn_58 ⟨Nat.le_refl _, Nat.le_refl _⟩ (fun sM_58 H locs h hP hD hS => ?_)
        have hP : va_P D vwCl (jx_ws cI cT [(cp_M aM, sM_58)]) H := hP
        have hD : va_D A (jx_ws cI cT [(cp_M aM, sM_58)]) := hD
        refine lv_aload_n hx hb dX8_wayOn_61 rfl (lv_at hl 1 rfl) ?_
        refine jx_getR C hK hP 0 0 9 rfl rfl rfl fl_X8_28 dX8_wayOn_62 ?_
        refine jx_callArea C hK hP hD hS hA 0 7 rfl rfl rfl lk_X8_116 hl.1 rfl rfl dX8_wayOn_65 ⟨Nat.le_refl _, Nat.le_refl _⟩ (fun H locs hP hS => ?_)
        refine lv_iload hx hb dX8_wayOn_68 (lv_at hl 0 rfl) ?_
        refine jx_isub C dX8_wayOn_70 ?_
        refine lv_istore (lv' := [(9, .int (jx_i ((jx_area (sM_58 9)) - (jx_area (sM_39 9))))), (8, .int (jx_i (jx_area (sM_39 9)))), (0, .ref (aM 0)), (1, .int (jx_i l1)), (2, .int (jx_i l2)), (3, .int (jx_i l3)), (4, .int (jx_i l4)), (5, .int (jx_i l5)), (6, .int (jx_i l6)), (7, .int (jx_i l7))]) hx hb dX8_wayOn_71 hl (by decide) rfl (fun ls hl => ?_)
        refine lv_iload hx hb dX8_wayOn_73 (lv_at hl 6 rfl) ?_
        refine jx_iconst C dX8_wayOn_75 ?_
        refine jx_ceq C h.1 (jx_inR (by decide) (by decide)) (tgt := 100) dX8_wayOn_76 (by decide) (fun hc => ?_) (fun hc => ?_)
        · have h := h.2.1 hc
          exact J100 sM_58 l7 (jx_area (sM_39 9)) ((jx_area (sM_58 9)) - (jx_area (sM_39 9))) h _ _ hP hD hS ls (lv_sub hl [2, 3, 4, 5, 9, 1, 0] rfl)
        · have h := h.2.2 hc
          refine lv_iload hx hb dX8_wayOn_79 (lv_at hl 0 rfl) ?_
          refine lv_iload hx hb dX8_wayOn_81 (lv_at hl 7 rfl) ?_
          refine jx_clt C h.1 h.2.1 (tgt := 100) dX8_wayOn_83 (by decide) (fun hc => ?_) (fun hc => ?_)
          · have h := h.2.2.1 hc
            exact J100 sM_58 l7 (jx_area (sM_39 9)) ((jx_area (sM_58 9)) - (jx_area (sM_39 9))) h _ _ hP hD hS ls (lv_sub hl [2, 3, 4, 5, 9, 1, 0] rfl)
          · have h := h.2.2.2 hc
            refine lv_iload hx hb dX8_wayOn_86 (lv_at hl 0 rfl) ?_
            refine lv_iload hx hb dX8_wayOn_88 (lv_at hl 7 rfl) ?_
            refine jx_cne C h.1 h.2.1 (tgt := 117) dX8_wayOn_90 (by decide) (fun hc => ?_) (fun hc => ?_)
            · have h := h.2.2.2 hc
              exact J117 sM_58 l4 l5 l6 l7 h _ _ hP hD hS ls (lv_sub hl [2, 3, 4, 5, 6, 7, 8, 9] rfl)
            · have h := h.2.2.1 hc
              refine lv_iload hx hb dX8_wayOn_93 (lv_at hl 1 rfl) ?_
              refine lv_iload hx hb dX8_wayOn_95 (lv_at hl 8 rfl) ?_
              refine jx_cge C h.1 h.2.1 (tgt := 117) dX8_wayOn_97 (by decide) (fun hc => ?_) (fun hc => ?_)
              · have h := h.2.2.2 hc
                exact J117 sM_58 l4 l5 l6 l7 h _ _ hP hD hS ls (lv_sub hl [2, 3, 4, 5, 6, 7, 8, 9] rfl)
              · have h := h.2.2.1 hc
                exact J100 sM_58 l7 (jx_area (sM_39 9)) ((jx_area (sM_58 9)) - (jx_area (sM_39 9))) h _ _ hP hD hS ls (lv_sub hl [2, 3, 4, 5, 9, 1, 0] rfl)
  refine jx_iconst C dX8_wayOn_0 ?_
  refine lv_istore (lv' := [(4, .int (jx_i (-1))), (0, .ref (aM 0)), (1, .int (jx_i l1)), (2, .int (jx_i l2)), (3, .int (jx_i l3))]) hx hb dX8_wayOn_1 hl (by decide) rfl (fun ls hl => ?_)
  refine jx_iconst C dX8_wayOn_3 ?_
  refine lv_istore (lv' := [(5, .int (jx_i 0)), (4, .int (jx_i (-1))), (0, .ref (aM 0)), (1, .int (jx_i l1)), (2, .int (jx_i l2)), (3, .int (jx_i l3))]) hx hb dX8_wayOn_4 hl (by decide) rfl (fun ls hl => ?_)
  refine jx_iconst C dX8_wayOn_6 ?_
  refine lv_istore (lv' := [(6, .int (jx_i 0)), (5, .int (jx_i 0)), (4, .int (jx_i (-1))), (0, .ref (aM 0)), (1, .int (jx_i l1)), (2, .int (jx_i l2)), (3, .int (jx_i l3))]) hx hb dX8_wayOn_7 hl (by decide) rfl (fun ls hl => ?_)
  refine jx_iconst C dX8_wayOn_9 ?_
  refine lv_istore (lv' := [(7, .int (jx_i 0)), (6, .int (jx_i 0)), (5, .int (jx_i 0)), (4, .int (jx_i (-1))), (0, .ref (aM 0)), (1, .int (jx_i l1)), (2, .int (jx_i l2)), (3, .int (jx_i l3))]) hx hb dX8_wayOn_10 hl (by decide) rfl (fun ls hl => ?_)
  obtain ⟨n, h⟩ := h
  refine Lo12 n sM (-1) 0 0 0 h _ _ hP hD hS ls (lv_sub hl [4, 5, 6, 7, 3, 2, 1, 0] rfl)
set_option maxRecDepth 100000 in
set_option maxHeartbeats 4000000 in
theorem ct_M_comes (l : Launch) (D : va_G) (cI cT : ClassId) (aM : Nat → Nat) (Q : jx_St → Prop) (sM : jx_St) (l1 : Int) (l2 : Int) (h : wp_M_comes Q sM l1 l2) : jx_KV jx_St l D cI cT yX8_comes cX8_comes 8 4 102 [.ref (aM 0), .int (jx_i l1), .int (jx_i l2)] [(cp_M aM, sM)] (fun u => [(cp_M aM, u)]) Q := by
  refine jx_ent (own := RX8) (by decide) rfl (Nat.le_of_ble_eq_true rfl) ?_
  intro p e s m args below meth c A QQ C hr hlk hK hAe hA hP hD hS ls hl hQQ
  have hl : lv_has ls 8 [(0, .ref (aM 0)), (1, .int (jx_i l1)), (2, .int (jx_i l2))] := hl
  have hx := C.1
  have hb := C.2.1
  unfold wp_M_comes at h
  have Lo14 : ∀ (K48 : jx_St × Int × Int → Prop) (n : Nat) (sM : jx_St) (l3 : Int) (l4 : Int), jx_it (fun B14 v => wp_M_comes_14 Q l1 l2 K48 B14 v.1 v.2.1 v.2.2) n (sM, l3, l4) → (∀ (sM : jx_St) (l3 : Int) (l4 : Int), K48 (sM, l3, l4) → ∀ (H : Heap) (locs : List Loc), va_P D vwCl (jx_ws cI cT [(cp_M aM, sM)]) H → va_D A (jx_ws cI cT [(cp_M aM, sM)]) → va_S A s.heap H locs → ∀ ls : Array Slot, lv_has ls 8 [(0, .ref (aM 0)), (1, .int (jx_i l1)), (3, .int (jx_i l3)), (4, .int (jx_i l4))] → W p l e (jx_rm 4 102) s m args below meth c H locs 0 0 QQ (F0 m 48 ls [])) → ∀ (H : Heap) (locs : List Loc), va_P D vwCl (jx_ws cI cT [(cp_M aM, sM)]) H → va_D A (jx_ws cI cT [(cp_M aM, sM)]) → va_S A s.heap H locs → ∀ ls : Array Slot, lv_has ls 8 [(0, .ref (aM 0)), (1, .int (jx_i l1)), (2, .int (jx_i l2)), (3, .int (jx_i l3)), (4, .int (jx_i l4))] → W p l e (jx_rm 4 102) s m args below meth c H locs 0 0 QQ (F0 m 14 ls []) := by
    intro K48 n
    induction n with
    | zero =>
      intro sM l3 l4 h
      exact (show False from h).elim
    | succ n ih =>
      intro sM l3 l4 h K48E H locs hP hD hS ls hl
      have h : wp_M_comes_14 Q l1 l2 K48 (jx_it (fun B14 v => wp_M_comes_14 Q l1 l2 K48 B14 v.1 v.2.1 v.2.2) n) sM l3 l4 := h
      have ih := fun sM l3 l4 h => ih sM l3 l4 h K48E
      generalize jx_it (fun B14 v => wp_M_comes_14 Q l1 l2 K48 B14 v.1 v.2.1 v.2.2) n = B14 at h ih
      unfold wp_M_comes_14 at h
      refine lv_aload_n hx hb dX8_comes_14 rfl (lv_at hl 0 rfl) ?_
      refine lv_iload hx hb dX8_comes_15 (lv_at hl 4 rfl) ?_
      refine jx_callVI C hK hP hD hS hA (ct_M_levelOf l D cI cT aM _ sM l4 h) ms_X8_levelOf lk_X8_81 [0] rfl rfl (fun _ => rfl) (cs' := (fun _ => [(cp_M aM, sM)])) (fun _ => rfl) (fun _ => rfl) 0 0 rfl rfl rfl rfl rfl hl.1 rfl rfl dX8_comes_17 ⟨Nat.le_refl _, Nat.le_refl _⟩ (fun r17 _ H locs h hP hD hS => ?_)
      have hP : va_P D vwCl (jx_ws cI cT [(cp_M aM, sM)]) H := hP
      have hD : va_D A (jx_ws cI cT [(cp_M aM, sM)]) := hD
      refine lv_iload_n hx hb dX8_comes_20 rfl (lv_at hl 2 rfl) ?_
      refine jx_cle C h.1 h.2.1 (tgt := 48) dX8_comes_21 (by decide) (fun hc => ?_) (fun hc => ?_)
      · have h := h.2.2.1 hc
        exact K48E sM l3 l4 h _ _ hP hD hS ls (lv_sub hl [0, 1, 3, 4] rfl)
      · have h := h.2.2.2 hc
        refine lv_aload_n hx hb dX8_comes_24 rfl (lv_at hl 0 rfl) ?_
        refine jx_getR C hK hP 0 0 23 rfl rfl rfl fl_X8_58 dX8_comes_25 ?_
        refine lv_iload_n hx hb dX8_comes_28 rfl (lv_at hl 3 rfl) ?_
        refine lv_iload hx hb dX8_comes_29 (lv_at hl 4 rfl) ?_
        refine jx_iast C hK hP hD hS 0 17 rfl rfl rfl rfl h.1 rfl dX8_comes_31 (fun H locs hP hD hS => ?_)
        have h := h.2
        have hP : va_P D vwCl (jx_ws cI cT [(cp_M aM, (jx_su sM 23 l3 l4))]) H := hP
        have hD : va_D A (jx_ws cI cT [(cp_M aM, (jx_su sM 23 l3 l4))]) := hD
        refine jx_iinc C (lv' := [(3, .int (jx_i (l3 + 1))), (0, .ref (aM 0)), (1, .int (jx_i l1)), (2, .int (jx_i l2)), (4, .int (jx_i l4))]) dX8_comes_32 hl (k := 3) rfl (by decide) rfl (fun ls hl => ?_)
        refine lv_aload_n hx hb dX8_comes_35 rfl (lv_at hl 1 rfl) ?_
        refine lv_iload hx hb dX8_comes_36 (lv_at hl 4 rfl) ?_
        refine lv_iload_n hx hb dX8_comes_38 rfl (lv_at hl 2 rfl) ?_
        refine lv_iload_n hx hb dX8_comes_39 rfl (lv_at hl 3 rfl) ?_
        refine jx_callVI C hK hP hD hS hA (ct_M_wayOn l D cI cT aM _ (jx_su sM 23 l3 l4) l4 l1 l2 h) ms_X8_wayOn lk_X8_159 [0] rfl rfl (fun _ => rfl) (cs' := (fun u => [(cp_M aM, u)])) (fun _ => rfl) (fun _ => rfl) 0 0 rfl rfl rfl rfl rfl hl.1 rfl rfl dX8_comes_40 ⟨Nat.le_refl _, Nat.le_refl _⟩ (fun r40 sM_40 H locs h hP hD hS => ?_)
        have hP : va_P D vwCl (jx_ws cI cT [(cp_M aM, sM_40)]) H := hP
        have hD : va_D A (jx_ws cI cT [(cp_M aM, sM_40)]) := hD
        refine lv_istore (lv' := [(4, .int (jx_i r40)), (3, .int (jx_i (l3 + 1))), (0, .ref (aM 0)), (1, .int (jx_i l1)), (2, .int (jx_i l2))]) hx hb dX8_comes_43 hl (by decide) rfl (fun ls hl => ?_)
        refine lv_goto (tgt := 14) hx hb dX8_comes_45 (by decide) ?_
        exact ih sM_40 (l3 + 1) r40 h _ _ hP hD hS ls (lv_sub hl [2, 3, 4, 1, 0] rfl)
  have Lo64 : ∀ (n : Nat) (sM : jx_St) (l3 : Int) (l4 : Int) (l5 : Int), jx_it (fun B64 v => wp_M_comes_64 Q l1 l2 B64 v.1 v.2.1 v.2.2.1 v.2.2.2) n (sM, l3, l4, l5) → ∀ (H : Heap) (locs : List Loc), va_P D vwCl (jx_ws cI cT [(cp_M aM, sM)]) H → va_D A (jx_ws cI cT [(cp_M aM, sM)]) → va_S A s.heap H locs → ∀ ls : Array Slot, lv_has ls 8 [(0, .ref (aM 0)), (3, .int (jx_i l3)), (4, .int (jx_i l4)), (5, .int (jx_i l5))] → W p l e (jx_rm 4 102) s m args below meth c H locs 0 0 QQ (F0 m 64 ls []) := by
    intro n
    induction n with
    | zero =>
      intro sM l3 l4 l5 h
      exact (show False from h).elim
    | succ n ih =>
      intro sM l3 l4 l5 h H locs hP hD hS ls hl
      have h : wp_M_comes_64 Q l1 l2 (jx_it (fun B64 v => wp_M_comes_64 Q l1 l2 B64 v.1 v.2.1 v.2.2.1 v.2.2.2) n) sM l3 l4 l5 := h
      have ih := fun sM l3 l4 l5 h => ih sM l3 l4 l5 h
      generalize jx_it (fun B64 v => wp_M_comes_64 Q l1 l2 B64 v.1 v.2.1 v.2.2.1 v.2.2.2) n = B64 at h ih
      unfold wp_M_comes_64 at h
      have J216 : ∀ (sM : jx_St) (l3 : Int) (l4 : Int) (l5 : Int), wp_M_comes_216 Q l1 l2 B64 sM l3 l4 l5 → ∀ (H : Heap) (locs : List Loc), va_P D vwCl (jx_ws cI cT [(cp_M aM, sM)]) H → va_D A (jx_ws cI cT [(cp_M aM, sM)]) → va_S A s.heap H locs → ∀ ls : Array Slot, lv_has ls 8 [(0, .ref (aM 0)), (3, .int (jx_i l3)), (4, .int (jx_i l4)), (5, .int (jx_i l5))] → W p l e (jx_rm 4 102) s m args below meth c H locs 0 0 QQ (F0 m 216 ls []) := by
        intro sM l3 l4 l5 h H locs hP hD hS ls hl
        unfold wp_M_comes_216 at h
        refine lv_goto (tgt := 64) hx hb dX8_comes_216 (by decide) ?_
        exact ih sM l3 l4 l5 h _ _ hP hD hS ls (lv_sub hl [0, 1, 2, 3] rfl)
      have J118 : ∀ (sM : jx_St) (l3 : Int) (l4 : Int) (l5 : Int), wp_M_comes_118 Q l1 l2 B64 sM l3 l4 l5 → ∀ (H : Heap) (locs : List Loc), va_P D vwCl (jx_ws cI cT [(cp_M aM, sM)]) H → va_D A (jx_ws cI cT [(cp_M aM, sM)]) → va_S A s.heap H locs → ∀ ls : Array Slot, lv_has ls 8 [(0, .ref (aM 0)), (3, .int (jx_i l3)), (4, .int (jx_i l4)), (5, .int (jx_i l5))] → W p l e (jx_rm 4 102) s m args below meth c H locs 0 0 QQ (F0 m 118 ls []) := by
        intro sM l3 l4 l5 h H locs hP hD hS ls hl
        unfold wp_M_comes_118 at h
        refine lv_aload_n hx hb dX8_comes_118 rfl (lv_at hl 0 rfl) ?_
        refine lv_iload hx hb dX8_comes_119 (lv_at hl 2 rfl) ?_
        refine jx_callVI C hK hP hD hS hA (ct_M_splits l D cI cT aM _ sM l4 h) ms_X8_splits lk_X8_165 [0] rfl rfl (fun _ => rfl) (cs' := (fun u => [(cp_M aM, u)])) (fun _ => rfl) (fun _ => rfl) 0 0 rfl rfl rfl rfl rfl hl.1 rfl rfl dX8_comes_121 ⟨Nat.le_refl _, Nat.le_refl _⟩ (fun r121 sM_121 H locs h hP hD hS => ?_)
        have hP : va_P D vwCl (jx_ws cI cT [(cp_M aM, sM_121)]) H := hP
        have hD : va_D A (jx_ws cI cT [(cp_M aM, sM_121)]) := hD
        refine lv_istore (lv' := [(6, .int (jx_i r121)), (0, .ref (aM 0)), (3, .int (jx_i l3)), (4, .int (jx_i l4)), (5, .int (jx_i l5))]) hx hb dX8_comes_124 hl (by decide) rfl (fun ls hl => ?_)
        refine lv_iload hx hb dX8_comes_126 (lv_at hl 3 rfl) ?_
        refine lv_aload_n hx hb dX8_comes_128 rfl (lv_at hl 1 rfl) ?_
        refine jx_getR C hK hP 0 0 0 rfl rfl rfl fl_X8_7 dX8_comes_129 ?_
        refine jx_iconst C dX8_comes_132 ?_
        refine jx_iald C hK hP 0 1 rfl rfl rfl (show jx_B _ _ from ⟨by decide, by decide⟩) dX8_comes_133 ?_
        refine jx_cne C h.1 h.2.1 (tgt := 183) dX8_comes_134 (by decide) (fun hc => ?_) (fun hc => ?_)
        · have h := h.2.2.2 hc
          refine jx_iinc C (lv' := [(3, .int (jx_i (l3 + (-1)))), (6, .int (jx_i r121)), (0, .ref (aM 0)), (4, .int (jx_i l4)), (5, .int (jx_i l5))]) dX8_comes_183 hl (k := 2) rfl (by decide) rfl (fun ls hl => ?_)
          refine lv_aload_n hx hb dX8_comes_186 rfl (lv_at hl 2 rfl) ?_
          refine jx_getR C hK hP 0 0 23 rfl rfl rfl fl_X8_58 dX8_comes_187 ?_
          refine lv_iload_n hx hb dX8_comes_190 rfl (lv_at hl 0 rfl) ?_
          refine jx_iald C hK hP 0 17 rfl rfl rfl h.1 dX8_comes_191 ?_
          have h := h.2
          refine lv_istore (lv' := [(7, .int (jx_i (sM_121 23 (l3 + (-1))))), (3, .int (jx_i (l3 + (-1)))), (6, .int (jx_i r121)), (0, .ref (aM 0)), (4, .int (jx_i l4)), (5, .int (jx_i l5))]) hx hb dX8_comes_192 hl (by decide) rfl (fun ls hl => ?_)
          refine lv_aload_n hx hb dX8_comes_194 rfl (lv_at hl 3 rfl) ?_
          refine lv_iload hx hb dX8_comes_195 (lv_at hl 0 rfl) ?_
          refine lv_aload_n hx hb dX8_comes_197 rfl (lv_at hl 3 rfl) ?_
          refine lv_iload hx hb dX8_comes_198 (lv_at hl 0 rfl) ?_
          refine lv_iload hx hb dX8_comes_200 (lv_at hl 4 rfl) ?_
          refine jx_callVI C hK hP hD hS hA (ct_M_placeIn l D cI cT aM _ sM_121 (sM_121 23 (l3 + (-1))) l4 h) ms_X8_placeIn lk_X8_106 [0] rfl rfl (fun _ => rfl) (cs' := (fun _ => [(cp_M aM, sM_121)])) (fun _ => rfl) (fun _ => rfl) 0 0 rfl rfl rfl rfl rfl hl.1 rfl rfl dX8_comes_202 ⟨Nat.le_refl _, Nat.le_refl _⟩ (fun r202 _ H locs h hP hD hS => ?_)
          have hP : va_P D vwCl (jx_ws cI cT [(cp_M aM, sM_121)]) H := hP
          have hD : va_D A (jx_ws cI cT [(cp_M aM, sM_121)]) := hD
          refine jx_iconst C dX8_comes_205 ?_
          refine jx_iadd C dX8_comes_206 ?_
          refine lv_iload hx hb dX8_comes_207 (lv_at hl 2 rfl) ?_
          refine jx_callVV C hK hP hD hS hA (ct_M_puts l D cI cT aM _ sM_121 (sM_121 23 (l3 + (-1))) (r202 + 1) r121 h) ms_X8_puts lk_X8_155 [0] rfl rfl (fun _ => rfl) (cs' := (fun u => [(cp_M aM, u)])) (fun _ => rfl) (fun _ => rfl) 0 0 rfl rfl rfl rfl rfl hl.1 rfl rfl dX8_comes_209 ⟨Nat.le_refl _, Nat.le_refl _⟩ (fun sM_209 H locs h hP hD hS => ?_)
          have hP : va_P D vwCl (jx_ws cI cT [(cp_M aM, sM_209)]) H := hP
          have hD : va_D A (jx_ws cI cT [(cp_M aM, sM_209)]) := hD
          refine lv_iload hx hb dX8_comes_212 (lv_at hl 0 rfl) ?_
          refine lv_istore (lv' := [(4, .int (jx_i (sM_121 23 (l3 + (-1))))), (7, .int (jx_i (sM_121 23 (l3 + (-1))))), (3, .int (jx_i (l3 + (-1)))), (6, .int (jx_i r121)), (0, .ref (aM 0)), (5, .int (jx_i l5))]) hx hb dX8_comes_214 hl (by decide) rfl (fun ls hl => ?_)
          exact J216 sM_209 (l3 + (-1)) (sM_121 23 (l3 + (-1))) l5 h _ _ hP hD hS ls (lv_sub hl [4, 2, 0, 5] rfl)
        · have h := h.2.2.1 hc
          refine lv_aload_n hx hb dX8_comes_137 rfl (lv_at hl 1 rfl) ?_
          refine lv_aload_n hx hb dX8_comes_138 rfl (lv_at hl 1 rfl) ?_
          refine lv_iload hx hb dX8_comes_139 (lv_at hl 3 rfl) ?_
          refine jx_callVI C hK hP hD hS hA (ct_M_levelOf l D cI cT aM _ sM_121 l4 h) ms_X8_levelOf lk_X8_81 [0] rfl rfl (fun _ => rfl) (cs' := (fun _ => [(cp_M aM, sM_121)])) (fun _ => rfl) (fun _ => rfl) 0 0 rfl rfl rfl rfl rfl hl.1 rfl rfl dX8_comes_141 ⟨Nat.le_refl _, Nat.le_refl _⟩ (fun r141 _ H locs h hP hD hS => ?_)
          have hP : va_P D vwCl (jx_ws cI cT [(cp_M aM, sM_121)]) H := hP
          have hD : va_D A (jx_ws cI cT [(cp_M aM, sM_121)]) := hD
          refine jx_iconst C dX8_comes_144 ?_
          refine jx_iadd C dX8_comes_145 ?_
          refine jx_callVI C hK hP hD hS hA (ct_M_newNode l D cI cT aM _ sM_121 (r141 + 1) h) ms_X8_newNode lk_X8_152 [0] rfl rfl (fun _ => rfl) (cs' := (fun u => [(cp_M aM, u)])) (fun _ => rfl) (fun _ => rfl) 0 0 rfl rfl rfl rfl rfl hl.1 rfl rfl dX8_comes_146 ⟨Nat.le_refl _, Nat.le_refl _⟩ (fun r146 sM_146 H locs h hP hD hS => ?_)
          have hP : va_P D vwCl (jx_ws cI cT [(cp_M aM, sM_146)]) H := hP
          have hD : va_D A (jx_ws cI cT [(cp_M aM, sM_146)]) := hD
          refine lv_istore (lv' := [(7, .int (jx_i r146)), (6, .int (jx_i r121)), (0, .ref (aM 0)), (3, .int (jx_i l3)), (4, .int (jx_i l4)), (5, .int (jx_i l5))]) hx hb dX8_comes_149 hl (by decide) rfl (fun ls hl => ?_)
          refine lv_aload_n hx hb dX8_comes_151 rfl (lv_at hl 2 rfl) ?_
          refine lv_iload hx hb dX8_comes_152 (lv_at hl 0 rfl) ?_
          refine jx_iconst C dX8_comes_154 ?_
          refine lv_iload hx hb dX8_comes_155 (lv_at hl 4 rfl) ?_
          refine jx_callVV C hK hP hD hS hA (ct_M_puts l D cI cT aM _ sM_146 r146 0 l4 h) ms_X8_puts lk_X8_155 [0] rfl rfl (fun _ => rfl) (cs' := (fun u => [(cp_M aM, u)])) (fun _ => rfl) (fun _ => rfl) 0 0 rfl rfl rfl rfl rfl hl.1 rfl rfl dX8_comes_157 ⟨Nat.le_refl _, Nat.le_refl _⟩ (fun sM_157 H locs h hP hD hS => ?_)
          have hP : va_P D vwCl (jx_ws cI cT [(cp_M aM, sM_157)]) H := hP
          have hD : va_D A (jx_ws cI cT [(cp_M aM, sM_157)]) := hD
          refine lv_aload_n hx hb dX8_comes_160 rfl (lv_at hl 2 rfl) ?_
          refine lv_iload hx hb dX8_comes_161 (lv_at hl 0 rfl) ?_
          refine jx_iconst C dX8_comes_163 ?_
          refine lv_iload hx hb dX8_comes_164 (lv_at hl 1 rfl) ?_
          refine jx_callVV C hK hP hD hS hA (ct_M_puts l D cI cT aM _ sM_157 r146 1 r121 h) ms_X8_puts lk_X8_155 [0] rfl rfl (fun _ => rfl) (cs' := (fun u => [(cp_M aM, u)])) (fun _ => rfl) (fun _ => rfl) 0 0 rfl rfl rfl rfl rfl hl.1 rfl rfl dX8_comes_166 ⟨Nat.le_refl _, Nat.le_refl _⟩ (fun sM_166 H locs h hP hD hS => ?_)
          have hP : va_P D vwCl (jx_ws cI cT [(cp_M aM, sM_166)]) H := hP
          have hD : va_D A (jx_ws cI cT [(cp_M aM, sM_166)]) := hD
          refine lv_aload_n hx hb dX8_comes_169 rfl (lv_at hl 2 rfl) ?_
          refine jx_getR C hK hP 0 0 0 rfl rfl rfl fl_X8_7 dX8_comes_170 ?_
          refine jx_iconst C dX8_comes_173 ?_
          refine lv_iload hx hb dX8_comes_174 (lv_at hl 0 rfl) ?_
          refine jx_iast C hK hP hD hS 0 1 rfl rfl rfl rfl (show jx_B _ _ from ⟨by decide, by decide⟩) rfl dX8_comes_176 (fun H locs hP hD hS => ?_)
          have hP : va_P D vwCl (jx_ws cI cT [(cp_M aM, (jx_su sM_166 0 0 r146))]) H := hP
          have hD : va_D A (jx_ws cI cT [(cp_M aM, (jx_su sM_166 0 0 r146))]) := hD
          refine jx_iconst C dX8_comes_177 ?_
          refine lv_istore (lv' := [(5, .int (jx_i 0)), (7, .int (jx_i r146)), (6, .int (jx_i r121)), (0, .ref (aM 0)), (3, .int (jx_i l3)), (4, .int (jx_i l4))]) hx hb dX8_comes_178 hl (by decide) rfl (fun ls hl => ?_)
          refine lv_goto (tgt := 216) hx hb dX8_comes_180 (by decide) ?_
          exact J216 (jx_su sM_166 0 0 r146) l3 l4 0 h _ _ hP hD hS ls (lv_sub hl [3, 4, 5, 0] rfl)
      refine lv_iload hx hb dX8_comes_64 (lv_at hl 3 rfl) ?_
      refine jx_zeq C h.1 (tgt := 219) dX8_comes_66 (by decide) (fun hc => ?_) (fun hc => ?_)
      · have h := h.2.1 hc
        exact jx_rV C hr hlk hAe hS hQQ sM hP h dX8_comes_219
      · have h := h.2.2 hc
        refine lv_aload_n hx hb dX8_comes_69 rfl (lv_at hl 0 rfl) ?_
        refine lv_iload hx hb dX8_comes_70 (lv_at hl 2 rfl) ?_
        refine jx_callVI C hK hP hD hS hA (ct_M_manyOf l D cI cT aM _ sM l4 h) ms_X8_manyOf lk_X8_85 [0] rfl rfl (fun _ => rfl) (cs' := (fun _ => [(cp_M aM, sM)])) (fun _ => rfl) (fun _ => rfl) 0 0 rfl rfl rfl rfl rfl hl.1 rfl rfl dX8_comes_72 ⟨Nat.le_refl _, Nat.le_refl _⟩ (fun r72 _ H locs h hP hD hS => ?_)
        have hP : va_P D vwCl (jx_ws cI cT [(cp_M aM, sM)]) H := hP
        have hD : va_D A (jx_ws cI cT [(cp_M aM, sM)]) := hD
        refine jx_iconst C dX8_comes_75 ?_
        refine jx_cne C h.1 (jx_inR (by decide) (by decide)) (tgt := 219) dX8_comes_76 (by decide) (fun hc => ?_) (fun hc => ?_)
        · have h := h.2.2 hc
          exact jx_rV C hr hlk hAe hS hQQ sM hP h dX8_comes_219
        · have h := h.2.1 hc
          refine lv_iload hx hb dX8_comes_79 (lv_at hl 2 rfl) ?_
          refine lv_aload_n hx hb dX8_comes_81 rfl (lv_at hl 0 rfl) ?_
          refine jx_getR C hK hP 0 0 0 rfl rfl rfl fl_X8_7 dX8_comes_82 ?_
          refine jx_iconst C dX8_comes_85 ?_
          refine jx_iald C hK hP 0 1 rfl rfl rfl (show jx_B _ _ from ⟨by decide, by decide⟩) dX8_comes_86 ?_
          refine jx_ceq C h.1 h.2.1 (tgt := 118) dX8_comes_87 (by decide) (fun hc => ?_) (fun hc => ?_)
          · have h := h.2.2.1 hc
            exact J118 sM l3 l4 l5 h _ _ hP hD hS ls (lv_sub hl [0, 1, 2, 3] rfl)
          · have h := h.2.2.2 hc
            refine lv_aload_n hx hb dX8_comes_90 rfl (lv_at hl 0 rfl) ?_
            refine jx_getI C hK hP 0 0 14 rfl rfl rfl fl_X8_132 dX8_comes_91 ?_
            refine lv_aload_n hx hb dX8_comes_94 rfl (lv_at hl 0 rfl) ?_
            refine lv_iload hx hb dX8_comes_95 (lv_at hl 2 rfl) ?_
            refine jx_callVI C hK hP hD hS hA (ct_M_levelOf l D cI cT aM _ sM l4 h) ms_X8_levelOf lk_X8_81 [0] rfl rfl (fun _ => rfl) (cs' := (fun _ => [(cp_M aM, sM)])) (fun _ => rfl) (fun _ => rfl) 0 0 rfl rfl rfl rfl rfl hl.1 rfl rfl dX8_comes_97 ⟨Nat.le_refl _, Nat.le_refl _⟩ (fun r97 _ H locs h hP hD hS => ?_)
            have hP : va_P D vwCl (jx_ws cI cT [(cp_M aM, sM)]) H := hP
            have hD : va_D A (jx_ws cI cT [(cp_M aM, sM)]) := hD
            refine jx_ishr C dX8_comes_100 ?_
            refine jx_iconst C dX8_comes_101 ?_
            refine jx_iand C dX8_comes_102 ?_
            refine jx_zne C h.1 (tgt := 118) dX8_comes_103 (by decide) (fun hc => ?_) (fun hc => ?_)
            · have h := h.2.2 hc
              exact J118 sM l3 l4 l5 h _ _ hP hD hS ls (lv_sub hl [0, 1, 2, 3] rfl)
            · have h := h.2.1 hc
              refine lv_aload_n hx hb dX8_comes_106 rfl (lv_at hl 0 rfl) ?_
              refine lv_iload hx hb dX8_comes_107 (lv_at hl 2 rfl) ?_
              refine jx_callVV C hK hP hD hS hA (ct_M_court l D cI cT aM _ sM l4 h) ms_X8_court lk_X8_162 [0] rfl rfl (fun _ => rfl) (cs' := (fun u => [(cp_M aM, u)])) (fun _ => rfl) (fun _ => rfl) 0 0 rfl rfl rfl rfl rfl hl.1 rfl rfl dX8_comes_109 ⟨Nat.le_refl _, Nat.le_refl _⟩ (fun sM_109 H locs h hP hD hS => ?_)
              have hP : va_P D vwCl (jx_ws cI cT [(cp_M aM, sM_109)]) H := hP
              have hD : va_D A (jx_ws cI cT [(cp_M aM, sM_109)]) := hD
              refine jx_iconst C dX8_comes_112 ?_
              refine lv_istore (lv' := [(5, .int (jx_i 0)), (0, .ref (aM 0)), (3, .int (jx_i l3)), (4, .int (jx_i l4))]) hx hb dX8_comes_113 hl (by decide) rfl (fun ls hl => ?_)
              refine lv_goto (tgt := 64) hx hb dX8_comes_115 (by decide) ?_
              exact ih sM_109 l3 l4 0 h _ _ hP hD hS ls (lv_sub hl [1, 2, 3, 0] rfl)
  have J48 : ∀ (sM : jx_St) (l3 : Int) (l4 : Int), wp_M_comes_48 Q l1 l2 sM l3 l4 → ∀ (H : Heap) (locs : List Loc), va_P D vwCl (jx_ws cI cT [(cp_M aM, sM)]) H → va_D A (jx_ws cI cT [(cp_M aM, sM)]) → va_S A s.heap H locs → ∀ ls : Array Slot, lv_has ls 8 [(0, .ref (aM 0)), (1, .int (jx_i l1)), (3, .int (jx_i l3)), (4, .int (jx_i l4))] → W p l e (jx_rm 4 102) s m args below meth c H locs 0 0 QQ (F0 m 48 ls []) := by
    intro sM l3 l4 h H locs hP hD hS ls hl
    unfold wp_M_comes_48 at h
    refine lv_aload_n hx hb dX8_comes_48 rfl (lv_at hl 0 rfl) ?_
    refine lv_iload hx hb dX8_comes_49 (lv_at hl 3 rfl) ?_
    refine lv_aload_n hx hb dX8_comes_51 rfl (lv_at hl 0 rfl) ?_
    refine lv_iload hx hb dX8_comes_52 (lv_at hl 3 rfl) ?_
    refine jx_callVI C hK hP hD hS hA (ct_M_manyOf l D cI cT aM _ sM l4 h) ms_X8_manyOf lk_X8_85 [0] rfl rfl (fun _ => rfl) (cs' := (fun _ => [(cp_M aM, sM)])) (fun _ => rfl) (fun _ => rfl) 0 0 rfl rfl rfl rfl rfl hl.1 rfl rfl dX8_comes_54 ⟨Nat.le_refl _, Nat.le_refl _⟩ (fun r54 _ H locs h hP hD hS => ?_)
    have hP : va_P D vwCl (jx_ws cI cT [(cp_M aM, sM)]) H := hP
    have hD : va_D A (jx_ws cI cT [(cp_M aM, sM)]) := hD
    refine lv_iload_n hx hb dX8_comes_57 rfl (lv_at hl 1 rfl) ?_
    refine jx_callVV C hK hP hD hS hA (ct_M_puts l D cI cT aM _ sM l4 r54 l1 h) ms_X8_puts lk_X8_155 [0] rfl rfl (fun _ => rfl) (cs' := (fun u => [(cp_M aM, u)])) (fun _ => rfl) (fun _ => rfl) 0 0 rfl rfl rfl rfl rfl hl.1 rfl rfl dX8_comes_58 ⟨Nat.le_refl _, Nat.le_refl _⟩ (fun sM_58 H locs h hP hD hS => ?_)
    have hP : va_P D vwCl (jx_ws cI cT [(cp_M aM, sM_58)]) H := hP
    have hD : va_D A (jx_ws cI cT [(cp_M aM, sM_58)]) := hD
    refine jx_iconst C dX8_comes_61 ?_
    refine lv_istore (lv' := [(5, .int (jx_i 1)), (0, .ref (aM 0)), (1, .int (jx_i l1)), (3, .int (jx_i l3)), (4, .int (jx_i l4))]) hx hb dX8_comes_62 hl (by decide) rfl (fun ls hl => ?_)
    obtain ⟨n, h⟩ := h
    refine Lo64 n sM_58 l3 l4 1 h _ _ hP hD hS ls (lv_sub hl [1, 3, 4, 0] rfl)
  refine lv_aload_n hx hb dX8_comes_0 rfl (lv_at hl 0 rfl) ?_
  refine jx_callVV C hK hP hD hS hA (ct_M_lay l D cI cT aM _ sM  h) ms_X8_lay lk_X8_126 [0] rfl rfl (fun _ => rfl) (cs' := (fun u => [(cp_M aM, u)])) (fun _ => rfl) (fun _ => rfl) 0 0 rfl rfl rfl rfl rfl hl.1 rfl rfl dX8_comes_1 ⟨Nat.le_refl _, Nat.le_refl _⟩ (fun sM_1 H locs h hP hD hS => ?_)
  have hP : va_P D vwCl (jx_ws cI cT [(cp_M aM, sM_1)]) H := hP
  have hD : va_D A (jx_ws cI cT [(cp_M aM, sM_1)]) := hD
  refine jx_iconst C dX8_comes_4 ?_
  refine lv_istore_n (lv' := [(3, .int (jx_i 0)), (0, .ref (aM 0)), (1, .int (jx_i l1)), (2, .int (jx_i l2))]) hx hb dX8_comes_5 rfl hl (by decide) rfl (fun ls hl => ?_)
  refine lv_aload_n hx hb dX8_comes_6 rfl (lv_at hl 1 rfl) ?_
  refine jx_getR C hK hP 0 0 0 rfl rfl rfl fl_X8_7 dX8_comes_7 ?_
  refine jx_iconst C dX8_comes_10 ?_
  refine jx_iald C hK hP 0 1 rfl rfl rfl (show jx_B _ _ from ⟨by decide, by decide⟩) dX8_comes_11 ?_
  refine lv_istore (lv' := [(4, .int (jx_i (sM_1 0 0))), (3, .int (jx_i 0)), (0, .ref (aM 0)), (1, .int (jx_i l1)), (2, .int (jx_i l2))]) hx hb dX8_comes_12 hl (by decide) rfl (fun ls hl => ?_)
  obtain ⟨n, h⟩ := h
  refine Lo14 _ n sM_1 0 (sM_1 0 0) h ?_ _ _ hP hD hS ls (lv_sub hl [2, 3, 4, 1, 0] rfl)
  · intro sM l3 l4 h H locs hP hD hS ls hl
    exact J48 sM l3 l4 h _ _ hP hD hS ls (lv_sub hl [0, 1, 2, 3] rfl)
set_option maxRecDepth 100000 in
set_option maxHeartbeats 4000000 in
theorem ct_M_copy (l : Launch) (D : va_G) (cI cT : ClassId) (aM : Nat → Nat) (Q : jx_St → Prop) (sM : jx_St) (h : wp_M_copy Q sM) : jx_KV jx_St l D cI cT yX8_copy cX8_copy 2 0 0 [.ref (aM 0)] [(cp_M aM, sM)] (fun u => [(cp_M aM, u)]) Q := by
  refine jx_ent (own := RX8) (by decide) rfl (Nat.le_of_ble_eq_true rfl) ?_
  intro p e s m args below meth c A QQ C hr hlk hK hAe hA hP hD hS ls hl hQQ
  have hl : lv_has ls 2 [(0, .ref (aM 0))] := hl
  have hx := C.1
  have hb := C.2.1
  unfold wp_M_copy at h
  have Lo2 : ∀ (n : Nat) (sM : jx_St) (l1 : Int), jx_it (fun B2 v => wp_M_copy_2 Q B2 v.1 v.2) n (sM, l1) → ∀ (H : Heap) (locs : List Loc), va_P D vwCl (jx_ws cI cT [(cp_M aM, sM)]) H → va_D A (jx_ws cI cT [(cp_M aM, sM)]) → va_S A s.heap H locs → ∀ ls : Array Slot, lv_has ls 2 [(0, .ref (aM 0)), (1, .int (jx_i l1))] → W p l e (jx_rm 0 0) s m args below meth c H locs 0 0 QQ (F0 m 2 ls []) := by
    intro n
    induction n with
    | zero =>
      intro sM l1 h
      exact (show False from h).elim
    | succ n ih =>
      intro sM l1 h H locs hP hD hS ls hl
      have h : wp_M_copy_2 Q (jx_it (fun B2 v => wp_M_copy_2 Q B2 v.1 v.2) n) sM l1 := h
      have ih := fun sM l1 h => ih sM l1 h
      generalize jx_it (fun B2 v => wp_M_copy_2 Q B2 v.1 v.2) n = B2 at h ih
      unfold wp_M_copy_2 at h
      refine lv_iload_n hx hb dX8_copy_2 rfl (lv_at hl 1 rfl) ?_
      refine jx_sipush C dX8_copy_3 (by decide) ?_
      refine jx_cge C h.1 (jx_inR (by decide) (by decide)) (tgt := 27) dX8_copy_6 (by decide) (fun hc => ?_) (fun hc => ?_)
      · have h := h.2.2 hc
        exact jx_rV C hr hlk hAe hS hQQ sM hP h dX8_copy_27
      · have h := h.2.1 hc
        refine lv_aload_n hx hb dX8_copy_9 rfl (lv_at hl 0 rfl) ?_
        refine jx_getR C hK hP 0 0 1 rfl rfl rfl fl_X8_13 dX8_copy_10 ?_
        refine lv_iload_n hx hb dX8_copy_13 rfl (lv_at hl 1 rfl) ?_
        refine lv_aload_n hx hb dX8_copy_14 rfl (lv_at hl 0 rfl) ?_
        refine jx_getR C hK hP 0 0 0 rfl rfl rfl fl_X8_7 dX8_copy_15 ?_
        refine lv_iload_n hx hb dX8_copy_18 rfl (lv_at hl 1 rfl) ?_
        refine jx_iald C hK hP 0 1 rfl rfl rfl h.1 dX8_copy_19 ?_
        have h := h.2
        refine jx_iast C hK hP hD hS 0 2 rfl rfl rfl rfl h.1 rfl dX8_copy_20 (fun H locs hP hD hS => ?_)
        have h := h.2
        have hP : va_P D vwCl (jx_ws cI cT [(cp_M aM, (jx_su sM 1 l1 (sM 0 l1)))]) H := hP
        have hD : va_D A (jx_ws cI cT [(cp_M aM, (jx_su sM 1 l1 (sM 0 l1)))]) := hD
        refine jx_iinc C (lv' := [(1, .int (jx_i (l1 + 1))), (0, .ref (aM 0))]) dX8_copy_21 hl (k := 1) rfl (by decide) rfl (fun ls hl => ?_)
        refine lv_goto (tgt := 2) hx hb dX8_copy_24 (by decide) ?_
        exact ih (jx_su sM 1 l1 (sM 0 l1)) (l1 + 1) h _ _ hP hD hS ls (lv_sub hl [1, 0] rfl)
  refine jx_iconst C dX8_copy_0 ?_
  refine lv_istore_n (lv' := [(1, .int (jx_i 0)), (0, .ref (aM 0))]) hx hb dX8_copy_1 rfl hl (by decide) rfl (fun ls hl => ?_)
  obtain ⟨n, h⟩ := h
  refine Lo2 n sM 0 h _ _ hP hD hS ls (lv_sub hl [1, 0] rfl)
set_option maxRecDepth 100000 in
set_option maxHeartbeats 4000000 in
theorem ct_M_nodeMany (l : Launch) (D : va_G) (cI cT : ClassId) (aM : Nat → Nat) (Q : Int → Prop) (sM : jx_St) (l1 : Int) (h : wp_M_nodeMany Q sM l1) : jx_KI (Unit) l D cI cT yX8_nodeMany cX8_nodeMany 4 .int 1 22 [.ref (aM 0), .int (jx_i l1)] [(cp_M aM, sM)] (fun _ => [(cp_M aM, sM)]) (fun x _ => Q x) := by
  refine jx_ent (own := RX8) (by decide) rfl (Nat.le_of_ble_eq_true rfl) ?_
  intro p e s m args below meth c A QQ C hr hlk hK hAe hA hP hD hS ls hl hQQ
  have hl : lv_has ls 4 [(0, .ref (aM 0)), (1, .int (jx_i l1))] := hl
  have hx := C.1
  have hb := C.2.1
  unfold wp_M_nodeMany at h
  have Lo4 : ∀ (n : Nat) (l2 : Int) (l3 : Int), jx_it (fun B4 v => wp_M_nodeMany_4 Q sM l1 B4 v.1 v.2) n (l2, l3) → ∀ (H : Heap) (locs : List Loc), va_P D vwCl (jx_ws cI cT [(cp_M aM, sM)]) H → va_D A (jx_ws cI cT [(cp_M aM, sM)]) → va_S A s.heap H locs → ∀ ls : Array Slot, lv_has ls 4 [(0, .ref (aM 0)), (1, .int (jx_i l1)), (2, .int (jx_i l2)), (3, .int (jx_i l3))] → W p l e (jx_rm 1 22) s m args below meth c H locs 0 0 QQ (F0 m 4 ls []) := by
    intro n
    induction n with
    | zero =>
      intro l2 l3 h
      exact (show False from h).elim
    | succ n ih =>
      intro l2 l3 h H locs hP hD hS ls hl
      have h : wp_M_nodeMany_4 Q sM l1 (jx_it (fun B4 v => wp_M_nodeMany_4 Q sM l1 B4 v.1 v.2) n) l2 l3 := h
      have ih := fun l2 l3 h => ih l2 l3 h
      generalize jx_it (fun B4 v => wp_M_nodeMany_4 Q sM l1 B4 v.1 v.2) n = B4 at h ih
      unfold wp_M_nodeMany_4 at h
      have J29 : ∀ (l3 : Int) (t0 : Int) (t1 : Int), wp_M_nodeMany_29 Q sM l1 B4 l3 t0 t1 → ∀ (H : Heap) (locs : List Loc), va_P D vwCl (jx_ws cI cT [(cp_M aM, sM)]) H → va_D A (jx_ws cI cT [(cp_M aM, sM)]) → va_S A s.heap H locs → ∀ ls : Array Slot, lv_has ls 4 [(0, .ref (aM 0)), (1, .int (jx_i l1)), (3, .int (jx_i l3))] → W p l e (jx_rm 1 22) s m args below meth c H locs 0 0 QQ (F0 m 29 ls [.int (jx_i t1), .int (jx_i t0)]) := by
        intro l3 t0 t1 h H locs hP hD hS ls hl
        unfold wp_M_nodeMany_29 at h
        refine jx_iadd C dX8_nodeMany_29 ?_
        refine lv_istore_n (lv' := [(2, .int (jx_i (t0 + t1))), (0, .ref (aM 0)), (1, .int (jx_i l1)), (3, .int (jx_i l3))]) hx hb dX8_nodeMany_30 rfl hl (by decide) rfl (fun ls hl => ?_)
        refine jx_iinc C (lv' := [(3, .int (jx_i (l3 + 1))), (2, .int (jx_i (t0 + t1))), (0, .ref (aM 0)), (1, .int (jx_i l1))]) dX8_nodeMany_31 hl (k := 3) rfl (by decide) rfl (fun ls hl => ?_)
        refine lv_goto (tgt := 4) hx hb dX8_nodeMany_34 (by decide) ?_
        exact ih (t0 + t1) (l3 + 1) h _ _ hP hD hS ls (lv_sub hl [2, 3, 1, 0] rfl)
      refine lv_iload_n hx hb dX8_nodeMany_4 rfl (lv_at hl 3 rfl) ?_
      refine jx_bipush C dX8_nodeMany_5 (by decide) ?_
      refine jx_cge C h.1 (jx_inR (by decide) (by decide)) (tgt := 37) dX8_nodeMany_7 (by decide) (fun hc => ?_) (fun hc => ?_)
      · have h := h.2.2 hc
        refine lv_iload_n hx hb dX8_nodeMany_37 rfl (lv_at hl 2 rfl) ?_
        exact jx_rI C hr hlk hAe hS hQQ () hP h dX8_nodeMany_38
      · have h := h.2.1 hc
        refine lv_iload_n hx hb dX8_nodeMany_10 rfl (lv_at hl 2 rfl) ?_
        refine lv_aload_n hx hb dX8_nodeMany_11 rfl (lv_at hl 0 rfl) ?_
        refine lv_iload_n hx hb dX8_nodeMany_12 rfl (lv_at hl 3 rfl) ?_
        refine jx_callVI C hK hP hD hS hA (ct_M_levelOf l D cI cT aM _ sM l3 h) ms_X8_levelOf lk_X8_81 [0] rfl rfl (fun _ => rfl) (cs' := (fun _ => [(cp_M aM, sM)])) (fun _ => rfl) (fun _ => rfl) 0 0 rfl rfl rfl rfl rfl hl.1 rfl rfl dX8_nodeMany_13 ⟨Nat.le_refl _, Nat.le_refl _⟩ (fun r13 _ H locs h hP hD hS => ?_)
        have hP : va_P D vwCl (jx_ws cI cT [(cp_M aM, sM)]) H := hP
        have hD : va_D A (jx_ws cI cT [(cp_M aM, sM)]) := hD
        refine jx_iconst C dX8_nodeMany_16 ?_
        refine lv_iload_n hx hb dX8_nodeMany_17 rfl (lv_at hl 1 rfl) ?_
        refine jx_callSI C hK hP hD hS hA (ct_M_in l D cI cT  _  r13 0 l1 h) ms_X8_in lk_X8_180 [] rfl rfl (fun _ => rfl) (cs' := (fun _ => [(cp_M aM, sM)])) (fun _ => rfl) (fun _ => rfl) rfl rfl hl.1 rfl rfl dX8_nodeMany_18 ⟨Nat.le_refl _, Nat.le_refl _⟩ (fun r18 _ H locs h hP hD hS => ?_)
        have hP : va_P D vwCl (jx_ws cI cT [(cp_M aM, sM)]) H := hP
        have hD : va_D A (jx_ws cI cT [(cp_M aM, sM)]) := hD
        refine jx_zeq C h.1 (tgt := 28) dX8_nodeMany_21 (by decide) (fun hc => ?_) (fun hc => ?_)
        · have h := h.2.1 hc
          refine jx_iconst C dX8_nodeMany_28 ?_
          exact J29 l3 l2 0 h _ _ hP hD hS ls (lv_sub hl [0, 1, 3] rfl)
        · have h := h.2.2 hc
          refine jx_iconst C dX8_nodeMany_24 ?_
          refine lv_goto (tgt := 29) hx hb dX8_nodeMany_25 (by decide) ?_
          exact J29 l3 l2 1 h _ _ hP hD hS ls (lv_sub hl [0, 1, 3] rfl)
  refine jx_iconst C dX8_nodeMany_0 ?_
  refine lv_istore_n (lv' := [(2, .int (jx_i 0)), (0, .ref (aM 0)), (1, .int (jx_i l1))]) hx hb dX8_nodeMany_1 rfl hl (by decide) rfl (fun ls hl => ?_)
  refine jx_iconst C dX8_nodeMany_2 ?_
  refine lv_istore_n (lv' := [(3, .int (jx_i 0)), (2, .int (jx_i 0)), (0, .ref (aM 0)), (1, .int (jx_i l1))]) hx hb dX8_nodeMany_3 rfl hl (by decide) rfl (fun ls hl => ?_)
  obtain ⟨n, h⟩ := h
  refine Lo4 n 0 0 h _ _ hP hD hS ls (lv_sub hl [2, 3, 1, 0] rfl)
set_option maxRecDepth 100000 in
set_option maxHeartbeats 4000000 in
theorem ct_M_levels (l : Launch) (D : va_G) (cI cT : ClassId) (aM : Nat → Nat) (Q : Int → Prop) (sM : jx_St) (h : wp_M_levels Q sM) : jx_KI (Unit) l D cI cT yX8_levels cX8_levels 1 .int 1 21 [.ref (aM 0)] [(cp_M aM, sM)] (fun _ => [(cp_M aM, sM)]) (fun x _ => Q x) := by
  refine jx_ent (own := RX8) (by decide) rfl (Nat.le_of_ble_eq_true rfl) ?_
  intro p e s m args below meth c A QQ C hr hlk hK hAe hA hP hD hS ls hl hQQ
  have hl : lv_has ls 1 [(0, .ref (aM 0))] := hl
  have hx := C.1
  have hb := C.2.1
  unfold wp_M_levels at h
  refine lv_aload_n hx hb dX8_levels_0 rfl (lv_at hl 0 rfl) ?_
  refine lv_aload_n hx hb dX8_levels_1 rfl (lv_at hl 0 rfl) ?_
  refine jx_getR C hK hP 0 0 0 rfl rfl rfl fl_X8_7 dX8_levels_2 ?_
  refine jx_iconst C dX8_levels_5 ?_
  refine jx_iald C hK hP 0 1 rfl rfl rfl (show jx_B _ _ from ⟨by decide, by decide⟩) dX8_levels_6 ?_
  refine jx_callVI C hK hP hD hS hA (ct_M_levelOf l D cI cT aM _ sM (sM 0 0) h) ms_X8_levelOf lk_X8_81 [0] rfl rfl (fun _ => rfl) (cs' := (fun _ => [(cp_M aM, sM)])) (fun _ => rfl) (fun _ => rfl) 0 0 rfl rfl rfl rfl rfl hl.1 rfl rfl dX8_levels_7 ⟨Nat.le_refl _, Nat.le_refl _⟩ (fun r7 _ H locs h hP hD hS => ?_)
  have hP : va_P D vwCl (jx_ws cI cT [(cp_M aM, sM)]) H := hP
  have hD : va_D A (jx_ws cI cT [(cp_M aM, sM)]) := hD
  refine jx_iconst C dX8_levels_10 ?_
  refine jx_iadd C dX8_levels_11 ?_
  exact jx_rI C hr hlk hAe hS hQQ () hP h dX8_levels_12
set_option maxRecDepth 100000 in
set_option maxHeartbeats 4000000 in
theorem ct_M_count (l : Launch) (D : va_G) (cI cT : ClassId) (aM : Nat → Nat) (Q : Int → jx_St → Prop) (sM : jx_St) (l1 : Int) (h : wp_M_count Q sM l1) : jx_KI jx_St l D cI cT yX8_count cX8_count 2 .int 4 94 [.ref (aM 0), .int (jx_i l1)] [(cp_M aM, sM)] (fun u => [(cp_M aM, u)]) Q := by
  refine jx_ent (own := RX8) (by decide) rfl (Nat.le_of_ble_eq_true rfl) ?_
  intro p e s m args below meth c A QQ C hr hlk hK hAe hA hP hD hS ls hl hQQ
  have hl : lv_has ls 2 [(0, .ref (aM 0)), (1, .int (jx_i l1))] := hl
  have hx := C.1
  have hb := C.2.1
  unfold wp_M_count at h
  refine lv_iload_n hx hb dX8_count_0 rfl (lv_at hl 1 rfl) ?_
  rcases (show l1 = 0 ∨ l1 = 1 ∨ l1 = 2 ∨ l1 = 3 ∨ l1 = 4 ∨ l1 = 5 ∨ l1 = 6 ∨ l1 = 7 ∨ l1 = 8 ∨ l1 = 9 ∨ l1 = 10 ∨ (l1 < 0 ∨ 10 < l1) by omega) with hc | hc | hc | hc | hc | hc | hc | hc | hc | hc | hc | hc
  · refine jx_tswIn (tgt := 60) C hc (jx_inR (by decide) (by decide)) dX8_count_1 (by decide) (by decide) rfl (by decide) ?_
    have h := h.2.1 hc
    refine lv_aload_n hx hb dX8_count_60 rfl (lv_at hl 0 rfl) ?_
    refine jx_callVI C hK hP hD hS hA (ct_M_boxMany l D cI cT aM _ sM  h) ms_X8_boxMany lk_X8_239 [0] rfl rfl (fun _ => rfl) (cs' := (fun _ => [(cp_M aM, sM)])) (fun _ => rfl) (fun _ => rfl) 0 0 rfl rfl rfl rfl rfl hl.1 rfl rfl dX8_count_61 ⟨Nat.le_refl _, Nat.le_refl _⟩ (fun r61 _ H locs h hP hD hS => ?_)
    have hP : va_P D vwCl (jx_ws cI cT [(cp_M aM, sM)]) H := hP
    have hD : va_D A (jx_ws cI cT [(cp_M aM, sM)]) := hD
    exact jx_rI C hr hlk hAe hS hQQ sM hP h dX8_count_64
  · refine jx_tswIn (tgt := 65) C hc (jx_inR (by decide) (by decide)) dX8_count_1 (by decide) (by decide) rfl (by decide) ?_
    have h := h.2.2.1 hc
    refine lv_aload_n hx hb dX8_count_65 rfl (lv_at hl 0 rfl) ?_
    refine jx_callVI C hK hP hD hS hA (ct_M_levels l D cI cT aM _ sM  h) ms_X8_levels lk_X8_209 [0] rfl rfl (fun _ => rfl) (cs' := (fun _ => [(cp_M aM, sM)])) (fun _ => rfl) (fun _ => rfl) 0 0 rfl rfl rfl rfl rfl hl.1 rfl rfl dX8_count_66 ⟨Nat.le_refl _, Nat.le_refl _⟩ (fun r66 _ H locs h hP hD hS => ?_)
    have hP : va_P D vwCl (jx_ws cI cT [(cp_M aM, sM)]) H := hP
    have hD : va_D A (jx_ws cI cT [(cp_M aM, sM)]) := hD
    exact jx_rI C hr hlk hAe hS hQQ sM hP h dX8_count_69
  · refine jx_tswIn (tgt := 70) C hc (jx_inR (by decide) (by decide)) dX8_count_1 (by decide) (by decide) rfl (by decide) ?_
    have h := h.2.2.2.1 hc
    refine lv_aload_n hx hb dX8_count_70 rfl (lv_at hl 0 rfl) ?_
    refine jx_bipush C dX8_count_71 (by decide) ?_
    refine jx_callVI C hK hP hD hS hA (ct_M_nodeMany l D cI cT aM _ sM 40 h) ms_X8_nodeMany lk_X8_242 [0] rfl rfl (fun _ => rfl) (cs' := (fun _ => [(cp_M aM, sM)])) (fun _ => rfl) (fun _ => rfl) 0 0 rfl rfl rfl rfl rfl hl.1 rfl rfl dX8_count_73 ⟨Nat.le_refl _, Nat.le_refl _⟩ (fun r73 _ H locs h hP hD hS => ?_)
    have hP : va_P D vwCl (jx_ws cI cT [(cp_M aM, sM)]) H := hP
    have hD : va_D A (jx_ws cI cT [(cp_M aM, sM)]) := hD
    exact jx_rI C hr hlk hAe hS hQQ sM hP h dX8_count_76
  · refine jx_tswIn (tgt := 77) C hc (jx_inR (by decide) (by decide)) dX8_count_1 (by decide) (by decide) rfl (by decide) ?_
    have h := h.2.2.2.2.1 hc
    refine lv_aload_n hx hb dX8_count_77 rfl (lv_at hl 0 rfl) ?_
    refine jx_iconst C dX8_count_78 ?_
    refine jx_callVI C hK hP hD hS hA (ct_M_nodeMany l D cI cT aM _ sM 0 h) ms_X8_nodeMany lk_X8_242 [0] rfl rfl (fun _ => rfl) (cs' := (fun _ => [(cp_M aM, sM)])) (fun _ => rfl) (fun _ => rfl) 0 0 rfl rfl rfl rfl rfl hl.1 rfl rfl dX8_count_79 ⟨Nat.le_refl _, Nat.le_refl _⟩ (fun r79 _ H locs h hP hD hS => ?_)
    have hP : va_P D vwCl (jx_ws cI cT [(cp_M aM, sM)]) H := hP
    have hD : va_D A (jx_ws cI cT [(cp_M aM, sM)]) := hD
    exact jx_rI C hr hlk hAe hS hQQ sM hP h dX8_count_82
  · refine jx_tswIn (tgt := 83) C hc (jx_inR (by decide) (by decide)) dX8_count_1 (by decide) (by decide) rfl (by decide) ?_
    have h := h.2.2.2.2.2.1 hc
    refine lv_aload_n hx hb dX8_count_83 rfl (lv_at hl 0 rfl) ?_
    refine jx_getI C hK hP 0 0 20 rfl rfl rfl fl_X8_177 dX8_count_84 ?_
    exact jx_rI C hr hlk hAe hS hQQ sM hP h dX8_count_87
  · refine jx_tswIn (tgt := 88) C hc (jx_inR (by decide) (by decide)) dX8_count_1 (by decide) (by decide) rfl (by decide) ?_
    have h := h.2.2.2.2.2.2.1 hc
    refine lv_aload_n hx hb dX8_count_88 rfl (lv_at hl 0 rfl) ?_
    refine jx_getR C hK hP 0 0 0 rfl rfl rfl fl_X8_7 dX8_count_89 ?_
    refine jx_iconst C dX8_count_92 ?_
    refine jx_iald C hK hP 0 1 rfl rfl rfl (show jx_B _ _ from ⟨by decide, by decide⟩) dX8_count_93 ?_
    exact jx_rI C hr hlk hAe hS hQQ sM hP h dX8_count_94
  · refine jx_tswIn (tgt := 95) C hc (jx_inR (by decide) (by decide)) dX8_count_1 (by decide) (by decide) rfl (by decide) ?_
    have h := h.2.2.2.2.2.2.2.1 hc
    refine lv_aload_n hx hb dX8_count_95 rfl (lv_at hl 0 rfl) ?_
    refine jx_getR C hK hP 0 0 0 rfl rfl rfl fl_X8_7 dX8_count_96 ?_
    refine jx_iconst C dX8_count_99 ?_
    refine jx_iald C hK hP 0 1 rfl rfl rfl (show jx_B _ _ from ⟨by decide, by decide⟩) dX8_count_100 ?_
    exact jx_rI C hr hlk hAe hS hQQ sM hP h dX8_count_101
  · refine jx_tswIn (tgt := 102) C hc (jx_inR (by decide) (by decide)) dX8_count_1 (by decide) (by decide) rfl (by decide) ?_
    have h := h.2.2.2.2.2.2.2.2.1 hc
    refine lv_aload_n hx hb dX8_count_102 rfl (lv_at hl 0 rfl) ?_
    refine jx_getR C hK hP 0 0 0 rfl rfl rfl fl_X8_7 dX8_count_103 ?_
    refine jx_iconst C dX8_count_106 ?_
    refine jx_iald C hK hP 0 1 rfl rfl rfl (show jx_B _ _ from ⟨by decide, by decide⟩) dX8_count_107 ?_
    exact jx_rI C hr hlk hAe hS hQQ sM hP h dX8_count_108
  · refine jx_tswIn (tgt := 109) C hc (jx_inR (by decide) (by decide)) dX8_count_1 (by decide) (by decide) rfl (by decide) ?_
    have h := h.2.2.2.2.2.2.2.2.2.1 hc
    refine lv_aload_n hx hb dX8_count_109 rfl (lv_at hl 0 rfl) ?_
    refine jx_getI C hK hP 0 0 4 rfl rfl rfl fl_X8_77 dX8_count_110 ?_
    exact jx_rI C hr hlk hAe hS hQQ sM hP h dX8_count_113
  · refine jx_tswIn (tgt := 114) C hc (jx_inR (by decide) (by decide)) dX8_count_1 (by decide) (by decide) rfl (by decide) ?_
    have h := h.2.2.2.2.2.2.2.2.2.2.1 hc
    refine lv_aload_n hx hb dX8_count_114 rfl (lv_at hl 0 rfl) ?_
    refine jx_getI C hK hP 0 0 6 rfl rfl rfl fl_X8_245 dX8_count_115 ?_
    exact jx_rI C hr hlk hAe hS hQQ sM hP h dX8_count_118
  · refine jx_tswIn (tgt := 119) C hc (jx_inR (by decide) (by decide)) dX8_count_1 (by decide) (by decide) rfl (by decide) ?_
    have h := h.2.2.2.2.2.2.2.2.2.2.2.1 hc
    refine lv_aload_n hx hb dX8_count_119 rfl (lv_at hl 0 rfl) ?_
    refine jx_callVI C hK hP hD hS hA (ct_M_areas l D cI cT aM _ sM  h) ms_X8_areas lk_X8_248 [0] rfl rfl (fun _ => rfl) (cs' := (fun u => [(cp_M aM, u)])) (fun _ => rfl) (fun _ => rfl) 0 0 rfl rfl rfl rfl rfl hl.1 rfl rfl dX8_count_120 ⟨Nat.le_refl _, Nat.le_refl _⟩ (fun r120 sM_120 H locs h hP hD hS => ?_)
    have hP : va_P D vwCl (jx_ws cI cT [(cp_M aM, sM_120)]) H := hP
    have hD : va_D A (jx_ws cI cT [(cp_M aM, sM_120)]) := hD
    exact jx_rI C hr hlk hAe hS hQQ sM_120 hP h dX8_count_123
  · refine jx_tswOut (tgt := 124) C h.1 dX8_count_1 hc (by decide) ?_
    have h := h.2.2.2.2.2.2.2.2.2.2.2.2 hc
    refine jx_ldc C (-1000001) kc_X8_192 dX8_count_124 ?_
    exact jx_rI C hr hlk hAe hS hQQ sM hP h dX8_count_126
set_option maxRecDepth 100000 in
set_option maxHeartbeats 4000000 in
theorem ct_M_court_ (l : Launch) (D : va_G) (cI cT : ClassId) (aM : Nat → Nat) (Q : Int → Prop) (sM : jx_St) (l1 : Int) (l2 : Int) (h : wp_M_court_ Q sM l1 l2) : jx_KI (Unit) l D cI cT yX8_court_ cX8_court_ 3 .int 1 22 [.ref (aM 0), .int (jx_i l1), .int (jx_i l2)] [(cp_M aM, sM)] (fun _ => [(cp_M aM, sM)]) (fun x _ => Q x) := by
  refine jx_ent (own := RX8) (by decide) rfl (Nat.le_of_ble_eq_true rfl) ?_
  intro p e s m args below meth c A QQ C hr hlk hK hAe hA hP hD hS ls hl hQQ
  have hl : lv_has ls 3 [(0, .ref (aM 0)), (1, .int (jx_i l1)), (2, .int (jx_i l2))] := hl
  have hx := C.1
  have hb := C.2.1
  unfold wp_M_court_ at h
  refine lv_iload_n hx hb dX8_court__0 rfl (lv_at hl 1 rfl) ?_
  refine jx_zlt C h.1 (tgt := 13) dX8_court__1 (by decide) (fun hc => ?_) (fun hc => ?_)
  · have h := h.2.1 hc
    refine jx_ldc C (-1000001) kc_X8_192 dX8_court__13 ?_
    exact jx_rI C hr hlk hAe hS hQQ () hP h dX8_court__15
  · have h := h.2.2 hc
    refine lv_iload_n hx hb dX8_court__4 rfl (lv_at hl 2 rfl) ?_
    refine jx_iconst C dX8_court__5 ?_
    refine jx_iconst C dX8_court__6 ?_
    refine jx_callSI C hK hP hD hS hA (ct_M_in l D cI cT  _  l2 0 1 h) ms_X8_in lk_X8_180 [] rfl rfl (fun _ => rfl) (cs' := (fun _ => [(cp_M aM, sM)])) (fun _ => rfl) (fun _ => rfl) rfl rfl hl.1 rfl rfl dX8_court__7 ⟨Nat.le_refl _, Nat.le_refl _⟩ (fun r7 _ H locs h hP hD hS => ?_)
    have hP : va_P D vwCl (jx_ws cI cT [(cp_M aM, sM)]) H := hP
    have hD : va_D A (jx_ws cI cT [(cp_M aM, sM)]) := hD
    refine jx_zne C h.1 (tgt := 16) dX8_court__10 (by decide) (fun hc => ?_) (fun hc => ?_)
    · have h := h.2.2 hc
      refine lv_iload_n hx hb dX8_court__16 rfl (lv_at hl 1 rfl) ?_
      refine lv_aload_n hx hb dX8_court__17 rfl (lv_at hl 0 rfl) ?_
      refine jx_getI C hK hP 0 0 20 rfl rfl rfl fl_X8_177 dX8_court__18 ?_
      refine jx_clt C h.1 h.2.1 (tgt := 29) dX8_court__21 (by decide) (fun hc => ?_) (fun hc => ?_)
      · have h := h.2.2.1 hc
        refine lv_iload_n hx hb dX8_court__29 rfl (lv_at hl 2 rfl) ?_
        refine jx_zne C h.1 (tgt := 42) dX8_court__30 (by decide) (fun hc => ?_) (fun hc => ?_)
        · have h := h.2.2 hc
          refine lv_aload_n hx hb dX8_court__42 rfl (lv_at hl 0 rfl) ?_
          refine jx_getR C hK hP 0 0 19 rfl rfl rfl fl_X8_49 dX8_court__43 ?_
          refine lv_iload_n hx hb dX8_court__46 rfl (lv_at hl 1 rfl) ?_
          refine jx_iald C hK hP 0 14 rfl rfl rfl h.1 dX8_court__47 ?_
          have h := h.2
          exact jx_rI C hr hlk hAe hS hQQ () hP h dX8_court__48
        · have h := h.2.1 hc
          refine lv_aload_n hx hb dX8_court__33 rfl (lv_at hl 0 rfl) ?_
          refine jx_getR C hK hP 0 0 18 rfl rfl rfl fl_X8_46 dX8_court__34 ?_
          refine lv_iload_n hx hb dX8_court__37 rfl (lv_at hl 1 rfl) ?_
          refine jx_iald C hK hP 0 13 rfl rfl rfl h.1 dX8_court__38 ?_
          have h := h.2
          refine lv_goto (tgt := 48) hx hb dX8_court__39 (by decide) ?_
          exact jx_rI C hr hlk hAe hS hQQ () hP h dX8_court__48
      · have h := h.2.2.2 hc
        refine jx_ldc C (-1000004) kc_X8_221 dX8_court__24 ?_
        refine lv_goto (tgt := 48) hx hb dX8_court__26 (by decide) ?_
        exact jx_rI C hr hlk hAe hS hQQ () hP h dX8_court__48
    · have h := h.2.1 hc
      refine jx_ldc C (-1000001) kc_X8_192 dX8_court__13 ?_
      exact jx_rI C hr hlk hAe hS hQQ () hP h dX8_court__15
set_option maxRecDepth 100000 in
set_option maxHeartbeats 4000000 in
theorem ct_M_distance (l : Launch) (D : va_G) (cI cT : ClassId) (aM : Nat → Nat) (Q : Int → Prop) (sM : jx_St) (l1 : Int) (l2 : Int) (l3 : Int) (l4 : Int) (h : wp_M_distance Q sM l1 l2 l3 l4) : jx_KI (Unit) l D cI cT yX8_distance cX8_distance 7 .int 1 23 [.ref (aM 0), .int (jx_i l1), .int (jx_i l2), .int (jx_i l3), .int (jx_i l4)] [(cp_M aM, sM)] (fun _ => [(cp_M aM, sM)]) (fun x _ => Q x) := by
  refine jx_ent (own := RX8) (by decide) rfl (Nat.le_of_ble_eq_true rfl) ?_
  intro p e s m args below meth c A QQ C hr hlk hK hAe hA hP hD hS ls hl hQQ
  have hl : lv_has ls 7 [(0, .ref (aM 0)), (1, .int (jx_i l1)), (2, .int (jx_i l2)), (3, .int (jx_i l3)), (4, .int (jx_i l4))] := hl
  have hx := C.1
  have hb := C.2.1
  unfold wp_M_distance at h
  refine jx_iconst C dX8_distance_0 ?_
  refine lv_aload_n hx hb dX8_distance_1 rfl (lv_at hl 0 rfl) ?_
  refine lv_iload_n hx hb dX8_distance_2 rfl (lv_at hl 1 rfl) ?_
  refine lv_iload_n hx hb dX8_distance_3 rfl (lv_at hl 2 rfl) ?_
  refine jx_iconst C dX8_distance_4 ?_
  refine jx_callVI C hK hP hD hS hA (ct_M_side l D cI cT aM _ sM l1 l2 0 h) ms_X8_side lk_X8_92 [0] rfl rfl (fun _ => rfl) (cs' := (fun _ => [(cp_M aM, sM)])) (fun _ => rfl) (fun _ => rfl) 0 0 rfl rfl rfl rfl rfl hl.1 rfl rfl dX8_distance_5 ⟨Nat.le_refl _, Nat.le_refl _⟩ (fun r5 _ H locs h hP hD hS => ?_)
  have hP : va_P D vwCl (jx_ws cI cT [(cp_M aM, sM)]) H := hP
  have hD : va_D A (jx_ws cI cT [(cp_M aM, sM)]) := hD
  refine lv_iload_n hx hb dX8_distance_8 rfl (lv_at hl 3 rfl) ?_
  refine jx_isub C dX8_distance_9 ?_
  refine lv_iload_n hx hb dX8_distance_10 rfl (lv_at hl 3 rfl) ?_
  refine lv_aload_n hx hb dX8_distance_11 rfl (lv_at hl 0 rfl) ?_
  refine lv_iload_n hx hb dX8_distance_12 rfl (lv_at hl 1 rfl) ?_
  refine lv_iload_n hx hb dX8_distance_13 rfl (lv_at hl 2 rfl) ?_
  refine jx_iconst C dX8_distance_14 ?_
  refine jx_callVI C hK hP hD hS hA (ct_M_side l D cI cT aM _ sM l1 l2 2 h) ms_X8_side lk_X8_92 [0] rfl rfl (fun _ => rfl) (cs' := (fun _ => [(cp_M aM, sM)])) (fun _ => rfl) (fun _ => rfl) 0 0 rfl rfl rfl rfl rfl hl.1 rfl rfl dX8_distance_15 ⟨Nat.le_refl _, Nat.le_refl _⟩ (fun r15 _ H locs h hP hD hS => ?_)
  have hP : va_P D vwCl (jx_ws cI cT [(cp_M aM, sM)]) H := hP
  have hD : va_D A (jx_ws cI cT [(cp_M aM, sM)]) := hD
  refine jx_isub C dX8_distance_18 ?_
  refine jx_callSI C hK hP hD hS hA (ct_M_most l D cI cT  _  (r5 - l3) (l3 - r15) h) ms_X8_most lk_X8_99 [] rfl rfl (fun _ => rfl) (cs' := (fun _ => [(cp_M aM, sM)])) (fun _ => rfl) (fun _ => rfl) rfl rfl hl.1 rfl rfl dX8_distance_19 ⟨Nat.le_refl _, Nat.le_refl _⟩ (fun r19 _ H locs h hP hD hS => ?_)
  have hP : va_P D vwCl (jx_ws cI cT [(cp_M aM, sM)]) H := hP
  have hD : va_D A (jx_ws cI cT [(cp_M aM, sM)]) := hD
  refine jx_callSI C hK hP hD hS hA (ct_M_most l D cI cT  _  0 r19 h) ms_X8_most lk_X8_99 [] rfl rfl (fun _ => rfl) (cs' := (fun _ => [(cp_M aM, sM)])) (fun _ => rfl) (fun _ => rfl) rfl rfl hl.1 rfl rfl dX8_distance_22 ⟨Nat.le_refl _, Nat.le_refl _⟩ (fun r22 _ H locs h hP hD hS => ?_)
  have hP : va_P D vwCl (jx_ws cI cT [(cp_M aM, sM)]) H := hP
  have hD : va_D A (jx_ws cI cT [(cp_M aM, sM)]) := hD
  refine lv_istore (lv' := [(5, .int (jx_i r22)), (0, .ref (aM 0)), (1, .int (jx_i l1)), (2, .int (jx_i l2)), (3, .int (jx_i l3)), (4, .int (jx_i l4))]) hx hb dX8_distance_25 hl (by decide) rfl (fun ls hl => ?_)
  refine jx_iconst C dX8_distance_27 ?_
  refine lv_aload_n hx hb dX8_distance_28 rfl (lv_at hl 1 rfl) ?_
  refine lv_iload_n hx hb dX8_distance_29 rfl (lv_at hl 2 rfl) ?_
  refine lv_iload_n hx hb dX8_distance_30 rfl (lv_at hl 3 rfl) ?_
  refine jx_iconst C dX8_distance_31 ?_
  refine jx_callVI C hK hP hD hS hA (ct_M_side l D cI cT aM _ sM l1 l2 1 h) ms_X8_side lk_X8_92 [0] rfl rfl (fun _ => rfl) (cs' := (fun _ => [(cp_M aM, sM)])) (fun _ => rfl) (fun _ => rfl) 0 0 rfl rfl rfl rfl rfl hl.1 rfl rfl dX8_distance_32 ⟨Nat.le_refl _, Nat.le_refl _⟩ (fun r32 _ H locs h hP hD hS => ?_)
  have hP : va_P D vwCl (jx_ws cI cT [(cp_M aM, sM)]) H := hP
  have hD : va_D A (jx_ws cI cT [(cp_M aM, sM)]) := hD
  refine lv_iload hx hb dX8_distance_35 (lv_at hl 5 rfl) ?_
  refine jx_isub C dX8_distance_37 ?_
  refine lv_iload hx hb dX8_distance_38 (lv_at hl 5 rfl) ?_
  refine lv_aload_n hx hb dX8_distance_40 rfl (lv_at hl 1 rfl) ?_
  refine lv_iload_n hx hb dX8_distance_41 rfl (lv_at hl 2 rfl) ?_
  refine lv_iload_n hx hb dX8_distance_42 rfl (lv_at hl 3 rfl) ?_
  refine jx_iconst C dX8_distance_43 ?_
  refine jx_callVI C hK hP hD hS hA (ct_M_side l D cI cT aM _ sM l1 l2 3 h) ms_X8_side lk_X8_92 [0] rfl rfl (fun _ => rfl) (cs' := (fun _ => [(cp_M aM, sM)])) (fun _ => rfl) (fun _ => rfl) 0 0 rfl rfl rfl rfl rfl hl.1 rfl rfl dX8_distance_44 ⟨Nat.le_refl _, Nat.le_refl _⟩ (fun r44 _ H locs h hP hD hS => ?_)
  have hP : va_P D vwCl (jx_ws cI cT [(cp_M aM, sM)]) H := hP
  have hD : va_D A (jx_ws cI cT [(cp_M aM, sM)]) := hD
  refine jx_isub C dX8_distance_47 ?_
  refine jx_callSI C hK hP hD hS hA (ct_M_most l D cI cT  _  (r32 - l4) (l4 - r44) h) ms_X8_most lk_X8_99 [] rfl rfl (fun _ => rfl) (cs' := (fun _ => [(cp_M aM, sM)])) (fun _ => rfl) (fun _ => rfl) rfl rfl hl.1 rfl rfl dX8_distance_48 ⟨Nat.le_refl _, Nat.le_refl _⟩ (fun r48 _ H locs h hP hD hS => ?_)
  have hP : va_P D vwCl (jx_ws cI cT [(cp_M aM, sM)]) H := hP
  have hD : va_D A (jx_ws cI cT [(cp_M aM, sM)]) := hD
  refine jx_callSI C hK hP hD hS hA (ct_M_most l D cI cT  _  0 r48 h) ms_X8_most lk_X8_99 [] rfl rfl (fun _ => rfl) (cs' := (fun _ => [(cp_M aM, sM)])) (fun _ => rfl) (fun _ => rfl) rfl rfl hl.1 rfl rfl dX8_distance_51 ⟨Nat.le_refl _, Nat.le_refl _⟩ (fun r51 _ H locs h hP hD hS => ?_)
  have hP : va_P D vwCl (jx_ws cI cT [(cp_M aM, sM)]) H := hP
  have hD : va_D A (jx_ws cI cT [(cp_M aM, sM)]) := hD
  refine lv_istore (lv' := [(6, .int (jx_i r51)), (5, .int (jx_i r22)), (0, .ref (aM 0)), (1, .int (jx_i l1)), (2, .int (jx_i l2)), (3, .int (jx_i l3)), (4, .int (jx_i l4))]) hx hb dX8_distance_54 hl (by decide) rfl (fun ls hl => ?_)
  refine lv_iload hx hb dX8_distance_56 (lv_at hl 1 rfl) ?_
  refine lv_iload hx hb dX8_distance_58 (lv_at hl 1 rfl) ?_
  refine jx_imul C dX8_distance_60 ?_
  refine lv_iload hx hb dX8_distance_61 (lv_at hl 0 rfl) ?_
  refine lv_iload hx hb dX8_distance_63 (lv_at hl 0 rfl) ?_
  refine jx_imul C dX8_distance_65 ?_
  refine jx_iadd C dX8_distance_66 ?_
  exact jx_rI C hr hlk hAe hS hQQ () hP h dX8_distance_67
set_option maxRecDepth 100000 in
set_option maxHeartbeats 4000000 in
theorem ct_M_here (l : Launch) (D : va_G) (cI cT : ClassId) (aM : Nat → Nat) (Q : Int → Prop) (sM : jx_St) (h : wp_M_here Q sM) : jx_KI (Unit) l D cI cT yX8_here cX8_here 1 .int 0 0 [.ref (aM 0)] [(cp_M aM, sM)] (fun _ => [(cp_M aM, sM)]) (fun x _ => Q x) := by
  refine jx_ent (own := RX8) (by decide) rfl (Nat.le_of_ble_eq_true rfl) ?_
  intro p e s m args below meth c A QQ C hr hlk hK hAe hA hP hD hS ls hl hQQ
  have hl : lv_has ls 1 [(0, .ref (aM 0))] := hl
  have hx := C.1
  have hb := C.2.1
  unfold wp_M_here at h
  refine lv_aload_n hx hb dX8_here_0 rfl (lv_at hl 0 rfl) ?_
  refine jx_getI C hK hP 0 0 28 rfl rfl rfl fl_X8_252 dX8_here_1 ?_
  refine lv_aload_n hx hb dX8_here_4 rfl (lv_at hl 0 rfl) ?_
  refine jx_getI C hK hP 0 0 6 rfl rfl rfl fl_X8_245 dX8_here_5 ?_
  refine jx_cge C h.1 h.2.1 (tgt := 23) dX8_here_8 (by decide) (fun hc => ?_) (fun hc => ?_)
  · have h := h.2.2.2 hc
    refine jx_iconst C dX8_here_23 ?_
    exact jx_rI C hr hlk hAe hS hQQ () hP h dX8_here_24
  · have h := h.2.2.1 hc
    refine lv_aload_n hx hb dX8_here_11 rfl (lv_at hl 0 rfl) ?_
    refine jx_getR C hK hP 0 0 3 rfl rfl rfl fl_X8_19 dX8_here_12 ?_
    refine lv_aload_n hx hb dX8_here_15 rfl (lv_at hl 0 rfl) ?_
    refine jx_getI C hK hP 0 0 28 rfl rfl rfl fl_X8_252 dX8_here_16 ?_
    refine jx_iald C hK hP 0 4 rfl rfl rfl h.1 dX8_here_19 ?_
    have h := h.2
    refine lv_goto (tgt := 24) hx hb dX8_here_20 (by decide) ?_
    exact jx_rI C hr hlk hAe hS hQQ () hP h dX8_here_24
set_option maxRecDepth 100000 in
set_option maxHeartbeats 4000000 in
theorem ct_M_reads (l : Launch) (D : va_G) (cI cT : ClassId) (aM : Nat → Nat) (Q : Int → jx_St → Prop) (sM : jx_St) (l1 : Int) (h : wp_M_reads Q sM l1) : jx_KI jx_St l D cI cT yX8_reads cX8_reads 3 .boolean 1 22 [.ref (aM 0), .int (jx_i l1)] [(cp_M aM, sM)] (fun u => [(cp_M aM, u)]) Q := by
  refine jx_ent (own := RX8) (by decide) rfl (Nat.le_of_ble_eq_true rfl) ?_
  intro p e s m args below meth c A QQ C hr hlk hK hAe hA hP hD hS ls hl hQQ
  have hl : lv_has ls 3 [(0, .ref (aM 0)), (1, .int (jx_i l1))] := hl
  have hx := C.1
  have hb := C.2.1
  unfold wp_M_reads at h
  have Lo2 : ∀ (n : Nat) (sM : jx_St) (l2 : Int), jx_it (fun B2 v => wp_M_reads_2 Q l1 B2 v.1 v.2) n (sM, l2) → ∀ (H : Heap) (locs : List Loc), va_P D vwCl (jx_ws cI cT [(cp_M aM, sM)]) H → va_D A (jx_ws cI cT [(cp_M aM, sM)]) → va_S A s.heap H locs → ∀ ls : Array Slot, lv_has ls 3 [(0, .ref (aM 0)), (1, .int (jx_i l1)), (2, .int (jx_i l2))] → W p l e (jx_rm 1 22) s m args below meth c H locs 0 0 QQ (F0 m 2 ls []) := by
    intro n
    induction n with
    | zero =>
      intro sM l2 h
      exact (show False from h).elim
    | succ n ih =>
      intro sM l2 h H locs hP hD hS ls hl
      have h : wp_M_reads_2 Q l1 (jx_it (fun B2 v => wp_M_reads_2 Q l1 B2 v.1 v.2) n) sM l2 := h
      have ih := fun sM l2 h => ih sM l2 h
      generalize jx_it (fun B2 v => wp_M_reads_2 Q l1 B2 v.1 v.2) n = B2 at h ih
      unfold wp_M_reads_2 at h
      have J111 : ∀ (sM : jx_St) (l2 : Int) (t0 : Int) (t1 : Int), wp_M_reads_111 Q l1 B2 sM l2 t0 t1 → ∀ (H : Heap) (locs : List Loc), va_P D vwCl (jx_ws cI cT [(cp_M aM, sM)]) H → va_D A (jx_ws cI cT [(cp_M aM, sM)]) → va_S A s.heap H locs → ∀ ls : Array Slot, lv_has ls 3 [(0, .ref (aM 0)), (1, .int (jx_i l1)), (2, .int (jx_i l2))] → W p l e (jx_rm 1 22) s m args below meth c H locs 0 0 QQ (F0 m 111 ls [.int (jx_i t1), .int (jx_i t0)]) := by
        intro sM l2 t0 t1 h H locs hP hD hS ls hl
        unfold wp_M_reads_111 at h
        refine jx_ceq C h.1 h.2.1 (tgt := 116) dX8_reads_111 (by decide) (fun hc => ?_) (fun hc => ?_)
        · have h := h.2.2.1 hc
          refine lv_aload_n hx hb dX8_reads_116 rfl (lv_at hl 0 rfl) ?_
          refine lv_dup hx hb dX8_reads_117 rfl ?_
          refine jx_getI C hK hP 0 0 28 rfl rfl rfl fl_X8_252 dX8_reads_118 ?_
          refine jx_iconst C dX8_reads_121 ?_
          refine jx_iadd C dX8_reads_122 ?_
          refine jx_putI C hK hP hD hS 0 0 28 rfl rfl rfl rfl rfl fl_X8_252 fw_X8_28 ⟨rfl, rfl⟩ rfl dX8_reads_123 (fun H locs hP hD hS => ?_)
          have hP : va_P D vwCl (jx_ws cI cT [(cp_M aM, (jx_su sM 28 0 ((sM 28 0) + 1)))]) H := hP
          have hD : va_D A (jx_ws cI cT [(cp_M aM, (jx_su sM 28 0 ((sM 28 0) + 1)))]) := hD
          refine jx_iinc C (lv' := [(2, .int (jx_i (l2 + 1))), (0, .ref (aM 0)), (1, .int (jx_i l1))]) dX8_reads_126 hl (k := 2) rfl (by decide) rfl (fun ls hl => ?_)
          refine lv_goto (tgt := 2) hx hb dX8_reads_129 (by decide) ?_
          exact ih (jx_su sM 28 0 ((sM 28 0) + 1)) (l2 + 1) h _ _ hP hD hS ls (lv_sub hl [1, 2, 0] rfl)
        · have h := h.2.2.2 hc
          refine jx_iconst C dX8_reads_114 ?_
          exact jx_rZ C hr hlk hAe hS hQQ (by decide) sM hP h dX8_reads_115
      have J93 : ∀ (sM : jx_St) (l2 : Int), wp_M_reads_93 Q l1 B2 sM l2 → ∀ (H : Heap) (locs : List Loc), va_P D vwCl (jx_ws cI cT [(cp_M aM, sM)]) H → va_D A (jx_ws cI cT [(cp_M aM, sM)]) → va_S A s.heap H locs → ∀ ls : Array Slot, lv_has ls 3 [(0, .ref (aM 0)), (1, .int (jx_i l1)), (2, .int (jx_i l2))] → W p l e (jx_rm 1 22) s m args below meth c H locs 0 0 QQ (F0 m 93 ls []) := by
        intro sM l2 h H locs hP hD hS ls hl
        unfold wp_M_reads_93 at h
        refine lv_aload_n hx hb dX8_reads_93 rfl (lv_at hl 0 rfl) ?_
        refine jx_callVI C hK hP hD hS hA (ct_M_here l D cI cT aM _ sM  h) ms_X8_here lk_X8_255 [0] rfl rfl (fun _ => rfl) (cs' := (fun _ => [(cp_M aM, sM)])) (fun _ => rfl) (fun _ => rfl) 0 0 rfl rfl rfl rfl rfl hl.1 rfl rfl dX8_reads_94 ⟨Nat.le_refl _, Nat.le_refl _⟩ (fun r94 _ H locs h hP hD hS => ?_)
        have hP : va_P D vwCl (jx_ws cI cT [(cp_M aM, sM)]) H := hP
        have hD : va_D A (jx_ws cI cT [(cp_M aM, sM)]) := hD
        refine lv_iload_n hx hb dX8_reads_97 rfl (lv_at hl 2 rfl) ?_
        refine lv_iload_n hx hb dX8_reads_98 rfl (lv_at hl 1 rfl) ?_
        refine jx_iconst C dX8_reads_99 ?_
        refine jx_isub C dX8_reads_100 ?_
        refine jx_cne C h.1 h.2.1 (tgt := 109) dX8_reads_101 (by decide) (fun hc => ?_) (fun hc => ?_)
        · have h := h.2.2.2 hc
          refine jx_bipush C dX8_reads_109 (by decide) ?_
          exact J111 sM l2 r94 44 h _ _ hP hD hS ls (lv_sub hl [0, 1, 2] rfl)
        · have h := h.2.2.1 hc
          refine jx_bipush C dX8_reads_104 (by decide) ?_
          refine lv_goto (tgt := 111) hx hb dX8_reads_106 (by decide) ?_
          exact J111 sM l2 r94 59 h _ _ hP hD hS ls (lv_sub hl [0, 1, 2] rfl)
      refine lv_iload_n hx hb dX8_reads_2 rfl (lv_at hl 2 rfl) ?_
      refine lv_iload_n hx hb dX8_reads_3 rfl (lv_at hl 1 rfl) ?_
      refine jx_cge C h.1 h.2.1 (tgt := 132) dX8_reads_4 (by decide) (fun hc => ?_) (fun hc => ?_)
      · have h := h.2.2.2 hc
        refine jx_iconst C dX8_reads_132 ?_
        exact jx_rZ C hr hlk hAe hS hQQ (by decide) sM hP h dX8_reads_133
      · have h := h.2.2.1 hc
        refine lv_aload_n hx hb dX8_reads_7 rfl (lv_at hl 0 rfl) ?_
        refine jx_callVI C hK hP hD hS hA (ct_M_here l D cI cT aM _ sM  h) ms_X8_here lk_X8_255 [0] rfl rfl (fun _ => rfl) (cs' := (fun _ => [(cp_M aM, sM)])) (fun _ => rfl) (fun _ => rfl) 0 0 rfl rfl rfl rfl rfl hl.1 rfl rfl dX8_reads_8 ⟨Nat.le_refl _, Nat.le_refl _⟩ (fun r8 _ H locs h hP hD hS => ?_)
        have hP : va_P D vwCl (jx_ws cI cT [(cp_M aM, sM)]) H := hP
        have hD : va_D A (jx_ws cI cT [(cp_M aM, sM)]) := hD
        refine jx_bipush C dX8_reads_11 (by decide) ?_
        refine jx_bipush C dX8_reads_13 (by decide) ?_
        refine jx_callSI C hK hP hD hS hA (ct_M_in l D cI cT  _  r8 48 57 h) ms_X8_in lk_X8_180 [] rfl rfl (fun _ => rfl) (cs' := (fun _ => [(cp_M aM, sM)])) (fun _ => rfl) (fun _ => rfl) rfl rfl hl.1 rfl rfl dX8_reads_15 ⟨Nat.le_refl _, Nat.le_refl _⟩ (fun r15 _ H locs h hP hD hS => ?_)
        have hP : va_P D vwCl (jx_ws cI cT [(cp_M aM, sM)]) H := hP
        have hD : va_D A (jx_ws cI cT [(cp_M aM, sM)]) := hD
        refine jx_zne C h.1 (tgt := 23) dX8_reads_18 (by decide) (fun hc => ?_) (fun hc => ?_)
        · have h := h.2.2 hc
          refine lv_aload_n hx hb dX8_reads_23 rfl (lv_at hl 0 rfl) ?_
          refine jx_getR C hK hP 0 0 29 rfl rfl rfl fl_X8_70 dX8_reads_24 ?_
          refine lv_iload_n hx hb dX8_reads_27 rfl (lv_at hl 2 rfl) ?_
          refine lv_aload_n hx hb dX8_reads_28 rfl (lv_at hl 0 rfl) ?_
          refine jx_callVI C hK hP hD hS hA (ct_M_here l D cI cT aM _ sM  h) ms_X8_here lk_X8_255 [0] rfl rfl (fun _ => rfl) (cs' := (fun _ => [(cp_M aM, sM)])) (fun _ => rfl) (fun _ => rfl) 0 0 rfl rfl rfl rfl rfl hl.1 rfl rfl dX8_reads_29 ⟨Nat.le_refl _, Nat.le_refl _⟩ (fun r29 _ H locs h hP hD hS => ?_)
          have hP : va_P D vwCl (jx_ws cI cT [(cp_M aM, sM)]) H := hP
          have hD : va_D A (jx_ws cI cT [(cp_M aM, sM)]) := hD
          refine jx_bipush C dX8_reads_32 (by decide) ?_
          refine jx_isub C dX8_reads_34 ?_
          refine jx_iast C hK hP hD hS 0 21 rfl rfl rfl rfl h.1 rfl dX8_reads_35 (fun H locs hP hD hS => ?_)
          have h := h.2
          have hP : va_P D vwCl (jx_ws cI cT [(cp_M aM, (jx_su sM 29 l2 (r29 - 48)))]) H := hP
          have hD : va_D A (jx_ws cI cT [(cp_M aM, (jx_su sM 29 l2 (r29 - 48)))]) := hD
          refine lv_aload_n hx hb dX8_reads_36 rfl (lv_at hl 0 rfl) ?_
          refine lv_dup hx hb dX8_reads_37 rfl ?_
          refine jx_getI C hK hP 0 0 28 rfl rfl rfl fl_X8_252 dX8_reads_38 ?_
          refine jx_iconst C dX8_reads_41 ?_
          refine jx_iadd C dX8_reads_42 ?_
          refine jx_putI C hK hP hD hS 0 0 28 rfl rfl rfl rfl rfl fl_X8_252 fw_X8_28 ⟨rfl, rfl⟩ rfl dX8_reads_43 (fun H locs hP hD hS => ?_)
          have hP : va_P D vwCl (jx_ws cI cT [(cp_M aM, (jx_su (jx_su sM 29 l2 (r29 - 48)) 28 0 (((jx_su sM 29 l2 (r29 - 48)) 28 0) + 1)))]) H := hP
          have hD : va_D A (jx_ws cI cT [(cp_M aM, (jx_su (jx_su sM 29 l2 (r29 - 48)) 28 0 (((jx_su sM 29 l2 (r29 - 48)) 28 0) + 1)))]) := hD
          refine lv_aload_n hx hb dX8_reads_46 rfl (lv_at hl 0 rfl) ?_
          refine jx_callVI C hK hP hD hS hA (ct_M_here l D cI cT aM _ (jx_su (jx_su sM 29 l2 (r29 - 48)) 28 0 (((jx_su sM 29 l2 (r29 - 48)) 28 0) + 1))  h) ms_X8_here lk_X8_255 [0] rfl rfl (fun _ => rfl) (cs' := (fun _ => [(cp_M aM, (jx_su (jx_su sM 29 l2 (r29 - 48)) 28 0 (((jx_su sM 29 l2 (r29 - 48)) 28 0) + 1)))])) (fun _ => rfl) (fun _ => rfl) 0 0 rfl rfl rfl rfl rfl hl.1 rfl rfl dX8_reads_47 ⟨Nat.le_refl _, Nat.le_refl _⟩ (fun r47 _ H locs h hP hD hS => ?_)
          have hP : va_P D vwCl (jx_ws cI cT [(cp_M aM, (jx_su (jx_su sM 29 l2 (r29 - 48)) 28 0 (((jx_su sM 29 l2 (r29 - 48)) 28 0) + 1)))]) H := hP
          have hD : va_D A (jx_ws cI cT [(cp_M aM, (jx_su (jx_su sM 29 l2 (r29 - 48)) 28 0 (((jx_su sM 29 l2 (r29 - 48)) 28 0) + 1)))]) := hD
          refine jx_bipush C dX8_reads_50 (by decide) ?_
          refine jx_bipush C dX8_reads_52 (by decide) ?_
          refine jx_callSI C hK hP hD hS hA (ct_M_in l D cI cT  _  r47 48 57 h) ms_X8_in lk_X8_180 [] rfl rfl (fun _ => rfl) (cs' := (fun _ => [(cp_M aM, (jx_su (jx_su sM 29 l2 (r29 - 48)) 28 0 (((jx_su sM 29 l2 (r29 - 48)) 28 0) + 1)))])) (fun _ => rfl) (fun _ => rfl) rfl rfl hl.1 rfl rfl dX8_reads_54 ⟨Nat.le_refl _, Nat.le_refl _⟩ (fun r54 _ H locs h hP hD hS => ?_)
          have hP : va_P D vwCl (jx_ws cI cT [(cp_M aM, (jx_su (jx_su sM 29 l2 (r29 - 48)) 28 0 (((jx_su sM 29 l2 (r29 - 48)) 28 0) + 1)))]) H := hP
          have hD : va_D A (jx_ws cI cT [(cp_M aM, (jx_su (jx_su sM 29 l2 (r29 - 48)) 28 0 (((jx_su sM 29 l2 (r29 - 48)) 28 0) + 1)))]) := hD
          refine jx_zeq C h.1 (tgt := 93) dX8_reads_57 (by decide) (fun hc => ?_) (fun hc => ?_)
          · have h := h.2.1 hc
            exact J93 (jx_su (jx_su sM 29 l2 (r29 - 48)) 28 0 (((jx_su sM 29 l2 (r29 - 48)) 28 0) + 1)) l2 h _ _ hP hD hS ls (lv_sub hl [0, 1, 2] rfl)
          · have h := h.2.2 hc
            refine lv_aload_n hx hb dX8_reads_60 rfl (lv_at hl 0 rfl) ?_
            refine jx_getR C hK hP 0 0 29 rfl rfl rfl fl_X8_70 dX8_reads_61 ?_
            refine lv_iload_n hx hb dX8_reads_64 rfl (lv_at hl 2 rfl) ?_
            refine jx_bipush C dX8_reads_65 (by decide) ?_
            refine lv_aload_n hx hb dX8_reads_67 rfl (lv_at hl 0 rfl) ?_
            refine jx_getR C hK hP 0 0 29 rfl rfl rfl fl_X8_70 dX8_reads_68 ?_
            refine lv_iload_n hx hb dX8_reads_71 rfl (lv_at hl 2 rfl) ?_
            refine jx_iald C hK hP 0 21 rfl rfl rfl h.1 dX8_reads_72 ?_
            have h := h.2
            refine jx_imul C dX8_reads_73 ?_
            refine lv_aload_n hx hb dX8_reads_74 rfl (lv_at hl 0 rfl) ?_
            refine jx_callVI C hK hP hD hS hA (ct_M_here l D cI cT aM _ (jx_su (jx_su sM 29 l2 (r29 - 48)) 28 0 (((jx_su sM 29 l2 (r29 - 48)) 28 0) + 1))  h) ms_X8_here lk_X8_255 [0] rfl rfl (fun _ => rfl) (cs' := (fun _ => [(cp_M aM, (jx_su (jx_su sM 29 l2 (r29 - 48)) 28 0 (((jx_su sM 29 l2 (r29 - 48)) 28 0) + 1)))])) (fun _ => rfl) (fun _ => rfl) 0 0 rfl rfl rfl rfl rfl hl.1 rfl rfl dX8_reads_75 ⟨Nat.le_refl _, Nat.le_refl _⟩ (fun r75 _ H locs h hP hD hS => ?_)
            have hP : va_P D vwCl (jx_ws cI cT [(cp_M aM, (jx_su (jx_su sM 29 l2 (r29 - 48)) 28 0 (((jx_su sM 29 l2 (r29 - 48)) 28 0) + 1)))]) H := hP
            have hD : va_D A (jx_ws cI cT [(cp_M aM, (jx_su (jx_su sM 29 l2 (r29 - 48)) 28 0 (((jx_su sM 29 l2 (r29 - 48)) 28 0) + 1)))]) := hD
            refine jx_iadd C dX8_reads_78 ?_
            refine jx_bipush C dX8_reads_79 (by decide) ?_
            refine jx_isub C dX8_reads_81 ?_
            refine jx_iast C hK hP hD hS 0 21 rfl rfl rfl rfl h.1 rfl dX8_reads_82 (fun H locs hP hD hS => ?_)
            have h := h.2
            have hP : va_P D vwCl (jx_ws cI cT [(cp_M aM, (jx_su (jx_su (jx_su sM 29 l2 (r29 - 48)) 28 0 (((jx_su sM 29 l2 (r29 - 48)) 28 0) + 1)) 29 l2 (((10 * ((jx_su (jx_su sM 29 l2 (r29 - 48)) 28 0 (((jx_su sM 29 l2 (r29 - 48)) 28 0) + 1)) 29 l2)) + r75) - 48)))]) H := hP
            have hD : va_D A (jx_ws cI cT [(cp_M aM, (jx_su (jx_su (jx_su sM 29 l2 (r29 - 48)) 28 0 (((jx_su sM 29 l2 (r29 - 48)) 28 0) + 1)) 29 l2 (((10 * ((jx_su (jx_su sM 29 l2 (r29 - 48)) 28 0 (((jx_su sM 29 l2 (r29 - 48)) 28 0) + 1)) 29 l2)) + r75) - 48)))]) := hD
            refine lv_aload_n hx hb dX8_reads_83 rfl (lv_at hl 0 rfl) ?_
            refine lv_dup hx hb dX8_reads_84 rfl ?_
            refine jx_getI C hK hP 0 0 28 rfl rfl rfl fl_X8_252 dX8_reads_85 ?_
            refine jx_iconst C dX8_reads_88 ?_
            refine jx_iadd C dX8_reads_89 ?_
            refine jx_putI C hK hP hD hS 0 0 28 rfl rfl rfl rfl rfl fl_X8_252 fw_X8_28 ⟨rfl, rfl⟩ rfl dX8_reads_90 (fun H locs hP hD hS => ?_)
            have hP : va_P D vwCl (jx_ws cI cT [(cp_M aM, (jx_su (jx_su (jx_su (jx_su sM 29 l2 (r29 - 48)) 28 0 (((jx_su sM 29 l2 (r29 - 48)) 28 0) + 1)) 29 l2 (((10 * ((jx_su (jx_su sM 29 l2 (r29 - 48)) 28 0 (((jx_su sM 29 l2 (r29 - 48)) 28 0) + 1)) 29 l2)) + r75) - 48)) 28 0 (((jx_su (jx_su (jx_su sM 29 l2 (r29 - 48)) 28 0 (((jx_su sM 29 l2 (r29 - 48)) 28 0) + 1)) 29 l2 (((10 * ((jx_su (jx_su sM 29 l2 (r29 - 48)) 28 0 (((jx_su sM 29 l2 (r29 - 48)) 28 0) + 1)) 29 l2)) + r75) - 48)) 28 0) + 1)))]) H := hP
            have hD : va_D A (jx_ws cI cT [(cp_M aM, (jx_su (jx_su (jx_su (jx_su sM 29 l2 (r29 - 48)) 28 0 (((jx_su sM 29 l2 (r29 - 48)) 28 0) + 1)) 29 l2 (((10 * ((jx_su (jx_su sM 29 l2 (r29 - 48)) 28 0 (((jx_su sM 29 l2 (r29 - 48)) 28 0) + 1)) 29 l2)) + r75) - 48)) 28 0 (((jx_su (jx_su (jx_su sM 29 l2 (r29 - 48)) 28 0 (((jx_su sM 29 l2 (r29 - 48)) 28 0) + 1)) 29 l2 (((10 * ((jx_su (jx_su sM 29 l2 (r29 - 48)) 28 0 (((jx_su sM 29 l2 (r29 - 48)) 28 0) + 1)) 29 l2)) + r75) - 48)) 28 0) + 1)))]) := hD
            exact J93 (jx_su (jx_su (jx_su (jx_su sM 29 l2 (r29 - 48)) 28 0 (((jx_su sM 29 l2 (r29 - 48)) 28 0) + 1)) 29 l2 (((10 * ((jx_su (jx_su sM 29 l2 (r29 - 48)) 28 0 (((jx_su sM 29 l2 (r29 - 48)) 28 0) + 1)) 29 l2)) + r75) - 48)) 28 0 (((jx_su (jx_su (jx_su sM 29 l2 (r29 - 48)) 28 0 (((jx_su sM 29 l2 (r29 - 48)) 28 0) + 1)) 29 l2 (((10 * ((jx_su (jx_su sM 29 l2 (r29 - 48)) 28 0 (((jx_su sM 29 l2 (r29 - 48)) 28 0) + 1)) 29 l2)) + r75) - 48)) 28 0) + 1)) l2 h _ _ hP hD hS ls (lv_sub hl [0, 1, 2] rfl)
        · have h := h.2.1 hc
          refine jx_iconst C dX8_reads_21 ?_
          exact jx_rZ C hr hlk hAe hS hQQ (by decide) sM hP h dX8_reads_22
  refine jx_iconst C dX8_reads_0 ?_
  refine lv_istore_n (lv' := [(2, .int (jx_i 0)), (0, .ref (aM 0)), (1, .int (jx_i l1))]) hx hb dX8_reads_1 rfl hl (by decide) rfl (fun ls hl => ?_)
  obtain ⟨n, h⟩ := h
  refine Lo2 n sM 0 h _ _ hP hD hS ls (lv_sub hl [1, 2, 0] rfl)
set_option maxRecDepth 100000 in
set_option maxHeartbeats 4000000 in
theorem ct_M_insertion (l : Launch) (D : va_G) (cI cT : ClassId) (aM : Nat → Nat) (Q : jx_St → Prop) (sM : jx_St) (l1 : Int) (l2 : Int) (h : wp_M_insertion Q sM l1 l2) : jx_KV jx_St l D cI cT yX8_insertion cX8_insertion 3 5 129 [.ref (aM 0), .int (jx_i l1), .int (jx_i l2)] [(cp_M aM, sM)] (fun u => [(cp_M aM, u)]) Q := by
  refine jx_ent (own := RX8) (by decide) rfl (Nat.le_of_ble_eq_true rfl) ?_
  intro p e s m args below meth c A QQ C hr hlk hK hAe hA hP hD hS ls hl hQQ
  have hl : lv_has ls 3 [(0, .ref (aM 0)), (1, .int (jx_i l1)), (2, .int (jx_i l2))] := hl
  have hx := C.1
  have hb := C.2.1
  unfold wp_M_insertion at h
  have Lo16 : ∀ (n : Nat) (sM : jx_St), jx_it (fun B16 v => wp_M_insertion_16 Q l1 l2 B16 v) n sM → ∀ (H : Heap) (locs : List Loc), va_P D vwCl (jx_ws cI cT [(cp_M aM, sM)]) H → va_D A (jx_ws cI cT [(cp_M aM, sM)]) → va_S A s.heap H locs → ∀ ls : Array Slot, lv_has ls 3 [(0, .ref (aM 0))] → W p l e (jx_rm 5 129) s m args below meth c H locs 0 0 QQ (F0 m 16 ls []) := by
    intro n
    induction n with
    | zero =>
      intro sM h
      exact (show False from h).elim
    | succ n ih =>
      intro sM h H locs hP hD hS ls hl
      have h : wp_M_insertion_16 Q l1 l2 (jx_it (fun B16 v => wp_M_insertion_16 Q l1 l2 B16 v) n) sM := h
      have ih := fun sM h => ih sM h
      generalize jx_it (fun B16 v => wp_M_insertion_16 Q l1 l2 B16 v) n = B16 at h ih
      unfold wp_M_insertion_16 at h
      refine lv_aload_n hx hb dX8_insertion_16 rfl (lv_at hl 0 rfl) ?_
      refine jx_getI C hK hP 0 0 13 rfl rfl rfl fl_X8_109 dX8_insertion_17 ?_
      refine jx_zle C h.1 (tgt := 58) dX8_insertion_20 (by decide) (fun hc => ?_) (fun hc => ?_)
      · have h := h.2.1 hc
        exact jx_rV C hr hlk hAe hS hQQ sM hP h dX8_insertion_58
      · have h := h.2.2 hc
        refine lv_aload_n hx hb dX8_insertion_23 rfl (lv_at hl 0 rfl) ?_
        refine lv_dup hx hb dX8_insertion_24 rfl ?_
        refine jx_getI C hK hP 0 0 13 rfl rfl rfl fl_X8_109 dX8_insertion_25 ?_
        refine jx_iconst C dX8_insertion_28 ?_
        refine jx_isub C dX8_insertion_29 ?_
        refine jx_putI C hK hP hD hS 0 0 13 rfl rfl rfl rfl rfl fl_X8_109 fw_X8_13 ⟨rfl, rfl⟩ rfl dX8_insertion_30 (fun H locs hP hD hS => ?_)
        have hP : va_P D vwCl (jx_ws cI cT [(cp_M aM, (jx_su sM 13 0 ((sM 13 0) - 1)))]) H := hP
        have hD : va_D A (jx_ws cI cT [(cp_M aM, (jx_su sM 13 0 ((sM 13 0) - 1)))]) := hD
        refine lv_aload_n hx hb dX8_insertion_33 rfl (lv_at hl 0 rfl) ?_
        refine lv_aload_n hx hb dX8_insertion_34 rfl (lv_at hl 0 rfl) ?_
        refine jx_getR C hK hP 0 0 11 rfl rfl rfl fl_X8_34 dX8_insertion_35 ?_
        refine lv_aload_n hx hb dX8_insertion_38 rfl (lv_at hl 0 rfl) ?_
        refine jx_getI C hK hP 0 0 13 rfl rfl rfl fl_X8_109 dX8_insertion_39 ?_
        refine jx_iald C hK hP 0 9 rfl rfl rfl h.1 dX8_insertion_42 ?_
        have h := h.2
        refine lv_aload_n hx hb dX8_insertion_43 rfl (lv_at hl 0 rfl) ?_
        refine jx_getR C hK hP 0 0 12 rfl rfl rfl fl_X8_37 dX8_insertion_44 ?_
        refine lv_aload_n hx hb dX8_insertion_47 rfl (lv_at hl 0 rfl) ?_
        refine jx_getI C hK hP 0 0 13 rfl rfl rfl fl_X8_109 dX8_insertion_48 ?_
        refine jx_iald C hK hP 0 10 rfl rfl rfl h.1 dX8_insertion_51 ?_
        have h := h.2
        refine jx_callVV C hK hP hD hS hA (ct_M_comes l D cI cT aM _ (jx_su sM 13 0 ((sM 13 0) - 1)) ((jx_su sM 13 0 ((sM 13 0) - 1)) 11 ((jx_su sM 13 0 ((sM 13 0) - 1)) 13 0)) ((jx_su sM 13 0 ((sM 13 0) - 1)) 12 ((jx_su sM 13 0 ((sM 13 0) - 1)) 13 0)) h) ms_X8_comes lk_X8_168 [0] rfl rfl (fun _ => rfl) (cs' := (fun u => [(cp_M aM, u)])) (fun _ => rfl) (fun _ => rfl) 0 0 rfl rfl rfl rfl rfl hl.1 rfl rfl dX8_insertion_52 ⟨Nat.le_refl _, Nat.le_refl _⟩ (fun sM_52 H locs h hP hD hS => ?_)
        have hP : va_P D vwCl (jx_ws cI cT [(cp_M aM, sM_52)]) H := hP
        have hD : va_D A (jx_ws cI cT [(cp_M aM, sM_52)]) := hD
        refine lv_goto (tgt := 16) hx hb dX8_insertion_55 (by decide) ?_
        exact ih sM_52 h _ _ hP hD hS ls (lv_sub hl [0] rfl)
  refine lv_aload_n hx hb dX8_insertion_0 rfl (lv_at hl 0 rfl) ?_
  refine jx_iconst C dX8_insertion_1 ?_
  refine jx_putI C hK hP hD hS 0 0 14 rfl rfl rfl rfl rfl fl_X8_132 fw_X8_14 ⟨rfl, rfl⟩ rfl dX8_insertion_2 (fun H locs hP hD hS => ?_)
  have hP : va_P D vwCl (jx_ws cI cT [(cp_M aM, (jx_su sM 14 0 0))]) H := hP
  have hD : va_D A (jx_ws cI cT [(cp_M aM, (jx_su sM 14 0 0))]) := hD
  refine lv_aload_n hx hb dX8_insertion_5 rfl (lv_at hl 0 rfl) ?_
  refine jx_iconst C dX8_insertion_6 ?_
  refine jx_putI C hK hP hD hS 0 0 13 rfl rfl rfl rfl rfl fl_X8_109 fw_X8_13 ⟨rfl, rfl⟩ rfl dX8_insertion_7 (fun H locs hP hD hS => ?_)
  have hP : va_P D vwCl (jx_ws cI cT [(cp_M aM, (jx_su (jx_su sM 14 0 0) 13 0 0))]) H := hP
  have hD : va_D A (jx_ws cI cT [(cp_M aM, (jx_su (jx_su sM 14 0 0) 13 0 0))]) := hD
  refine lv_aload_n hx hb dX8_insertion_10 rfl (lv_at hl 0 rfl) ?_
  refine lv_iload_n hx hb dX8_insertion_11 rfl (lv_at hl 1 rfl) ?_
  refine lv_iload_n hx hb dX8_insertion_12 rfl (lv_at hl 2 rfl) ?_
  refine jx_callVV C hK hP hD hS hA (ct_M_waits l D cI cT aM _ (jx_su (jx_su sM 14 0 0) 13 0 0) l1 l2 h) ms_X8_waits lk_X8_142 [0] rfl rfl (fun _ => rfl) (cs' := (fun u => [(cp_M aM, u)])) (fun _ => rfl) (fun _ => rfl) 0 0 rfl rfl rfl rfl rfl hl.1 rfl rfl dX8_insertion_13 ⟨Nat.le_refl _, Nat.le_refl _⟩ (fun sM_13 H locs h hP hD hS => ?_)
  have hP : va_P D vwCl (jx_ws cI cT [(cp_M aM, sM_13)]) H := hP
  have hD : va_D A (jx_ws cI cT [(cp_M aM, sM_13)]) := hD
  obtain ⟨n, h⟩ := h
  refine Lo16 n sM_13 h _ _ hP hD hS ls (lv_sub hl [0] rfl)
set_option maxRecDepth 100000 in
set_option maxHeartbeats 4000000 in
theorem ct_M_takesBox (l : Launch) (D : va_G) (cI cT : ClassId) (aM : Nat → Nat) (Q : jx_St → Prop) (sM : jx_St) (l1 : Int) (h : wp_M_takesBox Q sM l1) : jx_KV jx_St l D cI cT yX8_takesBox cX8_takesBox 7 6 151 [.ref (aM 0), .int (jx_i l1)] [(cp_M aM, sM)] (fun u => [(cp_M aM, u)]) Q := by
  refine jx_ent (own := RX8) (by decide) rfl (Nat.le_of_ble_eq_true rfl) ?_
  intro p e s m args below meth c A QQ C hr hlk hK hAe hA hP hD hS ls hl hQQ
  have hl : lv_has ls 7 [(0, .ref (aM 0)), (1, .int (jx_i l1))] := hl
  have hx := C.1
  have hb := C.2.1
  unfold wp_M_takesBox at h
  have Lo49 : ∀ (l2 : Int) (l3 : Int) (l4 : Int) (K70 : jx_St → Prop) (n : Nat) (sM : jx_St) (l5 : Int), jx_it (fun B49 v => wp_M_takesBox_49 Q l1 K70 l2 l3 l4 B49 v.1 v.2) n (sM, l5) → (∀ (sM : jx_St), K70 sM → ∀ (H : Heap) (locs : List Loc), va_P D vwCl (jx_ws cI cT [(cp_M aM, sM)]) H → va_D A (jx_ws cI cT [(cp_M aM, sM)]) → va_S A s.heap H locs → ∀ ls : Array Slot, lv_has ls 7 [(0, .ref (aM 0)), (2, .int (jx_i l2)), (3, .int (jx_i l3)), (4, .int (jx_i l4))] → W p l e (jx_rm 6 151) s m args below meth c H locs 0 0 QQ (F0 m 70 ls [])) → ∀ (H : Heap) (locs : List Loc), va_P D vwCl (jx_ws cI cT [(cp_M aM, sM)]) H → va_D A (jx_ws cI cT [(cp_M aM, sM)]) → va_S A s.heap H locs → ∀ ls : Array Slot, lv_has ls 7 [(0, .ref (aM 0)), (2, .int (jx_i l2)), (3, .int (jx_i l3)), (4, .int (jx_i l4)), (5, .int (jx_i l5))] → W p l e (jx_rm 6 151) s m args below meth c H locs 0 0 QQ (F0 m 49 ls []) := by
    intro l2 l3 l4 K70 n
    induction n with
    | zero =>
      intro sM l5 h
      exact (show False from h).elim
    | succ n ih =>
      intro sM l5 h K70E H locs hP hD hS ls hl
      have h : wp_M_takesBox_49 Q l1 K70 l2 l3 l4 (jx_it (fun B49 v => wp_M_takesBox_49 Q l1 K70 l2 l3 l4 B49 v.1 v.2) n) sM l5 := h
      have ih := fun sM l5 h => ih sM l5 h K70E
      generalize jx_it (fun B49 v => wp_M_takesBox_49 Q l1 K70 l2 l3 l4 B49 v.1 v.2) n = B49 at h ih
      unfold wp_M_takesBox_49 at h
      refine lv_iload hx hb dX8_takesBox_49 (lv_at hl 4 rfl) ?_
      refine lv_iload hx hb dX8_takesBox_51 (lv_at hl 3 rfl) ?_
      refine jx_cgt C h.1 h.2.1 (tgt := 70) dX8_takesBox_53 (by decide) (fun hc => ?_) (fun hc => ?_)
      · have h := h.2.2.2 hc
        exact K70E sM h _ _ hP hD hS ls (lv_sub hl [0, 1, 2, 3] rfl)
      · have h := h.2.2.1 hc
        refine lv_aload_n hx hb dX8_takesBox_56 rfl (lv_at hl 0 rfl) ?_
        refine jx_getR C hK hP 0 0 24 rfl rfl rfl fl_X8_61 dX8_takesBox_57 ?_
        refine lv_iload hx hb dX8_takesBox_60 (lv_at hl 4 rfl) ?_
        refine jx_iconst C dX8_takesBox_62 ?_
        refine jx_iast C hK hP hD hS 0 18 rfl rfl rfl rfl h.1 rfl dX8_takesBox_63 (fun H locs hP hD hS => ?_)
        have h := h.2
        have hP : va_P D vwCl (jx_ws cI cT [(cp_M aM, (jx_su sM 24 l5 (-1)))]) H := hP
        have hD : va_D A (jx_ws cI cT [(cp_M aM, (jx_su sM 24 l5 (-1)))]) := hD
        refine jx_iinc C (lv' := [(5, .int (jx_i (l5 + 1))), (0, .ref (aM 0)), (2, .int (jx_i l2)), (3, .int (jx_i l3)), (4, .int (jx_i l4))]) dX8_takesBox_64 hl (k := 4) rfl (by decide) rfl (fun ls hl => ?_)
        refine lv_goto (tgt := 49) hx hb dX8_takesBox_67 (by decide) ?_
        exact ih (jx_su sM 24 l5 (-1)) (l5 + 1) h _ _ hP hD hS ls (lv_sub hl [1, 2, 3, 4, 0] rfl)
  have Lo70 : ∀ (l3 : Int) (l4 : Int) (K172 : jx_St → Prop) (n : Nat) (sM : jx_St) (l2 : Int), jx_it (fun B70 v => wp_M_takesBox_70 Q l1 K172 l3 l4 B70 v.1 v.2) n (sM, l2) → (∀ (sM : jx_St), K172 sM → ∀ (H : Heap) (locs : List Loc), va_P D vwCl (jx_ws cI cT [(cp_M aM, sM)]) H → va_D A (jx_ws cI cT [(cp_M aM, sM)]) → va_S A s.heap H locs → ∀ ls : Array Slot, lv_has ls 7 [(0, .ref (aM 0)), (4, .int (jx_i l4))] → W p l e (jx_rm 6 151) s m args below meth c H locs 0 0 QQ (F0 m 172 ls [])) → ∀ (H : Heap) (locs : List Loc), va_P D vwCl (jx_ws cI cT [(cp_M aM, sM)]) H → va_D A (jx_ws cI cT [(cp_M aM, sM)]) → va_S A s.heap H locs → ∀ ls : Array Slot, lv_has ls 7 [(0, .ref (aM 0)), (2, .int (jx_i l2)), (3, .int (jx_i l3)), (4, .int (jx_i l4))] → W p l e (jx_rm 6 151) s m args below meth c H locs 0 0 QQ (F0 m 70 ls []) := by
    intro l3 l4 K172 n
    induction n with
    | zero =>
      intro sM l2 h
      exact (show False from h).elim
    | succ n ih =>
      intro sM l2 h K172E H locs hP hD hS ls hl
      have h : wp_M_takesBox_70 Q l1 K172 l3 l4 (jx_it (fun B70 v => wp_M_takesBox_70 Q l1 K172 l3 l4 B70 v.1 v.2) n) sM l2 := h
      have ih := fun sM l2 h => ih sM l2 h K172E
      generalize jx_it (fun B70 v => wp_M_takesBox_70 Q l1 K172 l3 l4 B70 v.1 v.2) n = B70 at h ih
      unfold wp_M_takesBox_70 at h
      have J166 : ∀ (sM : jx_St) (l6 : Int), wp_M_takesBox_166 Q l1 B70 K172 sM l3 l4 l6 → ∀ (H : Heap) (locs : List Loc), va_P D vwCl (jx_ws cI cT [(cp_M aM, sM)]) H → va_D A (jx_ws cI cT [(cp_M aM, sM)]) → va_S A s.heap H locs → ∀ ls : Array Slot, lv_has ls 7 [(0, .ref (aM 0)), (3, .int (jx_i l3)), (4, .int (jx_i l4)), (6, .int (jx_i l6))] → W p l e (jx_rm 6 151) s m args below meth c H locs 0 0 QQ (F0 m 166 ls []) := by
        intro sM l6 h H locs hP hD hS ls hl
        unfold wp_M_takesBox_166 at h
        refine lv_iload hx hb dX8_takesBox_166 (lv_at hl 3 rfl) ?_
        refine lv_istore_n (lv' := [(2, .int (jx_i l6)), (0, .ref (aM 0)), (3, .int (jx_i l3)), (4, .int (jx_i l4)), (6, .int (jx_i l6))]) hx hb dX8_takesBox_168 rfl hl (by decide) rfl (fun ls hl => ?_)
        refine lv_goto (tgt := 70) hx hb dX8_takesBox_169 (by decide) ?_
        exact ih sM l6 h _ _ hP hD hS ls (lv_sub hl [1, 0, 2, 3] rfl)
      have J127 : ∀ (sM : jx_St) (l2 : Int) (l6 : Int) (t1 : Int) (t2 : Int), wp_M_takesBox_127 Q l1 B70 K172 sM l2 l3 l4 l6 t1 t2 → ∀ (H : Heap) (locs : List Loc), va_P D vwCl (jx_ws cI cT [(cp_M aM, sM)]) H → va_D A (jx_ws cI cT [(cp_M aM, sM)]) → va_S A s.heap H locs → ∀ ls : Array Slot, lv_has ls 7 [(0, .ref (aM 0)), (2, .int (jx_i l2)), (3, .int (jx_i l3)), (4, .int (jx_i l4)), (6, .int (jx_i l6))] → W p l e (jx_rm 6 151) s m args below meth c H locs 0 0 QQ (F0 m 127 ls [.int (jx_i t2), .int (jx_i t1), .ref (aM 18)]) := by
        intro sM l2 l6 t1 t2 h H locs hP hD hS ls hl
        unfold wp_M_takesBox_127 at h
        refine jx_iast C hK hP hD hS 0 18 rfl rfl rfl rfl h.1 rfl dX8_takesBox_127 (fun H locs hP hD hS => ?_)
        have h := h.2
        have hP : va_P D vwCl (jx_ws cI cT [(cp_M aM, (jx_su sM 24 t1 t2))]) H := hP
        have hD : va_D A (jx_ws cI cT [(cp_M aM, (jx_su sM 24 t1 t2))]) := hD
        refine lv_aload_n hx hb dX8_takesBox_128 rfl (lv_at hl 0 rfl) ?_
        refine jx_getR C hK hP 0 0 0 rfl rfl rfl fl_X8_7 dX8_takesBox_129 ?_
        refine jx_iconst C dX8_takesBox_132 ?_
        refine lv_dup2_11 hx hb dX8_takesBox_133 rfl rfl ?_
        refine jx_iald C hK hP 0 1 rfl rfl rfl (show jx_B _ _ from ⟨by decide, by decide⟩) dX8_takesBox_134 ?_
        refine lv_aload_n hx hb dX8_takesBox_135 rfl (lv_at hl 0 rfl) ?_
        refine lv_iload_n hx hb dX8_takesBox_136 rfl (lv_at hl 1 rfl) ?_
        refine jx_callVI C hK hP hD hS hA (ct_M_manyOf l D cI cT aM _ (jx_su sM 24 t1 t2) l2 h) ms_X8_manyOf lk_X8_85 [0] rfl rfl (fun _ => rfl) (cs' := (fun _ => [(cp_M aM, (jx_su sM 24 t1 t2))])) (fun _ => rfl) (fun _ => rfl) 0 0 rfl rfl rfl rfl rfl hl.1 rfl rfl dX8_takesBox_137 ⟨Nat.le_refl _, Nat.le_refl _⟩ (fun r137 _ H locs h hP hD hS => ?_)
        have hP : va_P D vwCl (jx_ws cI cT [(cp_M aM, (jx_su sM 24 t1 t2))]) H := hP
        have hD : va_D A (jx_ws cI cT [(cp_M aM, (jx_su sM 24 t1 t2))]) := hD
        refine jx_iadd C dX8_takesBox_140 ?_
        refine jx_iast C hK hP hD hS 0 1 rfl rfl rfl rfl (show jx_B _ _ from ⟨by decide, by decide⟩) rfl dX8_takesBox_141 (fun H locs hP hD hS => ?_)
        have hP : va_P D vwCl (jx_ws cI cT [(cp_M aM, (jx_su (jx_su sM 24 t1 t2) 0 3 (((jx_su sM 24 t1 t2) 0 3) + r137)))]) H := hP
        have hD : va_D A (jx_ws cI cT [(cp_M aM, (jx_su (jx_su sM 24 t1 t2) 0 3 (((jx_su sM 24 t1 t2) 0 3) + r137)))]) := hD
        refine lv_aload_n hx hb dX8_takesBox_142 rfl (lv_at hl 0 rfl) ?_
        refine lv_iload hx hb dX8_takesBox_143 (lv_at hl 4 rfl) ?_
        refine lv_aload_n hx hb dX8_takesBox_145 rfl (lv_at hl 0 rfl) ?_
        refine lv_iload hx hb dX8_takesBox_146 (lv_at hl 4 rfl) ?_
        refine lv_iload_n hx hb dX8_takesBox_148 rfl (lv_at hl 1 rfl) ?_
        refine jx_callVI C hK hP hD hS hA (ct_M_placeIn l D cI cT aM _ (jx_su (jx_su sM 24 t1 t2) 0 3 (((jx_su sM 24 t1 t2) 0 3) + r137)) l6 l2 h) ms_X8_placeIn lk_X8_106 [0] rfl rfl (fun _ => rfl) (cs' := (fun _ => [(cp_M aM, (jx_su (jx_su sM 24 t1 t2) 0 3 (((jx_su sM 24 t1 t2) 0 3) + r137)))])) (fun _ => rfl) (fun _ => rfl) 0 0 rfl rfl rfl rfl rfl hl.1 rfl rfl dX8_takesBox_149 ⟨Nat.le_refl _, Nat.le_refl _⟩ (fun r149 _ H locs h hP hD hS => ?_)
        have hP : va_P D vwCl (jx_ws cI cT [(cp_M aM, (jx_su (jx_su sM 24 t1 t2) 0 3 (((jx_su sM 24 t1 t2) 0 3) + r137)))]) H := hP
        have hD : va_D A (jx_ws cI cT [(cp_M aM, (jx_su (jx_su sM 24 t1 t2) 0 3 (((jx_su sM 24 t1 t2) 0 3) + r137)))]) := hD
        refine jx_callVV C hK hP hD hS hA (ct_M_drops l D cI cT aM _ (jx_su (jx_su sM 24 t1 t2) 0 3 (((jx_su sM 24 t1 t2) 0 3) + r137)) l6 r149 h) ms_X8_drops lk_X8_138 [0] rfl rfl (fun _ => rfl) (cs' := (fun u => [(cp_M aM, u)])) (fun _ => rfl) (fun _ => rfl) 0 0 rfl rfl rfl rfl rfl hl.1 rfl rfl dX8_takesBox_152 ⟨Nat.le_refl _, Nat.le_refl _⟩ (fun sM_152 H locs h hP hD hS => ?_)
        have hP : va_P D vwCl (jx_ws cI cT [(cp_M aM, sM_152)]) H := hP
        have hD : va_D A (jx_ws cI cT [(cp_M aM, sM_152)]) := hD
        refine lv_aload_n hx hb dX8_takesBox_155 rfl (lv_at hl 0 rfl) ?_
        refine jx_getR C hK hP 0 0 0 rfl rfl rfl fl_X8_7 dX8_takesBox_156 ?_
        refine jx_sipush C dX8_takesBox_159 (by decide) ?_
        refine lv_iload_n hx hb dX8_takesBox_162 rfl (lv_at hl 1 rfl) ?_
        refine jx_iadd C dX8_takesBox_163 ?_
        refine jx_iconst C dX8_takesBox_164 ?_
        refine jx_iast C hK hP hD hS 0 1 rfl rfl rfl rfl h.1 rfl dX8_takesBox_165 (fun H locs hP hD hS => ?_)
        have h := h.2
        have hP : va_P D vwCl (jx_ws cI cT [(cp_M aM, (jx_su sM_152 0 (159 + l2) (-1)))]) H := hP
        have hD : va_D A (jx_ws cI cT [(cp_M aM, (jx_su sM_152 0 (159 + l2) (-1)))]) := hD
        exact J166 (jx_su sM_152 0 (159 + l2) (-1)) l6 h _ _ hP hD hS ls (lv_sub hl [0, 2, 3, 4] rfl)
      refine lv_iload_n hx hb dX8_takesBox_70 rfl (lv_at hl 1 rfl) ?_
      refine lv_iload_n hx hb dX8_takesBox_71 rfl (lv_at hl 2 rfl) ?_
      refine jx_ceq C h.1 h.2.1 (tgt := 172) dX8_takesBox_72 (by decide) (fun hc => ?_) (fun hc => ?_)
      · have h := h.2.2.1 hc
        exact K172E sM h _ _ hP hD hS ls (lv_sub hl [0, 3] rfl)
      · have h := h.2.2.2 hc
        refine lv_aload_n hx hb dX8_takesBox_75 rfl (lv_at hl 0 rfl) ?_
        refine lv_iload_n hx hb dX8_takesBox_76 rfl (lv_at hl 1 rfl) ?_
        refine jx_callVI C hK hP hD hS hA (ct_M_levelOf l D cI cT aM _ sM l2 h) ms_X8_levelOf lk_X8_81 [0] rfl rfl (fun _ => rfl) (cs' := (fun _ => [(cp_M aM, sM)])) (fun _ => rfl) (fun _ => rfl) 0 0 rfl rfl rfl rfl rfl hl.1 rfl rfl dX8_takesBox_77 ⟨Nat.le_refl _, Nat.le_refl _⟩ (fun r77 _ H locs h hP hD hS => ?_)
        have hP : va_P D vwCl (jx_ws cI cT [(cp_M aM, sM)]) H := hP
        have hD : va_D A (jx_ws cI cT [(cp_M aM, sM)]) := hD
        refine lv_istore (lv' := [(5, .int (jx_i r77)), (0, .ref (aM 0)), (2, .int (jx_i l2)), (3, .int (jx_i l3)), (4, .int (jx_i l4))]) hx hb dX8_takesBox_80 hl (by decide) rfl (fun ls hl => ?_)
        refine lv_aload_n hx hb dX8_takesBox_82 rfl (lv_at hl 1 rfl) ?_
        refine lv_iload_n hx hb dX8_takesBox_83 rfl (lv_at hl 2 rfl) ?_
        refine lv_iload hx hb dX8_takesBox_84 (lv_at hl 0 rfl) ?_
        refine jx_iconst C dX8_takesBox_86 ?_
        refine jx_iadd C dX8_takesBox_87 ?_
        refine jx_callVI C hK hP hD hS hA (ct_M_holder l D cI cT aM _ sM l2 (r77 + 1) h) ms_X8_holder lk_X8_174 [0] rfl rfl (fun _ => rfl) (cs' := (fun _ => [(cp_M aM, sM)])) (fun _ => rfl) (fun _ => rfl) 0 0 rfl rfl rfl rfl rfl hl.1 rfl rfl dX8_takesBox_88 ⟨Nat.le_refl _, Nat.le_refl _⟩ (fun r88 _ H locs h hP hD hS => ?_)
        have hP : va_P D vwCl (jx_ws cI cT [(cp_M aM, sM)]) H := hP
        have hD : va_D A (jx_ws cI cT [(cp_M aM, sM)]) := hD
        refine lv_istore (lv' := [(6, .int (jx_i r88)), (5, .int (jx_i r77)), (0, .ref (aM 0)), (2, .int (jx_i l2)), (3, .int (jx_i l3)), (4, .int (jx_i l4))]) hx hb dX8_takesBox_91 hl (by decide) rfl (fun ls hl => ?_)
        refine lv_aload_n hx hb dX8_takesBox_93 rfl (lv_at hl 2 rfl) ?_
        refine lv_iload_n hx hb dX8_takesBox_94 rfl (lv_at hl 3 rfl) ?_
        refine jx_callVI C hK hP hD hS hA (ct_M_manyOf l D cI cT aM _ sM l2 h) ms_X8_manyOf lk_X8_85 [0] rfl rfl (fun _ => rfl) (cs' := (fun _ => [(cp_M aM, sM)])) (fun _ => rfl) (fun _ => rfl) 0 0 rfl rfl rfl rfl rfl hl.1 rfl rfl dX8_takesBox_95 ⟨Nat.le_refl _, Nat.le_refl _⟩ (fun r95 _ H locs h hP hD hS => ?_)
        have hP : va_P D vwCl (jx_ws cI cT [(cp_M aM, sM)]) H := hP
        have hD : va_D A (jx_ws cI cT [(cp_M aM, sM)]) := hD
        refine jx_iconst C dX8_takesBox_98 ?_
        refine jx_cge C h.1 (jx_inR (by decide) (by decide)) (tgt := 166) dX8_takesBox_99 (by decide) (fun hc => ?_) (fun hc => ?_)
        · have h := h.2.2 hc
          exact J166 sM r88 h _ _ hP hD hS ls (lv_sub hl [2, 4, 5, 0] rfl)
        · have h := h.2.1 hc
          refine lv_aload_n hx hb dX8_takesBox_102 rfl (lv_at hl 2 rfl) ?_
          refine jx_getR C hK hP 0 0 24 rfl rfl rfl fl_X8_61 dX8_takesBox_103 ?_
          refine lv_iload hx hb dX8_takesBox_106 (lv_at hl 1 rfl) ?_
          refine lv_aload_n hx hb dX8_takesBox_108 rfl (lv_at hl 2 rfl) ?_
          refine lv_iload_n hx hb dX8_takesBox_109 rfl (lv_at hl 3 rfl) ?_
          refine jx_callVI C hK hP hD hS hA (ct_M_manyOf l D cI cT aM _ sM l2 h) ms_X8_manyOf lk_X8_85 [0] rfl rfl (fun _ => rfl) (cs' := (fun _ => [(cp_M aM, sM)])) (fun _ => rfl) (fun _ => rfl) 0 0 rfl rfl rfl rfl rfl hl.1 rfl rfl dX8_takesBox_110 ⟨Nat.le_refl _, Nat.le_refl _⟩ (fun r110 _ H locs h hP hD hS => ?_)
          have hP : va_P D vwCl (jx_ws cI cT [(cp_M aM, sM)]) H := hP
          have hD : va_D A (jx_ws cI cT [(cp_M aM, sM)]) := hD
          refine jx_iconst C dX8_takesBox_113 ?_
          refine jx_cne C h.1 (jx_inR (by decide) (by decide)) (tgt := 126) dX8_takesBox_114 (by decide) (fun hc => ?_) (fun hc => ?_)
          · have h := h.2.2 hc
            refine jx_iconst C dX8_takesBox_126 ?_
            exact J127 sM l2 r88 r77 (-1) h _ _ hP hD hS ls (lv_sub hl [2, 3, 4, 5, 0] rfl)
          · have h := h.2.1 hc
            refine lv_aload_n hx hb dX8_takesBox_117 rfl (lv_at hl 2 rfl) ?_
            refine lv_iload_n hx hb dX8_takesBox_118 rfl (lv_at hl 3 rfl) ?_
            refine jx_iconst C dX8_takesBox_119 ?_
            refine jx_callVI C hK hP hD hS hA (ct_M_thing l D cI cT aM _ sM l2 0 h) ms_X8_thing lk_X8_88 [0] rfl rfl (fun _ => rfl) (cs' := (fun _ => [(cp_M aM, sM)])) (fun _ => rfl) (fun _ => rfl) 0 0 rfl rfl rfl rfl rfl hl.1 rfl rfl dX8_takesBox_120 ⟨Nat.le_refl _, Nat.le_refl _⟩ (fun r120 _ H locs h hP hD hS => ?_)
            have hP : va_P D vwCl (jx_ws cI cT [(cp_M aM, sM)]) H := hP
            have hD : va_D A (jx_ws cI cT [(cp_M aM, sM)]) := hD
            refine lv_goto (tgt := 127) hx hb dX8_takesBox_123 (by decide) ?_
            exact J127 sM l2 r88 r77 r120 h _ _ hP hD hS ls (lv_sub hl [2, 3, 4, 5, 0] rfl)
  have Lo176 : ∀ (K211 : jx_St → Prop) (n : Nat) (sM : jx_St) (l5 : Int), jx_it (fun B176 v => wp_M_takesBox_176 Q l1 K211 B176 v.1 v.2) n (sM, l5) → (∀ (sM : jx_St), K211 sM → ∀ (H : Heap) (locs : List Loc), va_P D vwCl (jx_ws cI cT [(cp_M aM, sM)]) H → va_D A (jx_ws cI cT [(cp_M aM, sM)]) → va_S A s.heap H locs → ∀ ls : Array Slot, lv_has ls 7 [(0, .ref (aM 0))] → W p l e (jx_rm 6 151) s m args below meth c H locs 0 0 QQ (F0 m 211 ls [])) → ∀ (H : Heap) (locs : List Loc), va_P D vwCl (jx_ws cI cT [(cp_M aM, sM)]) H → va_D A (jx_ws cI cT [(cp_M aM, sM)]) → va_S A s.heap H locs → ∀ ls : Array Slot, lv_has ls 7 [(0, .ref (aM 0)), (5, .int (jx_i l5))] → W p l e (jx_rm 6 151) s m args below meth c H locs 0 0 QQ (F0 m 176 ls []) := by
    intro K211 n
    induction n with
    | zero =>
      intro sM l5 h
      exact (show False from h).elim
    | succ n ih =>
      intro sM l5 h K211E H locs hP hD hS ls hl
      have h : wp_M_takesBox_176 Q l1 K211 (jx_it (fun B176 v => wp_M_takesBox_176 Q l1 K211 B176 v.1 v.2) n) sM l5 := h
      have ih := fun sM l5 h => ih sM l5 h K211E
      generalize jx_it (fun B176 v => wp_M_takesBox_176 Q l1 K211 B176 v.1 v.2) n = B176 at h ih
      unfold wp_M_takesBox_176 at h
      have J205 : ∀ (sM : jx_St) (l5 : Int), wp_M_takesBox_205 Q l1 B176 K211 sM l5 → ∀ (H : Heap) (locs : List Loc), va_P D vwCl (jx_ws cI cT [(cp_M aM, sM)]) H → va_D A (jx_ws cI cT [(cp_M aM, sM)]) → va_S A s.heap H locs → ∀ ls : Array Slot, lv_has ls 7 [(0, .ref (aM 0)), (5, .int (jx_i l5))] → W p l e (jx_rm 6 151) s m args below meth c H locs 0 0 QQ (F0 m 205 ls []) := by
        intro sM l5 h H locs hP hD hS ls hl
        unfold wp_M_takesBox_205 at h
        refine jx_iinc C (lv' := [(5, .int (jx_i (l5 + (-1)))), (0, .ref (aM 0))]) dX8_takesBox_205 hl (k := 1) rfl (by decide) rfl (fun ls hl => ?_)
        refine lv_goto (tgt := 176) hx hb dX8_takesBox_208 (by decide) ?_
        exact ih sM (l5 + (-1)) h _ _ hP hD hS ls (lv_sub hl [1, 0] rfl)
      refine lv_iload hx hb dX8_takesBox_176 (lv_at hl 1 rfl) ?_
      refine jx_zlt C h.1 (tgt := 211) dX8_takesBox_178 (by decide) (fun hc => ?_) (fun hc => ?_)
      · have h := h.2.1 hc
        exact K211E sM h _ _ hP hD hS ls (lv_sub hl [0] rfl)
      · have h := h.2.2 hc
        refine lv_aload_n hx hb dX8_takesBox_181 rfl (lv_at hl 0 rfl) ?_
        refine jx_getR C hK hP 0 0 24 rfl rfl rfl fl_X8_61 dX8_takesBox_182 ?_
        refine lv_iload hx hb dX8_takesBox_185 (lv_at hl 1 rfl) ?_
        refine jx_iald C hK hP 0 18 rfl rfl rfl h.1 dX8_takesBox_187 ?_
        have h := h.2
        refine jx_iconst C dX8_takesBox_188 ?_
        refine jx_ceq C h.1 (jx_inR (by decide) (by decide)) (tgt := 205) dX8_takesBox_189 (by decide) (fun hc => ?_) (fun hc => ?_)
        · have h := h.2.1 hc
          exact J205 sM l5 h _ _ hP hD hS ls (lv_sub hl [0, 1] rfl)
        · have h := h.2.2 hc
          refine lv_aload_n hx hb dX8_takesBox_192 rfl (lv_at hl 0 rfl) ?_
          refine lv_aload_n hx hb dX8_takesBox_193 rfl (lv_at hl 0 rfl) ?_
          refine jx_getR C hK hP 0 0 24 rfl rfl rfl fl_X8_61 dX8_takesBox_194 ?_
          refine lv_iload hx hb dX8_takesBox_197 (lv_at hl 1 rfl) ?_
          refine jx_iald C hK hP 0 18 rfl rfl rfl h.1 dX8_takesBox_199 ?_
          have h := h.2
          refine lv_iload hx hb dX8_takesBox_200 (lv_at hl 1 rfl) ?_
          refine jx_callVV C hK hP hD hS hA (ct_M_insertion l D cI cT aM _ sM (sM 24 l5) l5 h) ms_X8_insertion lk_X8_171 [0] rfl rfl (fun _ => rfl) (cs' := (fun u => [(cp_M aM, u)])) (fun _ => rfl) (fun _ => rfl) 0 0 rfl rfl rfl rfl rfl hl.1 rfl rfl dX8_takesBox_202 ⟨Nat.le_refl _, Nat.le_refl _⟩ (fun sM_202 H locs h hP hD hS => ?_)
          have hP : va_P D vwCl (jx_ws cI cT [(cp_M aM, sM_202)]) H := hP
          have hD : va_D A (jx_ws cI cT [(cp_M aM, sM_202)]) := hD
          exact J205 sM_202 l5 h _ _ hP hD hS ls (lv_sub hl [0, 1] rfl)
  have Lo211 : ∀ (n : Nat) (sM : jx_St), jx_it (fun B211 v => wp_M_takesBox_211 Q l1 B211 v) n sM → ∀ (H : Heap) (locs : List Loc), va_P D vwCl (jx_ws cI cT [(cp_M aM, sM)]) H → va_D A (jx_ws cI cT [(cp_M aM, sM)]) → va_S A s.heap H locs → ∀ ls : Array Slot, lv_has ls 7 [(0, .ref (aM 0))] → W p l e (jx_rm 6 151) s m args below meth c H locs 0 0 QQ (F0 m 211 ls []) := by
    intro n
    induction n with
    | zero =>
      intro sM h
      exact (show False from h).elim
    | succ n ih =>
      intro sM h H locs hP hD hS ls hl
      have h : wp_M_takesBox_211 Q l1 (jx_it (fun B211 v => wp_M_takesBox_211 Q l1 B211 v) n) sM := h
      have ih := fun sM h => ih sM h
      generalize jx_it (fun B211 v => wp_M_takesBox_211 Q l1 B211 v) n = B211 at h ih
      unfold wp_M_takesBox_211 at h
      refine lv_aload_n hx hb dX8_takesBox_211 rfl (lv_at hl 0 rfl) ?_
      refine lv_aload_n hx hb dX8_takesBox_212 rfl (lv_at hl 0 rfl) ?_
      refine jx_getR C hK hP 0 0 0 rfl rfl rfl fl_X8_7 dX8_takesBox_213 ?_
      refine jx_iconst C dX8_takesBox_216 ?_
      refine jx_iald C hK hP 0 1 rfl rfl rfl (show jx_B _ _ from ⟨by decide, by decide⟩) dX8_takesBox_217 ?_
      refine jx_callVI C hK hP hD hS hA (ct_M_levelOf l D cI cT aM _ sM (sM 0 0) h) ms_X8_levelOf lk_X8_81 [0] rfl rfl (fun _ => rfl) (cs' := (fun _ => [(cp_M aM, sM)])) (fun _ => rfl) (fun _ => rfl) 0 0 rfl rfl rfl rfl rfl hl.1 rfl rfl dX8_takesBox_218 ⟨Nat.le_refl _, Nat.le_refl _⟩ (fun r218 _ H locs h hP hD hS => ?_)
      have hP : va_P D vwCl (jx_ws cI cT [(cp_M aM, sM)]) H := hP
      have hD : va_D A (jx_ws cI cT [(cp_M aM, sM)]) := hD
      refine jx_zle C h.1 (tgt := 278) dX8_takesBox_221 (by decide) (fun hc => ?_) (fun hc => ?_)
      · have h := h.2.1 hc
        exact jx_rV C hr hlk hAe hS hQQ sM hP h dX8_takesBox_278
      · have h := h.2.2 hc
        refine lv_aload_n hx hb dX8_takesBox_224 rfl (lv_at hl 0 rfl) ?_
        refine lv_aload_n hx hb dX8_takesBox_225 rfl (lv_at hl 0 rfl) ?_
        refine jx_getR C hK hP 0 0 0 rfl rfl rfl fl_X8_7 dX8_takesBox_226 ?_
        refine jx_iconst C dX8_takesBox_229 ?_
        refine jx_iald C hK hP 0 1 rfl rfl rfl (show jx_B _ _ from ⟨by decide, by decide⟩) dX8_takesBox_230 ?_
        refine jx_callVI C hK hP hD hS hA (ct_M_manyOf l D cI cT aM _ sM (sM 0 0) h) ms_X8_manyOf lk_X8_85 [0] rfl rfl (fun _ => rfl) (cs' := (fun _ => [(cp_M aM, sM)])) (fun _ => rfl) (fun _ => rfl) 0 0 rfl rfl rfl rfl rfl hl.1 rfl rfl dX8_takesBox_231 ⟨Nat.le_refl _, Nat.le_refl _⟩ (fun r231 _ H locs h hP hD hS => ?_)
        have hP : va_P D vwCl (jx_ws cI cT [(cp_M aM, sM)]) H := hP
        have hD : va_D A (jx_ws cI cT [(cp_M aM, sM)]) := hD
        refine jx_iconst C dX8_takesBox_234 ?_
        refine jx_cne C h.1 (jx_inR (by decide) (by decide)) (tgt := 278) dX8_takesBox_235 (by decide) (fun hc => ?_) (fun hc => ?_)
        · have h := h.2.2 hc
          exact jx_rV C hr hlk hAe hS hQQ sM hP h dX8_takesBox_278
        · have h := h.2.1 hc
          refine lv_aload_n hx hb dX8_takesBox_238 rfl (lv_at hl 0 rfl) ?_
          refine lv_aload_n hx hb dX8_takesBox_239 rfl (lv_at hl 0 rfl) ?_
          refine jx_getR C hK hP 0 0 0 rfl rfl rfl fl_X8_7 dX8_takesBox_240 ?_
          refine jx_iconst C dX8_takesBox_243 ?_
          refine jx_iald C hK hP 0 1 rfl rfl rfl (show jx_B _ _ from ⟨by decide, by decide⟩) dX8_takesBox_244 ?_
          refine jx_iconst C dX8_takesBox_245 ?_
          refine jx_callVI C hK hP hD hS hA (ct_M_thing l D cI cT aM _ sM (sM 0 0) 0 h) ms_X8_thing lk_X8_88 [0] rfl rfl (fun _ => rfl) (cs' := (fun _ => [(cp_M aM, sM)])) (fun _ => rfl) (fun _ => rfl) 0 0 rfl rfl rfl rfl rfl hl.1 rfl rfl dX8_takesBox_246 ⟨Nat.le_refl _, Nat.le_refl _⟩ (fun r246 _ H locs h hP hD hS => ?_)
          have hP : va_P D vwCl (jx_ws cI cT [(cp_M aM, sM)]) H := hP
          have hD : va_D A (jx_ws cI cT [(cp_M aM, sM)]) := hD
          refine lv_istore (lv' := [(5, .int (jx_i r246)), (0, .ref (aM 0))]) hx hb dX8_takesBox_249 hl (by decide) rfl (fun ls hl => ?_)
          refine lv_aload_n hx hb dX8_takesBox_251 rfl (lv_at hl 1 rfl) ?_
          refine jx_getR C hK hP 0 0 0 rfl rfl rfl fl_X8_7 dX8_takesBox_252 ?_
          refine jx_sipush C dX8_takesBox_255 (by decide) ?_
          refine lv_aload_n hx hb dX8_takesBox_258 rfl (lv_at hl 1 rfl) ?_
          refine jx_getR C hK hP 0 0 0 rfl rfl rfl fl_X8_7 dX8_takesBox_259 ?_
          refine jx_iconst C dX8_takesBox_262 ?_
          refine jx_iald C hK hP 0 1 rfl rfl rfl (show jx_B _ _ from ⟨by decide, by decide⟩) dX8_takesBox_263 ?_
          refine jx_iadd C dX8_takesBox_264 ?_
          refine jx_iconst C dX8_takesBox_265 ?_
          refine jx_iast C hK hP hD hS 0 1 rfl rfl rfl rfl h.1 rfl dX8_takesBox_266 (fun H locs hP hD hS => ?_)
          have h := h.2
          have hP : va_P D vwCl (jx_ws cI cT [(cp_M aM, (jx_su sM 0 (159 + (sM 0 0)) (-1)))]) H := hP
          have hD : va_D A (jx_ws cI cT [(cp_M aM, (jx_su sM 0 (159 + (sM 0 0)) (-1)))]) := hD
          refine lv_aload_n hx hb dX8_takesBox_267 rfl (lv_at hl 1 rfl) ?_
          refine jx_getR C hK hP 0 0 0 rfl rfl rfl fl_X8_7 dX8_takesBox_268 ?_
          refine jx_iconst C dX8_takesBox_271 ?_
          refine lv_iload hx hb dX8_takesBox_272 (lv_at hl 0 rfl) ?_
          refine jx_iast C hK hP hD hS 0 1 rfl rfl rfl rfl (show jx_B _ _ from ⟨by decide, by decide⟩) rfl dX8_takesBox_274 (fun H locs hP hD hS => ?_)
          have hP : va_P D vwCl (jx_ws cI cT [(cp_M aM, (jx_su (jx_su sM 0 (159 + (sM 0 0)) (-1)) 0 0 r246))]) H := hP
          have hD : va_D A (jx_ws cI cT [(cp_M aM, (jx_su (jx_su sM 0 (159 + (sM 0 0)) (-1)) 0 0 r246))]) := hD
          refine lv_goto (tgt := 211) hx hb dX8_takesBox_275 (by decide) ?_
          exact ih (jx_su (jx_su sM 0 (159 + (sM 0 0)) (-1)) 0 0 r246) h _ _ hP hD hS ls (lv_sub hl [1] rfl)
  have J172 : ∀ (sM : jx_St) (l4 : Int), wp_M_takesBox_172 Q l1 sM l4 → ∀ (H : Heap) (locs : List Loc), va_P D vwCl (jx_ws cI cT [(cp_M aM, sM)]) H → va_D A (jx_ws cI cT [(cp_M aM, sM)]) → va_S A s.heap H locs → ∀ ls : Array Slot, lv_has ls 7 [(0, .ref (aM 0)), (4, .int (jx_i l4))] → W p l e (jx_rm 6 151) s m args below meth c H locs 0 0 QQ (F0 m 172 ls []) := by
    intro sM l4 h H locs hP hD hS ls hl
    unfold wp_M_takesBox_172 at h
    refine lv_iload hx hb dX8_takesBox_172 (lv_at hl 1 rfl) ?_
    refine lv_istore (lv' := [(5, .int (jx_i l4)), (0, .ref (aM 0)), (4, .int (jx_i l4))]) hx hb dX8_takesBox_174 hl (by decide) rfl (fun ls hl => ?_)
    obtain ⟨n, h⟩ := h
    refine Lo176 _ n sM l4 h ?_ _ _ hP hD hS ls (lv_sub hl [1, 0] rfl)
    · intro sM h H locs hP hD hS ls hl
      obtain ⟨n, h⟩ := h
      refine Lo211 n sM h _ _ hP hD hS ls (lv_sub hl [0] rfl)
  refine lv_aload_n hx hb dX8_takesBox_0 rfl (lv_at hl 0 rfl) ?_
  refine jx_iconst C dX8_takesBox_1 ?_
  refine jx_putI C hK hP hD hS 0 0 17 rfl rfl rfl rfl rfl fl_X8_135 fw_X8_17 ⟨rfl, rfl⟩ rfl dX8_takesBox_2 (fun H locs hP hD hS => ?_)
  have hP : va_P D vwCl (jx_ws cI cT [(cp_M aM, (jx_su sM 17 0 0))]) H := hP
  have hD : va_D A (jx_ws cI cT [(cp_M aM, (jx_su sM 17 0 0))]) := hD
  refine lv_aload_n hx hb dX8_takesBox_5 rfl (lv_at hl 0 rfl) ?_
  refine lv_iload_n hx hb dX8_takesBox_6 rfl (lv_at hl 1 rfl) ?_
  refine jx_iconst C dX8_takesBox_7 ?_
  refine jx_callVI C hK hP hD hS hA (ct_M_holder l D cI cT aM _ (jx_su sM 17 0 0) l1 0 h) ms_X8_holder lk_X8_174 [0] rfl rfl (fun _ => rfl) (cs' := (fun _ => [(cp_M aM, (jx_su sM 17 0 0))])) (fun _ => rfl) (fun _ => rfl) 0 0 rfl rfl rfl rfl rfl hl.1 rfl rfl dX8_takesBox_8 ⟨Nat.le_refl _, Nat.le_refl _⟩ (fun r8 _ H locs h hP hD hS => ?_)
  have hP : va_P D vwCl (jx_ws cI cT [(cp_M aM, (jx_su sM 17 0 0))]) H := hP
  have hD : va_D A (jx_ws cI cT [(cp_M aM, (jx_su sM 17 0 0))]) := hD
  refine lv_istore_n (lv' := [(2, .int (jx_i r8)), (0, .ref (aM 0)), (1, .int (jx_i l1))]) hx hb dX8_takesBox_11 rfl hl (by decide) rfl (fun ls hl => ?_)
  refine lv_aload_n hx hb dX8_takesBox_12 rfl (lv_at hl 1 rfl) ?_
  refine lv_iload_n hx hb dX8_takesBox_13 rfl (lv_at hl 0 rfl) ?_
  refine lv_aload_n hx hb dX8_takesBox_14 rfl (lv_at hl 1 rfl) ?_
  refine lv_iload_n hx hb dX8_takesBox_15 rfl (lv_at hl 0 rfl) ?_
  refine lv_iload_n hx hb dX8_takesBox_16 rfl (lv_at hl 2 rfl) ?_
  refine jx_callVI C hK hP hD hS hA (ct_M_placeIn l D cI cT aM _ (jx_su sM 17 0 0) r8 l1 h) ms_X8_placeIn lk_X8_106 [0] rfl rfl (fun _ => rfl) (cs' := (fun _ => [(cp_M aM, (jx_su sM 17 0 0))])) (fun _ => rfl) (fun _ => rfl) 0 0 rfl rfl rfl rfl rfl hl.1 rfl rfl dX8_takesBox_17 ⟨Nat.le_refl _, Nat.le_refl _⟩ (fun r17 _ H locs h hP hD hS => ?_)
  have hP : va_P D vwCl (jx_ws cI cT [(cp_M aM, (jx_su sM 17 0 0))]) H := hP
  have hD : va_D A (jx_ws cI cT [(cp_M aM, (jx_su sM 17 0 0))]) := hD
  refine jx_callVV C hK hP hD hS hA (ct_M_drops l D cI cT aM _ (jx_su sM 17 0 0) r8 r17 h) ms_X8_drops lk_X8_138 [0] rfl rfl (fun _ => rfl) (cs' := (fun u => [(cp_M aM, u)])) (fun _ => rfl) (fun _ => rfl) 0 0 rfl rfl rfl rfl rfl hl.1 rfl rfl dX8_takesBox_20 ⟨Nat.le_refl _, Nat.le_refl _⟩ (fun sM_20 H locs h hP hD hS => ?_)
  have hP : va_P D vwCl (jx_ws cI cT [(cp_M aM, sM_20)]) H := hP
  have hD : va_D A (jx_ws cI cT [(cp_M aM, sM_20)]) := hD
  refine lv_aload_n hx hb dX8_takesBox_23 rfl (lv_at hl 1 rfl) ?_
  refine jx_getR C hK hP 0 0 0 rfl rfl rfl fl_X8_7 dX8_takesBox_24 ?_
  refine jx_iconst C dX8_takesBox_27 ?_
  refine lv_iload_n hx hb dX8_takesBox_28 rfl (lv_at hl 2 rfl) ?_
  refine jx_iadd C dX8_takesBox_29 ?_
  refine jx_iconst C dX8_takesBox_30 ?_
  refine jx_iast C hK hP hD hS 0 1 rfl rfl rfl rfl h.1 rfl dX8_takesBox_31 (fun H locs hP hD hS => ?_)
  have h := h.2
  have hP : va_P D vwCl (jx_ws cI cT [(cp_M aM, (jx_su sM_20 0 (4 + l1) 0))]) H := hP
  have hD : va_D A (jx_ws cI cT [(cp_M aM, (jx_su sM_20 0 (4 + l1) 0))]) := hD
  refine lv_aload_n hx hb dX8_takesBox_32 rfl (lv_at hl 1 rfl) ?_
  refine jx_getR C hK hP 0 0 0 rfl rfl rfl fl_X8_7 dX8_takesBox_33 ?_
  refine jx_iconst C dX8_takesBox_36 ?_
  refine jx_iald C hK hP 0 1 rfl rfl rfl (show jx_B _ _ from ⟨by decide, by decide⟩) dX8_takesBox_37 ?_
  refine lv_istore_n (lv' := [(3, .int (jx_i ((jx_su sM_20 0 (4 + l1) 0) 0 0))), (2, .int (jx_i r8)), (0, .ref (aM 0)), (1, .int (jx_i l1))]) hx hb dX8_takesBox_38 rfl hl (by decide) rfl (fun ls hl => ?_)
  refine lv_aload_n hx hb dX8_takesBox_39 rfl (lv_at hl 2 rfl) ?_
  refine lv_iload_n hx hb dX8_takesBox_40 rfl (lv_at hl 0 rfl) ?_
  refine jx_callVI C hK hP hD hS hA (ct_M_levelOf l D cI cT aM _ (jx_su sM_20 0 (4 + l1) 0) ((jx_su sM_20 0 (4 + l1) 0) 0 0) h) ms_X8_levelOf lk_X8_81 [0] rfl rfl (fun _ => rfl) (cs' := (fun _ => [(cp_M aM, (jx_su sM_20 0 (4 + l1) 0))])) (fun _ => rfl) (fun _ => rfl) 0 0 rfl rfl rfl rfl rfl hl.1 rfl rfl dX8_takesBox_41 ⟨Nat.le_refl _, Nat.le_refl _⟩ (fun r41 _ H locs h hP hD hS => ?_)
  have hP : va_P D vwCl (jx_ws cI cT [(cp_M aM, (jx_su sM_20 0 (4 + l1) 0))]) H := hP
  have hD : va_D A (jx_ws cI cT [(cp_M aM, (jx_su sM_20 0 (4 + l1) 0))]) := hD
  refine lv_istore (lv' := [(4, .int (jx_i r41)), (3, .int (jx_i ((jx_su sM_20 0 (4 + l1) 0) 0 0))), (2, .int (jx_i r8)), (0, .ref (aM 0)), (1, .int (jx_i l1))]) hx hb dX8_takesBox_44 hl (by decide) rfl (fun ls hl => ?_)
  refine jx_iconst C dX8_takesBox_46 ?_
  refine lv_istore (lv' := [(5, .int (jx_i 0)), (4, .int (jx_i r41)), (3, .int (jx_i ((jx_su sM_20 0 (4 + l1) 0) 0 0))), (2, .int (jx_i r8)), (0, .ref (aM 0)), (1, .int (jx_i l1))]) hx hb dX8_takesBox_47 hl (by decide) rfl (fun ls hl => ?_)
  obtain ⟨n, h⟩ := h
  refine Lo49 r8 ((jx_su sM_20 0 (4 + l1) 0) 0 0) r41 _ n (jx_su sM_20 0 (4 + l1) 0) 0 h ?_ _ _ hP hD hS ls (lv_sub hl [4, 3, 2, 1, 0] rfl)
  · intro sM h H locs hP hD hS ls hl
    obtain ⟨n, h⟩ := h
    refine Lo70 ((jx_su sM_20 0 (4 + l1) 0) 0 0) r41 _ n sM r8 h ?_ _ _ hP hD hS ls (lv_sub hl [0, 1, 2, 3] rfl)
    · intro sM h H locs hP hD hS ls hl
      exact J172 sM r41 h _ _ hP hD hS ls (lv_sub hl [0, 1] rfl)
set_option maxRecDepth 100000 in
set_option maxHeartbeats 4000000 in
theorem ct_M_putsBox (l : Launch) (D : va_G) (cI cT : ClassId) (aM : Nat → Nat) (Q : jx_St → Prop) (sM : jx_St) (l1 : Int) (l2 : Int) (l3 : Int) (l4 : Int) (l5 : Int) (h : wp_M_putsBox Q sM l1 l2 l3 l4 l5) : jx_KV jx_St l D cI cT yX8_putsBox cX8_putsBox 6 6 151 [.ref (aM 0), .int (jx_i l1), .int (jx_i l2), .int (jx_i l3), .int (jx_i l4), .int (jx_i l5)] [(cp_M aM, sM)] (fun u => [(cp_M aM, u)]) Q := by
  refine jx_ent (own := RX8) (by decide) rfl (Nat.le_of_ble_eq_true rfl) ?_
  intro p e s m args below meth c A QQ C hr hlk hK hAe hA hP hD hS ls hl hQQ
  have hl : lv_has ls 6 [(0, .ref (aM 0)), (1, .int (jx_i l1)), (2, .int (jx_i l2)), (3, .int (jx_i l3)), (4, .int (jx_i l4)), (5, .int (jx_i l5))] := hl
  have hx := C.1
  have hb := C.2.1
  unfold wp_M_putsBox at h
  refine lv_aload_n hx hb dX8_putsBox_0 rfl (lv_at hl 0 rfl) ?_
  refine jx_getR C hK hP 0 0 0 rfl rfl rfl fl_X8_7 dX8_putsBox_1 ?_
  refine jx_iconst C dX8_putsBox_4 ?_
  refine lv_iload_n hx hb dX8_putsBox_5 rfl (lv_at hl 1 rfl) ?_
  refine jx_iadd C dX8_putsBox_6 ?_
  refine jx_iconst C dX8_putsBox_7 ?_
  refine jx_iast C hK hP hD hS 0 1 rfl rfl rfl rfl h.1 rfl dX8_putsBox_8 (fun H locs hP hD hS => ?_)
  have h := h.2
  have hP : va_P D vwCl (jx_ws cI cT [(cp_M aM, (jx_su sM 0 (4 + l1) 1))]) H := hP
  have hD : va_D A (jx_ws cI cT [(cp_M aM, (jx_su sM 0 (4 + l1) 1))]) := hD
  refine lv_aload_n hx hb dX8_putsBox_9 rfl (lv_at hl 0 rfl) ?_
  refine jx_getR C hK hP 0 0 0 rfl rfl rfl fl_X8_7 dX8_putsBox_10 ?_
  refine jx_bipush C dX8_putsBox_13 (by decide) ?_
  refine jx_iconst C dX8_putsBox_15 ?_
  refine lv_iload_n hx hb dX8_putsBox_16 rfl (lv_at hl 1 rfl) ?_
  refine jx_imul C dX8_putsBox_17 ?_
  refine jx_iadd C dX8_putsBox_18 ?_
  refine lv_iload_n hx hb dX8_putsBox_19 rfl (lv_at hl 2 rfl) ?_
  refine jx_iast C hK hP hD hS 0 1 rfl rfl rfl rfl h.1 rfl dX8_putsBox_20 (fun H locs hP hD hS => ?_)
  have h := h.2
  have hP : va_P D vwCl (jx_ws cI cT [(cp_M aM, (jx_su (jx_su sM 0 (4 + l1) 1) 0 (35 + (4 * l1)) l2))]) H := hP
  have hD : va_D A (jx_ws cI cT [(cp_M aM, (jx_su (jx_su sM 0 (4 + l1) 1) 0 (35 + (4 * l1)) l2))]) := hD
  refine lv_aload_n hx hb dX8_putsBox_21 rfl (lv_at hl 0 rfl) ?_
  refine jx_getR C hK hP 0 0 0 rfl rfl rfl fl_X8_7 dX8_putsBox_22 ?_
  refine jx_bipush C dX8_putsBox_25 (by decide) ?_
  refine jx_iconst C dX8_putsBox_27 ?_
  refine lv_iload_n hx hb dX8_putsBox_28 rfl (lv_at hl 1 rfl) ?_
  refine jx_imul C dX8_putsBox_29 ?_
  refine jx_iadd C dX8_putsBox_30 ?_
  refine jx_iconst C dX8_putsBox_31 ?_
  refine jx_iadd C dX8_putsBox_32 ?_
  refine lv_iload_n hx hb dX8_putsBox_33 rfl (lv_at hl 3 rfl) ?_
  refine jx_iast C hK hP hD hS 0 1 rfl rfl rfl rfl h.1 rfl dX8_putsBox_34 (fun H locs hP hD hS => ?_)
  have h := h.2
  have hP : va_P D vwCl (jx_ws cI cT [(cp_M aM, (jx_su (jx_su (jx_su sM 0 (4 + l1) 1) 0 (35 + (4 * l1)) l2) 0 ((35 + (4 * l1)) + 1) l3))]) H := hP
  have hD : va_D A (jx_ws cI cT [(cp_M aM, (jx_su (jx_su (jx_su sM 0 (4 + l1) 1) 0 (35 + (4 * l1)) l2) 0 ((35 + (4 * l1)) + 1) l3))]) := hD
  refine lv_aload_n hx hb dX8_putsBox_35 rfl (lv_at hl 0 rfl) ?_
  refine jx_getR C hK hP 0 0 0 rfl rfl rfl fl_X8_7 dX8_putsBox_36 ?_
  refine jx_bipush C dX8_putsBox_39 (by decide) ?_
  refine jx_iconst C dX8_putsBox_41 ?_
  refine lv_iload_n hx hb dX8_putsBox_42 rfl (lv_at hl 1 rfl) ?_
  refine jx_imul C dX8_putsBox_43 ?_
  refine jx_iadd C dX8_putsBox_44 ?_
  refine jx_iconst C dX8_putsBox_45 ?_
  refine jx_iadd C dX8_putsBox_46 ?_
  refine lv_iload hx hb dX8_putsBox_47 (lv_at hl 4 rfl) ?_
  refine jx_iast C hK hP hD hS 0 1 rfl rfl rfl rfl h.1 rfl dX8_putsBox_49 (fun H locs hP hD hS => ?_)
  have h := h.2
  have hP : va_P D vwCl (jx_ws cI cT [(cp_M aM, (jx_su (jx_su (jx_su (jx_su sM 0 (4 + l1) 1) 0 (35 + (4 * l1)) l2) 0 ((35 + (4 * l1)) + 1) l3) 0 ((35 + (4 * l1)) + 2) l4))]) H := hP
  have hD : va_D A (jx_ws cI cT [(cp_M aM, (jx_su (jx_su (jx_su (jx_su sM 0 (4 + l1) 1) 0 (35 + (4 * l1)) l2) 0 ((35 + (4 * l1)) + 1) l3) 0 ((35 + (4 * l1)) + 2) l4))]) := hD
  refine lv_aload_n hx hb dX8_putsBox_50 rfl (lv_at hl 0 rfl) ?_
  refine jx_getR C hK hP 0 0 0 rfl rfl rfl fl_X8_7 dX8_putsBox_51 ?_
  refine jx_bipush C dX8_putsBox_54 (by decide) ?_
  refine jx_iconst C dX8_putsBox_56 ?_
  refine lv_iload_n hx hb dX8_putsBox_57 rfl (lv_at hl 1 rfl) ?_
  refine jx_imul C dX8_putsBox_58 ?_
  refine jx_iadd C dX8_putsBox_59 ?_
  refine jx_iconst C dX8_putsBox_60 ?_
  refine jx_iadd C dX8_putsBox_61 ?_
  refine lv_iload hx hb dX8_putsBox_62 (lv_at hl 5 rfl) ?_
  refine jx_iast C hK hP hD hS 0 1 rfl rfl rfl rfl h.1 rfl dX8_putsBox_64 (fun H locs hP hD hS => ?_)
  have h := h.2
  have hP : va_P D vwCl (jx_ws cI cT [(cp_M aM, (jx_su (jx_su (jx_su (jx_su (jx_su sM 0 (4 + l1) 1) 0 (35 + (4 * l1)) l2) 0 ((35 + (4 * l1)) + 1) l3) 0 ((35 + (4 * l1)) + 2) l4) 0 ((35 + (4 * l1)) + 3) l5))]) H := hP
  have hD : va_D A (jx_ws cI cT [(cp_M aM, (jx_su (jx_su (jx_su (jx_su (jx_su sM 0 (4 + l1) 1) 0 (35 + (4 * l1)) l2) 0 ((35 + (4 * l1)) + 1) l3) 0 ((35 + (4 * l1)) + 2) l4) 0 ((35 + (4 * l1)) + 3) l5))]) := hD
  refine lv_aload_n hx hb dX8_putsBox_65 rfl (lv_at hl 0 rfl) ?_
  refine jx_iconst C dX8_putsBox_66 ?_
  refine jx_putI C hK hP hD hS 0 0 17 rfl rfl rfl rfl rfl fl_X8_135 fw_X8_17 ⟨rfl, rfl⟩ rfl dX8_putsBox_67 (fun H locs hP hD hS => ?_)
  have hP : va_P D vwCl (jx_ws cI cT [(cp_M aM, (jx_su (jx_su (jx_su (jx_su (jx_su (jx_su sM 0 (4 + l1) 1) 0 (35 + (4 * l1)) l2) 0 ((35 + (4 * l1)) + 1) l3) 0 ((35 + (4 * l1)) + 2) l4) 0 ((35 + (4 * l1)) + 3) l5) 17 0 0))]) H := hP
  have hD : va_D A (jx_ws cI cT [(cp_M aM, (jx_su (jx_su (jx_su (jx_su (jx_su (jx_su sM 0 (4 + l1) 1) 0 (35 + (4 * l1)) l2) 0 ((35 + (4 * l1)) + 1) l3) 0 ((35 + (4 * l1)) + 2) l4) 0 ((35 + (4 * l1)) + 3) l5) 17 0 0))]) := hD
  refine lv_aload_n hx hb dX8_putsBox_70 rfl (lv_at hl 0 rfl) ?_
  refine lv_iload_n hx hb dX8_putsBox_71 rfl (lv_at hl 1 rfl) ?_
  refine jx_iconst C dX8_putsBox_72 ?_
  refine jx_callVV C hK hP hD hS hA (ct_M_insertion l D cI cT aM _ (jx_su (jx_su (jx_su (jx_su (jx_su (jx_su sM 0 (4 + l1) 1) 0 (35 + (4 * l1)) l2) 0 ((35 + (4 * l1)) + 1) l3) 0 ((35 + (4 * l1)) + 2) l4) 0 ((35 + (4 * l1)) + 3) l5) 17 0 0) l1 0 h) ms_X8_insertion lk_X8_171 [0] rfl rfl (fun _ => rfl) (cs' := (fun u => [(cp_M aM, u)])) (fun _ => rfl) (fun _ => rfl) 0 0 rfl rfl rfl rfl rfl hl.1 rfl rfl dX8_putsBox_73 ⟨Nat.le_refl _, Nat.le_refl _⟩ (fun sM_73 H locs h hP hD hS => ?_)
  have hP : va_P D vwCl (jx_ws cI cT [(cp_M aM, sM_73)]) H := hP
  have hD : va_D A (jx_ws cI cT [(cp_M aM, sM_73)]) := hD
  exact jx_rV C hr hlk hAe hS hQQ sM_73 hP h dX8_putsBox_76
set_option maxRecDepth 100000 in
set_option maxHeartbeats 4000000 in
theorem ct_M_wrong (l : Launch) (D : va_G) (cI cT : ClassId) (aM : Nat → Nat) (Q : jx_St → Prop) (sM : jx_St) (l1 : Int) (l2 : Int) (h : wp_M_wrong Q sM l1 l2) : jx_KV jx_St l D cI cT yX8_wrong cX8_wrong 3 0 0 [.ref (aM 0), .int (jx_i l1), .int (jx_i l2)] [(cp_M aM, sM)] (fun u => [(cp_M aM, u)]) Q := by
  refine jx_ent (own := RX8) (by decide) rfl (Nat.le_of_ble_eq_true rfl) ?_
  intro p e s m args below meth c A QQ C hr hlk hK hAe hA hP hD hS ls hl hQQ
  have hl : lv_has ls 3 [(0, .ref (aM 0)), (1, .int (jx_i l1)), (2, .int (jx_i l2))] := hl
  have hx := C.1
  have hb := C.2.1
  unfold wp_M_wrong at h
  refine lv_aload_n hx hb dX8_wrong_0 rfl (lv_at hl 0 rfl) ?_
  refine jx_getI C hK hP 0 0 30 rfl rfl rfl fl_X8_258 dX8_wrong_1 ?_
  refine jx_zne C h.1 (tgt := 17) dX8_wrong_4 (by decide) (fun hc => ?_) (fun hc => ?_)
  · have h := h.2.2 hc
    exact jx_rV C hr hlk hAe hS hQQ sM hP h dX8_wrong_17
  · have h := h.2.1 hc
    refine lv_aload_n hx hb dX8_wrong_7 rfl (lv_at hl 0 rfl) ?_
    refine lv_iload_n hx hb dX8_wrong_8 rfl (lv_at hl 1 rfl) ?_
    refine jx_putI C hK hP hD hS 0 0 30 rfl rfl rfl rfl rfl fl_X8_258 fw_X8_30 ⟨rfl, rfl⟩ rfl dX8_wrong_9 (fun H locs hP hD hS => ?_)
    have hP : va_P D vwCl (jx_ws cI cT [(cp_M aM, (jx_su sM 30 0 l1))]) H := hP
    have hD : va_D A (jx_ws cI cT [(cp_M aM, (jx_su sM 30 0 l1))]) := hD
    refine lv_aload_n hx hb dX8_wrong_12 rfl (lv_at hl 0 rfl) ?_
    refine lv_iload_n hx hb dX8_wrong_13 rfl (lv_at hl 2 rfl) ?_
    refine jx_putI C hK hP hD hS 0 0 31 rfl rfl rfl rfl rfl fl_X8_261 fw_X8_31 ⟨rfl, rfl⟩ rfl dX8_wrong_14 (fun H locs hP hD hS => ?_)
    have hP : va_P D vwCl (jx_ws cI cT [(cp_M aM, (jx_su (jx_su sM 30 0 l1) 31 0 l2))]) H := hP
    have hD : va_D A (jx_ws cI cT [(cp_M aM, (jx_su (jx_su sM 30 0 l1) 31 0 l2))]) := hD
    exact jx_rV C hr hlk hAe hS hQQ (jx_su (jx_su sM 30 0 l1) 31 0 l2) hP h dX8_wrong_17
set_option maxRecDepth 100000 in
set_option maxHeartbeats 4000000 in
theorem ct_M_order (l : Launch) (D : va_G) (cI cT : ClassId) (aM : Nat → Nat) (Q : jx_St → Prop) (sM : jx_St) (h : wp_M_order Q sM) : jx_KV jx_St l D cI cT yX8_order cX8_order 4 7 177 [.ref (aM 0)] [(cp_M aM, sM)] (fun u => [(cp_M aM, u)]) Q := by
  refine jx_ent (own := RX8) (by decide) rfl (Nat.le_of_ble_eq_true rfl) ?_
  intro p e s m args below meth c A QQ C hr hlk hK hAe hA hP hD hS ls hl hQQ
  have hl : lv_has ls 4 [(0, .ref (aM 0))] := hl
  have hx := C.1
  have hb := C.2.1
  unfold wp_M_order at h
  have Lo102 : ∀ (l2 : Int) (K140 : jx_St → Prop) (n : Nat) (sM : jx_St) (l3 : Int), jx_it (fun B102 v => wp_M_order_102 Q K140 l2 B102 v.1 v.2) n (sM, l3) → (∀ (sM : jx_St), K140 sM → ∀ (H : Heap) (locs : List Loc), va_P D vwCl (jx_ws cI cT [(cp_M aM, sM)]) H → va_D A (jx_ws cI cT [(cp_M aM, sM)]) → va_S A s.heap H locs → ∀ ls : Array Slot, lv_has ls 4 [(0, .ref (aM 0)), (2, .int (jx_i l2))] → W p l e (jx_rm 7 177) s m args below meth c H locs 0 0 QQ (F0 m 140 ls [])) → ∀ (H : Heap) (locs : List Loc), va_P D vwCl (jx_ws cI cT [(cp_M aM, sM)]) H → va_D A (jx_ws cI cT [(cp_M aM, sM)]) → va_S A s.heap H locs → ∀ ls : Array Slot, lv_has ls 4 [(0, .ref (aM 0)), (2, .int (jx_i l2)), (3, .int (jx_i l3))] → W p l e (jx_rm 7 177) s m args below meth c H locs 0 0 QQ (F0 m 102 ls []) := by
    intro l2 K140 n
    induction n with
    | zero =>
      intro sM l3 h
      exact (show False from h).elim
    | succ n ih =>
      intro sM l3 h K140E H locs hP hD hS ls hl
      have h : wp_M_order_102 Q K140 l2 (jx_it (fun B102 v => wp_M_order_102 Q K140 l2 B102 v.1 v.2) n) sM l3 := h
      have ih := fun sM l3 h => ih sM l3 h K140E
      generalize jx_it (fun B102 v => wp_M_order_102 Q K140 l2 B102 v.1 v.2) n = B102 at h ih
      unfold wp_M_order_102 at h
      have J134 : ∀ (sM : jx_St) (l3 : Int), wp_M_order_134 Q B102 K140 sM l2 l3 → ∀ (H : Heap) (locs : List Loc), va_P D vwCl (jx_ws cI cT [(cp_M aM, sM)]) H → va_D A (jx_ws cI cT [(cp_M aM, sM)]) → va_S A s.heap H locs → ∀ ls : Array Slot, lv_has ls 4 [(0, .ref (aM 0)), (2, .int (jx_i l2)), (3, .int (jx_i l3))] → W p l e (jx_rm 7 177) s m args below meth c H locs 0 0 QQ (F0 m 134 ls []) := by
        intro sM l3 h H locs hP hD hS ls hl
        unfold wp_M_order_134 at h
        refine jx_iinc C (lv' := [(3, .int (jx_i (l3 + 1))), (0, .ref (aM 0)), (2, .int (jx_i l2))]) dX8_order_134 hl (k := 2) rfl (by decide) rfl (fun ls hl => ?_)
        refine lv_goto (tgt := 102) hx hb dX8_order_137 (by decide) ?_
        exact ih sM (l3 + 1) h _ _ hP hD hS ls (lv_sub hl [1, 2, 0] rfl)
      refine lv_iload_n hx hb dX8_order_102 rfl (lv_at hl 2 rfl) ?_
      refine jx_iconst C dX8_order_103 ?_
      refine jx_cge C h.1 (jx_inR (by decide) (by decide)) (tgt := 140) dX8_order_104 (by decide) (fun hc => ?_) (fun hc => ?_)
      · have h := h.2.2 hc
        exact K140E sM h _ _ hP hD hS ls (lv_sub hl [0, 1] rfl)
      · have h := h.2.1 hc
        refine lv_iload_n hx hb dX8_order_107 rfl (lv_at hl 1 rfl) ?_
        refine jx_zeq C h.1 (tgt := 140) dX8_order_108 (by decide) (fun hc => ?_) (fun hc => ?_)
        · have h := h.2.1 hc
          exact K140E sM h _ _ hP hD hS ls (lv_sub hl [0, 1] rfl)
        · have h := h.2.2 hc
          refine lv_aload_n hx hb dX8_order_111 rfl (lv_at hl 0 rfl) ?_
          refine jx_getR C hK hP 0 0 29 rfl rfl rfl fl_X8_70 dX8_order_112 ?_
          refine lv_iload_n hx hb dX8_order_115 rfl (lv_at hl 2 rfl) ?_
          refine jx_iald C hK hP 0 21 rfl rfl rfl h.1 dX8_order_116 ?_
          have h := h.2
          refine lv_aload_n hx hb dX8_order_117 rfl (lv_at hl 0 rfl) ?_
          refine jx_getR C hK hP 0 0 29 rfl rfl rfl fl_X8_70 dX8_order_118 ?_
          refine lv_iload_n hx hb dX8_order_121 rfl (lv_at hl 2 rfl) ?_
          refine jx_iconst C dX8_order_122 ?_
          refine jx_iadd C dX8_order_123 ?_
          refine jx_iald C hK hP 0 21 rfl rfl rfl h.1 dX8_order_124 ?_
          have h := h.2
          refine jx_cle C h.1 h.2.1 (tgt := 134) dX8_order_125 (by decide) (fun hc => ?_) (fun hc => ?_)
          · have h := h.2.2.1 hc
            exact J134 sM l3 h _ _ hP hD hS ls (lv_sub hl [0, 1, 2] rfl)
          · have h := h.2.2.2 hc
            refine lv_aload_n hx hb dX8_order_128 rfl (lv_at hl 0 rfl) ?_
            refine jx_iconst C dX8_order_129 ?_
            refine lv_iload_n hx hb dX8_order_130 rfl (lv_at hl 2 rfl) ?_
            refine jx_callVV C hK hP hD hS hA (ct_M_wrong l D cI cT aM _ sM 2 l3 h) ms_X8_wrong lk_X8_267 [0] rfl rfl (fun _ => rfl) (cs' := (fun u => [(cp_M aM, u)])) (fun _ => rfl) (fun _ => rfl) 0 0 rfl rfl rfl rfl rfl hl.1 rfl rfl dX8_order_131 ⟨Nat.le_refl _, Nat.le_refl _⟩ (fun sM_131 H locs h hP hD hS => ?_)
            have hP : va_P D vwCl (jx_ws cI cT [(cp_M aM, sM_131)]) H := hP
            have hD : va_D A (jx_ws cI cT [(cp_M aM, sM_131)]) := hD
            exact J134 sM_131 l3 h _ _ hP hD hS ls (lv_sub hl [0, 1, 2] rfl)
  have J216 : ∀ (sM : jx_St), wp_M_order_216 Q sM → ∀ (H : Heap) (locs : List Loc), va_P D vwCl (jx_ws cI cT [(cp_M aM, sM)]) H → va_D A (jx_ws cI cT [(cp_M aM, sM)]) → va_S A s.heap H locs → ∀ ls : Array Slot, lv_has ls 4 [(0, .ref (aM 0))] → W p l e (jx_rm 7 177) s m args below meth c H locs 0 0 QQ (F0 m 216 ls []) := by
    intro sM h H locs hP hD hS ls hl
    unfold wp_M_order_216 at h
    refine lv_aload_n hx hb dX8_order_216 rfl (lv_at hl 0 rfl) ?_
    refine jx_getI C hK hP 0 0 30 rfl rfl rfl fl_X8_258 dX8_order_217 ?_
    refine jx_zne C h.1 (tgt := 233) dX8_order_220 (by decide) (fun hc => ?_) (fun hc => ?_)
    · have h := h.2.2 hc
      exact jx_rV C hr hlk hAe hS hQQ sM hP h dX8_order_233
    · have h := h.2.1 hc
      refine lv_aload_n hx hb dX8_order_223 rfl (lv_at hl 0 rfl) ?_
      refine lv_aload_n hx hb dX8_order_224 rfl (lv_at hl 0 rfl) ?_
      refine jx_getR C hK hP 0 0 29 rfl rfl rfl fl_X8_70 dX8_order_225 ?_
      refine jx_iconst C dX8_order_228 ?_
      refine jx_iald C hK hP 0 21 rfl rfl rfl (show jx_B _ _ from ⟨by decide, by decide⟩) dX8_order_229 ?_
      refine jx_callVV C hK hP hD hS hA (ct_M_takesBox l D cI cT aM _ sM (sM 29 0) h) ms_X8_takesBox lk_X8_212 [0] rfl rfl (fun _ => rfl) (cs' := (fun u => [(cp_M aM, u)])) (fun _ => rfl) (fun _ => rfl) 0 0 rfl rfl rfl rfl rfl hl.1 rfl rfl dX8_order_230 ⟨Nat.le_refl _, Nat.le_refl _⟩ (fun sM_230 H locs h hP hD hS => ?_)
      have hP : va_P D vwCl (jx_ws cI cT [(cp_M aM, sM_230)]) H := hP
      have hD : va_D A (jx_ws cI cT [(cp_M aM, sM_230)]) := hD
      exact jx_rV C hr hlk hAe hS hQQ sM_230 hP h dX8_order_233
  have J168 : ∀ (sM : jx_St) (l2 : Int), wp_M_order_168 Q sM l2 → ∀ (H : Heap) (locs : List Loc), va_P D vwCl (jx_ws cI cT [(cp_M aM, sM)]) H → va_D A (jx_ws cI cT [(cp_M aM, sM)]) → va_S A s.heap H locs → ∀ ls : Array Slot, lv_has ls 4 [(0, .ref (aM 0)), (2, .int (jx_i l2))] → W p l e (jx_rm 7 177) s m args below meth c H locs 0 0 QQ (F0 m 168 ls []) := by
    intro sM l2 h H locs hP hD hS ls hl
    unfold wp_M_order_168 at h
    refine lv_aload_n hx hb dX8_order_168 rfl (lv_at hl 0 rfl) ?_
    refine jx_getI C hK hP 0 0 30 rfl rfl rfl fl_X8_258 dX8_order_169 ?_
    refine jx_zne C h.1 (tgt := 216) dX8_order_172 (by decide) (fun hc => ?_) (fun hc => ?_)
    · have h := h.2.2 hc
      exact J216 sM h _ _ hP hD hS ls (lv_sub hl [0] rfl)
    · have h := h.2.1 hc
      refine lv_iload_n hx hb dX8_order_175 rfl (lv_at hl 1 rfl) ?_
      refine jx_zeq C h.1 (tgt := 216) dX8_order_176 (by decide) (fun hc => ?_) (fun hc => ?_)
      · have h := h.2.1 hc
        exact J216 sM h _ _ hP hD hS ls (lv_sub hl [0] rfl)
      · have h := h.2.2 hc
        refine lv_aload_n hx hb dX8_order_179 rfl (lv_at hl 0 rfl) ?_
        refine lv_aload_n hx hb dX8_order_180 rfl (lv_at hl 0 rfl) ?_
        refine jx_getR C hK hP 0 0 29 rfl rfl rfl fl_X8_70 dX8_order_181 ?_
        refine jx_iconst C dX8_order_184 ?_
        refine jx_iald C hK hP 0 21 rfl rfl rfl (show jx_B _ _ from ⟨by decide, by decide⟩) dX8_order_185 ?_
        refine lv_aload_n hx hb dX8_order_186 rfl (lv_at hl 0 rfl) ?_
        refine jx_getR C hK hP 0 0 29 rfl rfl rfl fl_X8_70 dX8_order_187 ?_
        refine jx_iconst C dX8_order_190 ?_
        refine jx_iald C hK hP 0 21 rfl rfl rfl (show jx_B _ _ from ⟨by decide, by decide⟩) dX8_order_191 ?_
        refine lv_aload_n hx hb dX8_order_192 rfl (lv_at hl 0 rfl) ?_
        refine jx_getR C hK hP 0 0 29 rfl rfl rfl fl_X8_70 dX8_order_193 ?_
        refine jx_iconst C dX8_order_196 ?_
        refine jx_iald C hK hP 0 21 rfl rfl rfl (show jx_B _ _ from ⟨by decide, by decide⟩) dX8_order_197 ?_
        refine lv_aload_n hx hb dX8_order_198 rfl (lv_at hl 0 rfl) ?_
        refine jx_getR C hK hP 0 0 29 rfl rfl rfl fl_X8_70 dX8_order_199 ?_
        refine jx_iconst C dX8_order_202 ?_
        refine jx_iald C hK hP 0 21 rfl rfl rfl (show jx_B _ _ from ⟨by decide, by decide⟩) dX8_order_203 ?_
        refine lv_aload_n hx hb dX8_order_204 rfl (lv_at hl 0 rfl) ?_
        refine jx_getR C hK hP 0 0 29 rfl rfl rfl fl_X8_70 dX8_order_205 ?_
        refine jx_iconst C dX8_order_208 ?_
        refine jx_iald C hK hP 0 21 rfl rfl rfl (show jx_B _ _ from ⟨by decide, by decide⟩) dX8_order_209 ?_
        refine jx_callVV C hK hP hD hS hA (ct_M_putsBox l D cI cT aM _ sM (sM 29 0) (sM 29 1) (sM 29 2) (sM 29 3) (sM 29 4) h) ms_X8_putsBox lk_X8_202 [0] rfl rfl (fun _ => rfl) (cs' := (fun u => [(cp_M aM, u)])) (fun _ => rfl) (fun _ => rfl) 0 0 rfl rfl rfl rfl rfl hl.1 rfl rfl dX8_order_210 ⟨Nat.le_refl _, Nat.le_refl _⟩ (fun sM_210 H locs h hP hD hS => ?_)
        have hP : va_P D vwCl (jx_ws cI cT [(cp_M aM, sM_210)]) H := hP
        have hD : va_D A (jx_ws cI cT [(cp_M aM, sM_210)]) := hD
        refine lv_goto (tgt := 233) hx hb dX8_order_213 (by decide) ?_
        exact jx_rV C hr hlk hAe hS hQQ sM_210 hP h dX8_order_233
  have J140 : ∀ (sM : jx_St) (l2 : Int), wp_M_order_140 Q sM l2 → ∀ (H : Heap) (locs : List Loc), va_P D vwCl (jx_ws cI cT [(cp_M aM, sM)]) H → va_D A (jx_ws cI cT [(cp_M aM, sM)]) → va_S A s.heap H locs → ∀ ls : Array Slot, lv_has ls 4 [(0, .ref (aM 0)), (2, .int (jx_i l2))] → W p l e (jx_rm 7 177) s m args below meth c H locs 0 0 QQ (F0 m 140 ls []) := by
    intro sM l2 h H locs hP hD hS ls hl
    unfold wp_M_order_140 at h
    refine lv_aload_n hx hb dX8_order_140 rfl (lv_at hl 0 rfl) ?_
    refine jx_getI C hK hP 0 0 30 rfl rfl rfl fl_X8_258 dX8_order_141 ?_
    refine jx_zne C h.1 (tgt := 168) dX8_order_144 (by decide) (fun hc => ?_) (fun hc => ?_)
    · have h := h.2.2 hc
      exact J168 sM l2 h _ _ hP hD hS ls (lv_sub hl [0, 1] rfl)
    · have h := h.2.1 hc
      refine lv_aload_n hx hb dX8_order_147 rfl (lv_at hl 0 rfl) ?_
      refine lv_aload_n hx hb dX8_order_148 rfl (lv_at hl 0 rfl) ?_
      refine jx_getR C hK hP 0 0 29 rfl rfl rfl fl_X8_70 dX8_order_149 ?_
      refine jx_iconst C dX8_order_152 ?_
      refine jx_iald C hK hP 0 21 rfl rfl rfl (show jx_B _ _ from ⟨by decide, by decide⟩) dX8_order_153 ?_
      refine jx_callVI C hK hP hD hS hA (ct_M_isThere l D cI cT aM _ sM (sM 29 0) h) ms_X8_isThere lk_X8_193 [0] rfl rfl (fun _ => rfl) (cs' := (fun _ => [(cp_M aM, sM)])) (fun _ => rfl) (fun _ => rfl) 0 0 rfl rfl rfl rfl rfl hl.1 rfl rfl dX8_order_154 ⟨Nat.le_refl _, Nat.le_refl _⟩ (fun r154 _ H locs h hP hD hS => ?_)
      have hP : va_P D vwCl (jx_ws cI cT [(cp_M aM, sM)]) H := hP
      have hD : va_D A (jx_ws cI cT [(cp_M aM, sM)]) := hD
      refine lv_iload_n hx hb dX8_order_157 rfl (lv_at hl 1 rfl) ?_
      refine jx_cne C h.1 h.2.1 (tgt := 168) dX8_order_158 (by decide) (fun hc => ?_) (fun hc => ?_)
      · have h := h.2.2.2 hc
        exact J168 sM l2 h _ _ hP hD hS ls (lv_sub hl [0, 1] rfl)
      · have h := h.2.2.1 hc
        refine lv_aload_n hx hb dX8_order_161 rfl (lv_at hl 0 rfl) ?_
        refine jx_iconst C dX8_order_162 ?_
        refine jx_ldc C (-1000004) kc_X8_221 dX8_order_163 ?_
        refine jx_callVV C hK hP hD hS hA (ct_M_wrong l D cI cT aM _ sM 3 (-1000004) h) ms_X8_wrong lk_X8_267 [0] rfl rfl (fun _ => rfl) (cs' := (fun u => [(cp_M aM, u)])) (fun _ => rfl) (fun _ => rfl) 0 0 rfl rfl rfl rfl rfl hl.1 rfl rfl dX8_order_165 ⟨Nat.le_refl _, Nat.le_refl _⟩ (fun sM_165 H locs h hP hD hS => ?_)
        have hP : va_P D vwCl (jx_ws cI cT [(cp_M aM, sM_165)]) H := hP
        have hD : va_D A (jx_ws cI cT [(cp_M aM, sM_165)]) := hD
        exact J168 sM_165 l2 h _ _ hP hD hS ls (lv_sub hl [0, 1] rfl)
  have J100 : ∀ (sM : jx_St) (l2 : Int), wp_M_order_100 Q sM l2 → ∀ (H : Heap) (locs : List Loc), va_P D vwCl (jx_ws cI cT [(cp_M aM, sM)]) H → va_D A (jx_ws cI cT [(cp_M aM, sM)]) → va_S A s.heap H locs → ∀ ls : Array Slot, lv_has ls 4 [(0, .ref (aM 0)), (2, .int (jx_i l2))] → W p l e (jx_rm 7 177) s m args below meth c H locs 0 0 QQ (F0 m 100 ls []) := by
    intro sM l2 h H locs hP hD hS ls hl
    unfold wp_M_order_100 at h
    refine jx_iconst C dX8_order_100 ?_
    refine lv_istore_n (lv' := [(3, .int (jx_i 1)), (0, .ref (aM 0)), (2, .int (jx_i l2))]) hx hb dX8_order_101 rfl hl (by decide) rfl (fun ls hl => ?_)
    obtain ⟨n, h⟩ := h
    refine Lo102 l2 _ n sM 1 h ?_ _ _ hP hD hS ls (lv_sub hl [1, 2, 0] rfl)
    · intro sM h H locs hP hD hS ls hl
      exact J140 sM l2 h _ _ hP hD hS ls (lv_sub hl [0, 1] rfl)
  have J62 : ∀ (sM : jx_St) (l2 : Int) (t1 : Int), wp_M_order_62 Q sM l2 t1 → ∀ (H : Heap) (locs : List Loc), va_P D vwCl (jx_ws cI cT [(cp_M aM, sM)]) H → va_D A (jx_ws cI cT [(cp_M aM, sM)]) → va_S A s.heap H locs → ∀ ls : Array Slot, lv_has ls 4 [(0, .ref (aM 0)), (2, .int (jx_i l2))] → W p l e (jx_rm 7 177) s m args below meth c H locs 0 0 QQ (F0 m 62 ls [.int (jx_i t1), .ref (aM 0)]) := by
    intro sM l2 t1 h H locs hP hD hS ls hl
    unfold wp_M_order_62 at h
    refine jx_callVI C hK hP hD hS hA (ct_M_reads l D cI cT aM _ sM t1 h) ms_X8_reads lk_X8_270 [0] rfl rfl (fun _ => rfl) (cs' := (fun u => [(cp_M aM, u)])) (fun _ => rfl) (fun _ => rfl) 0 0 rfl rfl rfl rfl rfl hl.1 rfl rfl dX8_order_62 ⟨Nat.le_refl _, Nat.le_refl _⟩ (fun r62 sM_62 H locs h hP hD hS => ?_)
    have hP : va_P D vwCl (jx_ws cI cT [(cp_M aM, sM_62)]) H := hP
    have hD : va_D A (jx_ws cI cT [(cp_M aM, sM_62)]) := hD
    refine jx_zne C h.1 (tgt := 83) dX8_order_65 (by decide) (fun hc => ?_) (fun hc => ?_)
    · have h := h.2.2 hc
      refine lv_aload_n hx hb dX8_order_83 rfl (lv_at hl 0 rfl) ?_
      refine jx_getR C hK hP 0 0 29 rfl rfl rfl fl_X8_70 dX8_order_84 ?_
      refine jx_iconst C dX8_order_87 ?_
      refine jx_iald C hK hP 0 21 rfl rfl rfl (show jx_B _ _ from ⟨by decide, by decide⟩) dX8_order_88 ?_
      refine jx_bipush C dX8_order_89 (by decide) ?_
      refine jx_clt C h.1 (jx_inR (by decide) (by decide)) (tgt := 100) dX8_order_91 (by decide) (fun hc => ?_) (fun hc => ?_)
      · have h := h.2.1 hc
        exact J100 sM_62 l2 h _ _ hP hD hS ls (lv_sub hl [0, 1] rfl)
      · have h := h.2.2 hc
        refine lv_aload_n hx hb dX8_order_94 rfl (lv_at hl 0 rfl) ?_
        refine jx_iconst C dX8_order_95 ?_
        refine jx_iconst C dX8_order_96 ?_
        refine jx_callVV C hK hP hD hS hA (ct_M_wrong l D cI cT aM _ sM_62 2 0 h) ms_X8_wrong lk_X8_267 [0] rfl rfl (fun _ => rfl) (cs' := (fun u => [(cp_M aM, u)])) (fun _ => rfl) (fun _ => rfl) 0 0 rfl rfl rfl rfl rfl hl.1 rfl rfl dX8_order_97 ⟨Nat.le_refl _, Nat.le_refl _⟩ (fun sM_97 H locs h hP hD hS => ?_)
        have hP : va_P D vwCl (jx_ws cI cT [(cp_M aM, sM_97)]) H := hP
        have hD : va_D A (jx_ws cI cT [(cp_M aM, sM_97)]) := hD
        exact J100 sM_97 l2 h _ _ hP hD hS ls (lv_sub hl [0, 1] rfl)
    · have h := h.2.1 hc
      refine lv_aload_n hx hb dX8_order_68 rfl (lv_at hl 0 rfl) ?_
      refine jx_iconst C dX8_order_69 ?_
      refine lv_aload_n hx hb dX8_order_70 rfl (lv_at hl 0 rfl) ?_
      refine jx_getI C hK hP 0 0 28 rfl rfl rfl fl_X8_252 dX8_order_71 ?_
      refine lv_aload_n hx hb dX8_order_74 rfl (lv_at hl 0 rfl) ?_
      refine jx_getI C hK hP 0 0 32 rfl rfl rfl fl_X8_264 dX8_order_75 ?_
      refine jx_isub C dX8_order_78 ?_
      refine jx_callVV C hK hP hD hS hA (ct_M_wrong l D cI cT aM _ sM_62 1 ((sM_62 28 0) - (sM_62 32 0)) h) ms_X8_wrong lk_X8_267 [0] rfl rfl (fun _ => rfl) (cs' := (fun u => [(cp_M aM, u)])) (fun _ => rfl) (fun _ => rfl) 0 0 rfl rfl rfl rfl rfl hl.1 rfl rfl dX8_order_79 ⟨Nat.le_refl _, Nat.le_refl _⟩ (fun sM_79 H locs h hP hD hS => ?_)
      have hP : va_P D vwCl (jx_ws cI cT [(cp_M aM, sM_79)]) H := hP
      have hD : va_D A (jx_ws cI cT [(cp_M aM, sM_79)]) := hD
      exact jx_rV C hr hlk hAe hS hQQ sM_79 hP h dX8_order_82
  have J42 : ∀ (sM : jx_St) (l2 : Int), wp_M_order_42 Q sM l2 → ∀ (H : Heap) (locs : List Loc), va_P D vwCl (jx_ws cI cT [(cp_M aM, sM)]) H → va_D A (jx_ws cI cT [(cp_M aM, sM)]) → va_S A s.heap H locs → ∀ ls : Array Slot, lv_has ls 4 [(0, .ref (aM 0)), (2, .int (jx_i l2))] → W p l e (jx_rm 7 177) s m args below meth c H locs 0 0 QQ (F0 m 42 ls []) := by
    intro sM l2 h H locs hP hD hS ls hl
    unfold wp_M_order_42 at h
    refine lv_aload_n hx hb dX8_order_42 rfl (lv_at hl 0 rfl) ?_
    refine lv_dup hx hb dX8_order_43 rfl ?_
    refine jx_getI C hK hP 0 0 28 rfl rfl rfl fl_X8_252 dX8_order_44 ?_
    refine jx_iconst C dX8_order_47 ?_
    refine jx_iadd C dX8_order_48 ?_
    refine jx_putI C hK hP hD hS 0 0 28 rfl rfl rfl rfl rfl fl_X8_252 fw_X8_28 ⟨rfl, rfl⟩ rfl dX8_order_49 (fun H locs hP hD hS => ?_)
    have hP : va_P D vwCl (jx_ws cI cT [(cp_M aM, (jx_su sM 28 0 ((sM 28 0) + 1)))]) H := hP
    have hD : va_D A (jx_ws cI cT [(cp_M aM, (jx_su sM 28 0 ((sM 28 0) + 1)))]) := hD
    refine lv_aload_n hx hb dX8_order_52 rfl (lv_at hl 0 rfl) ?_
    refine lv_iload_n hx hb dX8_order_53 rfl (lv_at hl 1 rfl) ?_
    refine jx_zeq C h.1 (tgt := 61) dX8_order_54 (by decide) (fun hc => ?_) (fun hc => ?_)
    · have h := h.2.1 hc
      refine jx_iconst C dX8_order_61 ?_
      exact J62 (jx_su sM 28 0 ((sM 28 0) + 1)) l2 1 h _ _ hP hD hS ls (lv_sub hl [0, 1] rfl)
    · have h := h.2.2 hc
      refine jx_iconst C dX8_order_57 ?_
      refine lv_goto (tgt := 62) hx hb dX8_order_58 (by decide) ?_
      exact J62 (jx_su sM 28 0 ((sM 28 0) + 1)) l2 5 h _ _ hP hD hS ls (lv_sub hl [0, 1] rfl)
  have J24 : ∀ (sM : jx_St) (l1 : Int) (t0 : Int), wp_M_order_24 Q sM l1 t0 → ∀ (H : Heap) (locs : List Loc), va_P D vwCl (jx_ws cI cT [(cp_M aM, sM)]) H → va_D A (jx_ws cI cT [(cp_M aM, sM)]) → va_S A s.heap H locs → ∀ ls : Array Slot, lv_has ls 4 [(0, .ref (aM 0)), (1, .int (jx_i l1))] → W p l e (jx_rm 7 177) s m args below meth c H locs 0 0 QQ (F0 m 24 ls [.int (jx_i t0)]) := by
    intro sM l1 t0 h H locs hP hD hS ls hl
    unfold wp_M_order_24 at h
    refine lv_istore_n (lv' := [(2, .int (jx_i t0)), (0, .ref (aM 0)), (1, .int (jx_i l1))]) hx hb dX8_order_24 rfl hl (by decide) rfl (fun ls hl => ?_)
    refine lv_iload_n hx hb dX8_order_25 rfl (lv_at hl 0 rfl) ?_
    refine jx_zne C h.1 (tgt := 42) dX8_order_26 (by decide) (fun hc => ?_) (fun hc => ?_)
    · have h := h.2.2 hc
      exact J42 sM t0 h _ _ hP hD hS ls (lv_sub hl [1, 0] rfl)
    · have h := h.2.1 hc
      refine lv_iload_n hx hb dX8_order_29 rfl (lv_at hl 2 rfl) ?_
      refine jx_bipush C dX8_order_30 (by decide) ?_
      refine jx_ceq C h.1 (jx_inR (by decide) (by decide)) (tgt := 42) dX8_order_32 (by decide) (fun hc => ?_) (fun hc => ?_)
      · have h := h.2.1 hc
        exact J42 sM t0 h _ _ hP hD hS ls (lv_sub hl [1, 0] rfl)
      · have h := h.2.2 hc
        refine lv_aload_n hx hb dX8_order_35 rfl (lv_at hl 1 rfl) ?_
        refine jx_iconst C dX8_order_36 ?_
        refine jx_iconst C dX8_order_37 ?_
        refine jx_callVV C hK hP hD hS hA (ct_M_wrong l D cI cT aM _ sM 1 0 h) ms_X8_wrong lk_X8_267 [0] rfl rfl (fun _ => rfl) (cs' := (fun u => [(cp_M aM, u)])) (fun _ => rfl) (fun _ => rfl) 0 0 rfl rfl rfl rfl rfl hl.1 rfl rfl dX8_order_38 ⟨Nat.le_refl _, Nat.le_refl _⟩ (fun sM_38 H locs h hP hD hS => ?_)
        have hP : va_P D vwCl (jx_ws cI cT [(cp_M aM, sM_38)]) H := hP
        have hD : va_D A (jx_ws cI cT [(cp_M aM, sM_38)]) := hD
        exact jx_rV C hr hlk hAe hS hQQ sM_38 hP h dX8_order_41
  refine lv_aload_n hx hb dX8_order_0 rfl (lv_at hl 0 rfl) ?_
  refine lv_aload_n hx hb dX8_order_1 rfl (lv_at hl 0 rfl) ?_
  refine jx_getI C hK hP 0 0 28 rfl rfl rfl fl_X8_252 dX8_order_2 ?_
  refine jx_putI C hK hP hD hS 0 0 32 rfl rfl rfl rfl rfl fl_X8_264 fw_X8_32 ⟨rfl, rfl⟩ rfl dX8_order_5 (fun H locs hP hD hS => ?_)
  have hP : va_P D vwCl (jx_ws cI cT [(cp_M aM, (jx_su sM 32 0 (sM 28 0)))]) H := hP
  have hD : va_D A (jx_ws cI cT [(cp_M aM, (jx_su sM 32 0 (sM 28 0)))]) := hD
  refine lv_aload_n hx hb dX8_order_8 rfl (lv_at hl 0 rfl) ?_
  refine jx_callVI C hK hP hD hS hA (ct_M_here l D cI cT aM _ (jx_su sM 32 0 (sM 28 0))  h) ms_X8_here lk_X8_255 [0] rfl rfl (fun _ => rfl) (cs' := (fun _ => [(cp_M aM, (jx_su sM 32 0 (sM 28 0)))])) (fun _ => rfl) (fun _ => rfl) 0 0 rfl rfl rfl rfl rfl hl.1 rfl rfl dX8_order_9 ⟨Nat.le_refl _, Nat.le_refl _⟩ (fun r9 _ H locs h hP hD hS => ?_)
  have hP : va_P D vwCl (jx_ws cI cT [(cp_M aM, (jx_su sM 32 0 (sM 28 0)))]) H := hP
  have hD : va_D A (jx_ws cI cT [(cp_M aM, (jx_su sM 32 0 (sM 28 0)))]) := hD
  refine lv_istore_n (lv' := [(1, .int (jx_i r9)), (0, .ref (aM 0))]) hx hb dX8_order_12 rfl hl (by decide) rfl (fun ls hl => ?_)
  refine lv_iload_n hx hb dX8_order_13 rfl (lv_at hl 0 rfl) ?_
  refine jx_bipush C dX8_order_14 (by decide) ?_
  refine jx_cne C h.1 (jx_inR (by decide) (by decide)) (tgt := 23) dX8_order_16 (by decide) (fun hc => ?_) (fun hc => ?_)
  · have h := h.2.2 hc
    refine jx_iconst C dX8_order_23 ?_
    exact J24 (jx_su sM 32 0 (sM 28 0)) r9 0 h _ _ hP hD hS ls (lv_sub hl [1, 0] rfl)
  · have h := h.2.1 hc
    refine jx_iconst C dX8_order_19 ?_
    refine lv_goto (tgt := 24) hx hb dX8_order_20 (by decide) ?_
    exact J24 (jx_su sM 32 0 (sM 28 0)) r9 1 h _ _ hP hD hS ls (lv_sub hl [1, 0] rfl)
set_option maxRecDepth 100000 in
set_option maxHeartbeats 4000000 in
theorem ct_M_tries (l : Launch) (D : va_G) (cI cT : ClassId) (aM : Nat → Nat) (Q : jx_St → Prop) (sM : jx_St) (h : wp_M_tries Q sM) : jx_KV jx_St l D cI cT yX8_tries cX8_tries 1 8 200 [.ref (aM 0)] [(cp_M aM, sM)] (fun u => [(cp_M aM, u)]) Q := by
  refine jx_ent (own := RX8) (by decide) rfl (Nat.le_of_ble_eq_true rfl) ?_
  intro p e s m args below meth c A QQ C hr hlk hK hAe hA hP hD hS ls hl hQQ
  have hl : lv_has ls 1 [(0, .ref (aM 0))] := hl
  have hx := C.1
  have hb := C.2.1
  unfold wp_M_tries at h
  have Lo15 : ∀ (n : Nat) (sM : jx_St), jx_it (fun B15 v => wp_M_tries_15 Q B15 v) n sM → ∀ (H : Heap) (locs : List Loc), va_P D vwCl (jx_ws cI cT [(cp_M aM, sM)]) H → va_D A (jx_ws cI cT [(cp_M aM, sM)]) → va_S A s.heap H locs → ∀ ls : Array Slot, lv_has ls 1 [(0, .ref (aM 0))] → W p l e (jx_rm 8 200) s m args below meth c H locs 0 0 QQ (F0 m 15 ls []) := by
    intro n
    induction n with
    | zero =>
      intro sM h
      exact (show False from h).elim
    | succ n ih =>
      intro sM h H locs hP hD hS ls hl
      have h : wp_M_tries_15 Q (jx_it (fun B15 v => wp_M_tries_15 Q B15 v) n) sM := h
      have ih := fun sM h => ih sM h
      generalize jx_it (fun B15 v => wp_M_tries_15 Q B15 v) n = B15 at h ih
      unfold wp_M_tries_15 at h
      refine lv_aload_n hx hb dX8_tries_15 rfl (lv_at hl 0 rfl) ?_
      refine jx_getI C hK hP 0 0 28 rfl rfl rfl fl_X8_252 dX8_tries_16 ?_
      refine lv_aload_n hx hb dX8_tries_19 rfl (lv_at hl 0 rfl) ?_
      refine jx_getI C hK hP 0 0 6 rfl rfl rfl fl_X8_245 dX8_tries_20 ?_
      refine jx_cge C h.1 h.2.1 (tgt := 50) dX8_tries_23 (by decide) (fun hc => ?_) (fun hc => ?_)
      · have h := h.2.2.2 hc
        exact jx_rV C hr hlk hAe hS hQQ sM hP h dX8_tries_50
      · have h := h.2.2.1 hc
        refine lv_aload_n hx hb dX8_tries_26 rfl (lv_at hl 0 rfl) ?_
        refine jx_getI C hK hP 0 0 30 rfl rfl rfl fl_X8_258 dX8_tries_27 ?_
        refine jx_zne C h.1 (tgt := 50) dX8_tries_30 (by decide) (fun hc => ?_) (fun hc => ?_)
        · have h := h.2.2 hc
          exact jx_rV C hr hlk hAe hS hQQ sM hP h dX8_tries_50
        · have h := h.2.1 hc
          refine lv_aload_n hx hb dX8_tries_33 rfl (lv_at hl 0 rfl) ?_
          refine jx_callVV C hK hP hD hS hA (ct_M_order l D cI cT aM _ sM  h) ms_X8_order lk_X8_276 [0] rfl rfl (fun _ => rfl) (cs' := (fun u => [(cp_M aM, u)])) (fun _ => rfl) (fun _ => rfl) 0 0 rfl rfl rfl rfl rfl hl.1 rfl rfl dX8_tries_34 ⟨Nat.le_refl _, Nat.le_refl _⟩ (fun sM_34 H locs h hP hD hS => ?_)
          have hP : va_P D vwCl (jx_ws cI cT [(cp_M aM, sM_34)]) H := hP
          have hD : va_D A (jx_ws cI cT [(cp_M aM, sM_34)]) := hD
          refine lv_aload_n hx hb dX8_tries_37 rfl (lv_at hl 0 rfl) ?_
          refine lv_dup hx hb dX8_tries_38 rfl ?_
          refine jx_getI C hK hP 0 0 33 rfl rfl rfl fl_X8_273 dX8_tries_39 ?_
          refine jx_iconst C dX8_tries_42 ?_
          refine jx_iadd C dX8_tries_43 ?_
          refine jx_putI C hK hP hD hS 0 0 33 rfl rfl rfl rfl rfl fl_X8_273 fw_X8_33 ⟨rfl, rfl⟩ rfl dX8_tries_44 (fun H locs hP hD hS => ?_)
          have hP : va_P D vwCl (jx_ws cI cT [(cp_M aM, (jx_su sM_34 33 0 ((sM_34 33 0) + 1)))]) H := hP
          have hD : va_D A (jx_ws cI cT [(cp_M aM, (jx_su sM_34 33 0 ((sM_34 33 0) + 1)))]) := hD
          refine lv_goto (tgt := 15) hx hb dX8_tries_47 (by decide) ?_
          exact ih (jx_su sM_34 33 0 ((sM_34 33 0) + 1)) h _ _ hP hD hS ls (lv_sub hl [0] rfl)
  refine lv_aload_n hx hb dX8_tries_0 rfl (lv_at hl 0 rfl) ?_
  refine jx_iconst C dX8_tries_1 ?_
  refine jx_putI C hK hP hD hS 0 0 28 rfl rfl rfl rfl rfl fl_X8_252 fw_X8_28 ⟨rfl, rfl⟩ rfl dX8_tries_2 (fun H locs hP hD hS => ?_)
  have hP : va_P D vwCl (jx_ws cI cT [(cp_M aM, (jx_su sM 28 0 0))]) H := hP
  have hD : va_D A (jx_ws cI cT [(cp_M aM, (jx_su sM 28 0 0))]) := hD
  refine lv_aload_n hx hb dX8_tries_5 rfl (lv_at hl 0 rfl) ?_
  refine jx_iconst C dX8_tries_6 ?_
  refine jx_putI C hK hP hD hS 0 0 33 rfl rfl rfl rfl rfl fl_X8_273 fw_X8_33 ⟨rfl, rfl⟩ rfl dX8_tries_7 (fun H locs hP hD hS => ?_)
  have hP : va_P D vwCl (jx_ws cI cT [(cp_M aM, (jx_su (jx_su sM 28 0 0) 33 0 0))]) H := hP
  have hD : va_D A (jx_ws cI cT [(cp_M aM, (jx_su (jx_su sM 28 0 0) 33 0 0))]) := hD
  refine lv_aload_n hx hb dX8_tries_10 rfl (lv_at hl 0 rfl) ?_
  refine jx_iconst C dX8_tries_11 ?_
  refine jx_putI C hK hP hD hS 0 0 30 rfl rfl rfl rfl rfl fl_X8_258 fw_X8_30 ⟨rfl, rfl⟩ rfl dX8_tries_12 (fun H locs hP hD hS => ?_)
  have hP : va_P D vwCl (jx_ws cI cT [(cp_M aM, (jx_su (jx_su (jx_su sM 28 0 0) 33 0 0) 30 0 0))]) H := hP
  have hD : va_D A (jx_ws cI cT [(cp_M aM, (jx_su (jx_su (jx_su sM 28 0 0) 33 0 0) 30 0 0))]) := hD
  obtain ⟨n, h⟩ := h
  refine Lo15 n (jx_su (jx_su (jx_su sM 28 0 0) 33 0 0) 30 0 0) h _ _ hP hD hS ls (lv_sub hl [0] rfl)
set_option maxRecDepth 100000 in
set_option maxHeartbeats 4000000 in
theorem ct_M_fault (l : Launch) (D : va_G) (cI cT : ClassId) (aM : Nat → Nat) (Q : Int → jx_St → Prop) (sM : jx_St) (l1 : Int) (h : wp_M_fault Q sM l1) : jx_KI jx_St l D cI cT yX8_fault cX8_fault 2 .int 9 220 [.ref (aM 0), .int (jx_i l1)] [(cp_M aM, sM)] (fun u => [(cp_M aM, u)]) Q := by
  refine jx_ent (own := RX8) (by decide) rfl (Nat.le_of_ble_eq_true rfl) ?_
  intro p e s m args below meth c A QQ C hr hlk hK hAe hA hP hD hS ls hl hQQ
  have hl : lv_has ls 2 [(0, .ref (aM 0)), (1, .int (jx_i l1))] := hl
  have hx := C.1
  have hb := C.2.1
  unfold wp_M_fault at h
  refine lv_iload_n hx hb dX8_fault_0 rfl (lv_at hl 1 rfl) ?_
  refine jx_iconst C dX8_fault_1 ?_
  refine jx_iconst C dX8_fault_2 ?_
  refine jx_callSI C hK hP hD hS hA (ct_M_in l D cI cT  _  l1 0 2 h) ms_X8_in lk_X8_180 [] rfl rfl (fun _ => rfl) (cs' := (fun _ => [(cp_M aM, sM)])) (fun _ => rfl) (fun _ => rfl) rfl rfl hl.1 rfl rfl dX8_fault_3 ⟨Nat.le_refl _, Nat.le_refl _⟩ (fun r3 _ H locs h hP hD hS => ?_)
  have hP : va_P D vwCl (jx_ws cI cT [(cp_M aM, sM)]) H := hP
  have hD : va_D A (jx_ws cI cT [(cp_M aM, sM)]) := hD
  refine jx_zne C h.1 (tgt := 12) dX8_fault_6 (by decide) (fun hc => ?_) (fun hc => ?_)
  · have h := h.2.2 hc
    refine lv_aload_n hx hb dX8_fault_12 rfl (lv_at hl 0 rfl) ?_
    refine jx_callVV C hK hP hD hS hA (ct_M_copy l D cI cT aM _ sM  h) ms_X8_copy lk_X8_196 [0] rfl rfl (fun _ => rfl) (cs' := (fun u => [(cp_M aM, u)])) (fun _ => rfl) (fun _ => rfl) 0 0 rfl rfl rfl rfl rfl hl.1 rfl rfl dX8_fault_13 ⟨Nat.le_refl _, Nat.le_refl _⟩ (fun sM_13 H locs h hP hD hS => ?_)
    have hP : va_P D vwCl (jx_ws cI cT [(cp_M aM, sM_13)]) H := hP
    have hD : va_D A (jx_ws cI cT [(cp_M aM, sM_13)]) := hD
    refine lv_aload_n hx hb dX8_fault_16 rfl (lv_at hl 0 rfl) ?_
    refine jx_callVV C hK hP hD hS hA (ct_M_tries l D cI cT aM _ sM_13  h) ms_X8_tries lk_X8_279 [0] rfl rfl (fun _ => rfl) (cs' := (fun u => [(cp_M aM, u)])) (fun _ => rfl) (fun _ => rfl) 0 0 rfl rfl rfl rfl rfl hl.1 rfl rfl dX8_fault_17 ⟨Nat.le_refl _, Nat.le_refl _⟩ (fun sM_17 H locs h hP hD hS => ?_)
    have hP : va_P D vwCl (jx_ws cI cT [(cp_M aM, sM_17)]) H := hP
    have hD : va_D A (jx_ws cI cT [(cp_M aM, sM_17)]) := hD
    refine lv_aload_n hx hb dX8_fault_20 rfl (lv_at hl 0 rfl) ?_
    refine jx_callVV C hK hP hD hS hA (ct_M_back l D cI cT aM _ sM_17  h) ms_X8_back lk_X8_236 [0] rfl rfl (fun _ => rfl) (cs' := (fun u => [(cp_M aM, u)])) (fun _ => rfl) (fun _ => rfl) 0 0 rfl rfl rfl rfl rfl hl.1 rfl rfl dX8_fault_21 ⟨Nat.le_refl _, Nat.le_refl _⟩ (fun sM_21 H locs h hP hD hS => ?_)
    have hP : va_P D vwCl (jx_ws cI cT [(cp_M aM, sM_21)]) H := hP
    have hD : va_D A (jx_ws cI cT [(cp_M aM, sM_21)]) := hD
    refine lv_aload_n hx hb dX8_fault_24 rfl (lv_at hl 0 rfl) ?_
    refine jx_getI C hK hP 0 0 30 rfl rfl rfl fl_X8_258 dX8_fault_25 ?_
    refine jx_zne C h.1 (tgt := 36) dX8_fault_28 (by decide) (fun hc => ?_) (fun hc => ?_)
    · have h := h.2.2 hc
      refine lv_iload_n hx hb dX8_fault_36 rfl (lv_at hl 1 rfl) ?_
      refine jx_zne C h.1 (tgt := 47) dX8_fault_37 (by decide) (fun hc => ?_) (fun hc => ?_)
      · have h := h.2.2 hc
        refine lv_iload_n hx hb dX8_fault_47 rfl (lv_at hl 1 rfl) ?_
        refine jx_iconst C dX8_fault_48 ?_
        refine jx_cne C h.1 (jx_inR (by decide) (by decide)) (tgt := 59) dX8_fault_49 (by decide) (fun hc => ?_) (fun hc => ?_)
        · have h := h.2.2 hc
          refine lv_aload_n hx hb dX8_fault_59 rfl (lv_at hl 0 rfl) ?_
          refine jx_getI C hK hP 0 0 31 rfl rfl rfl fl_X8_261 dX8_fault_60 ?_
          exact jx_rI C hr hlk hAe hS hQQ sM_21 hP h dX8_fault_63
        · have h := h.2.1 hc
          refine lv_aload_n hx hb dX8_fault_52 rfl (lv_at hl 0 rfl) ?_
          refine jx_getI C hK hP 0 0 30 rfl rfl rfl fl_X8_258 dX8_fault_53 ?_
          refine lv_goto (tgt := 63) hx hb dX8_fault_56 (by decide) ?_
          exact jx_rI C hr hlk hAe hS hQQ sM_21 hP h dX8_fault_63
      · have h := h.2.1 hc
        refine lv_aload_n hx hb dX8_fault_40 rfl (lv_at hl 0 rfl) ?_
        refine jx_getI C hK hP 0 0 32 rfl rfl rfl fl_X8_264 dX8_fault_41 ?_
        refine lv_goto (tgt := 63) hx hb dX8_fault_44 (by decide) ?_
        exact jx_rI C hr hlk hAe hS hQQ sM_21 hP h dX8_fault_63
    · have h := h.2.1 hc
      refine jx_ldc C (-1000004) kc_X8_221 dX8_fault_31 ?_
      refine lv_goto (tgt := 63) hx hb dX8_fault_33 (by decide) ?_
      exact jx_rI C hr hlk hAe hS hQQ sM_21 hP h dX8_fault_63
  · have h := h.2.1 hc
    refine jx_ldc C (-1000001) kc_X8_192 dX8_fault_9 ?_
    exact jx_rI C hr hlk hAe hS hQQ sM hP h dX8_fault_11
set_option maxRecDepth 100000 in
set_option maxHeartbeats 4000000 in
theorem ct_M_meets (l : Launch) (D : va_G) (cI cT : ClassId) (aM : Nat → Nat) (Q : Int → Prop) (sM : jx_St) (l1 : Int) (l2 : Int) (l3 : Int) (l4 : Int) (l5 : Int) (l6 : Int) (h : wp_M_meets Q sM l1 l2 l3 l4 l5 l6) : jx_KI (Unit) l D cI cT yX8_meets cX8_meets 7 .boolean 1 23 [.ref (aM 0), .int (jx_i l1), .int (jx_i l2), .int (jx_i l3), .int (jx_i l4), .int (jx_i l5), .int (jx_i l6)] [(cp_M aM, sM)] (fun _ => [(cp_M aM, sM)]) (fun x _ => Q x) := by
  refine jx_ent (own := RX8) (by decide) rfl (Nat.le_of_ble_eq_true rfl) ?_
  intro p e s m args below meth c A QQ C hr hlk hK hAe hA hP hD hS ls hl hQQ
  have hl : lv_has ls 7 [(0, .ref (aM 0)), (1, .int (jx_i l1)), (2, .int (jx_i l2)), (3, .int (jx_i l3)), (4, .int (jx_i l4)), (5, .int (jx_i l5)), (6, .int (jx_i l6))] := hl
  have hx := C.1
  have hb := C.2.1
  unfold wp_M_meets at h
  refine lv_aload_n hx hb dX8_meets_0 rfl (lv_at hl 0 rfl) ?_
  refine lv_iload_n hx hb dX8_meets_1 rfl (lv_at hl 1 rfl) ?_
  refine lv_iload_n hx hb dX8_meets_2 rfl (lv_at hl 2 rfl) ?_
  refine jx_iconst C dX8_meets_3 ?_
  refine jx_callVI C hK hP hD hS hA (ct_M_side l D cI cT aM _ sM l1 l2 0 h) ms_X8_side lk_X8_92 [0] rfl rfl (fun _ => rfl) (cs' := (fun _ => [(cp_M aM, sM)])) (fun _ => rfl) (fun _ => rfl) 0 0 rfl rfl rfl rfl rfl hl.1 rfl rfl dX8_meets_4 ⟨Nat.le_refl _, Nat.le_refl _⟩ (fun r4 _ H locs h hP hD hS => ?_)
  have hP : va_P D vwCl (jx_ws cI cT [(cp_M aM, sM)]) H := hP
  have hD : va_D A (jx_ws cI cT [(cp_M aM, sM)]) := hD
  refine lv_iload hx hb dX8_meets_7 (lv_at hl 5 rfl) ?_
  refine jx_cgt C h.1 h.2.1 (tgt := 51) dX8_meets_9 (by decide) (fun hc => ?_) (fun hc => ?_)
  · have h := h.2.2.2 hc
    refine jx_iconst C dX8_meets_51 ?_
    exact jx_rZ C hr hlk hAe hS hQQ (by decide) () hP h dX8_meets_52
  · have h := h.2.2.1 hc
    refine lv_aload_n hx hb dX8_meets_12 rfl (lv_at hl 0 rfl) ?_
    refine lv_iload_n hx hb dX8_meets_13 rfl (lv_at hl 1 rfl) ?_
    refine lv_iload_n hx hb dX8_meets_14 rfl (lv_at hl 2 rfl) ?_
    refine jx_iconst C dX8_meets_15 ?_
    refine jx_callVI C hK hP hD hS hA (ct_M_side l D cI cT aM _ sM l1 l2 2 h) ms_X8_side lk_X8_92 [0] rfl rfl (fun _ => rfl) (cs' := (fun _ => [(cp_M aM, sM)])) (fun _ => rfl) (fun _ => rfl) 0 0 rfl rfl rfl rfl rfl hl.1 rfl rfl dX8_meets_16 ⟨Nat.le_refl _, Nat.le_refl _⟩ (fun r16 _ H locs h hP hD hS => ?_)
    have hP : va_P D vwCl (jx_ws cI cT [(cp_M aM, sM)]) H := hP
    have hD : va_D A (jx_ws cI cT [(cp_M aM, sM)]) := hD
    refine lv_iload_n hx hb dX8_meets_19 rfl (lv_at hl 3 rfl) ?_
    refine jx_clt C h.1 h.2.1 (tgt := 51) dX8_meets_20 (by decide) (fun hc => ?_) (fun hc => ?_)
    · have h := h.2.2.1 hc
      refine jx_iconst C dX8_meets_51 ?_
      exact jx_rZ C hr hlk hAe hS hQQ (by decide) () hP h dX8_meets_52
    · have h := h.2.2.2 hc
      refine lv_aload_n hx hb dX8_meets_23 rfl (lv_at hl 0 rfl) ?_
      refine lv_iload_n hx hb dX8_meets_24 rfl (lv_at hl 1 rfl) ?_
      refine lv_iload_n hx hb dX8_meets_25 rfl (lv_at hl 2 rfl) ?_
      refine jx_iconst C dX8_meets_26 ?_
      refine jx_callVI C hK hP hD hS hA (ct_M_side l D cI cT aM _ sM l1 l2 1 h) ms_X8_side lk_X8_92 [0] rfl rfl (fun _ => rfl) (cs' := (fun _ => [(cp_M aM, sM)])) (fun _ => rfl) (fun _ => rfl) 0 0 rfl rfl rfl rfl rfl hl.1 rfl rfl dX8_meets_27 ⟨Nat.le_refl _, Nat.le_refl _⟩ (fun r27 _ H locs h hP hD hS => ?_)
      have hP : va_P D vwCl (jx_ws cI cT [(cp_M aM, sM)]) H := hP
      have hD : va_D A (jx_ws cI cT [(cp_M aM, sM)]) := hD
      refine lv_iload hx hb dX8_meets_30 (lv_at hl 6 rfl) ?_
      refine jx_cgt C h.1 h.2.1 (tgt := 51) dX8_meets_32 (by decide) (fun hc => ?_) (fun hc => ?_)
      · have h := h.2.2.2 hc
        refine jx_iconst C dX8_meets_51 ?_
        exact jx_rZ C hr hlk hAe hS hQQ (by decide) () hP h dX8_meets_52
      · have h := h.2.2.1 hc
        refine lv_aload_n hx hb dX8_meets_35 rfl (lv_at hl 0 rfl) ?_
        refine lv_iload_n hx hb dX8_meets_36 rfl (lv_at hl 1 rfl) ?_
        refine lv_iload_n hx hb dX8_meets_37 rfl (lv_at hl 2 rfl) ?_
        refine jx_iconst C dX8_meets_38 ?_
        refine jx_callVI C hK hP hD hS hA (ct_M_side l D cI cT aM _ sM l1 l2 3 h) ms_X8_side lk_X8_92 [0] rfl rfl (fun _ => rfl) (cs' := (fun _ => [(cp_M aM, sM)])) (fun _ => rfl) (fun _ => rfl) 0 0 rfl rfl rfl rfl rfl hl.1 rfl rfl dX8_meets_39 ⟨Nat.le_refl _, Nat.le_refl _⟩ (fun r39 _ H locs h hP hD hS => ?_)
        have hP : va_P D vwCl (jx_ws cI cT [(cp_M aM, sM)]) H := hP
        have hD : va_D A (jx_ws cI cT [(cp_M aM, sM)]) := hD
        refine lv_iload hx hb dX8_meets_42 (lv_at hl 4 rfl) ?_
        refine jx_clt C h.1 h.2.1 (tgt := 51) dX8_meets_44 (by decide) (fun hc => ?_) (fun hc => ?_)
        · have h := h.2.2.1 hc
          refine jx_iconst C dX8_meets_51 ?_
          exact jx_rZ C hr hlk hAe hS hQQ (by decide) () hP h dX8_meets_52
        · have h := h.2.2.2 hc
          refine jx_iconst C dX8_meets_47 ?_
          refine lv_goto (tgt := 52) hx hb dX8_meets_48 (by decide) ?_
          exact jx_rZ C hr hlk hAe hS hQQ (by decide) () hP h dX8_meets_52
set_option maxRecDepth 100000 in
set_option maxHeartbeats 4000000 in
theorem ct_M_nearest (l : Launch) (D : va_G) (cI cT : ClassId) (aM : Nat → Nat) (Q : Int → jx_St → Prop) (sM : jx_St) (l1 : Int) (l2 : Int) (l3 : Int) (l4 : Int) (h : wp_M_nearest Q sM l1 l2 l3 l4) : jx_KI jx_St l D cI cT yX8_nearest cX8_nearest 10 .int 3 72 [.ref (aM 0), .int (jx_i l1), .int (jx_i l2), .int (jx_i l3), .int (jx_i l4)] [(cp_M aM, sM)] (fun u => [(cp_M aM, u)]) Q := by
  refine jx_ent (own := RX8) (by decide) rfl (Nat.le_of_ble_eq_true rfl) ?_
  intro p e s m args below meth c A QQ C hr hlk hK hAe hA hP hD hS ls hl hQQ
  have hl : lv_has ls 10 [(0, .ref (aM 0)), (1, .int (jx_i l1)), (2, .int (jx_i l2)), (3, .int (jx_i l3)), (4, .int (jx_i l4))] := hl
  have hx := C.1
  have hb := C.2.1
  unfold wp_M_nearest at h
  have Lo43 : ∀ (sM : jx_St) (K169 : Int → Prop) (n : Nat) (l5 : Int) (l6 : Int), jx_it (fun B43 v => wp_M_nearest_43 Q l1 l2 l3 l4 K169 sM B43 v.1 v.2) n (l5, l6) → (∀ (l5 : Int), K169 l5 → ∀ (H : Heap) (locs : List Loc), va_P D vwCl (jx_ws cI cT [(cp_M aM, sM)]) H → va_D A (jx_ws cI cT [(cp_M aM, sM)]) → va_S A s.heap H locs → ∀ ls : Array Slot, lv_has ls 10 [(0, .ref (aM 0)), (1, .int (jx_i l1)), (2, .int (jx_i l2)), (4, .int (jx_i l4)), (5, .int (jx_i l5))] → W p l e (jx_rm 3 72) s m args below meth c H locs 0 0 QQ (F0 m 169 ls [])) → ∀ (H : Heap) (locs : List Loc), va_P D vwCl (jx_ws cI cT [(cp_M aM, sM)]) H → va_D A (jx_ws cI cT [(cp_M aM, sM)]) → va_S A s.heap H locs → ∀ ls : Array Slot, lv_has ls 10 [(0, .ref (aM 0)), (1, .int (jx_i l1)), (2, .int (jx_i l2)), (3, .int (jx_i l3)), (4, .int (jx_i l4)), (5, .int (jx_i l5)), (6, .int (jx_i l6))] → W p l e (jx_rm 3 72) s m args below meth c H locs 0 0 QQ (F0 m 43 ls []) := by
    intro sM K169 n
    induction n with
    | zero =>
      intro l5 l6 h
      exact (show False from h).elim
    | succ n ih =>
      intro l5 l6 h K169E H locs hP hD hS ls hl
      have h : wp_M_nearest_43 Q l1 l2 l3 l4 K169 sM (jx_it (fun B43 v => wp_M_nearest_43 Q l1 l2 l3 l4 K169 sM B43 v.1 v.2) n) l5 l6 := h
      have ih := fun l5 l6 h => ih l5 l6 h K169E
      generalize jx_it (fun B43 v => wp_M_nearest_43 Q l1 l2 l3 l4 K169 sM B43 v.1 v.2) n = B43 at h ih
      unfold wp_M_nearest_43 at h
      have Lo56 : ∀ (sM : jx_St) (l5 : Int) (l6 : Int) (K139 : Int → Prop) (n : Nat) (l7 : Int) (l8 : Int), jx_it (fun B56 v => wp_M_nearest_56 Q l1 l2 l3 l4 K139 sM l5 l6 B56 v.1 v.2) n (l7, l8) → (∀ (l7 : Int), K139 l7 → ∀ (H : Heap) (locs : List Loc), va_P D vwCl (jx_ws cI cT [(cp_M aM, sM)]) H → va_D A (jx_ws cI cT [(cp_M aM, sM)]) → va_S A s.heap H locs → ∀ ls : Array Slot, lv_has ls 10 [(0, .ref (aM 0)), (1, .int (jx_i l1)), (2, .int (jx_i l2)), (3, .int (jx_i l3)), (4, .int (jx_i l4)), (5, .int (jx_i l5)), (6, .int (jx_i l6)), (7, .int (jx_i l7))] → W p l e (jx_rm 3 72) s m args below meth c H locs 0 0 QQ (F0 m 139 ls [])) → ∀ (H : Heap) (locs : List Loc), va_P D vwCl (jx_ws cI cT [(cp_M aM, sM)]) H → va_D A (jx_ws cI cT [(cp_M aM, sM)]) → va_S A s.heap H locs → ∀ ls : Array Slot, lv_has ls 10 [(0, .ref (aM 0)), (1, .int (jx_i l1)), (2, .int (jx_i l2)), (3, .int (jx_i l3)), (4, .int (jx_i l4)), (5, .int (jx_i l5)), (6, .int (jx_i l6)), (7, .int (jx_i l7)), (8, .int (jx_i l8))] → W p l e (jx_rm 3 72) s m args below meth c H locs 0 0 QQ (F0 m 56 ls []) := by
        intro sM l5 l6 K139 n
        induction n with
        | zero =>
          intro l7 l8 h
          exact (show False from h).elim
        | succ n ih =>
          intro l7 l8 h K139E H locs hP hD hS ls hl
          have h : wp_M_nearest_56 Q l1 l2 l3 l4 K139 sM l5 l6 (jx_it (fun B56 v => wp_M_nearest_56 Q l1 l2 l3 l4 K139 sM l5 l6 B56 v.1 v.2) n) l7 l8 := h
          have ih := fun l7 l8 h => ih l7 l8 h K139E
          generalize jx_it (fun B56 v => wp_M_nearest_56 Q l1 l2 l3 l4 K139 sM l5 l6 B56 v.1 v.2) n = B56 at h ih
          unfold wp_M_nearest_56 at h
          have J130 : ∀ (l8 : Int) (t0 : Int) (t1 : Int), wp_M_nearest_130 Q l1 l2 l3 l4 B56 K139 sM l5 l6 l8 t0 t1 → ∀ (H : Heap) (locs : List Loc), va_P D vwCl (jx_ws cI cT [(cp_M aM, sM)]) H → va_D A (jx_ws cI cT [(cp_M aM, sM)]) → va_S A s.heap H locs → ∀ ls : Array Slot, lv_has ls 10 [(0, .ref (aM 0)), (1, .int (jx_i l1)), (2, .int (jx_i l2)), (3, .int (jx_i l3)), (4, .int (jx_i l4)), (5, .int (jx_i l5)), (6, .int (jx_i l6)), (8, .int (jx_i l8))] → W p l e (jx_rm 3 72) s m args below meth c H locs 0 0 QQ (F0 m 130 ls [.int (jx_i t1), .int (jx_i t0)]) := by
            intro l8 t0 t1 h H locs hP hD hS ls hl
            unfold wp_M_nearest_130 at h
            refine jx_iadd C dX8_nearest_130 ?_
            refine lv_istore (lv' := [(7, .int (jx_i (t0 + t1))), (0, .ref (aM 0)), (1, .int (jx_i l1)), (2, .int (jx_i l2)), (3, .int (jx_i l3)), (4, .int (jx_i l4)), (5, .int (jx_i l5)), (6, .int (jx_i l6)), (8, .int (jx_i l8))]) hx hb dX8_nearest_131 hl (by decide) rfl (fun ls hl => ?_)
            refine jx_iinc C (lv' := [(8, .int (jx_i (l8 + 1))), (7, .int (jx_i (t0 + t1))), (0, .ref (aM 0)), (1, .int (jx_i l1)), (2, .int (jx_i l2)), (3, .int (jx_i l3)), (4, .int (jx_i l4)), (5, .int (jx_i l5)), (6, .int (jx_i l6))]) dX8_nearest_133 hl (k := 8) rfl (by decide) rfl (fun ls hl => ?_)
            refine lv_goto (tgt := 56) hx hb dX8_nearest_136 (by decide) ?_
            exact ih (t0 + t1) (l8 + 1) h _ _ hP hD hS ls (lv_sub hl [2, 3, 4, 5, 6, 7, 8, 1, 0] rfl)
          have J125 : ∀ (l8 : Int) (t0 : Int), wp_M_nearest_125 Q l1 l2 l3 l4 B56 K139 sM l5 l6 l8 t0 → ∀ (H : Heap) (locs : List Loc), va_P D vwCl (jx_ws cI cT [(cp_M aM, sM)]) H → va_D A (jx_ws cI cT [(cp_M aM, sM)]) → va_S A s.heap H locs → ∀ ls : Array Slot, lv_has ls 10 [(0, .ref (aM 0)), (1, .int (jx_i l1)), (2, .int (jx_i l2)), (3, .int (jx_i l3)), (4, .int (jx_i l4)), (5, .int (jx_i l5)), (6, .int (jx_i l6)), (8, .int (jx_i l8))] → W p l e (jx_rm 3 72) s m args below meth c H locs 0 0 QQ (F0 m 125 ls [.int (jx_i t0)]) := by
            intro l8 t0 h H locs hP hD hS ls hl
            unfold wp_M_nearest_125 at h
            refine jx_iconst C dX8_nearest_125 ?_
            refine lv_goto (tgt := 130) hx hb dX8_nearest_126 (by decide) ?_
            exact J130 l8 t0 1 h _ _ hP hD hS ls (lv_sub hl [0, 1, 2, 3, 4, 5, 6, 7] rfl)
          have J129 : ∀ (l8 : Int) (t0 : Int), wp_M_nearest_129 Q l1 l2 l3 l4 B56 K139 sM l5 l6 l8 t0 → ∀ (H : Heap) (locs : List Loc), va_P D vwCl (jx_ws cI cT [(cp_M aM, sM)]) H → va_D A (jx_ws cI cT [(cp_M aM, sM)]) → va_S A s.heap H locs → ∀ ls : Array Slot, lv_has ls 10 [(0, .ref (aM 0)), (1, .int (jx_i l1)), (2, .int (jx_i l2)), (3, .int (jx_i l3)), (4, .int (jx_i l4)), (5, .int (jx_i l5)), (6, .int (jx_i l6)), (8, .int (jx_i l8))] → W p l e (jx_rm 3 72) s m args below meth c H locs 0 0 QQ (F0 m 129 ls [.int (jx_i t0)]) := by
            intro l8 t0 h H locs hP hD hS ls hl
            unfold wp_M_nearest_129 at h
            refine jx_iconst C dX8_nearest_129 ?_
            exact J130 l8 t0 0 h _ _ hP hD hS ls (lv_sub hl [0, 1, 2, 3, 4, 5, 6, 7] rfl)
          have J104 : ∀ (l7 : Int) (l8 : Int) (t0 : Int), wp_M_nearest_104 Q l1 l2 l3 l4 B56 K139 sM l5 l6 l7 l8 t0 → ∀ (H : Heap) (locs : List Loc), va_P D vwCl (jx_ws cI cT [(cp_M aM, sM)]) H → va_D A (jx_ws cI cT [(cp_M aM, sM)]) → va_S A s.heap H locs → ∀ ls : Array Slot, lv_has ls 10 [(0, .ref (aM 0)), (1, .int (jx_i l1)), (2, .int (jx_i l2)), (3, .int (jx_i l3)), (4, .int (jx_i l4)), (5, .int (jx_i l5)), (6, .int (jx_i l6)), (7, .int (jx_i l7)), (8, .int (jx_i l8))] → W p l e (jx_rm 3 72) s m args below meth c H locs 0 0 QQ (F0 m 104 ls [.int (jx_i t0)]) := by
            intro l7 l8 t0 h H locs hP hD hS ls hl
            unfold wp_M_nearest_104 at h
            refine lv_istore (lv' := [(9, .int (jx_i t0)), (0, .ref (aM 0)), (1, .int (jx_i l1)), (2, .int (jx_i l2)), (3, .int (jx_i l3)), (4, .int (jx_i l4)), (5, .int (jx_i l5)), (6, .int (jx_i l6)), (7, .int (jx_i l7)), (8, .int (jx_i l8))]) hx hb dX8_nearest_104 hl (by decide) rfl (fun ls hl => ?_)
            refine lv_iload hx hb dX8_nearest_106 (lv_at hl 8 rfl) ?_
            refine lv_iload hx hb dX8_nearest_108 (lv_at hl 0 rfl) ?_
            refine jx_zlt C h.1 (tgt := 125) dX8_nearest_110 (by decide) (fun hc => ?_) (fun hc => ?_)
            · have h := h.2.1 hc
              exact J125 l8 l7 h _ _ hP hD hS ls (lv_sub hl [1, 2, 3, 4, 5, 6, 7, 9] rfl)
            · have h := h.2.2 hc
              refine lv_iload hx hb dX8_nearest_113 (lv_at hl 0 rfl) ?_
              refine jx_zne C h.1 (tgt := 129) dX8_nearest_115 (by decide) (fun hc => ?_) (fun hc => ?_)
              · have h := h.2.2 hc
                exact J129 l8 l7 h _ _ hP hD hS ls (lv_sub hl [1, 2, 3, 4, 5, 6, 7, 9] rfl)
              · have h := h.2.1 hc
                refine lv_iload hx hb dX8_nearest_118 (lv_at hl 9 rfl) ?_
                refine lv_iload hx hb dX8_nearest_120 (lv_at hl 7 rfl) ?_
                refine jx_cge C h.1 h.2.1 (tgt := 129) dX8_nearest_122 (by decide) (fun hc => ?_) (fun hc => ?_)
                · have h := h.2.2.2 hc
                  exact J129 l8 l7 h _ _ hP hD hS ls (lv_sub hl [1, 2, 3, 4, 5, 6, 7, 9] rfl)
                · have h := h.2.2.1 hc
                  exact J125 l8 l7 h _ _ hP hD hS ls (lv_sub hl [1, 2, 3, 4, 5, 6, 7, 9] rfl)
          refine lv_iload hx hb dX8_nearest_56 (lv_at hl 8 rfl) ?_
          refine jx_bipush C dX8_nearest_58 (by decide) ?_
          refine jx_cge C h.1 (jx_inR (by decide) (by decide)) (tgt := 139) dX8_nearest_60 (by decide) (fun hc => ?_) (fun hc => ?_)
          · have h := h.2.2 hc
            exact K139E l7 h _ _ hP hD hS ls (lv_sub hl [0, 1, 2, 3, 4, 5, 6, 7] rfl)
          · have h := h.2.1 hc
            refine lv_aload_n hx hb dX8_nearest_63 rfl (lv_at hl 0 rfl) ?_
            refine lv_iload hx hb dX8_nearest_64 (lv_at hl 6 rfl) ?_
            refine jx_callVI C hK hP hD hS hA (ct_M_isThere l D cI cT aM _ sM l6 h) ms_X8_isThere lk_X8_193 [0] rfl rfl (fun _ => rfl) (cs' := (fun _ => [(cp_M aM, sM)])) (fun _ => rfl) (fun _ => rfl) 0 0 rfl rfl rfl rfl rfl hl.1 rfl rfl dX8_nearest_66 ⟨Nat.le_refl _, Nat.le_refl _⟩ (fun r66 _ H locs h hP hD hS => ?_)
            have hP : va_P D vwCl (jx_ws cI cT [(cp_M aM, sM)]) H := hP
            have hD : va_D A (jx_ws cI cT [(cp_M aM, sM)]) := hD
            refine jx_zeq C h.1 (tgt := 139) dX8_nearest_69 (by decide) (fun hc => ?_) (fun hc => ?_)
            · have h := h.2.1 hc
              exact K139E l7 h _ _ hP hD hS ls (lv_sub hl [0, 1, 2, 3, 4, 5, 6, 7] rfl)
            · have h := h.2.2 hc
              refine lv_aload_n hx hb dX8_nearest_72 rfl (lv_at hl 0 rfl) ?_
              refine lv_iload hx hb dX8_nearest_73 (lv_at hl 8 rfl) ?_
              refine jx_callVI C hK hP hD hS hA (ct_M_isThere l D cI cT aM _ sM l8 h) ms_X8_isThere lk_X8_193 [0] rfl rfl (fun _ => rfl) (cs' := (fun _ => [(cp_M aM, sM)])) (fun _ => rfl) (fun _ => rfl) 0 0 rfl rfl rfl rfl rfl hl.1 rfl rfl dX8_nearest_75 ⟨Nat.le_refl _, Nat.le_refl _⟩ (fun r75 _ H locs h hP hD hS => ?_)
              have hP : va_P D vwCl (jx_ws cI cT [(cp_M aM, sM)]) H := hP
              have hD : va_D A (jx_ws cI cT [(cp_M aM, sM)]) := hD
              refine jx_zeq C h.1 (tgt := 103) dX8_nearest_78 (by decide) (fun hc => ?_) (fun hc => ?_)
              · have h := h.2.1 hc
                refine jx_iconst C dX8_nearest_103 ?_
                exact J104 l7 l8 1 h _ _ hP hD hS ls (lv_sub hl [0, 1, 2, 3, 4, 5, 6, 7, 8] rfl)
              · have h := h.2.2 hc
                refine lv_aload_n hx hb dX8_nearest_81 rfl (lv_at hl 0 rfl) ?_
                refine lv_iload hx hb dX8_nearest_82 (lv_at hl 8 rfl) ?_
                refine jx_iconst C dX8_nearest_84 ?_
                refine lv_iload_n hx hb dX8_nearest_85 rfl (lv_at hl 1 rfl) ?_
                refine lv_iload_n hx hb dX8_nearest_86 rfl (lv_at hl 2 rfl) ?_
                refine jx_callVI C hK hP hD hS hA (ct_M_distance l D cI cT aM _ sM l8 0 l1 l2 h) ms_X8_distance lk_X8_232 [0] rfl rfl (fun _ => rfl) (cs' := (fun _ => [(cp_M aM, sM)])) (fun _ => rfl) (fun _ => rfl) 0 0 rfl rfl rfl rfl rfl hl.1 rfl rfl dX8_nearest_87 ⟨Nat.le_refl _, Nat.le_refl _⟩ (fun r87 _ H locs h hP hD hS => ?_)
                have hP : va_P D vwCl (jx_ws cI cT [(cp_M aM, sM)]) H := hP
                have hD : va_D A (jx_ws cI cT [(cp_M aM, sM)]) := hD
                refine lv_aload_n hx hb dX8_nearest_90 rfl (lv_at hl 0 rfl) ?_
                refine lv_iload hx hb dX8_nearest_91 (lv_at hl 6 rfl) ?_
                refine jx_iconst C dX8_nearest_93 ?_
                refine lv_iload_n hx hb dX8_nearest_94 rfl (lv_at hl 1 rfl) ?_
                refine lv_iload_n hx hb dX8_nearest_95 rfl (lv_at hl 2 rfl) ?_
                refine jx_callVI C hK hP hD hS hA (ct_M_distance l D cI cT aM _ sM l6 0 l1 l2 h) ms_X8_distance lk_X8_232 [0] rfl rfl (fun _ => rfl) (cs' := (fun _ => [(cp_M aM, sM)])) (fun _ => rfl) (fun _ => rfl) 0 0 rfl rfl rfl rfl rfl hl.1 rfl rfl dX8_nearest_96 ⟨Nat.le_refl _, Nat.le_refl _⟩ (fun r96 _ H locs h hP hD hS => ?_)
                have hP : va_P D vwCl (jx_ws cI cT [(cp_M aM, sM)]) H := hP
                have hD : va_D A (jx_ws cI cT [(cp_M aM, sM)]) := hD
                refine jx_isub C dX8_nearest_99 ?_
                refine lv_goto (tgt := 104) hx hb dX8_nearest_100 (by decide) ?_
                exact J104 l7 l8 (r87 - r96) h _ _ hP hD hS ls (lv_sub hl [0, 1, 2, 3, 4, 5, 6, 7, 8] rfl)
      have J161 : ∀ (l6 : Int) (t0 : Int), wp_M_nearest_161 Q l1 l2 l3 l4 B43 K169 sM l6 t0 → ∀ (H : Heap) (locs : List Loc), va_P D vwCl (jx_ws cI cT [(cp_M aM, sM)]) H → va_D A (jx_ws cI cT [(cp_M aM, sM)]) → va_S A s.heap H locs → ∀ ls : Array Slot, lv_has ls 10 [(0, .ref (aM 0)), (1, .int (jx_i l1)), (2, .int (jx_i l2)), (3, .int (jx_i l3)), (4, .int (jx_i l4)), (6, .int (jx_i l6))] → W p l e (jx_rm 3 72) s m args below meth c H locs 0 0 QQ (F0 m 161 ls [.int (jx_i t0)]) := by
        intro l6 t0 h H locs hP hD hS ls hl
        unfold wp_M_nearest_161 at h
        refine lv_istore (lv' := [(5, .int (jx_i t0)), (0, .ref (aM 0)), (1, .int (jx_i l1)), (2, .int (jx_i l2)), (3, .int (jx_i l3)), (4, .int (jx_i l4)), (6, .int (jx_i l6))]) hx hb dX8_nearest_161 hl (by decide) rfl (fun ls hl => ?_)
        refine jx_iinc C (lv' := [(6, .int (jx_i (l6 + 1))), (5, .int (jx_i t0)), (0, .ref (aM 0)), (1, .int (jx_i l1)), (2, .int (jx_i l2)), (3, .int (jx_i l3)), (4, .int (jx_i l4))]) dX8_nearest_163 hl (k := 6) rfl (by decide) rfl (fun ls hl => ?_)
        refine lv_goto (tgt := 43) hx hb dX8_nearest_166 (by decide) ?_
        exact ih t0 (l6 + 1) h _ _ hP hD hS ls (lv_sub hl [2, 3, 4, 5, 6, 1, 0] rfl)
      have J159 : ∀ (l5 : Int) (l6 : Int), wp_M_nearest_159 Q l1 l2 l3 l4 B43 K169 sM l5 l6 → ∀ (H : Heap) (locs : List Loc), va_P D vwCl (jx_ws cI cT [(cp_M aM, sM)]) H → va_D A (jx_ws cI cT [(cp_M aM, sM)]) → va_S A s.heap H locs → ∀ ls : Array Slot, lv_has ls 10 [(0, .ref (aM 0)), (1, .int (jx_i l1)), (2, .int (jx_i l2)), (3, .int (jx_i l3)), (4, .int (jx_i l4)), (5, .int (jx_i l5)), (6, .int (jx_i l6))] → W p l e (jx_rm 3 72) s m args below meth c H locs 0 0 QQ (F0 m 159 ls []) := by
        intro l5 l6 h H locs hP hD hS ls hl
        unfold wp_M_nearest_159 at h
        refine lv_iload hx hb dX8_nearest_159 (lv_at hl 5 rfl) ?_
        exact J161 l6 l5 h _ _ hP hD hS ls (lv_sub hl [0, 1, 2, 3, 4, 6] rfl)
      have J139 : ∀ (l5 : Int) (l6 : Int) (l7 : Int), wp_M_nearest_139 Q l1 l2 l3 l4 B43 K169 sM l5 l6 l7 → ∀ (H : Heap) (locs : List Loc), va_P D vwCl (jx_ws cI cT [(cp_M aM, sM)]) H → va_D A (jx_ws cI cT [(cp_M aM, sM)]) → va_S A s.heap H locs → ∀ ls : Array Slot, lv_has ls 10 [(0, .ref (aM 0)), (1, .int (jx_i l1)), (2, .int (jx_i l2)), (3, .int (jx_i l3)), (4, .int (jx_i l4)), (5, .int (jx_i l5)), (6, .int (jx_i l6)), (7, .int (jx_i l7))] → W p l e (jx_rm 3 72) s m args below meth c H locs 0 0 QQ (F0 m 139 ls []) := by
        intro l5 l6 l7 h H locs hP hD hS ls hl
        unfold wp_M_nearest_139 at h
        refine lv_aload_n hx hb dX8_nearest_139 rfl (lv_at hl 0 rfl) ?_
        refine lv_iload hx hb dX8_nearest_140 (lv_at hl 6 rfl) ?_
        refine jx_callVI C hK hP hD hS hA (ct_M_isThere l D cI cT aM _ sM l6 h) ms_X8_isThere lk_X8_193 [0] rfl rfl (fun _ => rfl) (cs' := (fun _ => [(cp_M aM, sM)])) (fun _ => rfl) (fun _ => rfl) 0 0 rfl rfl rfl rfl rfl hl.1 rfl rfl dX8_nearest_142 ⟨Nat.le_refl _, Nat.le_refl _⟩ (fun r142 _ H locs h hP hD hS => ?_)
        have hP : va_P D vwCl (jx_ws cI cT [(cp_M aM, sM)]) H := hP
        have hD : va_D A (jx_ws cI cT [(cp_M aM, sM)]) := hD
        refine jx_zeq C h.1 (tgt := 159) dX8_nearest_145 (by decide) (fun hc => ?_) (fun hc => ?_)
        · have h := h.2.1 hc
          exact J159 l5 l6 h _ _ hP hD hS ls (lv_sub hl [0, 1, 2, 3, 4, 5, 6] rfl)
        · have h := h.2.2 hc
          refine lv_iload hx hb dX8_nearest_148 (lv_at hl 7 rfl) ?_
          refine lv_iload_n hx hb dX8_nearest_150 rfl (lv_at hl 3 rfl) ?_
          refine jx_cne C h.1 h.2.1 (tgt := 159) dX8_nearest_151 (by decide) (fun hc => ?_) (fun hc => ?_)
          · have h := h.2.2.2 hc
            exact J159 l5 l6 h _ _ hP hD hS ls (lv_sub hl [0, 1, 2, 3, 4, 5, 6] rfl)
          · have h := h.2.2.1 hc
            refine lv_iload hx hb dX8_nearest_154 (lv_at hl 6 rfl) ?_
            refine lv_goto (tgt := 161) hx hb dX8_nearest_156 (by decide) ?_
            exact J161 l6 l6 h _ _ hP hD hS ls (lv_sub hl [0, 1, 2, 3, 4, 6] rfl)
      refine lv_iload hx hb dX8_nearest_43 (lv_at hl 6 rfl) ?_
      refine jx_bipush C dX8_nearest_45 (by decide) ?_
      refine jx_cge C h.1 (jx_inR (by decide) (by decide)) (tgt := 169) dX8_nearest_47 (by decide) (fun hc => ?_) (fun hc => ?_)
      · have h := h.2.2 hc
        exact K169E l5 h _ _ hP hD hS ls (lv_sub hl [0, 1, 2, 4, 5] rfl)
      · have h := h.2.1 hc
        refine jx_iconst C dX8_nearest_50 ?_
        refine lv_istore (lv' := [(7, .int (jx_i 0)), (0, .ref (aM 0)), (1, .int (jx_i l1)), (2, .int (jx_i l2)), (3, .int (jx_i l3)), (4, .int (jx_i l4)), (5, .int (jx_i l5)), (6, .int (jx_i l6))]) hx hb dX8_nearest_51 hl (by decide) rfl (fun ls hl => ?_)
        refine jx_iconst C dX8_nearest_53 ?_
        refine lv_istore (lv' := [(8, .int (jx_i 0)), (7, .int (jx_i 0)), (0, .ref (aM 0)), (1, .int (jx_i l1)), (2, .int (jx_i l2)), (3, .int (jx_i l3)), (4, .int (jx_i l4)), (5, .int (jx_i l5)), (6, .int (jx_i l6))]) hx hb dX8_nearest_54 hl (by decide) rfl (fun ls hl => ?_)
        obtain ⟨n, h⟩ := h
        refine Lo56 sM l5 l6 _ n 0 0 h ?_ _ _ hP hD hS ls (lv_sub hl [2, 3, 4, 5, 6, 7, 8, 1, 0] rfl)
        · intro l7 h H locs hP hD hS ls hl
          exact J139 l5 l6 l7 h _ _ hP hD hS ls (lv_sub hl [0, 1, 2, 3, 4, 5, 6, 7] rfl)
  have Lo199 : ∀ (sM : jx_St) (l5 : Int) (l6 : Int) (K255 : Int → Prop) (n : Nat) (l7 : Int) (l8 : Int), jx_it (fun B199 v => wp_M_nearest_199 Q l1 l2 l3 l4 K255 sM l5 l6 B199 v.1 v.2) n (l7, l8) → (∀ (l7 : Int), K255 l7 → ∀ (H : Heap) (locs : List Loc), va_P D vwCl (jx_ws cI cT [(cp_M aM, sM)]) H → va_D A (jx_ws cI cT [(cp_M aM, sM)]) → va_S A s.heap H locs → ∀ ls : Array Slot, lv_has ls 10 [(4, .int (jx_i l4)), (5, .int (jx_i l5)), (6, .int (jx_i l6)), (7, .int (jx_i l7))] → W p l e (jx_rm 3 72) s m args below meth c H locs 0 0 QQ (F0 m 255 ls [])) → ∀ (H : Heap) (locs : List Loc), va_P D vwCl (jx_ws cI cT [(cp_M aM, sM)]) H → va_D A (jx_ws cI cT [(cp_M aM, sM)]) → va_S A s.heap H locs → ∀ ls : Array Slot, lv_has ls 10 [(0, .ref (aM 0)), (1, .int (jx_i l1)), (2, .int (jx_i l2)), (4, .int (jx_i l4)), (5, .int (jx_i l5)), (6, .int (jx_i l6)), (7, .int (jx_i l7)), (8, .int (jx_i l8))] → W p l e (jx_rm 3 72) s m args below meth c H locs 0 0 QQ (F0 m 199 ls []) := by
    intro sM l5 l6 K255 n
    induction n with
    | zero =>
      intro l7 l8 h
      exact (show False from h).elim
    | succ n ih =>
      intro l7 l8 h K255E H locs hP hD hS ls hl
      have h : wp_M_nearest_199 Q l1 l2 l3 l4 K255 sM l5 l6 (jx_it (fun B199 v => wp_M_nearest_199 Q l1 l2 l3 l4 K255 sM l5 l6 B199 v.1 v.2) n) l7 l8 := h
      have ih := fun l7 l8 h => ih l7 l8 h K255E
      generalize jx_it (fun B199 v => wp_M_nearest_199 Q l1 l2 l3 l4 K255 sM l5 l6 B199 v.1 v.2) n = B199 at h ih
      unfold wp_M_nearest_199 at h
      have J246 : ∀ (l8 : Int) (t0 : Int) (t1 : Int), wp_M_nearest_246 Q l1 l2 l3 l4 B199 K255 sM l5 l6 l8 t0 t1 → ∀ (H : Heap) (locs : List Loc), va_P D vwCl (jx_ws cI cT [(cp_M aM, sM)]) H → va_D A (jx_ws cI cT [(cp_M aM, sM)]) → va_S A s.heap H locs → ∀ ls : Array Slot, lv_has ls 10 [(0, .ref (aM 0)), (1, .int (jx_i l1)), (2, .int (jx_i l2)), (4, .int (jx_i l4)), (5, .int (jx_i l5)), (6, .int (jx_i l6)), (8, .int (jx_i l8))] → W p l e (jx_rm 3 72) s m args below meth c H locs 0 0 QQ (F0 m 246 ls [.int (jx_i t1), .int (jx_i t0)]) := by
        intro l8 t0 t1 h H locs hP hD hS ls hl
        unfold wp_M_nearest_246 at h
        refine jx_iadd C dX8_nearest_246 ?_
        refine lv_istore (lv' := [(7, .int (jx_i (t0 + t1))), (0, .ref (aM 0)), (1, .int (jx_i l1)), (2, .int (jx_i l2)), (4, .int (jx_i l4)), (5, .int (jx_i l5)), (6, .int (jx_i l6)), (8, .int (jx_i l8))]) hx hb dX8_nearest_247 hl (by decide) rfl (fun ls hl => ?_)
        refine jx_iinc C (lv' := [(8, .int (jx_i (l8 + 1))), (7, .int (jx_i (t0 + t1))), (0, .ref (aM 0)), (1, .int (jx_i l1)), (2, .int (jx_i l2)), (4, .int (jx_i l4)), (5, .int (jx_i l5)), (6, .int (jx_i l6))]) dX8_nearest_249 hl (k := 7) rfl (by decide) rfl (fun ls hl => ?_)
        refine lv_goto (tgt := 199) hx hb dX8_nearest_252 (by decide) ?_
        exact ih (t0 + t1) (l8 + 1) h _ _ hP hD hS ls (lv_sub hl [2, 3, 4, 5, 6, 7, 1, 0] rfl)
      have J245 : ∀ (l8 : Int) (t0 : Int), wp_M_nearest_245 Q l1 l2 l3 l4 B199 K255 sM l5 l6 l8 t0 → ∀ (H : Heap) (locs : List Loc), va_P D vwCl (jx_ws cI cT [(cp_M aM, sM)]) H → va_D A (jx_ws cI cT [(cp_M aM, sM)]) → va_S A s.heap H locs → ∀ ls : Array Slot, lv_has ls 10 [(0, .ref (aM 0)), (1, .int (jx_i l1)), (2, .int (jx_i l2)), (4, .int (jx_i l4)), (5, .int (jx_i l5)), (6, .int (jx_i l6)), (8, .int (jx_i l8))] → W p l e (jx_rm 3 72) s m args below meth c H locs 0 0 QQ (F0 m 245 ls [.int (jx_i t0)]) := by
        intro l8 t0 h H locs hP hD hS ls hl
        unfold wp_M_nearest_245 at h
        refine jx_iconst C dX8_nearest_245 ?_
        exact J246 l8 t0 0 h _ _ hP hD hS ls (lv_sub hl [0, 1, 2, 3, 4, 5, 6] rfl)
      refine lv_iload hx hb dX8_nearest_199 (lv_at hl 7 rfl) ?_
      refine jx_bipush C dX8_nearest_201 (by decide) ?_
      refine jx_cge C h.1 (jx_inR (by decide) (by decide)) (tgt := 255) dX8_nearest_203 (by decide) (fun hc => ?_) (fun hc => ?_)
      · have h := h.2.2 hc
        exact K255E l7 h _ _ hP hD hS ls (lv_sub hl [3, 4, 5, 6] rfl)
      · have h := h.2.1 hc
        refine lv_iload hx hb dX8_nearest_206 (lv_at hl 6 rfl) ?_
        refine lv_aload_n hx hb dX8_nearest_208 rfl (lv_at hl 0 rfl) ?_
        refine lv_iload hx hb dX8_nearest_209 (lv_at hl 7 rfl) ?_
        refine jx_callVI C hK hP hD hS hA (ct_M_levelOf l D cI cT aM _ sM l8 h) ms_X8_levelOf lk_X8_81 [0] rfl rfl (fun _ => rfl) (cs' := (fun _ => [(cp_M aM, sM)])) (fun _ => rfl) (fun _ => rfl) 0 0 rfl rfl rfl rfl rfl hl.1 rfl rfl dX8_nearest_211 ⟨Nat.le_refl _, Nat.le_refl _⟩ (fun r211 _ H locs h hP hD hS => ?_)
        have hP : va_P D vwCl (jx_ws cI cT [(cp_M aM, sM)]) H := hP
        have hD : va_D A (jx_ws cI cT [(cp_M aM, sM)]) := hD
        refine jx_iconst C dX8_nearest_214 ?_
        refine jx_ceq C h.1 (jx_inR (by decide) (by decide)) (tgt := 245) dX8_nearest_215 (by decide) (fun hc => ?_) (fun hc => ?_)
        · have h := h.2.1 hc
          exact J245 l8 l7 h _ _ hP hD hS ls (lv_sub hl [0, 1, 2, 3, 4, 5, 7] rfl)
        · have h := h.2.2 hc
          refine lv_aload_n hx hb dX8_nearest_218 rfl (lv_at hl 0 rfl) ?_
          refine lv_iload hx hb dX8_nearest_219 (lv_at hl 7 rfl) ?_
          refine jx_callVI C hK hP hD hS hA (ct_M_manyOf l D cI cT aM _ sM l8 h) ms_X8_manyOf lk_X8_85 [0] rfl rfl (fun _ => rfl) (cs' := (fun _ => [(cp_M aM, sM)])) (fun _ => rfl) (fun _ => rfl) 0 0 rfl rfl rfl rfl rfl hl.1 rfl rfl dX8_nearest_221 ⟨Nat.le_refl _, Nat.le_refl _⟩ (fun r221 _ H locs h hP hD hS => ?_)
          have hP : va_P D vwCl (jx_ws cI cT [(cp_M aM, sM)]) H := hP
          have hD : va_D A (jx_ws cI cT [(cp_M aM, sM)]) := hD
          refine jx_zle C h.1 (tgt := 245) dX8_nearest_224 (by decide) (fun hc => ?_) (fun hc => ?_)
          · have h := h.2.1 hc
            exact J245 l8 l7 h _ _ hP hD hS ls (lv_sub hl [0, 1, 2, 3, 4, 5, 7] rfl)
          · have h := h.2.2 hc
            refine lv_aload_n hx hb dX8_nearest_227 rfl (lv_at hl 0 rfl) ?_
            refine lv_iload hx hb dX8_nearest_228 (lv_at hl 7 rfl) ?_
            refine jx_iconst C dX8_nearest_230 ?_
            refine lv_iload_n hx hb dX8_nearest_231 rfl (lv_at hl 1 rfl) ?_
            refine lv_iload_n hx hb dX8_nearest_232 rfl (lv_at hl 2 rfl) ?_
            refine jx_callVI C hK hP hD hS hA (ct_M_distance l D cI cT aM _ sM l8 1 l1 l2 h) ms_X8_distance lk_X8_232 [0] rfl rfl (fun _ => rfl) (cs' := (fun _ => [(cp_M aM, sM)])) (fun _ => rfl) (fun _ => rfl) 0 0 rfl rfl rfl rfl rfl hl.1 rfl rfl dX8_nearest_233 ⟨Nat.le_refl _, Nat.le_refl _⟩ (fun r233 _ H locs h hP hD hS => ?_)
            have hP : va_P D vwCl (jx_ws cI cT [(cp_M aM, sM)]) H := hP
            have hD : va_D A (jx_ws cI cT [(cp_M aM, sM)]) := hD
            refine lv_iload hx hb dX8_nearest_236 (lv_at hl 5 rfl) ?_
            refine jx_cgt C h.1 h.2.1 (tgt := 245) dX8_nearest_238 (by decide) (fun hc => ?_) (fun hc => ?_)
            · have h := h.2.2.2 hc
              exact J245 l8 l7 h _ _ hP hD hS ls (lv_sub hl [0, 1, 2, 3, 4, 5, 7] rfl)
            · have h := h.2.2.1 hc
              refine jx_iconst C dX8_nearest_241 ?_
              refine lv_goto (tgt := 246) hx hb dX8_nearest_242 (by decide) ?_
              exact J246 l8 l7 1 h _ _ hP hD hS ls (lv_sub hl [0, 1, 2, 3, 4, 5, 7] rfl)
  have J255 : ∀ (sM : jx_St) (l5 : Int) (l6 : Int) (l7 : Int), wp_M_nearest_255 Q l1 l2 l3 l4 sM l5 l6 l7 → ∀ (H : Heap) (locs : List Loc), va_P D vwCl (jx_ws cI cT [(cp_M aM, sM)]) H → va_D A (jx_ws cI cT [(cp_M aM, sM)]) → va_S A s.heap H locs → ∀ ls : Array Slot, lv_has ls 10 [(4, .int (jx_i l4)), (5, .int (jx_i l5)), (6, .int (jx_i l6)), (7, .int (jx_i l7))] → W p l e (jx_rm 3 72) s m args below meth c H locs 0 0 QQ (F0 m 255 ls []) := by
    intro sM l5 l6 l7 h H locs hP hD hS ls hl
    unfold wp_M_nearest_255 at h
    refine lv_iload hx hb dX8_nearest_255 (lv_at hl 0 rfl) ?_
    refine jx_zne C h.1 (tgt := 265) dX8_nearest_257 (by decide) (fun hc => ?_) (fun hc => ?_)
    · have h := h.2.2 hc
      refine lv_iload hx hb dX8_nearest_265 (lv_at hl 0 rfl) ?_
      refine jx_iconst C dX8_nearest_267 ?_
      refine jx_cne C h.1 (jx_inR (by decide) (by decide)) (tgt := 276) dX8_nearest_268 (by decide) (fun hc => ?_) (fun hc => ?_)
      · have h := h.2.2 hc
        refine lv_iload hx hb dX8_nearest_276 (lv_at hl 3 rfl) ?_
        exact jx_rI C hr hlk hAe hS hQQ sM hP h dX8_nearest_278
      · have h := h.2.1 hc
        refine lv_iload hx hb dX8_nearest_271 (lv_at hl 2 rfl) ?_
        refine lv_goto (tgt := 278) hx hb dX8_nearest_273 (by decide) ?_
        exact jx_rI C hr hlk hAe hS hQQ sM hP h dX8_nearest_278
    · have h := h.2.1 hc
      refine lv_iload hx hb dX8_nearest_260 (lv_at hl 1 rfl) ?_
      refine lv_goto (tgt := 278) hx hb dX8_nearest_262 (by decide) ?_
      exact jx_rI C hr hlk hAe hS hQQ sM hP h dX8_nearest_278
  have J169 : ∀ (sM : jx_St) (l5 : Int), wp_M_nearest_169 Q l1 l2 l3 l4 sM l5 → ∀ (H : Heap) (locs : List Loc), va_P D vwCl (jx_ws cI cT [(cp_M aM, sM)]) H → va_D A (jx_ws cI cT [(cp_M aM, sM)]) → va_S A s.heap H locs → ∀ ls : Array Slot, lv_has ls 10 [(0, .ref (aM 0)), (1, .int (jx_i l1)), (2, .int (jx_i l2)), (4, .int (jx_i l4)), (5, .int (jx_i l5))] → W p l e (jx_rm 3 72) s m args below meth c H locs 0 0 QQ (F0 m 169 ls []) := by
    intro sM l5 h H locs hP hD hS ls hl
    unfold wp_M_nearest_169 at h
    refine lv_iload hx hb dX8_nearest_169 (lv_at hl 4 rfl) ?_
    refine jx_iconst C dX8_nearest_171 ?_
    refine jx_cne C h.1 (jx_inR (by decide) (by decide)) (tgt := 178) dX8_nearest_172 (by decide) (fun hc => ?_) (fun hc => ?_)
    · have h := h.2.2 hc
      refine lv_aload_n hx hb dX8_nearest_178 rfl (lv_at hl 0 rfl) ?_
      refine lv_iload hx hb dX8_nearest_179 (lv_at hl 4 rfl) ?_
      refine jx_iconst C dX8_nearest_181 ?_
      refine lv_iload_n hx hb dX8_nearest_182 rfl (lv_at hl 1 rfl) ?_
      refine lv_iload_n hx hb dX8_nearest_183 rfl (lv_at hl 2 rfl) ?_
      refine jx_callVI C hK hP hD hS hA (ct_M_distance l D cI cT aM _ sM l5 0 l1 l2 h) ms_X8_distance lk_X8_232 [0] rfl rfl (fun _ => rfl) (cs' := (fun _ => [(cp_M aM, sM)])) (fun _ => rfl) (fun _ => rfl) 0 0 rfl rfl rfl rfl rfl hl.1 rfl rfl dX8_nearest_184 ⟨Nat.le_refl _, Nat.le_refl _⟩ (fun r184 _ H locs h hP hD hS => ?_)
      have hP : va_P D vwCl (jx_ws cI cT [(cp_M aM, sM)]) H := hP
      have hD : va_D A (jx_ws cI cT [(cp_M aM, sM)]) := hD
      refine lv_istore (lv' := [(6, .int (jx_i r184)), (0, .ref (aM 0)), (1, .int (jx_i l1)), (2, .int (jx_i l2)), (4, .int (jx_i l4)), (5, .int (jx_i l5))]) hx hb dX8_nearest_187 hl (by decide) rfl (fun ls hl => ?_)
      refine lv_aload_n hx hb dX8_nearest_189 rfl (lv_at hl 1 rfl) ?_
      refine jx_callVV C hK hP hD hS hA (ct_M_lay l D cI cT aM _ sM  h) ms_X8_lay lk_X8_126 [0] rfl rfl (fun _ => rfl) (cs' := (fun u => [(cp_M aM, u)])) (fun _ => rfl) (fun _ => rfl) 0 0 rfl rfl rfl rfl rfl hl.1 rfl rfl dX8_nearest_190 ⟨Nat.le_refl _, Nat.le_refl _⟩ (fun sM_190 H locs h hP hD hS => ?_)
      have hP : va_P D vwCl (jx_ws cI cT [(cp_M aM, sM_190)]) H := hP
      have hD : va_D A (jx_ws cI cT [(cp_M aM, sM_190)]) := hD
      refine jx_iconst C dX8_nearest_193 ?_
      refine lv_istore (lv' := [(7, .int (jx_i 0)), (6, .int (jx_i r184)), (0, .ref (aM 0)), (1, .int (jx_i l1)), (2, .int (jx_i l2)), (4, .int (jx_i l4)), (5, .int (jx_i l5))]) hx hb dX8_nearest_194 hl (by decide) rfl (fun ls hl => ?_)
      refine jx_iconst C dX8_nearest_196 ?_
      refine lv_istore (lv' := [(8, .int (jx_i 0)), (7, .int (jx_i 0)), (6, .int (jx_i r184)), (0, .ref (aM 0)), (1, .int (jx_i l1)), (2, .int (jx_i l2)), (4, .int (jx_i l4)), (5, .int (jx_i l5))]) hx hb dX8_nearest_197 hl (by decide) rfl (fun ls hl => ?_)
      obtain ⟨n, h⟩ := h
      refine Lo199 sM_190 l5 r184 _ n 0 0 h ?_ _ _ hP hD hS ls (lv_sub hl [3, 4, 5, 6, 7, 2, 1, 0] rfl)
      · intro l7 h H locs hP hD hS ls hl
        exact J255 sM_190 l5 r184 l7 h _ _ hP hD hS ls (lv_sub hl [0, 1, 2, 3] rfl)
    · have h := h.2.1 hc
      refine jx_ldc C (-1000004) kc_X8_221 dX8_nearest_175 ?_
      exact jx_rI C hr hlk hAe hS hQQ sM hP h dX8_nearest_177
  refine lv_iload_n hx hb dX8_nearest_0 rfl (lv_at hl 1 rfl) ?_
  refine jx_iconst C dX8_nearest_1 ?_
  refine jx_bipush C dX8_nearest_2 (by decide) ?_
  refine jx_callSI C hK hP hD hS hA (ct_M_in l D cI cT  _  l1 0 99 h) ms_X8_in lk_X8_180 [] rfl rfl (fun _ => rfl) (cs' := (fun _ => [(cp_M aM, sM)])) (fun _ => rfl) (fun _ => rfl) rfl rfl hl.1 rfl rfl dX8_nearest_4 ⟨Nat.le_refl _, Nat.le_refl _⟩ (fun r4 _ H locs h hP hD hS => ?_)
  have hP : va_P D vwCl (jx_ws cI cT [(cp_M aM, sM)]) H := hP
  have hD : va_D A (jx_ws cI cT [(cp_M aM, sM)]) := hD
  refine jx_zeq C h.1 (tgt := 34) dX8_nearest_7 (by decide) (fun hc => ?_) (fun hc => ?_)
  · have h := h.2.1 hc
    refine jx_ldc C (-1000001) kc_X8_192 dX8_nearest_34 ?_
    exact jx_rI C hr hlk hAe hS hQQ sM hP h dX8_nearest_36
  · have h := h.2.2 hc
    refine lv_iload_n hx hb dX8_nearest_10 rfl (lv_at hl 2 rfl) ?_
    refine jx_iconst C dX8_nearest_11 ?_
    refine jx_bipush C dX8_nearest_12 (by decide) ?_
    refine jx_callSI C hK hP hD hS hA (ct_M_in l D cI cT  _  l2 0 99 h) ms_X8_in lk_X8_180 [] rfl rfl (fun _ => rfl) (cs' := (fun _ => [(cp_M aM, sM)])) (fun _ => rfl) (fun _ => rfl) rfl rfl hl.1 rfl rfl dX8_nearest_14 ⟨Nat.le_refl _, Nat.le_refl _⟩ (fun r14 _ H locs h hP hD hS => ?_)
    have hP : va_P D vwCl (jx_ws cI cT [(cp_M aM, sM)]) H := hP
    have hD : va_D A (jx_ws cI cT [(cp_M aM, sM)]) := hD
    refine jx_zeq C h.1 (tgt := 34) dX8_nearest_17 (by decide) (fun hc => ?_) (fun hc => ?_)
    · have h := h.2.1 hc
      refine jx_ldc C (-1000001) kc_X8_192 dX8_nearest_34 ?_
      exact jx_rI C hr hlk hAe hS hQQ sM hP h dX8_nearest_36
    · have h := h.2.2 hc
      refine lv_iload_n hx hb dX8_nearest_20 rfl (lv_at hl 3 rfl) ?_
      refine jx_zlt C h.1 (tgt := 34) dX8_nearest_21 (by decide) (fun hc => ?_) (fun hc => ?_)
      · have h := h.2.1 hc
        refine jx_ldc C (-1000001) kc_X8_192 dX8_nearest_34 ?_
        exact jx_rI C hr hlk hAe hS hQQ sM hP h dX8_nearest_36
      · have h := h.2.2 hc
        refine lv_iload hx hb dX8_nearest_24 (lv_at hl 4 rfl) ?_
        refine jx_iconst C dX8_nearest_26 ?_
        refine jx_iconst C dX8_nearest_27 ?_
        refine jx_callSI C hK hP hD hS hA (ct_M_in l D cI cT  _  l4 0 2 h) ms_X8_in lk_X8_180 [] rfl rfl (fun _ => rfl) (cs' := (fun _ => [(cp_M aM, sM)])) (fun _ => rfl) (fun _ => rfl) rfl rfl hl.1 rfl rfl dX8_nearest_28 ⟨Nat.le_refl _, Nat.le_refl _⟩ (fun r28 _ H locs h hP hD hS => ?_)
        have hP : va_P D vwCl (jx_ws cI cT [(cp_M aM, sM)]) H := hP
        have hD : va_D A (jx_ws cI cT [(cp_M aM, sM)]) := hD
        refine jx_zne C h.1 (tgt := 37) dX8_nearest_31 (by decide) (fun hc => ?_) (fun hc => ?_)
        · have h := h.2.2 hc
          refine jx_iconst C dX8_nearest_37 ?_
          refine lv_istore (lv' := [(5, .int (jx_i (-1))), (0, .ref (aM 0)), (1, .int (jx_i l1)), (2, .int (jx_i l2)), (3, .int (jx_i l3)), (4, .int (jx_i l4))]) hx hb dX8_nearest_38 hl (by decide) rfl (fun ls hl => ?_)
          refine jx_iconst C dX8_nearest_40 ?_
          refine lv_istore (lv' := [(6, .int (jx_i 0)), (5, .int (jx_i (-1))), (0, .ref (aM 0)), (1, .int (jx_i l1)), (2, .int (jx_i l2)), (3, .int (jx_i l3)), (4, .int (jx_i l4))]) hx hb dX8_nearest_41 hl (by decide) rfl (fun ls hl => ?_)
          obtain ⟨n, h⟩ := h
          refine Lo43 sM _ n (-1) 0 h ?_ _ _ hP hD hS ls (lv_sub hl [2, 3, 4, 5, 6, 1, 0] rfl)
          · intro l5 h H locs hP hD hS ls hl
            exact J169 sM l5 h _ _ hP hD hS ls (lv_sub hl [0, 1, 2, 3, 4] rfl)
        · have h := h.2.1 hc
          refine jx_ldc C (-1000001) kc_X8_192 dX8_nearest_34 ?_
          exact jx_rI C hr hlk hAe hS hQQ sM hP h dX8_nearest_36
set_option maxRecDepth 100000 in
set_option maxHeartbeats 4000000 in
theorem ct_M_nodeOf (l : Launch) (D : va_G) (cI cT : ClassId) (aM : Nat → Nat) (Q : Int → jx_St → Prop) (sM : jx_St) (l1 : Int) (l2 : Int) (l3 : Int) (h : wp_M_nodeOf Q sM l1 l2 l3) : jx_KI jx_St l D cI cT yX8_nodeOf cX8_nodeOf 8 .int 3 72 [.ref (aM 0), .int (jx_i l1), .int (jx_i l2), .int (jx_i l3)] [(cp_M aM, sM)] (fun u => [(cp_M aM, u)]) Q := by
  refine jx_ent (own := RX8) (by decide) rfl (Nat.le_of_ble_eq_true rfl) ?_
  intro p e s m args below meth c A QQ C hr hlk hK hAe hA hP hD hS ls hl hQQ
  have hl : lv_has ls 8 [(0, .ref (aM 0)), (1, .int (jx_i l1)), (2, .int (jx_i l2)), (3, .int (jx_i l3))] := hl
  have hx := C.1
  have hb := C.2.1
  unfold wp_M_nodeOf at h
  have Lo124 : ∀ (sM : jx_St) (l4 : Int) (l5 : Int) (n : Nat) (l6 : Int) (l7 : Int), jx_it (fun B124 v => wp_M_nodeOf_124 Q l1 l2 l3 sM l4 l5 B124 v.1 v.2) n (l6, l7) → ∀ (H : Heap) (locs : List Loc), va_P D vwCl (jx_ws cI cT [(cp_M aM, sM)]) H → va_D A (jx_ws cI cT [(cp_M aM, sM)]) → va_S A s.heap H locs → ∀ ls : Array Slot, lv_has ls 8 [(0, .ref (aM 0)), (4, .int (jx_i l4)), (5, .int (jx_i l5)), (6, .int (jx_i l6)), (7, .int (jx_i l7))] → W p l e (jx_rm 3 72) s m args below meth c H locs 0 0 QQ (F0 m 124 ls []) := by
    intro sM l4 l5 n
    induction n with
    | zero =>
      intro l6 l7 h
      exact (show False from h).elim
    | succ n ih =>
      intro l6 l7 h H locs hP hD hS ls hl
      have h : wp_M_nodeOf_124 Q l1 l2 l3 sM l4 l5 (jx_it (fun B124 v => wp_M_nodeOf_124 Q l1 l2 l3 sM l4 l5 B124 v.1 v.2) n) l6 l7 := h
      have ih := fun l6 l7 h => ih l6 l7 h
      generalize jx_it (fun B124 v => wp_M_nodeOf_124 Q l1 l2 l3 sM l4 l5 B124 v.1 v.2) n = B124 at h ih
      unfold wp_M_nodeOf_124 at h
      refine lv_iload hx hb dX8_nodeOf_124 (lv_at hl 4 rfl) ?_
      refine lv_iload hx hb dX8_nodeOf_126 (lv_at hl 2 rfl) ?_
      refine jx_cge C h.1 h.2.1 (tgt := 152) dX8_nodeOf_128 (by decide) (fun hc => ?_) (fun hc => ?_)
      · have h := h.2.2.2 hc
        refine lv_iload hx hb dX8_nodeOf_152 (lv_at hl 3 rfl) ?_
        exact jx_rI C hr hlk hAe hS hQQ sM hP h dX8_nodeOf_154
      · have h := h.2.2.1 hc
        refine lv_iload hx hb dX8_nodeOf_131 (lv_at hl 3 rfl) ?_
        refine jx_iconst C dX8_nodeOf_133 ?_
        refine lv_aload_n hx hb dX8_nodeOf_134 rfl (lv_at hl 0 rfl) ?_
        refine lv_iload hx hb dX8_nodeOf_135 (lv_at hl 1 rfl) ?_
        refine lv_iload hx hb dX8_nodeOf_137 (lv_at hl 4 rfl) ?_
        refine jx_callVI C hK hP hD hS hA (ct_M_thing l D cI cT aM _ sM l4 l7 h) ms_X8_thing lk_X8_88 [0] rfl rfl (fun _ => rfl) (cs' := (fun _ => [(cp_M aM, sM)])) (fun _ => rfl) (fun _ => rfl) 0 0 rfl rfl rfl rfl rfl hl.1 rfl rfl dX8_nodeOf_139 ⟨Nat.le_refl _, Nat.le_refl _⟩ (fun r139 _ H locs h hP hD hS => ?_)
        have hP : va_P D vwCl (jx_ws cI cT [(cp_M aM, sM)]) H := hP
        have hD : va_D A (jx_ws cI cT [(cp_M aM, sM)]) := hD
        refine jx_ishl C dX8_nodeOf_142 ?_
        refine jx_ior C dX8_nodeOf_143 ?_
        refine lv_istore (lv' := [(6, .int (jx_i (jx_or l6 (jx_shl 1 r139)))), (0, .ref (aM 0)), (4, .int (jx_i l4)), (5, .int (jx_i l5)), (7, .int (jx_i l7))]) hx hb dX8_nodeOf_144 hl (by decide) rfl (fun ls hl => ?_)
        refine jx_iinc C (lv' := [(7, .int (jx_i (l7 + 1))), (6, .int (jx_i (jx_or l6 (jx_shl 1 r139)))), (0, .ref (aM 0)), (4, .int (jx_i l4)), (5, .int (jx_i l5))]) dX8_nodeOf_146 hl (k := 4) rfl (by decide) rfl (fun ls hl => ?_)
        refine lv_goto (tgt := 124) hx hb dX8_nodeOf_149 (by decide) ?_
        exact ih (jx_or l6 (jx_shl 1 r139)) (l7 + 1) h _ _ hP hD hS ls (lv_sub hl [2, 3, 4, 1, 0] rfl)
  refine lv_iload_n hx hb dX8_nodeOf_0 rfl (lv_at hl 1 rfl) ?_
  refine jx_zlt C h.1 (tgt := 17) dX8_nodeOf_1 (by decide) (fun hc => ?_) (fun hc => ?_)
  · have h := h.2.1 hc
    refine jx_ldc C (-1000001) kc_X8_192 dX8_nodeOf_17 ?_
    exact jx_rI C hr hlk hAe hS hQQ sM hP h dX8_nodeOf_19
  · have h := h.2.2 hc
    refine lv_iload_n hx hb dX8_nodeOf_4 rfl (lv_at hl 2 rfl) ?_
    refine jx_zlt C h.1 (tgt := 17) dX8_nodeOf_5 (by decide) (fun hc => ?_) (fun hc => ?_)
    · have h := h.2.1 hc
      refine jx_ldc C (-1000001) kc_X8_192 dX8_nodeOf_17 ?_
      exact jx_rI C hr hlk hAe hS hQQ sM hP h dX8_nodeOf_19
    · have h := h.2.2 hc
      refine lv_iload_n hx hb dX8_nodeOf_8 rfl (lv_at hl 3 rfl) ?_
      refine jx_iconst C dX8_nodeOf_9 ?_
      refine jx_iconst C dX8_nodeOf_10 ?_
      refine jx_callSI C hK hP hD hS hA (ct_M_in l D cI cT  _  l3 0 5 h) ms_X8_in lk_X8_180 [] rfl rfl (fun _ => rfl) (cs' := (fun _ => [(cp_M aM, sM)])) (fun _ => rfl) (fun _ => rfl) rfl rfl hl.1 rfl rfl dX8_nodeOf_11 ⟨Nat.le_refl _, Nat.le_refl _⟩ (fun r11 _ H locs h hP hD hS => ?_)
      have hP : va_P D vwCl (jx_ws cI cT [(cp_M aM, sM)]) H := hP
      have hD : va_D A (jx_ws cI cT [(cp_M aM, sM)]) := hD
      refine jx_zne C h.1 (tgt := 20) dX8_nodeOf_14 (by decide) (fun hc => ?_) (fun hc => ?_)
      · have h := h.2.2 hc
        refine lv_iload_n hx hb dX8_nodeOf_20 rfl (lv_at hl 1 rfl) ?_
        refine lv_aload_n hx hb dX8_nodeOf_21 rfl (lv_at hl 0 rfl) ?_
        refine jx_callVI C hK hP hD hS hA (ct_M_levels l D cI cT aM _ sM  h) ms_X8_levels lk_X8_209 [0] rfl rfl (fun _ => rfl) (cs' := (fun _ => [(cp_M aM, sM)])) (fun _ => rfl) (fun _ => rfl) 0 0 rfl rfl rfl rfl rfl hl.1 rfl rfl dX8_nodeOf_22 ⟨Nat.le_refl _, Nat.le_refl _⟩ (fun r22 _ H locs h hP hD hS => ?_)
        have hP : va_P D vwCl (jx_ws cI cT [(cp_M aM, sM)]) H := hP
        have hD : va_D A (jx_ws cI cT [(cp_M aM, sM)]) := hD
        refine jx_clt C h.1 h.2.1 (tgt := 31) dX8_nodeOf_25 (by decide) (fun hc => ?_) (fun hc => ?_)
        · have h := h.2.2.1 hc
          refine lv_aload_n hx hb dX8_nodeOf_31 rfl (lv_at hl 0 rfl) ?_
          refine lv_iload_n hx hb dX8_nodeOf_32 rfl (lv_at hl 1 rfl) ?_
          refine jx_callVV C hK hP hD hS hA (ct_M_layRow l D cI cT aM _ sM l1 h) ms_X8_layRow lk_X8_218 [0] rfl rfl (fun _ => rfl) (cs' := (fun u => [(cp_M aM, u)])) (fun _ => rfl) (fun _ => rfl) 0 0 rfl rfl rfl rfl rfl hl.1 rfl rfl dX8_nodeOf_33 ⟨Nat.le_refl _, Nat.le_refl _⟩ (fun sM_33 H locs h hP hD hS => ?_)
          have hP : va_P D vwCl (jx_ws cI cT [(cp_M aM, sM_33)]) H := hP
          have hD : va_D A (jx_ws cI cT [(cp_M aM, sM_33)]) := hD
          refine lv_iload_n hx hb dX8_nodeOf_36 rfl (lv_at hl 2 rfl) ?_
          refine lv_aload_n hx hb dX8_nodeOf_37 rfl (lv_at hl 0 rfl) ?_
          refine jx_getI C hK hP 0 0 27 rfl rfl rfl fl_X8_215 dX8_nodeOf_38 ?_
          refine jx_clt C h.1 h.2.1 (tgt := 47) dX8_nodeOf_41 (by decide) (fun hc => ?_) (fun hc => ?_)
          · have h := h.2.2.1 hc
            refine lv_aload_n hx hb dX8_nodeOf_47 rfl (lv_at hl 0 rfl) ?_
            refine jx_getR C hK hP 0 0 25 rfl rfl rfl fl_X8_64 dX8_nodeOf_48 ?_
            refine lv_iload_n hx hb dX8_nodeOf_51 rfl (lv_at hl 2 rfl) ?_
            refine jx_iald C hK hP 0 19 rfl rfl rfl h.1 dX8_nodeOf_52 ?_
            have h := h.2
            refine lv_istore (lv' := [(4, .int (jx_i (sM_33 25 l2))), (0, .ref (aM 0)), (1, .int (jx_i l1)), (2, .int (jx_i l2)), (3, .int (jx_i l3))]) hx hb dX8_nodeOf_53 hl (by decide) rfl (fun ls hl => ?_)
            refine lv_aload_n hx hb dX8_nodeOf_55 rfl (lv_at hl 1 rfl) ?_
            refine lv_iload hx hb dX8_nodeOf_56 (lv_at hl 0 rfl) ?_
            refine jx_callVI C hK hP hD hS hA (ct_M_manyOf l D cI cT aM _ sM_33 (sM_33 25 l2) h) ms_X8_manyOf lk_X8_85 [0] rfl rfl (fun _ => rfl) (cs' := (fun _ => [(cp_M aM, sM_33)])) (fun _ => rfl) (fun _ => rfl) 0 0 rfl rfl rfl rfl rfl hl.1 rfl rfl dX8_nodeOf_58 ⟨Nat.le_refl _, Nat.le_refl _⟩ (fun r58 _ H locs h hP hD hS => ?_)
            have hP : va_P D vwCl (jx_ws cI cT [(cp_M aM, sM_33)]) H := hP
            have hD : va_D A (jx_ws cI cT [(cp_M aM, sM_33)]) := hD
            refine lv_istore (lv' := [(5, .int (jx_i r58)), (4, .int (jx_i (sM_33 25 l2))), (0, .ref (aM 0)), (1, .int (jx_i l1)), (2, .int (jx_i l2)), (3, .int (jx_i l3))]) hx hb dX8_nodeOf_61 hl (by decide) rfl (fun ls hl => ?_)
            refine lv_iload_n hx hb dX8_nodeOf_63 rfl (lv_at hl 5 rfl) ?_
            refine jx_iconst C dX8_nodeOf_64 ?_
            refine jx_cge C h.1 (jx_inR (by decide) (by decide)) (tgt := 94) dX8_nodeOf_65 (by decide) (fun hc => ?_) (fun hc => ?_)
            · have h := h.2.2 hc
              refine lv_iload_n hx hb dX8_nodeOf_94 rfl (lv_at hl 5 rfl) ?_
              refine jx_iconst C dX8_nodeOf_95 ?_
              refine jx_cne C h.1 (jx_inR (by decide) (by decide)) (tgt := 102) dX8_nodeOf_96 (by decide) (fun hc => ?_) (fun hc => ?_)
              · have h := h.2.2 hc
                refine lv_iload_n hx hb dX8_nodeOf_102 rfl (lv_at hl 3 rfl) ?_
                refine jx_zle C h.1 (tgt := 118) dX8_nodeOf_103 (by decide) (fun hc => ?_) (fun hc => ?_)
                · have h := h.2.1 hc
                  refine jx_iconst C dX8_nodeOf_118 ?_
                  refine lv_istore (lv' := [(6, .int (jx_i 0)), (5, .int (jx_i r58)), (4, .int (jx_i (sM_33 25 l2))), (0, .ref (aM 0)), (1, .int (jx_i l1)), (2, .int (jx_i l2)), (3, .int (jx_i l3))]) hx hb dX8_nodeOf_119 hl (by decide) rfl (fun ls hl => ?_)
                  refine jx_iconst C dX8_nodeOf_121 ?_
                  refine lv_istore (lv' := [(7, .int (jx_i 0)), (6, .int (jx_i 0)), (5, .int (jx_i r58)), (4, .int (jx_i (sM_33 25 l2))), (0, .ref (aM 0)), (1, .int (jx_i l1)), (2, .int (jx_i l2)), (3, .int (jx_i l3))]) hx hb dX8_nodeOf_122 hl (by decide) rfl (fun ls hl => ?_)
                  obtain ⟨n, h⟩ := h
                  refine Lo124 sM_33 (sM_33 25 l2) r58 n 0 0 h _ _ hP hD hS ls (lv_sub hl [4, 3, 2, 1, 0] rfl)
                · have h := h.2.2 hc
                  refine lv_aload_n hx hb dX8_nodeOf_106 rfl (lv_at hl 2 rfl) ?_
                  refine lv_aload_n hx hb dX8_nodeOf_107 rfl (lv_at hl 2 rfl) ?_
                  refine lv_iload hx hb dX8_nodeOf_108 (lv_at hl 1 rfl) ?_
                  refine jx_iconst C dX8_nodeOf_110 ?_
                  refine jx_callVI C hK hP hD hS hA (ct_M_thing l D cI cT aM _ sM_33 (sM_33 25 l2) 0 h) ms_X8_thing lk_X8_88 [0] rfl rfl (fun _ => rfl) (cs' := (fun _ => [(cp_M aM, sM_33)])) (fun _ => rfl) (fun _ => rfl) 0 0 rfl rfl rfl rfl rfl hl.1 rfl rfl dX8_nodeOf_111 ⟨Nat.le_refl _, Nat.le_refl _⟩ (fun r111 _ H locs h hP hD hS => ?_)
                  have hP : va_P D vwCl (jx_ws cI cT [(cp_M aM, sM_33)]) H := hP
                  have hD : va_D A (jx_ws cI cT [(cp_M aM, sM_33)]) := hD
                  refine jx_callVI C hK hP hD hS hA (ct_M_placeOf l D cI cT aM _ sM_33 r111 h) ms_X8_placeOf lk_X8_222 [0] rfl rfl (fun _ => rfl) (cs' := (fun u => [(cp_M aM, u)])) (fun _ => rfl) (fun _ => rfl) 0 0 rfl rfl rfl rfl rfl hl.1 rfl rfl dX8_nodeOf_114 ⟨Nat.le_refl _, Nat.le_refl _⟩ (fun r114 sM_114 H locs h hP hD hS => ?_)
                  have hP : va_P D vwCl (jx_ws cI cT [(cp_M aM, sM_114)]) H := hP
                  have hD : va_D A (jx_ws cI cT [(cp_M aM, sM_114)]) := hD
                  exact jx_rI C hr hlk hAe hS hQQ sM_114 hP h dX8_nodeOf_117
              · have h := h.2.1 hc
                refine lv_iload hx hb dX8_nodeOf_99 (lv_at hl 0 rfl) ?_
                exact jx_rI C hr hlk hAe hS hQQ sM_33 hP h dX8_nodeOf_101
            · have h := h.2.1 hc
              refine lv_aload_n hx hb dX8_nodeOf_68 rfl (lv_at hl 2 rfl) ?_
              refine jx_callVV C hK hP hD hS hA (ct_M_lay l D cI cT aM _ sM_33  h) ms_X8_lay lk_X8_126 [0] rfl rfl (fun _ => rfl) (cs' := (fun u => [(cp_M aM, u)])) (fun _ => rfl) (fun _ => rfl) 0 0 rfl rfl rfl rfl rfl hl.1 rfl rfl dX8_nodeOf_69 ⟨Nat.le_refl _, Nat.le_refl _⟩ (fun sM_69 H locs h hP hD hS => ?_)
              have hP : va_P D vwCl (jx_ws cI cT [(cp_M aM, sM_69)]) H := hP
              have hD : va_D A (jx_ws cI cT [(cp_M aM, sM_69)]) := hD
              refine lv_iload hx hb dX8_nodeOf_72 (lv_at hl 0 rfl) ?_
              refine jx_zne C h.1 (tgt := 82) dX8_nodeOf_74 (by decide) (fun hc => ?_) (fun hc => ?_)
              · have h := h.2.2 hc
                refine lv_aload_n hx hb dX8_nodeOf_82 rfl (lv_at hl 2 rfl) ?_
                refine jx_getR C hK hP 0 0 7 rfl rfl rfl fl_X8_22 dX8_nodeOf_83 ?_
                refine jx_iconst C dX8_nodeOf_86 ?_
                refine lv_iload hx hb dX8_nodeOf_87 (lv_at hl 1 rfl) ?_
                refine jx_imul C dX8_nodeOf_89 ?_
                refine lv_iload_n hx hb dX8_nodeOf_90 rfl (lv_at hl 5 rfl) ?_
                refine jx_iadd C dX8_nodeOf_91 ?_
                refine jx_iald C hK hP 0 5 rfl rfl rfl h.1 dX8_nodeOf_92 ?_
                have h := h.2
                exact jx_rI C hr hlk hAe hS hQQ sM_69 hP h dX8_nodeOf_93
              · have h := h.2.1 hc
                refine jx_ldc C (-1000004) kc_X8_221 dX8_nodeOf_77 ?_
                refine lv_goto (tgt := 93) hx hb dX8_nodeOf_79 (by decide) ?_
                exact jx_rI C hr hlk hAe hS hQQ sM_69 hP h dX8_nodeOf_93
          · have h := h.2.2.2 hc
            refine jx_ldc C (-1000004) kc_X8_221 dX8_nodeOf_44 ?_
            exact jx_rI C hr hlk hAe hS hQQ sM_33 hP h dX8_nodeOf_46
        · have h := h.2.2.2 hc
          refine jx_ldc C (-1000004) kc_X8_221 dX8_nodeOf_28 ?_
          exact jx_rI C hr hlk hAe hS hQQ sM hP h dX8_nodeOf_30
      · have h := h.2.1 hc
        refine jx_ldc C (-1000001) kc_X8_192 dX8_nodeOf_17 ?_
        exact jx_rI C hr hlk hAe hS hQQ sM hP h dX8_nodeOf_19
set_option maxRecDepth 100000 in
set_option maxHeartbeats 4000000 in
theorem ct_M_overlap (l : Launch) (D : va_G) (cI cT : ClassId) (aM : Nat → Nat) (Q : Int → jx_St → Prop) (sM : jx_St) (l1 : Int) (l2 : Int) (h : wp_M_overlap Q sM l1 l2) : jx_KI jx_St l D cI cT yX8_overlap cX8_overlap 3 .int 2 47 [.ref (aM 0), .int (jx_i l1), .int (jx_i l2)] [(cp_M aM, sM)] (fun u => [(cp_M aM, u)]) Q := by
  refine jx_ent (own := RX8) (by decide) rfl (Nat.le_of_ble_eq_true rfl) ?_
  intro p e s m args below meth c A QQ C hr hlk hK hAe hA hP hD hS ls hl hQQ
  have hl : lv_has ls 3 [(0, .ref (aM 0)), (1, .int (jx_i l1)), (2, .int (jx_i l2))] := hl
  have hx := C.1
  have hb := C.2.1
  unfold wp_M_overlap at h
  refine lv_iload_n hx hb dX8_overlap_0 rfl (lv_at hl 1 rfl) ?_
  refine jx_callSI C hK hP hD hS hA (ct_M_isBox l D cI cT  _  l1 h) ms_X8_isBox lk_X8_184 [] rfl rfl (fun _ => rfl) (cs' := (fun _ => [(cp_M aM, sM)])) (fun _ => rfl) (fun _ => rfl) rfl rfl hl.1 rfl rfl dX8_overlap_1 ⟨Nat.le_refl _, Nat.le_refl _⟩ (fun r1 _ H locs h hP hD hS => ?_)
  have hP : va_P D vwCl (jx_ws cI cT [(cp_M aM, sM)]) H := hP
  have hD : va_D A (jx_ws cI cT [(cp_M aM, sM)]) := hD
  refine jx_zeq C h.1 (tgt := 14) dX8_overlap_4 (by decide) (fun hc => ?_) (fun hc => ?_)
  · have h := h.2.1 hc
    refine jx_ldc C (-1000001) kc_X8_192 dX8_overlap_14 ?_
    exact jx_rI C hr hlk hAe hS hQQ sM hP h dX8_overlap_16
  · have h := h.2.2 hc
    refine lv_iload_n hx hb dX8_overlap_7 rfl (lv_at hl 2 rfl) ?_
    refine jx_callSI C hK hP hD hS hA (ct_M_isBox l D cI cT  _  l2 h) ms_X8_isBox lk_X8_184 [] rfl rfl (fun _ => rfl) (cs' := (fun _ => [(cp_M aM, sM)])) (fun _ => rfl) (fun _ => rfl) rfl rfl hl.1 rfl rfl dX8_overlap_8 ⟨Nat.le_refl _, Nat.le_refl _⟩ (fun r8 _ H locs h hP hD hS => ?_)
    have hP : va_P D vwCl (jx_ws cI cT [(cp_M aM, sM)]) H := hP
    have hD : va_D A (jx_ws cI cT [(cp_M aM, sM)]) := hD
    refine jx_zne C h.1 (tgt := 17) dX8_overlap_11 (by decide) (fun hc => ?_) (fun hc => ?_)
    · have h := h.2.2 hc
      refine lv_aload_n hx hb dX8_overlap_17 rfl (lv_at hl 0 rfl) ?_
      refine lv_iload_n hx hb dX8_overlap_18 rfl (lv_at hl 1 rfl) ?_
      refine jx_callVI C hK hP hD hS hA (ct_M_isThere l D cI cT aM _ sM l1 h) ms_X8_isThere lk_X8_193 [0] rfl rfl (fun _ => rfl) (cs' := (fun _ => [(cp_M aM, sM)])) (fun _ => rfl) (fun _ => rfl) 0 0 rfl rfl rfl rfl rfl hl.1 rfl rfl dX8_overlap_19 ⟨Nat.le_refl _, Nat.le_refl _⟩ (fun r19 _ H locs h hP hD hS => ?_)
      have hP : va_P D vwCl (jx_ws cI cT [(cp_M aM, sM)]) H := hP
      have hD : va_D A (jx_ws cI cT [(cp_M aM, sM)]) := hD
      refine jx_zeq C h.1 (tgt := 33) dX8_overlap_22 (by decide) (fun hc => ?_) (fun hc => ?_)
      · have h := h.2.1 hc
        refine jx_ldc C (-1000004) kc_X8_221 dX8_overlap_33 ?_
        exact jx_rI C hr hlk hAe hS hQQ sM hP h dX8_overlap_35
      · have h := h.2.2 hc
        refine lv_aload_n hx hb dX8_overlap_25 rfl (lv_at hl 0 rfl) ?_
        refine lv_iload_n hx hb dX8_overlap_26 rfl (lv_at hl 2 rfl) ?_
        refine jx_callVI C hK hP hD hS hA (ct_M_isThere l D cI cT aM _ sM l2 h) ms_X8_isThere lk_X8_193 [0] rfl rfl (fun _ => rfl) (cs' := (fun _ => [(cp_M aM, sM)])) (fun _ => rfl) (fun _ => rfl) 0 0 rfl rfl rfl rfl rfl hl.1 rfl rfl dX8_overlap_27 ⟨Nat.le_refl _, Nat.le_refl _⟩ (fun r27 _ H locs h hP hD hS => ?_)
        have hP : va_P D vwCl (jx_ws cI cT [(cp_M aM, sM)]) H := hP
        have hD : va_D A (jx_ws cI cT [(cp_M aM, sM)]) := hD
        refine jx_zne C h.1 (tgt := 36) dX8_overlap_30 (by decide) (fun hc => ?_) (fun hc => ?_)
        · have h := h.2.2 hc
          refine lv_aload_n hx hb dX8_overlap_36 rfl (lv_at hl 0 rfl) ?_
          refine lv_aload_n hx hb dX8_overlap_37 rfl (lv_at hl 0 rfl) ?_
          refine jx_getR C hK hP 0 0 9 rfl rfl rfl fl_X8_28 dX8_overlap_38 ?_
          refine lv_iload_n hx hb dX8_overlap_41 rfl (lv_at hl 1 rfl) ?_
          refine jx_iconst C dX8_overlap_42 ?_
          refine jx_callVV C hK hP hD hS hA (ct_M_takes_one l D cI cT aM _ sM l1 0 h) ms_X8_takes lk_X8_112 [0] rfl rfl (fun _ => rfl) (cs' := (fun u => [(cp_M aM, u)])) (fun _ => rfl) (fun _ => rfl) 0 0 rfl rfl rfl rfl rfl hl.1 rfl rfl dX8_overlap_43 ⟨Nat.le_refl _, Nat.le_refl _⟩ (fun sM_43 H locs h hP hD hS => ?_)
          have hP : va_P D vwCl (jx_ws cI cT [(cp_M aM, sM_43)]) H := hP
          have hD : va_D A (jx_ws cI cT [(cp_M aM, sM_43)]) := hD
          refine lv_aload_n hx hb dX8_overlap_46 rfl (lv_at hl 0 rfl) ?_
          refine lv_aload_n hx hb dX8_overlap_47 rfl (lv_at hl 0 rfl) ?_
          refine jx_getR C hK hP 0 0 10 rfl rfl rfl fl_X8_31 dX8_overlap_48 ?_
          refine lv_iload_n hx hb dX8_overlap_51 rfl (lv_at hl 2 rfl) ?_
          refine jx_iconst C dX8_overlap_52 ?_
          refine jx_callVV C hK hP hD hS hA (ct_M_takes_two l D cI cT aM _ sM_43 l2 0 h) ms_X8_takes lk_X8_112 [0] rfl rfl (fun _ => rfl) (cs' := (fun u => [(cp_M aM, u)])) (fun _ => rfl) (fun _ => rfl) 0 0 rfl rfl rfl rfl rfl hl.1 rfl rfl dX8_overlap_53 ⟨Nat.le_refl _, Nat.le_refl _⟩ (fun sM_53 H locs h hP hD hS => ?_)
          have hP : va_P D vwCl (jx_ws cI cT [(cp_M aM, sM_53)]) H := hP
          have hD : va_D A (jx_ws cI cT [(cp_M aM, sM_53)]) := hD
          refine lv_aload_n hx hb dX8_overlap_56 rfl (lv_at hl 0 rfl) ?_
          refine jx_callVI C hK hP hD hS hA (ct_M_common l D cI cT aM _ sM_53  h) ms_X8_common lk_X8_148 [0] rfl rfl (fun _ => rfl) (cs' := (fun _ => [(cp_M aM, sM_53)])) (fun _ => rfl) (fun _ => rfl) 0 0 rfl rfl rfl rfl rfl hl.1 rfl rfl dX8_overlap_57 ⟨Nat.le_refl _, Nat.le_refl _⟩ (fun r57 _ H locs h hP hD hS => ?_)
          have hP : va_P D vwCl (jx_ws cI cT [(cp_M aM, sM_53)]) H := hP
          have hD : va_D A (jx_ws cI cT [(cp_M aM, sM_53)]) := hD
          exact jx_rI C hr hlk hAe hS hQQ sM_53 hP h dX8_overlap_60
        · have h := h.2.1 hc
          refine jx_ldc C (-1000004) kc_X8_221 dX8_overlap_33 ?_
          exact jx_rI C hr hlk hAe hS hQQ sM hP h dX8_overlap_35
    · have h := h.2.1 hc
      refine jx_ldc C (-1000001) kc_X8_192 dX8_overlap_14 ?_
      exact jx_rI C hr hlk hAe hS hQQ sM hP h dX8_overlap_16
set_option maxRecDepth 100000 in
set_option maxHeartbeats 4000000 in
theorem ct_M_overlapsOf (l : Launch) (D : va_G) (cI cT : ClassId) (aM : Nat → Nat) (Q : Int → jx_St → Prop) (sM : jx_St) (l1 : Int) (h : wp_M_overlapsOf Q sM l1) : jx_KI jx_St l D cI cT yX8_overlapsOf cX8_overlapsOf 5 .int 3 72 [.ref (aM 0), .int (jx_i l1)] [(cp_M aM, sM)] (fun u => [(cp_M aM, u)]) Q := by
  refine jx_ent (own := RX8) (by decide) rfl (Nat.le_of_ble_eq_true rfl) ?_
  intro p e s m args below meth c A QQ C hr hlk hK hAe hA hP hD hS ls hl hQQ
  have hl : lv_has ls 5 [(0, .ref (aM 0)), (1, .int (jx_i l1))] := hl
  have hx := C.1
  have hb := C.2.1
  unfold wp_M_overlapsOf at h
  have Lo13 : ∀ (n : Nat) (sM : jx_St) (l2 : Int) (l3 : Int), jx_it (fun B13 v => wp_M_overlapsOf_13 Q l1 B13 v.1 v.2.1 v.2.2) n (sM, l2, l3) → ∀ (H : Heap) (locs : List Loc), va_P D vwCl (jx_ws cI cT [(cp_M aM, sM)]) H → va_D A (jx_ws cI cT [(cp_M aM, sM)]) → va_S A s.heap H locs → ∀ ls : Array Slot, lv_has ls 5 [(0, .ref (aM 0)), (2, .int (jx_i l2)), (3, .int (jx_i l3))] → W p l e (jx_rm 3 72) s m args below meth c H locs 0 0 QQ (F0 m 13 ls []) := by
    intro n
    induction n with
    | zero =>
      intro sM l2 l3 h
      exact (show False from h).elim
    | succ n ih =>
      intro sM l2 l3 h H locs hP hD hS ls hl
      have h : wp_M_overlapsOf_13 Q l1 (jx_it (fun B13 v => wp_M_overlapsOf_13 Q l1 B13 v.1 v.2.1 v.2.2) n) sM l2 l3 := h
      have ih := fun sM l2 l3 h => ih sM l2 l3 h
      generalize jx_it (fun B13 v => wp_M_overlapsOf_13 Q l1 B13 v.1 v.2.1 v.2.2) n = B13 at h ih
      unfold wp_M_overlapsOf_13 at h
      have Lo24 : ∀ (l3 : Int) (K74 : jx_St × Int → Prop) (n : Nat) (sM : jx_St) (l2 : Int) (l4 : Int), jx_it (fun B24 v => wp_M_overlapsOf_24 Q l1 K74 l3 B24 v.1 v.2.1 v.2.2) n (sM, l2, l4) → (∀ (sM : jx_St) (l2 : Int), K74 (sM, l2) → ∀ (H : Heap) (locs : List Loc), va_P D vwCl (jx_ws cI cT [(cp_M aM, sM)]) H → va_D A (jx_ws cI cT [(cp_M aM, sM)]) → va_S A s.heap H locs → ∀ ls : Array Slot, lv_has ls 5 [(0, .ref (aM 0)), (2, .int (jx_i l2)), (3, .int (jx_i l3))] → W p l e (jx_rm 3 72) s m args below meth c H locs 0 0 QQ (F0 m 74 ls [])) → ∀ (H : Heap) (locs : List Loc), va_P D vwCl (jx_ws cI cT [(cp_M aM, sM)]) H → va_D A (jx_ws cI cT [(cp_M aM, sM)]) → va_S A s.heap H locs → ∀ ls : Array Slot, lv_has ls 5 [(0, .ref (aM 0)), (2, .int (jx_i l2)), (3, .int (jx_i l3)), (4, .int (jx_i l4))] → W p l e (jx_rm 3 72) s m args below meth c H locs 0 0 QQ (F0 m 24 ls []) := by
        intro l3 K74 n
        induction n with
        | zero =>
          intro sM l2 l4 h
          exact (show False from h).elim
        | succ n ih =>
          intro sM l2 l4 h K74E H locs hP hD hS ls hl
          have h : wp_M_overlapsOf_24 Q l1 K74 l3 (jx_it (fun B24 v => wp_M_overlapsOf_24 Q l1 K74 l3 B24 v.1 v.2.1 v.2.2) n) sM l2 l4 := h
          have ih := fun sM l2 l4 h => ih sM l2 l4 h K74E
          generalize jx_it (fun B24 v => wp_M_overlapsOf_24 Q l1 K74 l3 B24 v.1 v.2.1 v.2.2) n = B24 at h ih
          unfold wp_M_overlapsOf_24 at h
          refine lv_iload hx hb dX8_overlapsOf_24 (lv_at hl 3 rfl) ?_
          refine lv_iload_n hx hb dX8_overlapsOf_26 rfl (lv_at hl 2 rfl) ?_
          refine jx_cge C h.1 h.2.1 (tgt := 74) dX8_overlapsOf_27 (by decide) (fun hc => ?_) (fun hc => ?_)
          · have h := h.2.2.2 hc
            exact K74E sM l2 h _ _ hP hD hS ls (lv_sub hl [0, 1, 2] rfl)
          · have h := h.2.2.1 hc
            refine lv_aload_n hx hb dX8_overlapsOf_30 rfl (lv_at hl 0 rfl) ?_
            refine lv_aload_n hx hb dX8_overlapsOf_31 rfl (lv_at hl 0 rfl) ?_
            refine jx_getR C hK hP 0 0 9 rfl rfl rfl fl_X8_28 dX8_overlapsOf_32 ?_
            refine lv_aload_n hx hb dX8_overlapsOf_35 rfl (lv_at hl 0 rfl) ?_
            refine jx_getR C hK hP 0 0 25 rfl rfl rfl fl_X8_64 dX8_overlapsOf_36 ?_
            refine lv_iload_n hx hb dX8_overlapsOf_39 rfl (lv_at hl 2 rfl) ?_
            refine jx_iald C hK hP 0 19 rfl rfl rfl h.1 dX8_overlapsOf_40 ?_
            have h := h.2
            refine jx_iconst C dX8_overlapsOf_41 ?_
            refine jx_callVV C hK hP hD hS hA (ct_M_takes_one l D cI cT aM _ sM (sM 25 l3) 1 h) ms_X8_takes lk_X8_112 [0] rfl rfl (fun _ => rfl) (cs' := (fun u => [(cp_M aM, u)])) (fun _ => rfl) (fun _ => rfl) 0 0 rfl rfl rfl rfl rfl hl.1 rfl rfl dX8_overlapsOf_42 ⟨Nat.le_refl _, Nat.le_refl _⟩ (fun sM_42 H locs h hP hD hS => ?_)
            have hP : va_P D vwCl (jx_ws cI cT [(cp_M aM, sM_42)]) H := hP
            have hD : va_D A (jx_ws cI cT [(cp_M aM, sM_42)]) := hD
            refine lv_aload_n hx hb dX8_overlapsOf_45 rfl (lv_at hl 0 rfl) ?_
            refine lv_aload_n hx hb dX8_overlapsOf_46 rfl (lv_at hl 0 rfl) ?_
            refine jx_getR C hK hP 0 0 10 rfl rfl rfl fl_X8_31 dX8_overlapsOf_47 ?_
            refine lv_aload_n hx hb dX8_overlapsOf_50 rfl (lv_at hl 0 rfl) ?_
            refine jx_getR C hK hP 0 0 25 rfl rfl rfl fl_X8_64 dX8_overlapsOf_51 ?_
            refine lv_iload hx hb dX8_overlapsOf_54 (lv_at hl 3 rfl) ?_
            refine jx_iald C hK hP 0 19 rfl rfl rfl h.1 dX8_overlapsOf_56 ?_
            have h := h.2
            refine jx_iconst C dX8_overlapsOf_57 ?_
            refine jx_callVV C hK hP hD hS hA (ct_M_takes_two l D cI cT aM _ sM_42 (sM_42 25 l4) 1 h) ms_X8_takes lk_X8_112 [0] rfl rfl (fun _ => rfl) (cs' := (fun u => [(cp_M aM, u)])) (fun _ => rfl) (fun _ => rfl) 0 0 rfl rfl rfl rfl rfl hl.1 rfl rfl dX8_overlapsOf_58 ⟨Nat.le_refl _, Nat.le_refl _⟩ (fun sM_58 H locs h hP hD hS => ?_)
            have hP : va_P D vwCl (jx_ws cI cT [(cp_M aM, sM_58)]) H := hP
            have hD : va_D A (jx_ws cI cT [(cp_M aM, sM_58)]) := hD
            refine lv_iload_n hx hb dX8_overlapsOf_61 rfl (lv_at hl 1 rfl) ?_
            refine lv_aload_n hx hb dX8_overlapsOf_62 rfl (lv_at hl 0 rfl) ?_
            refine jx_callVI C hK hP hD hS hA (ct_M_common l D cI cT aM _ sM_58  h) ms_X8_common lk_X8_148 [0] rfl rfl (fun _ => rfl) (cs' := (fun _ => [(cp_M aM, sM_58)])) (fun _ => rfl) (fun _ => rfl) 0 0 rfl rfl rfl rfl rfl hl.1 rfl rfl dX8_overlapsOf_63 ⟨Nat.le_refl _, Nat.le_refl _⟩ (fun r63 _ H locs h hP hD hS => ?_)
            have hP : va_P D vwCl (jx_ws cI cT [(cp_M aM, sM_58)]) H := hP
            have hD : va_D A (jx_ws cI cT [(cp_M aM, sM_58)]) := hD
            refine jx_iadd C dX8_overlapsOf_66 ?_
            refine lv_istore_n (lv' := [(2, .int (jx_i (l2 + r63))), (0, .ref (aM 0)), (3, .int (jx_i l3)), (4, .int (jx_i l4))]) hx hb dX8_overlapsOf_67 rfl hl (by decide) rfl (fun ls hl => ?_)
            refine jx_iinc C (lv' := [(4, .int (jx_i (l4 + 1))), (2, .int (jx_i (l2 + r63))), (0, .ref (aM 0)), (3, .int (jx_i l3))]) dX8_overlapsOf_68 hl (k := 3) rfl (by decide) rfl (fun ls hl => ?_)
            refine lv_goto (tgt := 24) hx hb dX8_overlapsOf_71 (by decide) ?_
            exact ih sM_58 (l2 + r63) (l4 + 1) h _ _ hP hD hS ls (lv_sub hl [2, 1, 3, 0] rfl)
      have J74 : ∀ (sM : jx_St) (l2 : Int) (l3 : Int), wp_M_overlapsOf_74 Q l1 B13 sM l2 l3 → ∀ (H : Heap) (locs : List Loc), va_P D vwCl (jx_ws cI cT [(cp_M aM, sM)]) H → va_D A (jx_ws cI cT [(cp_M aM, sM)]) → va_S A s.heap H locs → ∀ ls : Array Slot, lv_has ls 5 [(0, .ref (aM 0)), (2, .int (jx_i l2)), (3, .int (jx_i l3))] → W p l e (jx_rm 3 72) s m args below meth c H locs 0 0 QQ (F0 m 74 ls []) := by
        intro sM l2 l3 h H locs hP hD hS ls hl
        unfold wp_M_overlapsOf_74 at h
        refine jx_iinc C (lv' := [(3, .int (jx_i (l3 + 1))), (0, .ref (aM 0)), (2, .int (jx_i l2))]) dX8_overlapsOf_74 hl (k := 2) rfl (by decide) rfl (fun ls hl => ?_)
        refine lv_goto (tgt := 13) hx hb dX8_overlapsOf_77 (by decide) ?_
        exact ih sM l2 (l3 + 1) h _ _ hP hD hS ls (lv_sub hl [1, 2, 0] rfl)
      refine lv_iload_n hx hb dX8_overlapsOf_13 rfl (lv_at hl 2 rfl) ?_
      refine lv_aload_n hx hb dX8_overlapsOf_14 rfl (lv_at hl 0 rfl) ?_
      refine jx_getI C hK hP 0 0 27 rfl rfl rfl fl_X8_215 dX8_overlapsOf_15 ?_
      refine jx_cge C h.1 h.2.1 (tgt := 80) dX8_overlapsOf_18 (by decide) (fun hc => ?_) (fun hc => ?_)
      · have h := h.2.2.2 hc
        refine lv_iload_n hx hb dX8_overlapsOf_80 rfl (lv_at hl 1 rfl) ?_
        exact jx_rI C hr hlk hAe hS hQQ sM hP h dX8_overlapsOf_81
      · have h := h.2.2.1 hc
        refine jx_iconst C dX8_overlapsOf_21 ?_
        refine lv_istore (lv' := [(4, .int (jx_i 0)), (0, .ref (aM 0)), (2, .int (jx_i l2)), (3, .int (jx_i l3))]) hx hb dX8_overlapsOf_22 hl (by decide) rfl (fun ls hl => ?_)
        obtain ⟨n, h⟩ := h
        refine Lo24 l3 _ n sM l2 0 h ?_ _ _ hP hD hS ls (lv_sub hl [1, 2, 3, 0] rfl)
        · intro sM l2 h H locs hP hD hS ls hl
          exact J74 sM l2 l3 h _ _ hP hD hS ls (lv_sub hl [0, 1, 2] rfl)
  refine lv_aload_n hx hb dX8_overlapsOf_0 rfl (lv_at hl 0 rfl) ?_
  refine jx_callVV C hK hP hD hS hA (ct_M_lay l D cI cT aM _ sM  h) ms_X8_lay lk_X8_126 [0] rfl rfl (fun _ => rfl) (cs' := (fun u => [(cp_M aM, u)])) (fun _ => rfl) (fun _ => rfl) 0 0 rfl rfl rfl rfl rfl hl.1 rfl rfl dX8_overlapsOf_1 ⟨Nat.le_refl _, Nat.le_refl _⟩ (fun sM_1 H locs h hP hD hS => ?_)
  have hP : va_P D vwCl (jx_ws cI cT [(cp_M aM, sM_1)]) H := hP
  have hD : va_D A (jx_ws cI cT [(cp_M aM, sM_1)]) := hD
  refine lv_aload_n hx hb dX8_overlapsOf_4 rfl (lv_at hl 0 rfl) ?_
  refine lv_iload_n hx hb dX8_overlapsOf_5 rfl (lv_at hl 1 rfl) ?_
  refine jx_callVV C hK hP hD hS hA (ct_M_layRow l D cI cT aM _ sM_1 l1 h) ms_X8_layRow lk_X8_218 [0] rfl rfl (fun _ => rfl) (cs' := (fun u => [(cp_M aM, u)])) (fun _ => rfl) (fun _ => rfl) 0 0 rfl rfl rfl rfl rfl hl.1 rfl rfl dX8_overlapsOf_6 ⟨Nat.le_refl _, Nat.le_refl _⟩ (fun sM_6 H locs h hP hD hS => ?_)
  have hP : va_P D vwCl (jx_ws cI cT [(cp_M aM, sM_6)]) H := hP
  have hD : va_D A (jx_ws cI cT [(cp_M aM, sM_6)]) := hD
  refine jx_iconst C dX8_overlapsOf_9 ?_
  refine lv_istore_n (lv' := [(2, .int (jx_i 0)), (0, .ref (aM 0)), (1, .int (jx_i l1))]) hx hb dX8_overlapsOf_10 rfl hl (by decide) rfl (fun ls hl => ?_)
  refine jx_iconst C dX8_overlapsOf_11 ?_
  refine lv_istore_n (lv' := [(3, .int (jx_i 0)), (2, .int (jx_i 0)), (0, .ref (aM 0)), (1, .int (jx_i l1))]) hx hb dX8_overlapsOf_12 rfl hl (by decide) rfl (fun ls hl => ?_)
  obtain ⟨n, h⟩ := h
  refine Lo13 n sM_6 0 0 h _ _ hP hD hS ls (lv_sub hl [2, 1, 0] rfl)
set_option maxRecDepth 100000 in
set_option maxHeartbeats 4000000 in
theorem ct_M_overlaps (l : Launch) (D : va_G) (cI cT : ClassId) (aM : Nat → Nat) (Q : Int → jx_St → Prop) (sM : jx_St) (l1 : Int) (h : wp_M_overlaps Q sM l1) : jx_KI jx_St l D cI cT yX8_overlaps cX8_overlaps 2 .int 4 96 [.ref (aM 0), .int (jx_i l1)] [(cp_M aM, sM)] (fun u => [(cp_M aM, u)]) Q := by
  refine jx_ent (own := RX8) (by decide) rfl (Nat.le_of_ble_eq_true rfl) ?_
  intro p e s m args below meth c A QQ C hr hlk hK hAe hA hP hD hS ls hl hQQ
  have hl : lv_has ls 2 [(0, .ref (aM 0)), (1, .int (jx_i l1))] := hl
  have hx := C.1
  have hb := C.2.1
  unfold wp_M_overlaps at h
  refine lv_iload_n hx hb dX8_overlaps_0 rfl (lv_at hl 1 rfl) ?_
  refine jx_zge C h.1 (tgt := 9) dX8_overlaps_1 (by decide) (fun hc => ?_) (fun hc => ?_)
  · have h := h.2.2 hc
    refine lv_iload_n hx hb dX8_overlaps_9 rfl (lv_at hl 1 rfl) ?_
    refine lv_aload_n hx hb dX8_overlaps_10 rfl (lv_at hl 0 rfl) ?_
    refine jx_callVI C hK hP hD hS hA (ct_M_levels l D cI cT aM _ sM  h) ms_X8_levels lk_X8_209 [0] rfl rfl (fun _ => rfl) (cs' := (fun _ => [(cp_M aM, sM)])) (fun _ => rfl) (fun _ => rfl) 0 0 rfl rfl rfl rfl rfl hl.1 rfl rfl dX8_overlaps_11 ⟨Nat.le_refl _, Nat.le_refl _⟩ (fun r11 _ H locs h hP hD hS => ?_)
    have hP : va_P D vwCl (jx_ws cI cT [(cp_M aM, sM)]) H := hP
    have hD : va_D A (jx_ws cI cT [(cp_M aM, sM)]) := hD
    refine jx_clt C h.1 h.2.1 (tgt := 22) dX8_overlaps_14 (by decide) (fun hc => ?_) (fun hc => ?_)
    · have h := h.2.2.1 hc
      refine lv_aload_n hx hb dX8_overlaps_22 rfl (lv_at hl 0 rfl) ?_
      refine lv_iload_n hx hb dX8_overlaps_23 rfl (lv_at hl 1 rfl) ?_
      refine jx_callVI C hK hP hD hS hA (ct_M_overlapsOf l D cI cT aM _ sM l1 h) ms_X8_overlapsOf lk_X8_225 [0] rfl rfl (fun _ => rfl) (cs' := (fun u => [(cp_M aM, u)])) (fun _ => rfl) (fun _ => rfl) 0 0 rfl rfl rfl rfl rfl hl.1 rfl rfl dX8_overlaps_24 ⟨Nat.le_refl _, Nat.le_refl _⟩ (fun r24 sM_24 H locs h hP hD hS => ?_)
      have hP : va_P D vwCl (jx_ws cI cT [(cp_M aM, sM_24)]) H := hP
      have hD : va_D A (jx_ws cI cT [(cp_M aM, sM_24)]) := hD
      exact jx_rI C hr hlk hAe hS hQQ sM_24 hP h dX8_overlaps_27
    · have h := h.2.2.2 hc
      refine jx_ldc C (-1000004) kc_X8_221 dX8_overlaps_17 ?_
      refine lv_goto (tgt := 27) hx hb dX8_overlaps_19 (by decide) ?_
      exact jx_rI C hr hlk hAe hS hQQ sM hP h dX8_overlaps_27
  · have h := h.2.1 hc
    refine jx_ldc C (-1000001) kc_X8_192 dX8_overlaps_4 ?_
    refine lv_goto (tgt := 27) hx hb dX8_overlaps_6 (by decide) ?_
    exact jx_rI C hr hlk hAe hS hQQ sM hP h dX8_overlaps_27
set_option maxRecDepth 100000 in
set_option maxHeartbeats 4000000 in
theorem ct_M_record (l : Launch) (D : va_G) (cI cT : ClassId) (aM : Nat → Nat) (Q : jx_St → Prop) (sM : jx_St) (h : wp_M_record Q sM) : jx_KV jx_St l D cI cT yX8_record cX8_record 2 0 0 [.ref (aM 0)] [(cp_M aM, sM)] (fun u => [(cp_M aM, u)]) Q := by
  refine jx_ent (own := RX8) (by decide) rfl (Nat.le_of_ble_eq_true rfl) ?_
  intro p e s m args below meth c A QQ C hr hlk hK hAe hA hP hD hS ls hl hQQ
  have hl : lv_has ls 2 [(0, .ref (aM 0))] := hl
  have hx := C.1
  have hb := C.2.1
  unfold wp_M_record at h
  have Lo2 : ∀ (K36 : jx_St → Prop) (n : Nat) (sM : jx_St) (l1 : Int), jx_it (fun B2 v => wp_M_record_2 Q K36 B2 v.1 v.2) n (sM, l1) → (∀ (sM : jx_St), K36 sM → ∀ (H : Heap) (locs : List Loc), va_P D vwCl (jx_ws cI cT [(cp_M aM, sM)]) H → va_D A (jx_ws cI cT [(cp_M aM, sM)]) → va_S A s.heap H locs → ∀ ls : Array Slot, lv_has ls 2 [(0, .ref (aM 0))] → W p l e (jx_rm 0 0) s m args below meth c H locs 0 0 QQ (F0 m 36 ls [])) → ∀ (H : Heap) (locs : List Loc), va_P D vwCl (jx_ws cI cT [(cp_M aM, sM)]) H → va_D A (jx_ws cI cT [(cp_M aM, sM)]) → va_S A s.heap H locs → ∀ ls : Array Slot, lv_has ls 2 [(0, .ref (aM 0)), (1, .int (jx_i l1))] → W p l e (jx_rm 0 0) s m args below meth c H locs 0 0 QQ (F0 m 2 ls []) := by
    intro K36 n
    induction n with
    | zero =>
      intro sM l1 h
      exact (show False from h).elim
    | succ n ih =>
      intro sM l1 h K36E H locs hP hD hS ls hl
      have h : wp_M_record_2 Q K36 (jx_it (fun B2 v => wp_M_record_2 Q K36 B2 v.1 v.2) n) sM l1 := h
      have ih := fun sM l1 h => ih sM l1 h K36E
      generalize jx_it (fun B2 v => wp_M_record_2 Q K36 B2 v.1 v.2) n = B2 at h ih
      unfold wp_M_record_2 at h
      refine lv_iload_n hx hb dX8_record_2 rfl (lv_at hl 1 rfl) ?_
      refine jx_sipush C dX8_record_3 (by decide) ?_
      refine jx_cge C h.1 (jx_inR (by decide) (by decide)) (tgt := 36) dX8_record_6 (by decide) (fun hc => ?_) (fun hc => ?_)
      · have h := h.2.2 hc
        exact K36E sM h _ _ hP hD hS ls (lv_sub hl [0] rfl)
      · have h := h.2.1 hc
        refine lv_aload_n hx hb dX8_record_9 rfl (lv_at hl 0 rfl) ?_
        refine jx_getR C hK hP 0 0 2 rfl rfl rfl fl_X8_16 dX8_record_10 ?_
        refine jx_sipush C dX8_record_13 (by decide) ?_
        refine lv_aload_n hx hb dX8_record_16 rfl (lv_at hl 0 rfl) ?_
        refine jx_getI C hK hP 0 0 5 rfl rfl rfl fl_X8_73 dX8_record_17 ?_
        refine jx_imul C dX8_record_20 ?_
        refine lv_iload_n hx hb dX8_record_21 rfl (lv_at hl 1 rfl) ?_
        refine jx_iadd C dX8_record_22 ?_
        refine lv_aload_n hx hb dX8_record_23 rfl (lv_at hl 0 rfl) ?_
        refine jx_getR C hK hP 0 0 1 rfl rfl rfl fl_X8_13 dX8_record_24 ?_
        refine lv_iload_n hx hb dX8_record_27 rfl (lv_at hl 1 rfl) ?_
        refine jx_iald C hK hP 0 2 rfl rfl rfl h.1 dX8_record_28 ?_
        have h := h.2
        refine jx_iast C hK hP hD hS 0 3 rfl rfl rfl rfl h.1 rfl dX8_record_29 (fun H locs hP hD hS => ?_)
        have h := h.2
        have hP : va_P D vwCl (jx_ws cI cT [(cp_M aM, (jx_su sM 2 ((439 * (sM 5 0)) + l1) (sM 1 l1)))]) H := hP
        have hD : va_D A (jx_ws cI cT [(cp_M aM, (jx_su sM 2 ((439 * (sM 5 0)) + l1) (sM 1 l1)))]) := hD
        refine jx_iinc C (lv' := [(1, .int (jx_i (l1 + 1))), (0, .ref (aM 0))]) dX8_record_30 hl (k := 1) rfl (by decide) rfl (fun ls hl => ?_)
        refine lv_goto (tgt := 2) hx hb dX8_record_33 (by decide) ?_
        exact ih (jx_su sM 2 ((439 * (sM 5 0)) + l1) (sM 1 l1)) (l1 + 1) h _ _ hP hD hS ls (lv_sub hl [1, 0] rfl)
  have J67 : ∀ (sM : jx_St) (t1 : Int), wp_M_record_67 Q sM t1 → ∀ (H : Heap) (locs : List Loc), va_P D vwCl (jx_ws cI cT [(cp_M aM, sM)]) H → va_D A (jx_ws cI cT [(cp_M aM, sM)]) → va_S A s.heap H locs → ∀ ls : Array Slot, lv_has ls 2 [] → W p l e (jx_rm 0 0) s m args below meth c H locs 0 0 QQ (F0 m 67 ls [.int (jx_i t1), .ref (aM 0)]) := by
    intro sM t1 h H locs hP hD hS ls hl
    unfold wp_M_record_67 at h
    refine jx_putI C hK hP hD hS 0 0 4 rfl rfl rfl rfl rfl fl_X8_77 fw_X8_4 ⟨rfl, rfl⟩ rfl dX8_record_67 (fun H locs hP hD hS => ?_)
    have hP : va_P D vwCl (jx_ws cI cT [(cp_M aM, (jx_su sM 4 0 t1))]) H := hP
    have hD : va_D A (jx_ws cI cT [(cp_M aM, (jx_su sM 4 0 t1))]) := hD
    exact jx_rV C hr hlk hAe hS hQQ (jx_su sM 4 0 t1) hP h dX8_record_70
  have J36 : ∀ (sM : jx_St), wp_M_record_36 Q sM → ∀ (H : Heap) (locs : List Loc), va_P D vwCl (jx_ws cI cT [(cp_M aM, sM)]) H → va_D A (jx_ws cI cT [(cp_M aM, sM)]) → va_S A s.heap H locs → ∀ ls : Array Slot, lv_has ls 2 [(0, .ref (aM 0))] → W p l e (jx_rm 0 0) s m args below meth c H locs 0 0 QQ (F0 m 36 ls []) := by
    intro sM h H locs hP hD hS ls hl
    unfold wp_M_record_36 at h
    refine lv_aload_n hx hb dX8_record_36 rfl (lv_at hl 0 rfl) ?_
    refine lv_aload_n hx hb dX8_record_37 rfl (lv_at hl 0 rfl) ?_
    refine jx_getI C hK hP 0 0 5 rfl rfl rfl fl_X8_73 dX8_record_38 ?_
    refine jx_iconst C dX8_record_41 ?_
    refine jx_iadd C dX8_record_42 ?_
    refine jx_iconst C dX8_record_43 ?_
    refine jx_irem C (by decide) dX8_record_44 ?_
    refine jx_putI C hK hP hD hS 0 0 5 rfl rfl rfl rfl rfl fl_X8_73 fw_X8_5 ⟨rfl, rfl⟩ rfl dX8_record_45 (fun H locs hP hD hS => ?_)
    have hP : va_P D vwCl (jx_ws cI cT [(cp_M aM, (jx_su sM 5 0 (jx_rem ((sM 5 0) + 1) 4)))]) H := hP
    have hD : va_D A (jx_ws cI cT [(cp_M aM, (jx_su sM 5 0 (jx_rem ((sM 5 0) + 1) 4)))]) := hD
    refine lv_aload_n hx hb dX8_record_48 rfl (lv_at hl 0 rfl) ?_
    refine lv_aload_n hx hb dX8_record_49 rfl (lv_at hl 0 rfl) ?_
    refine jx_getI C hK hP 0 0 4 rfl rfl rfl fl_X8_77 dX8_record_50 ?_
    refine jx_iconst C dX8_record_53 ?_
    refine jx_cge C h.1 (jx_inR (by decide) (by decide)) (tgt := 66) dX8_record_54 (by decide) (fun hc => ?_) (fun hc => ?_)
    · have h := h.2.2 hc
      refine jx_iconst C dX8_record_66 ?_
      exact J67 (jx_su sM 5 0 (jx_rem ((sM 5 0) + 1) 4)) 4 h _ _ hP hD hS ls (lv_sub hl [] rfl)
    · have h := h.2.1 hc
      refine lv_aload_n hx hb dX8_record_57 rfl (lv_at hl 0 rfl) ?_
      refine jx_getI C hK hP 0 0 4 rfl rfl rfl fl_X8_77 dX8_record_58 ?_
      refine jx_iconst C dX8_record_61 ?_
      refine jx_iadd C dX8_record_62 ?_
      refine lv_goto (tgt := 67) hx hb dX8_record_63 (by decide) ?_
      exact J67 (jx_su sM 5 0 (jx_rem ((sM 5 0) + 1) 4)) (((jx_su sM 5 0 (jx_rem ((sM 5 0) + 1) 4)) 4 0) + 1) h _ _ hP hD hS ls (lv_sub hl [] rfl)
  refine jx_iconst C dX8_record_0 ?_
  refine lv_istore_n (lv' := [(1, .int (jx_i 0)), (0, .ref (aM 0))]) hx hb dX8_record_1 rfl hl (by decide) rfl (fun ls hl => ?_)
  obtain ⟨n, h⟩ := h
  refine Lo2 _ n sM 0 h ?_ _ _ hP hD hS ls (lv_sub hl [1, 0] rfl)
  · intro sM h H locs hP hD hS ls hl
    exact J36 sM h _ _ hP hD hS ls (lv_sub hl [0] rfl)
set_option maxRecDepth 100000 in
set_option maxHeartbeats 4000000 in
theorem ct_M_tells (l : Launch) (D : va_G) (cI cT : ClassId) (aM : Nat → Nat) (Q : jx_St → Prop) (sM : jx_St) (h : wp_M_tells Q sM) : jx_KV jx_St l D cI cT yX8_tells cX8_tells 2 0 0 [.ref (aM 0)] [(cp_M aM, sM)] (fun u => [(cp_M aM, u)]) Q := by
  refine jx_ent (own := RX8) (by decide) rfl (Nat.le_of_ble_eq_true rfl) ?_
  intro p e s m args below meth c A QQ C hr hlk hK hAe hA hP hD hS ls hl hQQ
  have hl : lv_has ls 2 [(0, .ref (aM 0))] := hl
  have hx := C.1
  have hb := C.2.1
  unfold wp_M_tells at h
  have Lo10 : ∀ (n : Nat) (sM : jx_St) (l1 : Int), jx_it (fun B10 v => wp_M_tells_10 Q B10 v.1 v.2) n (sM, l1) → ∀ (H : Heap) (locs : List Loc), va_P D vwCl (jx_ws cI cT [(cp_M aM, sM)]) H → va_D A (jx_ws cI cT [(cp_M aM, sM)]) → va_S A s.heap H locs → ∀ ls : Array Slot, lv_has ls 2 [(0, .ref (aM 0)), (1, .int (jx_i l1))] → W p l e (jx_rm 0 0) s m args below meth c H locs 0 0 QQ (F0 m 10 ls []) := by
    intro n
    induction n with
    | zero =>
      intro sM l1 h
      exact (show False from h).elim
    | succ n ih =>
      intro sM l1 h H locs hP hD hS ls hl
      have h : wp_M_tells_10 Q (jx_it (fun B10 v => wp_M_tells_10 Q B10 v.1 v.2) n) sM l1 := h
      have ih := fun sM l1 h => ih sM l1 h
      generalize jx_it (fun B10 v => wp_M_tells_10 Q B10 v.1 v.2) n = B10 at h ih
      unfold wp_M_tells_10 at h
      refine lv_iload_n hx hb dX8_tells_10 rfl (lv_at hl 1 rfl) ?_
      refine lv_aload_n hx hb dX8_tells_11 rfl (lv_at hl 0 rfl) ?_
      refine jx_getI C hK hP 0 0 17 rfl rfl rfl fl_X8_135 dX8_tells_12 ?_
      refine jx_cge C h.1 h.2.1 (tgt := 48) dX8_tells_15 (by decide) (fun hc => ?_) (fun hc => ?_)
      · have h := h.2.2.2 hc
        exact jx_rV C hr hlk hAe hS hQQ sM hP h dX8_tells_48
      · have h := h.2.2.1 hc
        refine lv_aload_n hx hb dX8_tells_18 rfl (lv_at hl 0 rfl) ?_
        refine jx_getR C hK hP 0 0 18 rfl rfl rfl fl_X8_46 dX8_tells_19 ?_
        refine lv_iload_n hx hb dX8_tells_22 rfl (lv_at hl 1 rfl) ?_
        refine lv_aload_n hx hb dX8_tells_23 rfl (lv_at hl 0 rfl) ?_
        refine jx_getR C hK hP 0 0 15 rfl rfl rfl fl_X8_40 dX8_tells_24 ?_
        refine lv_iload_n hx hb dX8_tells_27 rfl (lv_at hl 1 rfl) ?_
        refine jx_iald C hK hP 0 11 rfl rfl rfl h.1 dX8_tells_28 ?_
        have h := h.2
        refine jx_iast C hK hP hD hS 0 13 rfl rfl rfl rfl h.1 rfl dX8_tells_29 (fun H locs hP hD hS => ?_)
        have h := h.2
        have hP : va_P D vwCl (jx_ws cI cT [(cp_M aM, (jx_su sM 18 l1 (sM 15 l1)))]) H := hP
        have hD : va_D A (jx_ws cI cT [(cp_M aM, (jx_su sM 18 l1 (sM 15 l1)))]) := hD
        refine lv_aload_n hx hb dX8_tells_30 rfl (lv_at hl 0 rfl) ?_
        refine jx_getR C hK hP 0 0 19 rfl rfl rfl fl_X8_49 dX8_tells_31 ?_
        refine lv_iload_n hx hb dX8_tells_34 rfl (lv_at hl 1 rfl) ?_
        refine lv_aload_n hx hb dX8_tells_35 rfl (lv_at hl 0 rfl) ?_
        refine jx_getR C hK hP 0 0 16 rfl rfl rfl fl_X8_43 dX8_tells_36 ?_
        refine lv_iload_n hx hb dX8_tells_39 rfl (lv_at hl 1 rfl) ?_
        refine jx_iald C hK hP 0 12 rfl rfl rfl h.1 dX8_tells_40 ?_
        have h := h.2
        refine jx_iast C hK hP hD hS 0 14 rfl rfl rfl rfl h.1 rfl dX8_tells_41 (fun H locs hP hD hS => ?_)
        have h := h.2
        have hP : va_P D vwCl (jx_ws cI cT [(cp_M aM, (jx_su (jx_su sM 18 l1 (sM 15 l1)) 19 l1 ((jx_su sM 18 l1 (sM 15 l1)) 16 l1)))]) H := hP
        have hD : va_D A (jx_ws cI cT [(cp_M aM, (jx_su (jx_su sM 18 l1 (sM 15 l1)) 19 l1 ((jx_su sM 18 l1 (sM 15 l1)) 16 l1)))]) := hD
        refine jx_iinc C (lv' := [(1, .int (jx_i (l1 + 1))), (0, .ref (aM 0))]) dX8_tells_42 hl (k := 1) rfl (by decide) rfl (fun ls hl => ?_)
        refine lv_goto (tgt := 10) hx hb dX8_tells_45 (by decide) ?_
        exact ih (jx_su (jx_su sM 18 l1 (sM 15 l1)) 19 l1 ((jx_su sM 18 l1 (sM 15 l1)) 16 l1)) (l1 + 1) h _ _ hP hD hS ls (lv_sub hl [1, 0] rfl)
  refine lv_aload_n hx hb dX8_tells_0 rfl (lv_at hl 0 rfl) ?_
  refine lv_aload_n hx hb dX8_tells_1 rfl (lv_at hl 0 rfl) ?_
  refine jx_getI C hK hP 0 0 17 rfl rfl rfl fl_X8_135 dX8_tells_2 ?_
  refine jx_putI C hK hP hD hS 0 0 20 rfl rfl rfl rfl rfl fl_X8_177 fw_X8_20 ⟨rfl, rfl⟩ rfl dX8_tells_5 (fun H locs hP hD hS => ?_)
  have hP : va_P D vwCl (jx_ws cI cT [(cp_M aM, (jx_su sM 20 0 (sM 17 0)))]) H := hP
  have hD : va_D A (jx_ws cI cT [(cp_M aM, (jx_su sM 20 0 (sM 17 0)))]) := hD
  refine jx_iconst C dX8_tells_8 ?_
  refine lv_istore_n (lv' := [(1, .int (jx_i 0)), (0, .ref (aM 0))]) hx hb dX8_tells_9 rfl hl (by decide) rfl (fun ls hl => ?_)
  obtain ⟨n, h⟩ := h
  refine Lo10 n (jx_su sM 20 0 (sM 17 0)) 0 h _ _ hP hD hS ls (lv_sub hl [1, 0] rfl)
set_option maxRecDepth 100000 in
set_option maxHeartbeats 4000000 in
theorem ct_M_play (l : Launch) (D : va_G) (cI cT : ClassId) (aM : Nat → Nat) (Q : Int → jx_St → Prop) (sM : jx_St) (h : wp_M_play Q sM) : jx_KI jx_St l D cI cT yX8_play cX8_play 1 .int 9 220 [.ref (aM 0)] [(cp_M aM, sM)] (fun u => [(cp_M aM, u)]) Q := by
  refine jx_ent (own := RX8) (by decide) rfl (Nat.le_of_ble_eq_true rfl) ?_
  intro p e s m args below meth c A QQ C hr hlk hK hAe hA hP hD hS ls hl hQQ
  have hl : lv_has ls 1 [(0, .ref (aM 0))] := hl
  have hx := C.1
  have hb := C.2.1
  unfold wp_M_play at h
  have J37 : ∀ (sM : jx_St), wp_M_play_37 Q sM → ∀ (H : Heap) (locs : List Loc), va_P D vwCl (jx_ws cI cT [(cp_M aM, sM)]) H → va_D A (jx_ws cI cT [(cp_M aM, sM)]) → va_S A s.heap H locs → ∀ ls : Array Slot, lv_has ls 1 [(0, .ref (aM 0))] → W p l e (jx_rm 9 220) s m args below meth c H locs 0 0 QQ (F0 m 37 ls []) := by
    intro sM h H locs hP hD hS ls hl
    unfold wp_M_play_37 at h
    refine lv_aload_n hx hb dX8_play_37 rfl (lv_at hl 0 rfl) ?_
    refine jx_getI C hK hP 0 0 33 rfl rfl rfl fl_X8_273 dX8_play_38 ?_
    exact jx_rI C hr hlk hAe hS hQQ sM hP h dX8_play_41
  refine lv_aload_n hx hb dX8_play_0 rfl (lv_at hl 0 rfl) ?_
  refine jx_callVV C hK hP hD hS hA (ct_M_copy l D cI cT aM _ sM  h) ms_X8_copy lk_X8_196 [0] rfl rfl (fun _ => rfl) (cs' := (fun u => [(cp_M aM, u)])) (fun _ => rfl) (fun _ => rfl) 0 0 rfl rfl rfl rfl rfl hl.1 rfl rfl dX8_play_1 ⟨Nat.le_refl _, Nat.le_refl _⟩ (fun sM_1 H locs h hP hD hS => ?_)
  have hP : va_P D vwCl (jx_ws cI cT [(cp_M aM, sM_1)]) H := hP
  have hD : va_D A (jx_ws cI cT [(cp_M aM, sM_1)]) := hD
  refine lv_aload_n hx hb dX8_play_4 rfl (lv_at hl 0 rfl) ?_
  refine jx_callVV C hK hP hD hS hA (ct_M_tries l D cI cT aM _ sM_1  h) ms_X8_tries lk_X8_279 [0] rfl rfl (fun _ => rfl) (cs' := (fun u => [(cp_M aM, u)])) (fun _ => rfl) (fun _ => rfl) 0 0 rfl rfl rfl rfl rfl hl.1 rfl rfl dX8_play_5 ⟨Nat.le_refl _, Nat.le_refl _⟩ (fun sM_5 H locs h hP hD hS => ?_)
  have hP : va_P D vwCl (jx_ws cI cT [(cp_M aM, sM_5)]) H := hP
  have hD : va_D A (jx_ws cI cT [(cp_M aM, sM_5)]) := hD
  refine lv_aload_n hx hb dX8_play_8 rfl (lv_at hl 0 rfl) ?_
  refine jx_getI C hK hP 0 0 30 rfl rfl rfl fl_X8_258 dX8_play_9 ?_
  refine jx_zeq C h.1 (tgt := 22) dX8_play_12 (by decide) (fun hc => ?_) (fun hc => ?_)
  · have h := h.2.1 hc
    refine lv_aload_n hx hb dX8_play_22 rfl (lv_at hl 0 rfl) ?_
    refine jx_callVV C hK hP hD hS hA (ct_M_record l D cI cT aM _ sM_5  h) ms_X8_record lk_X8_199 [0] rfl rfl (fun _ => rfl) (cs' := (fun u => [(cp_M aM, u)])) (fun _ => rfl) (fun _ => rfl) 0 0 rfl rfl rfl rfl rfl hl.1 rfl rfl dX8_play_23 ⟨Nat.le_refl _, Nat.le_refl _⟩ (fun sM_23 H locs h hP hD hS => ?_)
    have hP : va_P D vwCl (jx_ws cI cT [(cp_M aM, sM_23)]) H := hP
    have hD : va_D A (jx_ws cI cT [(cp_M aM, sM_23)]) := hD
    refine lv_aload_n hx hb dX8_play_26 rfl (lv_at hl 0 rfl) ?_
    refine jx_getI C hK hP 0 0 33 rfl rfl rfl fl_X8_273 dX8_play_27 ?_
    refine jx_zle C h.1 (tgt := 37) dX8_play_30 (by decide) (fun hc => ?_) (fun hc => ?_)
    · have h := h.2.1 hc
      exact J37 sM_23 h _ _ hP hD hS ls (lv_sub hl [0] rfl)
    · have h := h.2.2 hc
      refine lv_aload_n hx hb dX8_play_33 rfl (lv_at hl 0 rfl) ?_
      refine jx_callVV C hK hP hD hS hA (ct_M_tells l D cI cT aM _ sM_23  h) ms_X8_tells lk_X8_206 [0] rfl rfl (fun _ => rfl) (cs' := (fun u => [(cp_M aM, u)])) (fun _ => rfl) (fun _ => rfl) 0 0 rfl rfl rfl rfl rfl hl.1 rfl rfl dX8_play_34 ⟨Nat.le_refl _, Nat.le_refl _⟩ (fun sM_34 H locs h hP hD hS => ?_)
      have hP : va_P D vwCl (jx_ws cI cT [(cp_M aM, sM_34)]) H := hP
      have hD : va_D A (jx_ws cI cT [(cp_M aM, sM_34)]) := hD
      exact J37 sM_34 h _ _ hP hD hS ls (lv_sub hl [0] rfl)
  · have h := h.2.2 hc
    refine lv_aload_n hx hb dX8_play_15 rfl (lv_at hl 0 rfl) ?_
    refine jx_callVV C hK hP hD hS hA (ct_M_back l D cI cT aM _ sM_5  h) ms_X8_back lk_X8_236 [0] rfl rfl (fun _ => rfl) (cs' := (fun u => [(cp_M aM, u)])) (fun _ => rfl) (fun _ => rfl) 0 0 rfl rfl rfl rfl rfl hl.1 rfl rfl dX8_play_16 ⟨Nat.le_refl _, Nat.le_refl _⟩ (fun sM_16 H locs h hP hD hS => ?_)
    have hP : va_P D vwCl (jx_ws cI cT [(cp_M aM, sM_16)]) H := hP
    have hD : va_D A (jx_ws cI cT [(cp_M aM, sM_16)]) := hD
    refine jx_ldc C (-1000002) kc_X8_80 dX8_play_19 ?_
    exact jx_rI C hr hlk hAe hS hQQ sM_16 hP h dX8_play_21
set_option maxRecDepth 100000 in
set_option maxHeartbeats 4000000 in
theorem ct_M_put (l : Launch) (D : va_G) (cI cT : ClassId) (aM : Nat → Nat) (Q : Int → jx_St → Prop) (sM : jx_St) (l1 : Int) (l2 : Int) (l3 : Int) (l4 : Int) (l5 : Int) (h : wp_M_put Q sM l1 l2 l3 l4 l5) : jx_KI jx_St l D cI cT yX8_put cX8_put 6 .int 7 176 [.ref (aM 0), .int (jx_i l1), .int (jx_i l2), .int (jx_i l3), .int (jx_i l4), .int (jx_i l5)] [(cp_M aM, sM)] (fun u => [(cp_M aM, u)]) Q := by
  refine jx_ent (own := RX8) (by decide) rfl (Nat.le_of_ble_eq_true rfl) ?_
  intro p e s m args below meth c A QQ C hr hlk hK hAe hA hP hD hS ls hl hQQ
  have hl : lv_has ls 6 [(0, .ref (aM 0)), (1, .int (jx_i l1)), (2, .int (jx_i l2)), (3, .int (jx_i l3)), (4, .int (jx_i l4)), (5, .int (jx_i l5))] := hl
  have hx := C.1
  have hb := C.2.1
  unfold wp_M_put at h
  refine lv_iload_n hx hb dX8_put_0 rfl (lv_at hl 1 rfl) ?_
  refine jx_callSI C hK hP hD hS hA (ct_M_isBox l D cI cT  _  l1 h) ms_X8_isBox lk_X8_184 [] rfl rfl (fun _ => rfl) (cs' := (fun _ => [(cp_M aM, sM)])) (fun _ => rfl) (fun _ => rfl) rfl rfl hl.1 rfl rfl dX8_put_1 ⟨Nat.le_refl _, Nat.le_refl _⟩ (fun r1 _ H locs h hP hD hS => ?_)
  have hP : va_P D vwCl (jx_ws cI cT [(cp_M aM, sM)]) H := hP
  have hD : va_D A (jx_ws cI cT [(cp_M aM, sM)]) := hD
  refine jx_zeq C h.1 (tgt := 19) dX8_put_4 (by decide) (fun hc => ?_) (fun hc => ?_)
  · have h := h.2.1 hc
    refine jx_ldc C (-1000001) kc_X8_192 dX8_put_19 ?_
    exact jx_rI C hr hlk hAe hS hQQ sM hP h dX8_put_21
  · have h := h.2.2 hc
    refine lv_iload_n hx hb dX8_put_7 rfl (lv_at hl 2 rfl) ?_
    refine lv_iload_n hx hb dX8_put_8 rfl (lv_at hl 3 rfl) ?_
    refine lv_iload hx hb dX8_put_9 (lv_at hl 4 rfl) ?_
    refine lv_iload hx hb dX8_put_11 (lv_at hl 5 rfl) ?_
    refine jx_callSI C hK hP hD hS hA (ct_M_areSides l D cI cT  _  l2 l3 l4 l5 h) ms_X8_areSides lk_X8_188 [] rfl rfl (fun _ => rfl) (cs' := (fun _ => [(cp_M aM, sM)])) (fun _ => rfl) (fun _ => rfl) rfl rfl hl.1 rfl rfl dX8_put_13 ⟨Nat.le_refl _, Nat.le_refl _⟩ (fun r13 _ H locs h hP hD hS => ?_)
    have hP : va_P D vwCl (jx_ws cI cT [(cp_M aM, sM)]) H := hP
    have hD : va_D A (jx_ws cI cT [(cp_M aM, sM)]) := hD
    refine jx_zne C h.1 (tgt := 22) dX8_put_16 (by decide) (fun hc => ?_) (fun hc => ?_)
    · have h := h.2.2 hc
      refine lv_aload_n hx hb dX8_put_22 rfl (lv_at hl 0 rfl) ?_
      refine lv_iload_n hx hb dX8_put_23 rfl (lv_at hl 1 rfl) ?_
      refine jx_callVI C hK hP hD hS hA (ct_M_isThere l D cI cT aM _ sM l1 h) ms_X8_isThere lk_X8_193 [0] rfl rfl (fun _ => rfl) (cs' := (fun _ => [(cp_M aM, sM)])) (fun _ => rfl) (fun _ => rfl) 0 0 rfl rfl rfl rfl rfl hl.1 rfl rfl dX8_put_24 ⟨Nat.le_refl _, Nat.le_refl _⟩ (fun r24 _ H locs h hP hD hS => ?_)
      have hP : va_P D vwCl (jx_ws cI cT [(cp_M aM, sM)]) H := hP
      have hD : va_D A (jx_ws cI cT [(cp_M aM, sM)]) := hD
      refine jx_zeq C h.1 (tgt := 33) dX8_put_27 (by decide) (fun hc => ?_) (fun hc => ?_)
      · have h := h.2.1 hc
        refine lv_aload_n hx hb dX8_put_33 rfl (lv_at hl 0 rfl) ?_
        refine jx_callVV C hK hP hD hS hA (ct_M_copy l D cI cT aM _ sM  h) ms_X8_copy lk_X8_196 [0] rfl rfl (fun _ => rfl) (cs' := (fun u => [(cp_M aM, u)])) (fun _ => rfl) (fun _ => rfl) 0 0 rfl rfl rfl rfl rfl hl.1 rfl rfl dX8_put_34 ⟨Nat.le_refl _, Nat.le_refl _⟩ (fun sM_34 H locs h hP hD hS => ?_)
        have hP : va_P D vwCl (jx_ws cI cT [(cp_M aM, sM_34)]) H := hP
        have hD : va_D A (jx_ws cI cT [(cp_M aM, sM_34)]) := hD
        refine lv_aload_n hx hb dX8_put_37 rfl (lv_at hl 0 rfl) ?_
        refine jx_callVV C hK hP hD hS hA (ct_M_record l D cI cT aM _ sM_34  h) ms_X8_record lk_X8_199 [0] rfl rfl (fun _ => rfl) (cs' := (fun u => [(cp_M aM, u)])) (fun _ => rfl) (fun _ => rfl) 0 0 rfl rfl rfl rfl rfl hl.1 rfl rfl dX8_put_38 ⟨Nat.le_refl _, Nat.le_refl _⟩ (fun sM_38 H locs h hP hD hS => ?_)
        have hP : va_P D vwCl (jx_ws cI cT [(cp_M aM, sM_38)]) H := hP
        have hD : va_D A (jx_ws cI cT [(cp_M aM, sM_38)]) := hD
        refine lv_aload_n hx hb dX8_put_41 rfl (lv_at hl 0 rfl) ?_
        refine lv_iload_n hx hb dX8_put_42 rfl (lv_at hl 1 rfl) ?_
        refine lv_iload_n hx hb dX8_put_43 rfl (lv_at hl 2 rfl) ?_
        refine lv_iload_n hx hb dX8_put_44 rfl (lv_at hl 3 rfl) ?_
        refine lv_iload hx hb dX8_put_45 (lv_at hl 4 rfl) ?_
        refine lv_iload hx hb dX8_put_47 (lv_at hl 5 rfl) ?_
        refine jx_callVV C hK hP hD hS hA (ct_M_putsBox l D cI cT aM _ sM_38 l1 l2 l3 l4 l5 h) ms_X8_putsBox lk_X8_202 [0] rfl rfl (fun _ => rfl) (cs' := (fun u => [(cp_M aM, u)])) (fun _ => rfl) (fun _ => rfl) 0 0 rfl rfl rfl rfl rfl hl.1 rfl rfl dX8_put_49 ⟨Nat.le_refl _, Nat.le_refl _⟩ (fun sM_49 H locs h hP hD hS => ?_)
        have hP : va_P D vwCl (jx_ws cI cT [(cp_M aM, sM_49)]) H := hP
        have hD : va_D A (jx_ws cI cT [(cp_M aM, sM_49)]) := hD
        refine lv_aload_n hx hb dX8_put_52 rfl (lv_at hl 0 rfl) ?_
        refine jx_callVV C hK hP hD hS hA (ct_M_tells l D cI cT aM _ sM_49  h) ms_X8_tells lk_X8_206 [0] rfl rfl (fun _ => rfl) (cs' := (fun u => [(cp_M aM, u)])) (fun _ => rfl) (fun _ => rfl) 0 0 rfl rfl rfl rfl rfl hl.1 rfl rfl dX8_put_53 ⟨Nat.le_refl _, Nat.le_refl _⟩ (fun sM_53 H locs h hP hD hS => ?_)
        have hP : va_P D vwCl (jx_ws cI cT [(cp_M aM, sM_53)]) H := hP
        have hD : va_D A (jx_ws cI cT [(cp_M aM, sM_53)]) := hD
        refine lv_aload_n hx hb dX8_put_56 rfl (lv_at hl 0 rfl) ?_
        refine jx_callVI C hK hP hD hS hA (ct_M_levels l D cI cT aM _ sM_53  h) ms_X8_levels lk_X8_209 [0] rfl rfl (fun _ => rfl) (cs' := (fun _ => [(cp_M aM, sM_53)])) (fun _ => rfl) (fun _ => rfl) 0 0 rfl rfl rfl rfl rfl hl.1 rfl rfl dX8_put_57 ⟨Nat.le_refl _, Nat.le_refl _⟩ (fun r57 _ H locs h hP hD hS => ?_)
        have hP : va_P D vwCl (jx_ws cI cT [(cp_M aM, sM_53)]) H := hP
        have hD : va_D A (jx_ws cI cT [(cp_M aM, sM_53)]) := hD
        exact jx_rI C hr hlk hAe hS hQQ sM_53 hP h dX8_put_60
      · have h := h.2.2 hc
        refine jx_ldc C (-1000002) kc_X8_80 dX8_put_30 ?_
        exact jx_rI C hr hlk hAe hS hQQ sM hP h dX8_put_32
    · have h := h.2.1 hc
      refine jx_ldc C (-1000001) kc_X8_192 dX8_put_19 ?_
      exact jx_rI C hr hlk hAe hS hQQ sM hP h dX8_put_21
set_option maxRecDepth 100000 in
set_option maxHeartbeats 4000000 in
theorem ct_M_take (l : Launch) (D : va_G) (cI cT : ClassId) (aM : Nat → Nat) (Q : Int → jx_St → Prop) (sM : jx_St) (l1 : Int) (h : wp_M_take Q sM l1) : jx_KI jx_St l D cI cT yX8_take cX8_take 2 .int 7 177 [.ref (aM 0), .int (jx_i l1)] [(cp_M aM, sM)] (fun u => [(cp_M aM, u)]) Q := by
  refine jx_ent (own := RX8) (by decide) rfl (Nat.le_of_ble_eq_true rfl) ?_
  intro p e s m args below meth c A QQ C hr hlk hK hAe hA hP hD hS ls hl hQQ
  have hl : lv_has ls 2 [(0, .ref (aM 0)), (1, .int (jx_i l1))] := hl
  have hx := C.1
  have hb := C.2.1
  unfold wp_M_take at h
  refine lv_iload_n hx hb dX8_take_0 rfl (lv_at hl 1 rfl) ?_
  refine jx_callSI C hK hP hD hS hA (ct_M_isBox l D cI cT  _  l1 h) ms_X8_isBox lk_X8_184 [] rfl rfl (fun _ => rfl) (cs' := (fun _ => [(cp_M aM, sM)])) (fun _ => rfl) (fun _ => rfl) rfl rfl hl.1 rfl rfl dX8_take_1 ⟨Nat.le_refl _, Nat.le_refl _⟩ (fun r1 _ H locs h hP hD hS => ?_)
  have hP : va_P D vwCl (jx_ws cI cT [(cp_M aM, sM)]) H := hP
  have hD : va_D A (jx_ws cI cT [(cp_M aM, sM)]) := hD
  refine jx_zne C h.1 (tgt := 10) dX8_take_4 (by decide) (fun hc => ?_) (fun hc => ?_)
  · have h := h.2.2 hc
    refine lv_aload_n hx hb dX8_take_10 rfl (lv_at hl 0 rfl) ?_
    refine lv_iload_n hx hb dX8_take_11 rfl (lv_at hl 1 rfl) ?_
    refine jx_callVI C hK hP hD hS hA (ct_M_isThere l D cI cT aM _ sM l1 h) ms_X8_isThere lk_X8_193 [0] rfl rfl (fun _ => rfl) (cs' := (fun _ => [(cp_M aM, sM)])) (fun _ => rfl) (fun _ => rfl) 0 0 rfl rfl rfl rfl rfl hl.1 rfl rfl dX8_take_12 ⟨Nat.le_refl _, Nat.le_refl _⟩ (fun r12 _ H locs h hP hD hS => ?_)
    have hP : va_P D vwCl (jx_ws cI cT [(cp_M aM, sM)]) H := hP
    have hD : va_D A (jx_ws cI cT [(cp_M aM, sM)]) := hD
    refine jx_zne C h.1 (tgt := 21) dX8_take_15 (by decide) (fun hc => ?_) (fun hc => ?_)
    · have h := h.2.2 hc
      refine lv_aload_n hx hb dX8_take_21 rfl (lv_at hl 0 rfl) ?_
      refine jx_callVV C hK hP hD hS hA (ct_M_copy l D cI cT aM _ sM  h) ms_X8_copy lk_X8_196 [0] rfl rfl (fun _ => rfl) (cs' := (fun u => [(cp_M aM, u)])) (fun _ => rfl) (fun _ => rfl) 0 0 rfl rfl rfl rfl rfl hl.1 rfl rfl dX8_take_22 ⟨Nat.le_refl _, Nat.le_refl _⟩ (fun sM_22 H locs h hP hD hS => ?_)
      have hP : va_P D vwCl (jx_ws cI cT [(cp_M aM, sM_22)]) H := hP
      have hD : va_D A (jx_ws cI cT [(cp_M aM, sM_22)]) := hD
      refine lv_aload_n hx hb dX8_take_25 rfl (lv_at hl 0 rfl) ?_
      refine jx_callVV C hK hP hD hS hA (ct_M_record l D cI cT aM _ sM_22  h) ms_X8_record lk_X8_199 [0] rfl rfl (fun _ => rfl) (cs' := (fun u => [(cp_M aM, u)])) (fun _ => rfl) (fun _ => rfl) 0 0 rfl rfl rfl rfl rfl hl.1 rfl rfl dX8_take_26 ⟨Nat.le_refl _, Nat.le_refl _⟩ (fun sM_26 H locs h hP hD hS => ?_)
      have hP : va_P D vwCl (jx_ws cI cT [(cp_M aM, sM_26)]) H := hP
      have hD : va_D A (jx_ws cI cT [(cp_M aM, sM_26)]) := hD
      refine lv_aload_n hx hb dX8_take_29 rfl (lv_at hl 0 rfl) ?_
      refine lv_iload_n hx hb dX8_take_30 rfl (lv_at hl 1 rfl) ?_
      refine jx_callVV C hK hP hD hS hA (ct_M_takesBox l D cI cT aM _ sM_26 l1 h) ms_X8_takesBox lk_X8_212 [0] rfl rfl (fun _ => rfl) (cs' := (fun u => [(cp_M aM, u)])) (fun _ => rfl) (fun _ => rfl) 0 0 rfl rfl rfl rfl rfl hl.1 rfl rfl dX8_take_31 ⟨Nat.le_refl _, Nat.le_refl _⟩ (fun sM_31 H locs h hP hD hS => ?_)
      have hP : va_P D vwCl (jx_ws cI cT [(cp_M aM, sM_31)]) H := hP
      have hD : va_D A (jx_ws cI cT [(cp_M aM, sM_31)]) := hD
      refine lv_aload_n hx hb dX8_take_34 rfl (lv_at hl 0 rfl) ?_
      refine jx_callVV C hK hP hD hS hA (ct_M_tells l D cI cT aM _ sM_31  h) ms_X8_tells lk_X8_206 [0] rfl rfl (fun _ => rfl) (cs' := (fun u => [(cp_M aM, u)])) (fun _ => rfl) (fun _ => rfl) 0 0 rfl rfl rfl rfl rfl hl.1 rfl rfl dX8_take_35 ⟨Nat.le_refl _, Nat.le_refl _⟩ (fun sM_35 H locs h hP hD hS => ?_)
      have hP : va_P D vwCl (jx_ws cI cT [(cp_M aM, sM_35)]) H := hP
      have hD : va_D A (jx_ws cI cT [(cp_M aM, sM_35)]) := hD
      refine lv_aload_n hx hb dX8_take_38 rfl (lv_at hl 0 rfl) ?_
      refine jx_callVI C hK hP hD hS hA (ct_M_levels l D cI cT aM _ sM_35  h) ms_X8_levels lk_X8_209 [0] rfl rfl (fun _ => rfl) (cs' := (fun _ => [(cp_M aM, sM_35)])) (fun _ => rfl) (fun _ => rfl) 0 0 rfl rfl rfl rfl rfl hl.1 rfl rfl dX8_take_39 ⟨Nat.le_refl _, Nat.le_refl _⟩ (fun r39 _ H locs h hP hD hS => ?_)
      have hP : va_P D vwCl (jx_ws cI cT [(cp_M aM, sM_35)]) H := hP
      have hD : va_D A (jx_ws cI cT [(cp_M aM, sM_35)]) := hD
      exact jx_rI C hr hlk hAe hS hQQ sM_35 hP h dX8_take_42
    · have h := h.2.1 hc
      refine jx_ldc C (-1000002) kc_X8_80 dX8_take_18 ?_
      exact jx_rI C hr hlk hAe hS hQQ sM hP h dX8_take_20
  · have h := h.2.1 hc
    refine jx_ldc C (-1000001) kc_X8_192 dX8_take_7 ?_
    exact jx_rI C hr hlk hAe hS hQQ sM hP h dX8_take_9
set_option maxRecDepth 100000 in
set_option maxHeartbeats 4000000 in
theorem ct_M_type (l : Launch) (D : va_G) (cI cT : ClassId) (aM : Nat → Nat) (Q : Int → jx_St → Prop) (sM : jx_St) (l1 : Int) (h : wp_M_type Q sM l1) : jx_KI jx_St l D cI cT yX8_type cX8_type 2 .int 1 22 [.ref (aM 0), .int (jx_i l1)] [(cp_M aM, sM)] (fun u => [(cp_M aM, u)]) Q := by
  refine jx_ent (own := RX8) (by decide) rfl (Nat.le_of_ble_eq_true rfl) ?_
  intro p e s m args below meth c A QQ C hr hlk hK hAe hA hP hD hS ls hl hQQ
  have hl : lv_has ls 2 [(0, .ref (aM 0)), (1, .int (jx_i l1))] := hl
  have hx := C.1
  have hb := C.2.1
  unfold wp_M_type at h
  refine lv_iload_n hx hb dX8_type_0 rfl (lv_at hl 1 rfl) ?_
  refine jx_bipush C dX8_type_1 (by decide) ?_
  refine jx_bipush C dX8_type_3 (by decide) ?_
  refine jx_callSI C hK hP hD hS hA (ct_M_in l D cI cT  _  l1 32 126 h) ms_X8_in lk_X8_180 [] rfl rfl (fun _ => rfl) (cs' := (fun _ => [(cp_M aM, sM)])) (fun _ => rfl) (fun _ => rfl) rfl rfl hl.1 rfl rfl dX8_type_5 ⟨Nat.le_refl _, Nat.le_refl _⟩ (fun r5 _ H locs h hP hD hS => ?_)
  have hP : va_P D vwCl (jx_ws cI cT [(cp_M aM, sM)]) H := hP
  have hD : va_D A (jx_ws cI cT [(cp_M aM, sM)]) := hD
  refine jx_zne C h.1 (tgt := 14) dX8_type_8 (by decide) (fun hc => ?_) (fun hc => ?_)
  · have h := h.2.2 hc
    refine lv_aload_n hx hb dX8_type_14 rfl (lv_at hl 0 rfl) ?_
    refine jx_getI C hK hP 0 0 6 rfl rfl rfl fl_X8_245 dX8_type_15 ?_
    refine jx_bipush C dX8_type_18 (by decide) ?_
    refine jx_cne C h.1 (jx_inR (by decide) (by decide)) (tgt := 26) dX8_type_20 (by decide) (fun hc => ?_) (fun hc => ?_)
    · have h := h.2.2 hc
      refine lv_aload_n hx hb dX8_type_26 rfl (lv_at hl 0 rfl) ?_
      refine jx_getR C hK hP 0 0 3 rfl rfl rfl fl_X8_19 dX8_type_27 ?_
      refine lv_aload_n hx hb dX8_type_30 rfl (lv_at hl 0 rfl) ?_
      refine jx_getI C hK hP 0 0 6 rfl rfl rfl fl_X8_245 dX8_type_31 ?_
      refine lv_iload_n hx hb dX8_type_34 rfl (lv_at hl 1 rfl) ?_
      refine jx_iast C hK hP hD hS 0 4 rfl rfl rfl rfl h.1 rfl dX8_type_35 (fun H locs hP hD hS => ?_)
      have h := h.2
      have hP : va_P D vwCl (jx_ws cI cT [(cp_M aM, (jx_su sM 3 (sM 6 0) l1))]) H := hP
      have hD : va_D A (jx_ws cI cT [(cp_M aM, (jx_su sM 3 (sM 6 0) l1))]) := hD
      refine lv_aload_n hx hb dX8_type_36 rfl (lv_at hl 0 rfl) ?_
      refine lv_dup hx hb dX8_type_37 rfl ?_
      refine jx_getI C hK hP 0 0 6 rfl rfl rfl fl_X8_245 dX8_type_38 ?_
      refine jx_iconst C dX8_type_41 ?_
      refine jx_iadd C dX8_type_42 ?_
      refine jx_putI C hK hP hD hS 0 0 6 rfl rfl rfl rfl rfl fl_X8_245 fw_X8_6 ⟨rfl, rfl⟩ rfl dX8_type_43 (fun H locs hP hD hS => ?_)
      have hP : va_P D vwCl (jx_ws cI cT [(cp_M aM, (jx_su (jx_su sM 3 (sM 6 0) l1) 6 0 (((jx_su sM 3 (sM 6 0) l1) 6 0) + 1)))]) H := hP
      have hD : va_D A (jx_ws cI cT [(cp_M aM, (jx_su (jx_su sM 3 (sM 6 0) l1) 6 0 (((jx_su sM 3 (sM 6 0) l1) 6 0) + 1)))]) := hD
      refine lv_aload_n hx hb dX8_type_46 rfl (lv_at hl 0 rfl) ?_
      refine jx_getI C hK hP 0 0 6 rfl rfl rfl fl_X8_245 dX8_type_47 ?_
      exact jx_rI C hr hlk hAe hS hQQ (jx_su (jx_su sM 3 (sM 6 0) l1) 6 0 (((jx_su sM 3 (sM 6 0) l1) 6 0) + 1)) hP h dX8_type_50
    · have h := h.2.1 hc
      refine jx_ldc C (-1000003) kc_X8_251 dX8_type_23 ?_
      exact jx_rI C hr hlk hAe hS hQQ sM hP h dX8_type_25
  · have h := h.2.1 hc
    refine jx_ldc C (-1000001) kc_X8_192 dX8_type_11 ?_
    exact jx_rI C hr hlk hAe hS hQQ sM hP h dX8_type_13
set_option maxRecDepth 100000 in
set_option maxHeartbeats 4000000 in
theorem ct_M_undo (l : Launch) (D : va_G) (cI cT : ClassId) (aM : Nat → Nat) (Q : Int → jx_St → Prop) (sM : jx_St) (h : wp_M_undo Q sM) : jx_KI jx_St l D cI cT yX8_undo cX8_undo 2 .int 0 0 [.ref (aM 0)] [(cp_M aM, sM)] (fun u => [(cp_M aM, u)]) Q := by
  refine jx_ent (own := RX8) (by decide) rfl (Nat.le_of_ble_eq_true rfl) ?_
  intro p e s m args below meth c A QQ C hr hlk hK hAe hA hP hD hS ls hl hQQ
  have hl : lv_has ls 2 [(0, .ref (aM 0))] := hl
  have hx := C.1
  have hb := C.2.1
  unfold wp_M_undo at h
  have Lo36 : ∀ (K70 : jx_St → Prop) (n : Nat) (sM : jx_St) (l1 : Int), jx_it (fun B36 v => wp_M_undo_36 Q K70 B36 v.1 v.2) n (sM, l1) → (∀ (sM : jx_St), K70 sM → ∀ (H : Heap) (locs : List Loc), va_P D vwCl (jx_ws cI cT [(cp_M aM, sM)]) H → va_D A (jx_ws cI cT [(cp_M aM, sM)]) → va_S A s.heap H locs → ∀ ls : Array Slot, lv_has ls 2 [(0, .ref (aM 0))] → W p l e (jx_rm 0 0) s m args below meth c H locs 0 0 QQ (F0 m 70 ls [])) → ∀ (H : Heap) (locs : List Loc), va_P D vwCl (jx_ws cI cT [(cp_M aM, sM)]) H → va_D A (jx_ws cI cT [(cp_M aM, sM)]) → va_S A s.heap H locs → ∀ ls : Array Slot, lv_has ls 2 [(0, .ref (aM 0)), (1, .int (jx_i l1))] → W p l e (jx_rm 0 0) s m args below meth c H locs 0 0 QQ (F0 m 36 ls []) := by
    intro K70 n
    induction n with
    | zero =>
      intro sM l1 h
      exact (show False from h).elim
    | succ n ih =>
      intro sM l1 h K70E H locs hP hD hS ls hl
      have h : wp_M_undo_36 Q K70 (jx_it (fun B36 v => wp_M_undo_36 Q K70 B36 v.1 v.2) n) sM l1 := h
      have ih := fun sM l1 h => ih sM l1 h K70E
      generalize jx_it (fun B36 v => wp_M_undo_36 Q K70 B36 v.1 v.2) n = B36 at h ih
      unfold wp_M_undo_36 at h
      refine lv_iload_n hx hb dX8_undo_36 rfl (lv_at hl 1 rfl) ?_
      refine jx_sipush C dX8_undo_37 (by decide) ?_
      refine jx_cge C h.1 (jx_inR (by decide) (by decide)) (tgt := 70) dX8_undo_40 (by decide) (fun hc => ?_) (fun hc => ?_)
      · have h := h.2.2 hc
        exact K70E sM h _ _ hP hD hS ls (lv_sub hl [0] rfl)
      · have h := h.2.1 hc
        refine lv_aload_n hx hb dX8_undo_43 rfl (lv_at hl 0 rfl) ?_
        refine jx_getR C hK hP 0 0 0 rfl rfl rfl fl_X8_7 dX8_undo_44 ?_
        refine lv_iload_n hx hb dX8_undo_47 rfl (lv_at hl 1 rfl) ?_
        refine lv_aload_n hx hb dX8_undo_48 rfl (lv_at hl 0 rfl) ?_
        refine jx_getR C hK hP 0 0 2 rfl rfl rfl fl_X8_16 dX8_undo_49 ?_
        refine jx_sipush C dX8_undo_52 (by decide) ?_
        refine lv_aload_n hx hb dX8_undo_55 rfl (lv_at hl 0 rfl) ?_
        refine jx_getI C hK hP 0 0 5 rfl rfl rfl fl_X8_73 dX8_undo_56 ?_
        refine jx_imul C dX8_undo_59 ?_
        refine lv_iload_n hx hb dX8_undo_60 rfl (lv_at hl 1 rfl) ?_
        refine jx_iadd C dX8_undo_61 ?_
        refine jx_iald C hK hP 0 3 rfl rfl rfl h.1 dX8_undo_62 ?_
        have h := h.2
        refine jx_iast C hK hP hD hS 0 1 rfl rfl rfl rfl h.1 rfl dX8_undo_63 (fun H locs hP hD hS => ?_)
        have h := h.2
        have hP : va_P D vwCl (jx_ws cI cT [(cp_M aM, (jx_su sM 0 l1 (sM 2 ((439 * (sM 5 0)) + l1))))]) H := hP
        have hD : va_D A (jx_ws cI cT [(cp_M aM, (jx_su sM 0 l1 (sM 2 ((439 * (sM 5 0)) + l1))))]) := hD
        refine jx_iinc C (lv' := [(1, .int (jx_i (l1 + 1))), (0, .ref (aM 0))]) dX8_undo_64 hl (k := 1) rfl (by decide) rfl (fun ls hl => ?_)
        refine lv_goto (tgt := 36) hx hb dX8_undo_67 (by decide) ?_
        exact ih (jx_su sM 0 l1 (sM 2 ((439 * (sM 5 0)) + l1))) (l1 + 1) h _ _ hP hD hS ls (lv_sub hl [1, 0] rfl)
  have J70 : ∀ (sM : jx_St), wp_M_undo_70 Q sM → ∀ (H : Heap) (locs : List Loc), va_P D vwCl (jx_ws cI cT [(cp_M aM, sM)]) H → va_D A (jx_ws cI cT [(cp_M aM, sM)]) → va_S A s.heap H locs → ∀ ls : Array Slot, lv_has ls 2 [(0, .ref (aM 0))] → W p l e (jx_rm 0 0) s m args below meth c H locs 0 0 QQ (F0 m 70 ls []) := by
    intro sM h H locs hP hD hS ls hl
    unfold wp_M_undo_70 at h
    refine lv_aload_n hx hb dX8_undo_70 rfl (lv_at hl 0 rfl) ?_
    refine jx_getI C hK hP 0 0 4 rfl rfl rfl fl_X8_77 dX8_undo_71 ?_
    exact jx_rI C hr hlk hAe hS hQQ sM hP h dX8_undo_74
  refine lv_aload_n hx hb dX8_undo_0 rfl (lv_at hl 0 rfl) ?_
  refine jx_getI C hK hP 0 0 4 rfl rfl rfl fl_X8_77 dX8_undo_1 ?_
  refine jx_zne C h.1 (tgt := 10) dX8_undo_4 (by decide) (fun hc => ?_) (fun hc => ?_)
  · have h := h.2.2 hc
    refine lv_aload_n hx hb dX8_undo_10 rfl (lv_at hl 0 rfl) ?_
    refine lv_aload_n hx hb dX8_undo_11 rfl (lv_at hl 0 rfl) ?_
    refine jx_getI C hK hP 0 0 5 rfl rfl rfl fl_X8_73 dX8_undo_12 ?_
    refine jx_iconst C dX8_undo_15 ?_
    refine jx_iadd C dX8_undo_16 ?_
    refine jx_iconst C dX8_undo_17 ?_
    refine jx_isub C dX8_undo_18 ?_
    refine jx_iconst C dX8_undo_19 ?_
    refine jx_irem C (by decide) dX8_undo_20 ?_
    refine jx_putI C hK hP hD hS 0 0 5 rfl rfl rfl rfl rfl fl_X8_73 fw_X8_5 ⟨rfl, rfl⟩ rfl dX8_undo_21 (fun H locs hP hD hS => ?_)
    have hP : va_P D vwCl (jx_ws cI cT [(cp_M aM, (jx_su sM 5 0 (jx_rem (((sM 5 0) + 4) - 1) 4)))]) H := hP
    have hD : va_D A (jx_ws cI cT [(cp_M aM, (jx_su sM 5 0 (jx_rem (((sM 5 0) + 4) - 1) 4)))]) := hD
    refine lv_aload_n hx hb dX8_undo_24 rfl (lv_at hl 0 rfl) ?_
    refine lv_dup hx hb dX8_undo_25 rfl ?_
    refine jx_getI C hK hP 0 0 4 rfl rfl rfl fl_X8_77 dX8_undo_26 ?_
    refine jx_iconst C dX8_undo_29 ?_
    refine jx_isub C dX8_undo_30 ?_
    refine jx_putI C hK hP hD hS 0 0 4 rfl rfl rfl rfl rfl fl_X8_77 fw_X8_4 ⟨rfl, rfl⟩ rfl dX8_undo_31 (fun H locs hP hD hS => ?_)
    have hP : va_P D vwCl (jx_ws cI cT [(cp_M aM, (jx_su (jx_su sM 5 0 (jx_rem (((sM 5 0) + 4) - 1) 4)) 4 0 (((jx_su sM 5 0 (jx_rem (((sM 5 0) + 4) - 1) 4)) 4 0) - 1)))]) H := hP
    have hD : va_D A (jx_ws cI cT [(cp_M aM, (jx_su (jx_su sM 5 0 (jx_rem (((sM 5 0) + 4) - 1) 4)) 4 0 (((jx_su sM 5 0 (jx_rem (((sM 5 0) + 4) - 1) 4)) 4 0) - 1)))]) := hD
    refine jx_iconst C dX8_undo_34 ?_
    refine lv_istore_n (lv' := [(1, .int (jx_i 0)), (0, .ref (aM 0))]) hx hb dX8_undo_35 rfl hl (by decide) rfl (fun ls hl => ?_)
    obtain ⟨n, h⟩ := h
    refine Lo36 _ n (jx_su (jx_su sM 5 0 (jx_rem (((sM 5 0) + 4) - 1) 4)) 4 0 (((jx_su sM 5 0 (jx_rem (((sM 5 0) + 4) - 1) 4)) 4 0) - 1)) 0 h ?_ _ _ hP hD hS ls (lv_sub hl [1, 0] rfl)
    · intro sM h H locs hP hD hS ls hl
      exact J70 sM h _ _ hP hD hS ls (lv_sub hl [0] rfl)
  · have h := h.2.1 hc
    refine jx_ldc C (-1000002) kc_X8_80 dX8_undo_7 ?_
    exact jx_rI C hr hlk hAe hS hQQ sM hP h dX8_undo_9
set_option maxRecDepth 100000 in
set_option maxHeartbeats 4000000 in
theorem ct_M_window (l : Launch) (D : va_G) (cI cT : ClassId) (aM : Nat → Nat) (Q : Int → jx_St → Prop) (sM : jx_St) (l1 : Int) (l2 : Int) (l3 : Int) (l4 : Int) (l5 : Int) (h : wp_M_window Q sM l1 l2 l3 l4 l5) : jx_KI jx_St l D cI cT yX8_window cX8_window 9 .int 3 72 [.ref (aM 0), .int (jx_i l1), .int (jx_i l2), .int (jx_i l3), .int (jx_i l4), .int (jx_i l5)] [(cp_M aM, sM)] (fun u => [(cp_M aM, u)]) Q := by
  refine jx_ent (own := RX8) (by decide) rfl (Nat.le_of_ble_eq_true rfl) ?_
  intro p e s m args below meth c A QQ C hr hlk hK hAe hA hP hD hS ls hl hQQ
  have hl : lv_has ls 9 [(0, .ref (aM 0)), (1, .int (jx_i l1)), (2, .int (jx_i l2)), (3, .int (jx_i l3)), (4, .int (jx_i l4)), (5, .int (jx_i l5))] := hl
  have hx := C.1
  have hb := C.2.1
  unfold wp_M_window at h
  have Lo34 : ∀ (sM : jx_St) (K84 : Int → Prop) (n : Nat) (l6 : Int) (l7 : Int), jx_it (fun B34 v => wp_M_window_34 Q l1 l2 l3 l4 l5 K84 sM B34 v.1 v.2) n (l6, l7) → (∀ (l6 : Int), K84 l6 → ∀ (H : Heap) (locs : List Loc), va_P D vwCl (jx_ws cI cT [(cp_M aM, sM)]) H → va_D A (jx_ws cI cT [(cp_M aM, sM)]) → va_S A s.heap H locs → ∀ ls : Array Slot, lv_has ls 9 [(0, .ref (aM 0)), (1, .int (jx_i l1)), (2, .int (jx_i l2)), (3, .int (jx_i l3)), (4, .int (jx_i l4)), (5, .int (jx_i l5)), (6, .int (jx_i l6))] → W p l e (jx_rm 3 72) s m args below meth c H locs 0 0 QQ (F0 m 84 ls [])) → ∀ (H : Heap) (locs : List Loc), va_P D vwCl (jx_ws cI cT [(cp_M aM, sM)]) H → va_D A (jx_ws cI cT [(cp_M aM, sM)]) → va_S A s.heap H locs → ∀ ls : Array Slot, lv_has ls 9 [(0, .ref (aM 0)), (1, .int (jx_i l1)), (2, .int (jx_i l2)), (3, .int (jx_i l3)), (4, .int (jx_i l4)), (5, .int (jx_i l5)), (6, .int (jx_i l6)), (7, .int (jx_i l7))] → W p l e (jx_rm 3 72) s m args below meth c H locs 0 0 QQ (F0 m 34 ls []) := by
    intro sM K84 n
    induction n with
    | zero =>
      intro l6 l7 h
      exact (show False from h).elim
    | succ n ih =>
      intro l6 l7 h K84E H locs hP hD hS ls hl
      have h : wp_M_window_34 Q l1 l2 l3 l4 l5 K84 sM (jx_it (fun B34 v => wp_M_window_34 Q l1 l2 l3 l4 l5 K84 sM B34 v.1 v.2) n) l6 l7 := h
      have ih := fun l6 l7 h => ih l6 l7 h K84E
      generalize jx_it (fun B34 v => wp_M_window_34 Q l1 l2 l3 l4 l5 K84 sM B34 v.1 v.2) n = B34 at h ih
      unfold wp_M_window_34 at h
      have J75 : ∀ (l7 : Int) (t0 : Int) (t1 : Int), wp_M_window_75 Q l1 l2 l3 l4 l5 B34 K84 sM l7 t0 t1 → ∀ (H : Heap) (locs : List Loc), va_P D vwCl (jx_ws cI cT [(cp_M aM, sM)]) H → va_D A (jx_ws cI cT [(cp_M aM, sM)]) → va_S A s.heap H locs → ∀ ls : Array Slot, lv_has ls 9 [(0, .ref (aM 0)), (1, .int (jx_i l1)), (2, .int (jx_i l2)), (3, .int (jx_i l3)), (4, .int (jx_i l4)), (5, .int (jx_i l5)), (7, .int (jx_i l7))] → W p l e (jx_rm 3 72) s m args below meth c H locs 0 0 QQ (F0 m 75 ls [.int (jx_i t1), .int (jx_i t0)]) := by
        intro l7 t0 t1 h H locs hP hD hS ls hl
        unfold wp_M_window_75 at h
        refine jx_ior C dX8_window_75 ?_
        refine lv_istore (lv' := [(6, .int (jx_i (jx_or t0 t1))), (0, .ref (aM 0)), (1, .int (jx_i l1)), (2, .int (jx_i l2)), (3, .int (jx_i l3)), (4, .int (jx_i l4)), (5, .int (jx_i l5)), (7, .int (jx_i l7))]) hx hb dX8_window_76 hl (by decide) rfl (fun ls hl => ?_)
        refine jx_iinc C (lv' := [(7, .int (jx_i (l7 + 1))), (6, .int (jx_i (jx_or t0 t1))), (0, .ref (aM 0)), (1, .int (jx_i l1)), (2, .int (jx_i l2)), (3, .int (jx_i l3)), (4, .int (jx_i l4)), (5, .int (jx_i l5))]) dX8_window_78 hl (k := 7) rfl (by decide) rfl (fun ls hl => ?_)
        refine lv_goto (tgt := 34) hx hb dX8_window_81 (by decide) ?_
        exact ih (jx_or t0 t1) (l7 + 1) h _ _ hP hD hS ls (lv_sub hl [2, 3, 4, 5, 6, 7, 1, 0] rfl)
      have J74 : ∀ (l7 : Int) (t0 : Int), wp_M_window_74 Q l1 l2 l3 l4 l5 B34 K84 sM l7 t0 → ∀ (H : Heap) (locs : List Loc), va_P D vwCl (jx_ws cI cT [(cp_M aM, sM)]) H → va_D A (jx_ws cI cT [(cp_M aM, sM)]) → va_S A s.heap H locs → ∀ ls : Array Slot, lv_has ls 9 [(0, .ref (aM 0)), (1, .int (jx_i l1)), (2, .int (jx_i l2)), (3, .int (jx_i l3)), (4, .int (jx_i l4)), (5, .int (jx_i l5)), (7, .int (jx_i l7))] → W p l e (jx_rm 3 72) s m args below meth c H locs 0 0 QQ (F0 m 74 ls [.int (jx_i t0)]) := by
        intro l7 t0 h H locs hP hD hS ls hl
        unfold wp_M_window_74 at h
        refine jx_iconst C dX8_window_74 ?_
        exact J75 l7 t0 0 h _ _ hP hD hS ls (lv_sub hl [0, 1, 2, 3, 4, 5, 6] rfl)
      refine lv_iload hx hb dX8_window_34 (lv_at hl 7 rfl) ?_
      refine jx_bipush C dX8_window_36 (by decide) ?_
      refine jx_cge C h.1 (jx_inR (by decide) (by decide)) (tgt := 84) dX8_window_38 (by decide) (fun hc => ?_) (fun hc => ?_)
      · have h := h.2.2 hc
        exact K84E l6 h _ _ hP hD hS ls (lv_sub hl [0, 1, 2, 3, 4, 5, 6] rfl)
      · have h := h.2.1 hc
        refine lv_iload hx hb dX8_window_41 (lv_at hl 6 rfl) ?_
        refine lv_aload_n hx hb dX8_window_43 rfl (lv_at hl 0 rfl) ?_
        refine lv_iload hx hb dX8_window_44 (lv_at hl 7 rfl) ?_
        refine jx_callVI C hK hP hD hS hA (ct_M_isThere l D cI cT aM _ sM l7 h) ms_X8_isThere lk_X8_193 [0] rfl rfl (fun _ => rfl) (cs' := (fun _ => [(cp_M aM, sM)])) (fun _ => rfl) (fun _ => rfl) 0 0 rfl rfl rfl rfl rfl hl.1 rfl rfl dX8_window_46 ⟨Nat.le_refl _, Nat.le_refl _⟩ (fun r46 _ H locs h hP hD hS => ?_)
        have hP : va_P D vwCl (jx_ws cI cT [(cp_M aM, sM)]) H := hP
        have hD : va_D A (jx_ws cI cT [(cp_M aM, sM)]) := hD
        refine jx_zeq C h.1 (tgt := 74) dX8_window_49 (by decide) (fun hc => ?_) (fun hc => ?_)
        · have h := h.2.1 hc
          exact J74 l7 l6 h _ _ hP hD hS ls (lv_sub hl [0, 1, 2, 3, 4, 5, 7] rfl)
        · have h := h.2.2 hc
          refine lv_aload_n hx hb dX8_window_52 rfl (lv_at hl 0 rfl) ?_
          refine lv_iload hx hb dX8_window_53 (lv_at hl 7 rfl) ?_
          refine jx_iconst C dX8_window_55 ?_
          refine lv_iload_n hx hb dX8_window_56 rfl (lv_at hl 1 rfl) ?_
          refine lv_iload_n hx hb dX8_window_57 rfl (lv_at hl 2 rfl) ?_
          refine lv_iload_n hx hb dX8_window_58 rfl (lv_at hl 3 rfl) ?_
          refine lv_iload hx hb dX8_window_59 (lv_at hl 4 rfl) ?_
          refine jx_callVI C hK hP hD hS hA (ct_M_meets l D cI cT aM _ sM l7 0 l1 l2 l3 l4 h) ms_X8_meets lk_X8_228 [0] rfl rfl (fun _ => rfl) (cs' := (fun _ => [(cp_M aM, sM)])) (fun _ => rfl) (fun _ => rfl) 0 0 rfl rfl rfl rfl rfl hl.1 rfl rfl dX8_window_61 ⟨Nat.le_refl _, Nat.le_refl _⟩ (fun r61 _ H locs h hP hD hS => ?_)
          have hP : va_P D vwCl (jx_ws cI cT [(cp_M aM, sM)]) H := hP
          have hD : va_D A (jx_ws cI cT [(cp_M aM, sM)]) := hD
          refine jx_zeq C h.1 (tgt := 74) dX8_window_64 (by decide) (fun hc => ?_) (fun hc => ?_)
          · have h := h.2.1 hc
            exact J74 l7 l6 h _ _ hP hD hS ls (lv_sub hl [0, 1, 2, 3, 4, 5, 7] rfl)
          · have h := h.2.2 hc
            refine jx_iconst C dX8_window_67 ?_
            refine lv_iload hx hb dX8_window_68 (lv_at hl 7 rfl) ?_
            refine jx_ishl C dX8_window_70 ?_
            refine lv_goto (tgt := 75) hx hb dX8_window_71 (by decide) ?_
            exact J75 l7 l6 (jx_shl 1 l7) h _ _ hP hD hS ls (lv_sub hl [0, 1, 2, 3, 4, 5, 7] rfl)
  have Lo90 : ∀ (sM : jx_St) (l6 : Int) (K147 : Int → Prop) (n : Nat) (l7 : Int) (l8 : Int), jx_it (fun B90 v => wp_M_window_90 Q l1 l2 l3 l4 l5 K147 sM l6 B90 v.1 v.2) n (l7, l8) → (∀ (l7 : Int), K147 l7 → ∀ (H : Heap) (locs : List Loc), va_P D vwCl (jx_ws cI cT [(cp_M aM, sM)]) H → va_D A (jx_ws cI cT [(cp_M aM, sM)]) → va_S A s.heap H locs → ∀ ls : Array Slot, lv_has ls 9 [(5, .int (jx_i l5)), (6, .int (jx_i l6)), (7, .int (jx_i l7))] → W p l e (jx_rm 3 72) s m args below meth c H locs 0 0 QQ (F0 m 147 ls [])) → ∀ (H : Heap) (locs : List Loc), va_P D vwCl (jx_ws cI cT [(cp_M aM, sM)]) H → va_D A (jx_ws cI cT [(cp_M aM, sM)]) → va_S A s.heap H locs → ∀ ls : Array Slot, lv_has ls 9 [(0, .ref (aM 0)), (1, .int (jx_i l1)), (2, .int (jx_i l2)), (3, .int (jx_i l3)), (4, .int (jx_i l4)), (5, .int (jx_i l5)), (6, .int (jx_i l6)), (7, .int (jx_i l7)), (8, .int (jx_i l8))] → W p l e (jx_rm 3 72) s m args below meth c H locs 0 0 QQ (F0 m 90 ls []) := by
    intro sM l6 K147 n
    induction n with
    | zero =>
      intro l7 l8 h
      exact (show False from h).elim
    | succ n ih =>
      intro l7 l8 h K147E H locs hP hD hS ls hl
      have h : wp_M_window_90 Q l1 l2 l3 l4 l5 K147 sM l6 (jx_it (fun B90 v => wp_M_window_90 Q l1 l2 l3 l4 l5 K147 sM l6 B90 v.1 v.2) n) l7 l8 := h
      have ih := fun l7 l8 h => ih l7 l8 h K147E
      generalize jx_it (fun B90 v => wp_M_window_90 Q l1 l2 l3 l4 l5 K147 sM l6 B90 v.1 v.2) n = B90 at h ih
      unfold wp_M_window_90 at h
      have J138 : ∀ (l8 : Int) (t0 : Int) (t1 : Int), wp_M_window_138 Q l1 l2 l3 l4 l5 B90 K147 sM l6 l8 t0 t1 → ∀ (H : Heap) (locs : List Loc), va_P D vwCl (jx_ws cI cT [(cp_M aM, sM)]) H → va_D A (jx_ws cI cT [(cp_M aM, sM)]) → va_S A s.heap H locs → ∀ ls : Array Slot, lv_has ls 9 [(0, .ref (aM 0)), (1, .int (jx_i l1)), (2, .int (jx_i l2)), (3, .int (jx_i l3)), (4, .int (jx_i l4)), (5, .int (jx_i l5)), (6, .int (jx_i l6)), (8, .int (jx_i l8))] → W p l e (jx_rm 3 72) s m args below meth c H locs 0 0 QQ (F0 m 138 ls [.int (jx_i t1), .int (jx_i t0)]) := by
        intro l8 t0 t1 h H locs hP hD hS ls hl
        unfold wp_M_window_138 at h
        refine jx_iadd C dX8_window_138 ?_
        refine lv_istore (lv' := [(7, .int (jx_i (t0 + t1))), (0, .ref (aM 0)), (1, .int (jx_i l1)), (2, .int (jx_i l2)), (3, .int (jx_i l3)), (4, .int (jx_i l4)), (5, .int (jx_i l5)), (6, .int (jx_i l6)), (8, .int (jx_i l8))]) hx hb dX8_window_139 hl (by decide) rfl (fun ls hl => ?_)
        refine jx_iinc C (lv' := [(8, .int (jx_i (l8 + 1))), (7, .int (jx_i (t0 + t1))), (0, .ref (aM 0)), (1, .int (jx_i l1)), (2, .int (jx_i l2)), (3, .int (jx_i l3)), (4, .int (jx_i l4)), (5, .int (jx_i l5)), (6, .int (jx_i l6))]) dX8_window_141 hl (k := 8) rfl (by decide) rfl (fun ls hl => ?_)
        refine lv_goto (tgt := 90) hx hb dX8_window_144 (by decide) ?_
        exact ih (t0 + t1) (l8 + 1) h _ _ hP hD hS ls (lv_sub hl [2, 3, 4, 5, 6, 7, 8, 1, 0] rfl)
      have J137 : ∀ (l8 : Int) (t0 : Int), wp_M_window_137 Q l1 l2 l3 l4 l5 B90 K147 sM l6 l8 t0 → ∀ (H : Heap) (locs : List Loc), va_P D vwCl (jx_ws cI cT [(cp_M aM, sM)]) H → va_D A (jx_ws cI cT [(cp_M aM, sM)]) → va_S A s.heap H locs → ∀ ls : Array Slot, lv_has ls 9 [(0, .ref (aM 0)), (1, .int (jx_i l1)), (2, .int (jx_i l2)), (3, .int (jx_i l3)), (4, .int (jx_i l4)), (5, .int (jx_i l5)), (6, .int (jx_i l6)), (8, .int (jx_i l8))] → W p l e (jx_rm 3 72) s m args below meth c H locs 0 0 QQ (F0 m 137 ls [.int (jx_i t0)]) := by
        intro l8 t0 h H locs hP hD hS ls hl
        unfold wp_M_window_137 at h
        refine jx_iconst C dX8_window_137 ?_
        exact J138 l8 t0 0 h _ _ hP hD hS ls (lv_sub hl [0, 1, 2, 3, 4, 5, 6, 7] rfl)
      refine lv_iload hx hb dX8_window_90 (lv_at hl 8 rfl) ?_
      refine jx_bipush C dX8_window_92 (by decide) ?_
      refine jx_cge C h.1 (jx_inR (by decide) (by decide)) (tgt := 147) dX8_window_94 (by decide) (fun hc => ?_) (fun hc => ?_)
      · have h := h.2.2 hc
        exact K147E l7 h _ _ hP hD hS ls (lv_sub hl [5, 6, 7] rfl)
      · have h := h.2.1 hc
        refine lv_iload hx hb dX8_window_97 (lv_at hl 7 rfl) ?_
        refine lv_aload_n hx hb dX8_window_99 rfl (lv_at hl 0 rfl) ?_
        refine lv_iload hx hb dX8_window_100 (lv_at hl 8 rfl) ?_
        refine jx_callVI C hK hP hD hS hA (ct_M_levelOf l D cI cT aM _ sM l8 h) ms_X8_levelOf lk_X8_81 [0] rfl rfl (fun _ => rfl) (cs' := (fun _ => [(cp_M aM, sM)])) (fun _ => rfl) (fun _ => rfl) 0 0 rfl rfl rfl rfl rfl hl.1 rfl rfl dX8_window_102 ⟨Nat.le_refl _, Nat.le_refl _⟩ (fun r102 _ H locs h hP hD hS => ?_)
        have hP : va_P D vwCl (jx_ws cI cT [(cp_M aM, sM)]) H := hP
        have hD : va_D A (jx_ws cI cT [(cp_M aM, sM)]) := hD
        refine jx_iconst C dX8_window_105 ?_
        refine jx_ceq C h.1 (jx_inR (by decide) (by decide)) (tgt := 137) dX8_window_106 (by decide) (fun hc => ?_) (fun hc => ?_)
        · have h := h.2.1 hc
          exact J137 l8 l7 h _ _ hP hD hS ls (lv_sub hl [0, 1, 2, 3, 4, 5, 6, 8] rfl)
        · have h := h.2.2 hc
          refine lv_aload_n hx hb dX8_window_109 rfl (lv_at hl 0 rfl) ?_
          refine lv_iload hx hb dX8_window_110 (lv_at hl 8 rfl) ?_
          refine jx_callVI C hK hP hD hS hA (ct_M_manyOf l D cI cT aM _ sM l8 h) ms_X8_manyOf lk_X8_85 [0] rfl rfl (fun _ => rfl) (cs' := (fun _ => [(cp_M aM, sM)])) (fun _ => rfl) (fun _ => rfl) 0 0 rfl rfl rfl rfl rfl hl.1 rfl rfl dX8_window_112 ⟨Nat.le_refl _, Nat.le_refl _⟩ (fun r112 _ H locs h hP hD hS => ?_)
          have hP : va_P D vwCl (jx_ws cI cT [(cp_M aM, sM)]) H := hP
          have hD : va_D A (jx_ws cI cT [(cp_M aM, sM)]) := hD
          refine jx_zle C h.1 (tgt := 137) dX8_window_115 (by decide) (fun hc => ?_) (fun hc => ?_)
          · have h := h.2.1 hc
            exact J137 l8 l7 h _ _ hP hD hS ls (lv_sub hl [0, 1, 2, 3, 4, 5, 6, 8] rfl)
          · have h := h.2.2 hc
            refine lv_aload_n hx hb dX8_window_118 rfl (lv_at hl 0 rfl) ?_
            refine lv_iload hx hb dX8_window_119 (lv_at hl 8 rfl) ?_
            refine jx_iconst C dX8_window_121 ?_
            refine lv_iload_n hx hb dX8_window_122 rfl (lv_at hl 1 rfl) ?_
            refine lv_iload_n hx hb dX8_window_123 rfl (lv_at hl 2 rfl) ?_
            refine lv_iload_n hx hb dX8_window_124 rfl (lv_at hl 3 rfl) ?_
            refine lv_iload hx hb dX8_window_125 (lv_at hl 4 rfl) ?_
            refine jx_callVI C hK hP hD hS hA (ct_M_meets l D cI cT aM _ sM l8 1 l1 l2 l3 l4 h) ms_X8_meets lk_X8_228 [0] rfl rfl (fun _ => rfl) (cs' := (fun _ => [(cp_M aM, sM)])) (fun _ => rfl) (fun _ => rfl) 0 0 rfl rfl rfl rfl rfl hl.1 rfl rfl dX8_window_127 ⟨Nat.le_refl _, Nat.le_refl _⟩ (fun r127 _ H locs h hP hD hS => ?_)
            have hP : va_P D vwCl (jx_ws cI cT [(cp_M aM, sM)]) H := hP
            have hD : va_D A (jx_ws cI cT [(cp_M aM, sM)]) := hD
            refine jx_zeq C h.1 (tgt := 137) dX8_window_130 (by decide) (fun hc => ?_) (fun hc => ?_)
            · have h := h.2.1 hc
              exact J137 l8 l7 h _ _ hP hD hS ls (lv_sub hl [0, 1, 2, 3, 4, 5, 6, 8] rfl)
            · have h := h.2.2 hc
              refine jx_iconst C dX8_window_133 ?_
              refine lv_goto (tgt := 138) hx hb dX8_window_134 (by decide) ?_
              exact J138 l8 l7 1 h _ _ hP hD hS ls (lv_sub hl [0, 1, 2, 3, 4, 5, 6, 8] rfl)
  have J147 : ∀ (sM : jx_St) (l6 : Int) (l7 : Int), wp_M_window_147 Q l1 l2 l3 l4 l5 sM l6 l7 → ∀ (H : Heap) (locs : List Loc), va_P D vwCl (jx_ws cI cT [(cp_M aM, sM)]) H → va_D A (jx_ws cI cT [(cp_M aM, sM)]) → va_S A s.heap H locs → ∀ ls : Array Slot, lv_has ls 9 [(5, .int (jx_i l5)), (6, .int (jx_i l6)), (7, .int (jx_i l7))] → W p l e (jx_rm 3 72) s m args below meth c H locs 0 0 QQ (F0 m 147 ls []) := by
    intro sM l6 l7 h H locs hP hD hS ls hl
    unfold wp_M_window_147 at h
    refine lv_iload hx hb dX8_window_147 (lv_at hl 0 rfl) ?_
    refine jx_zne C h.1 (tgt := 157) dX8_window_149 (by decide) (fun hc => ?_) (fun hc => ?_)
    · have h := h.2.2 hc
      refine lv_iload hx hb dX8_window_157 (lv_at hl 2 rfl) ?_
      exact jx_rI C hr hlk hAe hS hQQ sM hP h dX8_window_159
    · have h := h.2.1 hc
      refine lv_iload hx hb dX8_window_152 (lv_at hl 1 rfl) ?_
      refine lv_goto (tgt := 159) hx hb dX8_window_154 (by decide) ?_
      exact jx_rI C hr hlk hAe hS hQQ sM hP h dX8_window_159
  have J84 : ∀ (sM : jx_St) (l6 : Int), wp_M_window_84 Q l1 l2 l3 l4 l5 sM l6 → ∀ (H : Heap) (locs : List Loc), va_P D vwCl (jx_ws cI cT [(cp_M aM, sM)]) H → va_D A (jx_ws cI cT [(cp_M aM, sM)]) → va_S A s.heap H locs → ∀ ls : Array Slot, lv_has ls 9 [(0, .ref (aM 0)), (1, .int (jx_i l1)), (2, .int (jx_i l2)), (3, .int (jx_i l3)), (4, .int (jx_i l4)), (5, .int (jx_i l5)), (6, .int (jx_i l6))] → W p l e (jx_rm 3 72) s m args below meth c H locs 0 0 QQ (F0 m 84 ls []) := by
    intro sM l6 h H locs hP hD hS ls hl
    unfold wp_M_window_84 at h
    refine jx_iconst C dX8_window_84 ?_
    refine lv_istore (lv' := [(7, .int (jx_i 0)), (0, .ref (aM 0)), (1, .int (jx_i l1)), (2, .int (jx_i l2)), (3, .int (jx_i l3)), (4, .int (jx_i l4)), (5, .int (jx_i l5)), (6, .int (jx_i l6))]) hx hb dX8_window_85 hl (by decide) rfl (fun ls hl => ?_)
    refine jx_iconst C dX8_window_87 ?_
    refine lv_istore (lv' := [(8, .int (jx_i 0)), (7, .int (jx_i 0)), (0, .ref (aM 0)), (1, .int (jx_i l1)), (2, .int (jx_i l2)), (3, .int (jx_i l3)), (4, .int (jx_i l4)), (5, .int (jx_i l5)), (6, .int (jx_i l6))]) hx hb dX8_window_88 hl (by decide) rfl (fun ls hl => ?_)
    obtain ⟨n, h⟩ := h
    refine Lo90 sM l6 _ n 0 0 h ?_ _ _ hP hD hS ls (lv_sub hl [2, 3, 4, 5, 6, 7, 8, 1, 0] rfl)
    · intro l7 h H locs hP hD hS ls hl
      exact J147 sM l6 l7 h _ _ hP hD hS ls (lv_sub hl [0, 1, 2] rfl)
  refine lv_iload_n hx hb dX8_window_0 rfl (lv_at hl 1 rfl) ?_
  refine lv_iload_n hx hb dX8_window_1 rfl (lv_at hl 2 rfl) ?_
  refine lv_iload_n hx hb dX8_window_2 rfl (lv_at hl 3 rfl) ?_
  refine lv_iload hx hb dX8_window_3 (lv_at hl 4 rfl) ?_
  refine jx_callSI C hK hP hD hS hA (ct_M_areSides l D cI cT  _  l1 l2 l3 l4 h) ms_X8_areSides lk_X8_188 [] rfl rfl (fun _ => rfl) (cs' := (fun _ => [(cp_M aM, sM)])) (fun _ => rfl) (fun _ => rfl) rfl rfl hl.1 rfl rfl dX8_window_5 ⟨Nat.le_refl _, Nat.le_refl _⟩ (fun r5 _ H locs h hP hD hS => ?_)
  have hP : va_P D vwCl (jx_ws cI cT [(cp_M aM, sM)]) H := hP
  have hD : va_D A (jx_ws cI cT [(cp_M aM, sM)]) := hD
  refine jx_zeq C h.1 (tgt := 21) dX8_window_8 (by decide) (fun hc => ?_) (fun hc => ?_)
  · have h := h.2.1 hc
    refine jx_ldc C (-1000001) kc_X8_192 dX8_window_21 ?_
    exact jx_rI C hr hlk hAe hS hQQ sM hP h dX8_window_23
  · have h := h.2.2 hc
    refine lv_iload hx hb dX8_window_11 (lv_at hl 5 rfl) ?_
    refine jx_iconst C dX8_window_13 ?_
    refine jx_iconst C dX8_window_14 ?_
    refine jx_callSI C hK hP hD hS hA (ct_M_in l D cI cT  _  l5 0 1 h) ms_X8_in lk_X8_180 [] rfl rfl (fun _ => rfl) (cs' := (fun _ => [(cp_M aM, sM)])) (fun _ => rfl) (fun _ => rfl) rfl rfl hl.1 rfl rfl dX8_window_15 ⟨Nat.le_refl _, Nat.le_refl _⟩ (fun r15 _ H locs h hP hD hS => ?_)
    have hP : va_P D vwCl (jx_ws cI cT [(cp_M aM, sM)]) H := hP
    have hD : va_D A (jx_ws cI cT [(cp_M aM, sM)]) := hD
    refine jx_zne C h.1 (tgt := 24) dX8_window_18 (by decide) (fun hc => ?_) (fun hc => ?_)
    · have h := h.2.2 hc
      refine lv_aload_n hx hb dX8_window_24 rfl (lv_at hl 0 rfl) ?_
      refine jx_callVV C hK hP hD hS hA (ct_M_lay l D cI cT aM _ sM  h) ms_X8_lay lk_X8_126 [0] rfl rfl (fun _ => rfl) (cs' := (fun u => [(cp_M aM, u)])) (fun _ => rfl) (fun _ => rfl) 0 0 rfl rfl rfl rfl rfl hl.1 rfl rfl dX8_window_25 ⟨Nat.le_refl _, Nat.le_refl _⟩ (fun sM_25 H locs h hP hD hS => ?_)
      have hP : va_P D vwCl (jx_ws cI cT [(cp_M aM, sM_25)]) H := hP
      have hD : va_D A (jx_ws cI cT [(cp_M aM, sM_25)]) := hD
      refine jx_iconst C dX8_window_28 ?_
      refine lv_istore (lv' := [(6, .int (jx_i 0)), (0, .ref (aM 0)), (1, .int (jx_i l1)), (2, .int (jx_i l2)), (3, .int (jx_i l3)), (4, .int (jx_i l4)), (5, .int (jx_i l5))]) hx hb dX8_window_29 hl (by decide) rfl (fun ls hl => ?_)
      refine jx_iconst C dX8_window_31 ?_
      refine lv_istore (lv' := [(7, .int (jx_i 0)), (6, .int (jx_i 0)), (0, .ref (aM 0)), (1, .int (jx_i l1)), (2, .int (jx_i l2)), (3, .int (jx_i l3)), (4, .int (jx_i l4)), (5, .int (jx_i l5))]) hx hb dX8_window_32 hl (by decide) rfl (fun ls hl => ?_)
      obtain ⟨n, h⟩ := h
      refine Lo34 sM_25 _ n 0 0 h ?_ _ _ hP hD hS ls (lv_sub hl [2, 3, 4, 5, 6, 7, 1, 0] rfl)
      · intro l6 h H locs hP hD hS ls hl
        exact J84 sM_25 l6 h _ _ hP hD hS ls (lv_sub hl [0, 1, 2, 3, 4, 5, 6] rfl)
    · have h := h.2.1 hc
      refine jx_ldc C (-1000001) kc_X8_192 dX8_window_21 ?_
      exact jx_rI C hr hlk hAe hS hQQ sM hP h dX8_window_23
set_option maxRecDepth 100000 in
set_option maxHeartbeats 4000000 in
theorem ct_M_would (l : Launch) (D : va_G) (cI cT : ClassId) (aM : Nat → Nat) (Q : Int → jx_St → Prop) (sM : jx_St) (l1 : Int) (l2 : Int) (l3 : Int) (l4 : Int) (l5 : Int) (h : wp_M_would Q sM l1 l2 l3 l4 l5) : jx_KI jx_St l D cI cT yX8_would cX8_would 12 .int 7 176 [.ref (aM 0), .int (jx_i l1), .int (jx_i l2), .int (jx_i l3), .int (jx_i l4), .int (jx_i l5)] [(cp_M aM, sM)] (fun u => [(cp_M aM, u)]) Q := by
  refine jx_ent (own := RX8) (by decide) rfl (Nat.le_of_ble_eq_true rfl) ?_
  intro p e s m args below meth c A QQ C hr hlk hK hAe hA hP hD hS ls hl hQQ
  have hl : lv_has ls 12 [(0, .ref (aM 0)), (1, .int (jx_i l1)), (2, .int (jx_i l2)), (3, .int (jx_i l3)), (4, .int (jx_i l4)), (5, .int (jx_i l5))] := hl
  have hx := C.1
  have hb := C.2.1
  unfold wp_M_would at h
  have Lo27 : ∀ (sM : jx_St) (K49 : Int → Prop) (n : Nat) (l6 : Int), jx_it (fun B27 v => wp_M_would_27 Q l1 l2 l3 l4 l5 K49 sM B27 v) n l6 → (∀ (l6 : Int), K49 l6 → ∀ (H : Heap) (locs : List Loc), va_P D vwCl (jx_ws cI cT [(cp_M aM, sM)]) H → va_D A (jx_ws cI cT [(cp_M aM, sM)]) → va_S A s.heap H locs → ∀ ls : Array Slot, lv_has ls 12 [(0, .ref (aM 0)), (1, .int (jx_i l1)), (2, .int (jx_i l2)), (3, .int (jx_i l3)), (4, .int (jx_i l4)), (5, .int (jx_i l5)), (6, .int (jx_i l6))] → W p l e (jx_rm 7 176) s m args below meth c H locs 0 0 QQ (F0 m 49 ls [])) → ∀ (H : Heap) (locs : List Loc), va_P D vwCl (jx_ws cI cT [(cp_M aM, sM)]) H → va_D A (jx_ws cI cT [(cp_M aM, sM)]) → va_S A s.heap H locs → ∀ ls : Array Slot, lv_has ls 12 [(0, .ref (aM 0)), (1, .int (jx_i l1)), (2, .int (jx_i l2)), (3, .int (jx_i l3)), (4, .int (jx_i l4)), (5, .int (jx_i l5)), (6, .int (jx_i l6))] → W p l e (jx_rm 7 176) s m args below meth c H locs 0 0 QQ (F0 m 27 ls []) := by
    intro sM K49 n
    induction n with
    | zero =>
      intro l6 h
      exact (show False from h).elim
    | succ n ih =>
      intro l6 h K49E H locs hP hD hS ls hl
      have h : wp_M_would_27 Q l1 l2 l3 l4 l5 K49 sM (jx_it (fun B27 v => wp_M_would_27 Q l1 l2 l3 l4 l5 K49 sM B27 v) n) l6 := h
      have ih := fun l6 h => ih l6 h K49E
      generalize jx_it (fun B27 v => wp_M_would_27 Q l1 l2 l3 l4 l5 K49 sM B27 v) n = B27 at h ih
      unfold wp_M_would_27 at h
      refine lv_iload hx hb dX8_would_27 (lv_at hl 6 rfl) ?_
      refine jx_bipush C dX8_would_29 (by decide) ?_
      refine jx_cge C h.1 (jx_inR (by decide) (by decide)) (tgt := 49) dX8_would_31 (by decide) (fun hc => ?_) (fun hc => ?_)
      · have h := h.2.2 hc
        exact K49E l6 h _ _ hP hD hS ls (lv_sub hl [0, 1, 2, 3, 4, 5, 6] rfl)
      · have h := h.2.1 hc
        refine lv_aload_n hx hb dX8_would_34 rfl (lv_at hl 0 rfl) ?_
        refine lv_iload hx hb dX8_would_35 (lv_at hl 6 rfl) ?_
        refine jx_callVI C hK hP hD hS hA (ct_M_isThere l D cI cT aM _ sM l6 h) ms_X8_isThere lk_X8_193 [0] rfl rfl (fun _ => rfl) (cs' := (fun _ => [(cp_M aM, sM)])) (fun _ => rfl) (fun _ => rfl) 0 0 rfl rfl rfl rfl rfl hl.1 rfl rfl dX8_would_37 ⟨Nat.le_refl _, Nat.le_refl _⟩ (fun r37 _ H locs h hP hD hS => ?_)
        have hP : va_P D vwCl (jx_ws cI cT [(cp_M aM, sM)]) H := hP
        have hD : va_D A (jx_ws cI cT [(cp_M aM, sM)]) := hD
        refine jx_zeq C h.1 (tgt := 49) dX8_would_40 (by decide) (fun hc => ?_) (fun hc => ?_)
        · have h := h.2.1 hc
          exact K49E l6 h _ _ hP hD hS ls (lv_sub hl [0, 1, 2, 3, 4, 5, 6] rfl)
        · have h := h.2.2 hc
          refine jx_iinc C (lv' := [(6, .int (jx_i (l6 + 1))), (0, .ref (aM 0)), (1, .int (jx_i l1)), (2, .int (jx_i l2)), (3, .int (jx_i l3)), (4, .int (jx_i l4)), (5, .int (jx_i l5))]) dX8_would_43 hl (k := 6) rfl (by decide) rfl (fun ls hl => ?_)
          refine lv_goto (tgt := 27) hx hb dX8_would_46 (by decide) ?_
          exact ih (l6 + 1) h _ _ hP hD hS ls (lv_sub hl [1, 2, 3, 4, 5, 6, 0] rfl)
  have Lo134 : ∀ (l6 : Int) (K157 : jx_St × Int → Prop) (n : Nat) (sM : jx_St) (l7 : Int), jx_it (fun B134 v => wp_M_would_134 Q l1 l2 l3 l4 l5 K157 l6 B134 v.1 v.2) n (sM, l7) → (∀ (sM : jx_St) (l7 : Int), K157 (sM, l7) → ∀ (H : Heap) (locs : List Loc), va_P D vwCl (jx_ws cI cT [(cp_M aM, sM)]) H → va_D A (jx_ws cI cT [(cp_M aM, sM)]) → va_S A s.heap H locs → ∀ ls : Array Slot, lv_has ls 12 [(0, .ref (aM 0)), (1, .int (jx_i l1)), (2, .int (jx_i l2)), (3, .int (jx_i l3)), (4, .int (jx_i l4)), (5, .int (jx_i l5)), (6, .int (jx_i l6)), (7, .int (jx_i l7))] → W p l e (jx_rm 7 176) s m args below meth c H locs 0 0 QQ (F0 m 157 ls [])) → ∀ (H : Heap) (locs : List Loc), va_P D vwCl (jx_ws cI cT [(cp_M aM, sM)]) H → va_D A (jx_ws cI cT [(cp_M aM, sM)]) → va_S A s.heap H locs → ∀ ls : Array Slot, lv_has ls 12 [(0, .ref (aM 0)), (1, .int (jx_i l1)), (2, .int (jx_i l2)), (3, .int (jx_i l3)), (4, .int (jx_i l4)), (5, .int (jx_i l5)), (6, .int (jx_i l6)), (7, .int (jx_i l7))] → W p l e (jx_rm 7 176) s m args below meth c H locs 0 0 QQ (F0 m 134 ls []) := by
    intro l6 K157 n
    induction n with
    | zero =>
      intro sM l7 h
      exact (show False from h).elim
    | succ n ih =>
      intro sM l7 h K157E H locs hP hD hS ls hl
      have h : wp_M_would_134 Q l1 l2 l3 l4 l5 K157 l6 (jx_it (fun B134 v => wp_M_would_134 Q l1 l2 l3 l4 l5 K157 l6 B134 v.1 v.2) n) sM l7 := h
      have ih := fun sM l7 h => ih sM l7 h K157E
      generalize jx_it (fun B134 v => wp_M_would_134 Q l1 l2 l3 l4 l5 K157 l6 B134 v.1 v.2) n = B134 at h ih
      unfold wp_M_would_134 at h
      refine lv_aload_n hx hb dX8_would_134 rfl (lv_at hl 0 rfl) ?_
      refine lv_iload hx hb dX8_would_135 (lv_at hl 7 rfl) ?_
      refine jx_callVI C hK hP hD hS hA (ct_M_levelOf l D cI cT aM _ sM l7 h) ms_X8_levelOf lk_X8_81 [0] rfl rfl (fun _ => rfl) (cs' := (fun _ => [(cp_M aM, sM)])) (fun _ => rfl) (fun _ => rfl) 0 0 rfl rfl rfl rfl rfl hl.1 rfl rfl dX8_would_137 ⟨Nat.le_refl _, Nat.le_refl _⟩ (fun r137 _ H locs h hP hD hS => ?_)
      have hP : va_P D vwCl (jx_ws cI cT [(cp_M aM, sM)]) H := hP
      have hD : va_D A (jx_ws cI cT [(cp_M aM, sM)]) := hD
      refine jx_zle C h.1 (tgt := 157) dX8_would_140 (by decide) (fun hc => ?_) (fun hc => ?_)
      · have h := h.2.1 hc
        exact K157E sM l7 h _ _ hP hD hS ls (lv_sub hl [0, 1, 2, 3, 4, 5, 6, 7] rfl)
      · have h := h.2.2 hc
        refine lv_aload_n hx hb dX8_would_143 rfl (lv_at hl 0 rfl) ?_
        refine lv_iload hx hb dX8_would_144 (lv_at hl 7 rfl) ?_
        refine lv_iload hx hb dX8_would_146 (lv_at hl 6 rfl) ?_
        refine jx_iconst C dX8_would_148 ?_
        refine jx_callVI C hK hP hD hS hA (ct_M_wayOn l D cI cT aM _ sM l7 l6 0 h) ms_X8_wayOn lk_X8_159 [0] rfl rfl (fun _ => rfl) (cs' := (fun u => [(cp_M aM, u)])) (fun _ => rfl) (fun _ => rfl) 0 0 rfl rfl rfl rfl rfl hl.1 rfl rfl dX8_would_149 ⟨Nat.le_refl _, Nat.le_refl _⟩ (fun r149 sM_149 H locs h hP hD hS => ?_)
        have hP : va_P D vwCl (jx_ws cI cT [(cp_M aM, sM_149)]) H := hP
        have hD : va_D A (jx_ws cI cT [(cp_M aM, sM_149)]) := hD
        refine lv_istore (lv' := [(7, .int (jx_i r149)), (0, .ref (aM 0)), (1, .int (jx_i l1)), (2, .int (jx_i l2)), (3, .int (jx_i l3)), (4, .int (jx_i l4)), (5, .int (jx_i l5)), (6, .int (jx_i l6))]) hx hb dX8_would_152 hl (by decide) rfl (fun ls hl => ?_)
        refine lv_goto (tgt := 134) hx hb dX8_would_154 (by decide) ?_
        exact ih sM_149 r149 h _ _ hP hD hS ls (lv_sub hl [1, 2, 3, 4, 5, 6, 7, 0] rfl)
  have J180 : ∀ (sM : jx_St) (l6 : Int) (l8 : Int) (t0 : Int), wp_M_would_180 Q l1 l2 l3 l4 l5 sM l6 l8 t0 → ∀ (H : Heap) (locs : List Loc), va_P D vwCl (jx_ws cI cT [(cp_M aM, sM)]) H → va_D A (jx_ws cI cT [(cp_M aM, sM)]) → va_S A s.heap H locs → ∀ ls : Array Slot, lv_has ls 12 [(0, .ref (aM 0)), (1, .int (jx_i l1)), (2, .int (jx_i l2)), (3, .int (jx_i l3)), (4, .int (jx_i l4)), (5, .int (jx_i l5)), (6, .int (jx_i l6)), (8, .int (jx_i l8))] → W p l e (jx_rm 7 176) s m args below meth c H locs 0 0 QQ (F0 m 180 ls [.int (jx_i t0)]) := by
    intro sM l6 l8 t0 h H locs hP hD hS ls hl
    unfold wp_M_would_180 at h
    refine lv_istore (lv' := [(9, .int (jx_i t0)), (0, .ref (aM 0)), (1, .int (jx_i l1)), (2, .int (jx_i l2)), (3, .int (jx_i l3)), (4, .int (jx_i l4)), (5, .int (jx_i l5)), (6, .int (jx_i l6)), (8, .int (jx_i l8))]) hx hb dX8_would_180 hl (by decide) rfl (fun ls hl => ?_)
    refine lv_aload_n hx hb dX8_would_182 rfl (lv_at hl 1 rfl) ?_
    refine lv_iload hx hb dX8_would_183 (lv_at hl 7 rfl) ?_
    refine lv_iload_n hx hb dX8_would_185 rfl (lv_at hl 2 rfl) ?_
    refine lv_iload_n hx hb dX8_would_186 rfl (lv_at hl 3 rfl) ?_
    refine lv_iload_n hx hb dX8_would_187 rfl (lv_at hl 4 rfl) ?_
    refine lv_iload hx hb dX8_would_188 (lv_at hl 5 rfl) ?_
    refine jx_callVV C hK hP hD hS hA (ct_M_putsBox l D cI cT aM _ sM l6 l1 l2 l3 l4 h) ms_X8_putsBox lk_X8_202 [0] rfl rfl (fun _ => rfl) (cs' := (fun u => [(cp_M aM, u)])) (fun _ => rfl) (fun _ => rfl) 0 0 rfl rfl rfl rfl rfl hl.1 rfl rfl dX8_would_190 ⟨Nat.le_refl _, Nat.le_refl _⟩ (fun sM_190 H locs h hP hD hS => ?_)
    have hP : va_P D vwCl (jx_ws cI cT [(cp_M aM, sM_190)]) H := hP
    have hD : va_D A (jx_ws cI cT [(cp_M aM, sM_190)]) := hD
    refine lv_aload_n hx hb dX8_would_193 rfl (lv_at hl 1 rfl) ?_
    refine jx_callVI C hK hP hD hS hA (ct_M_levels l D cI cT aM _ sM_190  h) ms_X8_levels lk_X8_209 [0] rfl rfl (fun _ => rfl) (cs' := (fun _ => [(cp_M aM, sM_190)])) (fun _ => rfl) (fun _ => rfl) 0 0 rfl rfl rfl rfl rfl hl.1 rfl rfl dX8_would_194 ⟨Nat.le_refl _, Nat.le_refl _⟩ (fun r194 _ H locs h hP hD hS => ?_)
    have hP : va_P D vwCl (jx_ws cI cT [(cp_M aM, sM_190)]) H := hP
    have hD : va_D A (jx_ws cI cT [(cp_M aM, sM_190)]) := hD
    refine lv_istore (lv' := [(10, .int (jx_i r194)), (9, .int (jx_i t0)), (0, .ref (aM 0)), (1, .int (jx_i l1)), (2, .int (jx_i l2)), (3, .int (jx_i l3)), (4, .int (jx_i l4)), (5, .int (jx_i l5)), (6, .int (jx_i l6)), (8, .int (jx_i l8))]) hx hb dX8_would_197 hl (by decide) rfl (fun ls hl => ?_)
    refine lv_aload_n hx hb dX8_would_199 rfl (lv_at hl 2 rfl) ?_
    refine jx_iconst C dX8_would_200 ?_
    refine jx_callVI C hK hP hD hS hA (ct_M_overlapsOf l D cI cT aM _ sM_190 0 h) ms_X8_overlapsOf lk_X8_225 [0] rfl rfl (fun _ => rfl) (cs' := (fun u => [(cp_M aM, u)])) (fun _ => rfl) (fun _ => rfl) 0 0 rfl rfl rfl rfl rfl hl.1 rfl rfl dX8_would_201 ⟨Nat.le_refl _, Nat.le_refl _⟩ (fun r201 sM_201 H locs h hP hD hS => ?_)
    have hP : va_P D vwCl (jx_ws cI cT [(cp_M aM, sM_201)]) H := hP
    have hD : va_D A (jx_ws cI cT [(cp_M aM, sM_201)]) := hD
    refine lv_istore (lv' := [(11, .int (jx_i r201)), (10, .int (jx_i r194)), (9, .int (jx_i t0)), (0, .ref (aM 0)), (1, .int (jx_i l1)), (2, .int (jx_i l2)), (3, .int (jx_i l3)), (4, .int (jx_i l4)), (5, .int (jx_i l5)), (6, .int (jx_i l6)), (8, .int (jx_i l8))]) hx hb dX8_would_204 hl (by decide) rfl (fun ls hl => ?_)
    refine lv_aload_n hx hb dX8_would_206 rfl (lv_at hl 3 rfl) ?_
    refine jx_callVV C hK hP hD hS hA (ct_M_back l D cI cT aM _ sM_201  h) ms_X8_back lk_X8_236 [0] rfl rfl (fun _ => rfl) (cs' := (fun u => [(cp_M aM, u)])) (fun _ => rfl) (fun _ => rfl) 0 0 rfl rfl rfl rfl rfl hl.1 rfl rfl dX8_would_207 ⟨Nat.le_refl _, Nat.le_refl _⟩ (fun sM_207 H locs h hP hD hS => ?_)
    have hP : va_P D vwCl (jx_ws cI cT [(cp_M aM, sM_207)]) H := hP
    have hD : va_D A (jx_ws cI cT [(cp_M aM, sM_207)]) := hD
    refine lv_iload hx hb dX8_would_210 (lv_at hl 8 rfl) ?_
    refine jx_zne C h.1 (tgt := 220) dX8_would_212 (by decide) (fun hc => ?_) (fun hc => ?_)
    · have h := h.2.2 hc
      refine lv_iload hx hb dX8_would_220 (lv_at hl 8 rfl) ?_
      refine jx_iconst C dX8_would_222 ?_
      refine jx_cne C h.1 (jx_inR (by decide) (by decide)) (tgt := 231) dX8_would_223 (by decide) (fun hc => ?_) (fun hc => ?_)
      · have h := h.2.2 hc
        refine lv_iload hx hb dX8_would_231 (lv_at hl 8 rfl) ?_
        refine jx_iconst C dX8_would_233 ?_
        refine jx_cne C h.1 (jx_inR (by decide) (by decide)) (tgt := 244) dX8_would_234 (by decide) (fun hc => ?_) (fun hc => ?_)
        · have h := h.2.2 hc
          refine lv_iload hx hb dX8_would_244 (lv_at hl 8 rfl) ?_
          refine jx_iconst C dX8_would_246 ?_
          refine jx_cne C h.1 (jx_inR (by decide) (by decide)) (tgt := 255) dX8_would_247 (by decide) (fun hc => ?_) (fun hc => ?_)
          · have h := h.2.2 hc
            refine lv_iload hx hb dX8_would_255 (lv_at hl 0 rfl) ?_
            exact jx_rI C hr hlk hAe hS hQQ sM_207 hP h dX8_would_257
          · have h := h.2.1 hc
            refine lv_iload hx hb dX8_would_250 (lv_at hl 1 rfl) ?_
            refine lv_goto (tgt := 257) hx hb dX8_would_252 (by decide) ?_
            exact jx_rI C hr hlk hAe hS hQQ sM_207 hP h dX8_would_257
        · have h := h.2.1 hc
          refine lv_aload_n hx hb dX8_would_237 rfl (lv_at hl 3 rfl) ?_
          refine jx_getI C hK hP 0 0 17 rfl rfl rfl fl_X8_135 dX8_would_238 ?_
          refine lv_goto (tgt := 257) hx hb dX8_would_241 (by decide) ?_
          exact jx_rI C hr hlk hAe hS hQQ sM_207 hP h dX8_would_257
      · have h := h.2.1 hc
        refine lv_iload hx hb dX8_would_226 (lv_at hl 2 rfl) ?_
        refine lv_goto (tgt := 257) hx hb dX8_would_228 (by decide) ?_
        exact jx_rI C hr hlk hAe hS hQQ sM_207 hP h dX8_would_257
    · have h := h.2.1 hc
      refine lv_iload hx hb dX8_would_215 (lv_at hl 10 rfl) ?_
      refine lv_goto (tgt := 257) hx hb dX8_would_217 (by decide) ?_
      exact jx_rI C hr hlk hAe hS hQQ sM_207 hP h dX8_would_257
  have J157 : ∀ (sM : jx_St) (l6 : Int) (l7 : Int), wp_M_would_157 Q l1 l2 l3 l4 l5 sM l6 l7 → ∀ (H : Heap) (locs : List Loc), va_P D vwCl (jx_ws cI cT [(cp_M aM, sM)]) H → va_D A (jx_ws cI cT [(cp_M aM, sM)]) → va_S A s.heap H locs → ∀ ls : Array Slot, lv_has ls 12 [(0, .ref (aM 0)), (1, .int (jx_i l1)), (2, .int (jx_i l2)), (3, .int (jx_i l3)), (4, .int (jx_i l4)), (5, .int (jx_i l5)), (6, .int (jx_i l6)), (7, .int (jx_i l7))] → W p l e (jx_rm 7 176) s m args below meth c H locs 0 0 QQ (F0 m 157 ls []) := by
    intro sM l6 l7 h H locs hP hD hS ls hl
    unfold wp_M_would_157 at h
    refine lv_aload_n hx hb dX8_would_157 rfl (lv_at hl 0 rfl) ?_
    refine lv_iload hx hb dX8_would_158 (lv_at hl 7 rfl) ?_
    refine jx_callVI C hK hP hD hS hA (ct_M_placeOf l D cI cT aM _ sM l7 h) ms_X8_placeOf lk_X8_222 [0] rfl rfl (fun _ => rfl) (cs' := (fun u => [(cp_M aM, u)])) (fun _ => rfl) (fun _ => rfl) 0 0 rfl rfl rfl rfl rfl hl.1 rfl rfl dX8_would_160 ⟨Nat.le_refl _, Nat.le_refl _⟩ (fun r160 sM_160 H locs h hP hD hS => ?_)
    have hP : va_P D vwCl (jx_ws cI cT [(cp_M aM, sM_160)]) H := hP
    have hD : va_D A (jx_ws cI cT [(cp_M aM, sM_160)]) := hD
    refine lv_istore (lv' := [(8, .int (jx_i r160)), (0, .ref (aM 0)), (1, .int (jx_i l1)), (2, .int (jx_i l2)), (3, .int (jx_i l3)), (4, .int (jx_i l4)), (5, .int (jx_i l5)), (6, .int (jx_i l6)), (7, .int (jx_i l7))]) hx hb dX8_would_163 hl (by decide) rfl (fun ls hl => ?_)
    refine lv_aload_n hx hb dX8_would_165 rfl (lv_at hl 1 rfl) ?_
    refine lv_iload hx hb dX8_would_166 (lv_at hl 8 rfl) ?_
    refine jx_callVI C hK hP hD hS hA (ct_M_manyOf l D cI cT aM _ sM_160 l7 h) ms_X8_manyOf lk_X8_85 [0] rfl rfl (fun _ => rfl) (cs' := (fun _ => [(cp_M aM, sM_160)])) (fun _ => rfl) (fun _ => rfl) 0 0 rfl rfl rfl rfl rfl hl.1 rfl rfl dX8_would_168 ⟨Nat.le_refl _, Nat.le_refl _⟩ (fun r168 _ H locs h hP hD hS => ?_)
    have hP : va_P D vwCl (jx_ws cI cT [(cp_M aM, sM_160)]) H := hP
    have hD : va_D A (jx_ws cI cT [(cp_M aM, sM_160)]) := hD
    refine jx_iconst C dX8_would_171 ?_
    refine jx_cne C h.1 (jx_inR (by decide) (by decide)) (tgt := 179) dX8_would_172 (by decide) (fun hc => ?_) (fun hc => ?_)
    · have h := h.2.2 hc
      refine jx_iconst C dX8_would_179 ?_
      exact J180 sM_160 l6 r160 0 h _ _ hP hD hS ls (lv_sub hl [1, 2, 3, 4, 5, 6, 7, 0] rfl)
    · have h := h.2.1 hc
      refine jx_iconst C dX8_would_175 ?_
      refine lv_goto (tgt := 180) hx hb dX8_would_176 (by decide) ?_
      exact J180 sM_160 l6 r160 1 h _ _ hP hD hS ls (lv_sub hl [1, 2, 3, 4, 5, 6, 7, 0] rfl)
  have J49 : ∀ (sM : jx_St) (l6 : Int), wp_M_would_49 Q l1 l2 l3 l4 l5 sM l6 → ∀ (H : Heap) (locs : List Loc), va_P D vwCl (jx_ws cI cT [(cp_M aM, sM)]) H → va_D A (jx_ws cI cT [(cp_M aM, sM)]) → va_S A s.heap H locs → ∀ ls : Array Slot, lv_has ls 12 [(0, .ref (aM 0)), (1, .int (jx_i l1)), (2, .int (jx_i l2)), (3, .int (jx_i l3)), (4, .int (jx_i l4)), (5, .int (jx_i l5)), (6, .int (jx_i l6))] → W p l e (jx_rm 7 176) s m args below meth c H locs 0 0 QQ (F0 m 49 ls []) := by
    intro sM l6 h H locs hP hD hS ls hl
    unfold wp_M_would_49 at h
    refine lv_iload hx hb dX8_would_49 (lv_at hl 6 rfl) ?_
    refine jx_bipush C dX8_would_51 (by decide) ?_
    refine jx_cne C h.1 (jx_inR (by decide) (by decide)) (tgt := 59) dX8_would_53 (by decide) (fun hc => ?_) (fun hc => ?_)
    · have h := h.2.2 hc
      refine lv_aload_n hx hb dX8_would_59 rfl (lv_at hl 0 rfl) ?_
      refine jx_callVV C hK hP hD hS hA (ct_M_copy l D cI cT aM _ sM  h) ms_X8_copy lk_X8_196 [0] rfl rfl (fun _ => rfl) (cs' := (fun u => [(cp_M aM, u)])) (fun _ => rfl) (fun _ => rfl) 0 0 rfl rfl rfl rfl rfl hl.1 rfl rfl dX8_would_60 ⟨Nat.le_refl _, Nat.le_refl _⟩ (fun sM_60 H locs h hP hD hS => ?_)
      have hP : va_P D vwCl (jx_ws cI cT [(cp_M aM, sM_60)]) H := hP
      have hD : va_D A (jx_ws cI cT [(cp_M aM, sM_60)]) := hD
      refine lv_aload_n hx hb dX8_would_63 rfl (lv_at hl 0 rfl) ?_
      refine jx_getR C hK hP 0 0 0 rfl rfl rfl fl_X8_7 dX8_would_64 ?_
      refine jx_bipush C dX8_would_67 (by decide) ?_
      refine jx_iconst C dX8_would_69 ?_
      refine lv_iload hx hb dX8_would_70 (lv_at hl 6 rfl) ?_
      refine jx_imul C dX8_would_72 ?_
      refine jx_iadd C dX8_would_73 ?_
      refine lv_iload_n hx hb dX8_would_74 rfl (lv_at hl 1 rfl) ?_
      refine jx_iast C hK hP hD hS 0 1 rfl rfl rfl rfl h.1 rfl dX8_would_75 (fun H locs hP hD hS => ?_)
      have h := h.2
      have hP : va_P D vwCl (jx_ws cI cT [(cp_M aM, (jx_su sM_60 0 (35 + (4 * l6)) l1))]) H := hP
      have hD : va_D A (jx_ws cI cT [(cp_M aM, (jx_su sM_60 0 (35 + (4 * l6)) l1))]) := hD
      refine lv_aload_n hx hb dX8_would_76 rfl (lv_at hl 0 rfl) ?_
      refine jx_getR C hK hP 0 0 0 rfl rfl rfl fl_X8_7 dX8_would_77 ?_
      refine jx_bipush C dX8_would_80 (by decide) ?_
      refine jx_iconst C dX8_would_82 ?_
      refine lv_iload hx hb dX8_would_83 (lv_at hl 6 rfl) ?_
      refine jx_imul C dX8_would_85 ?_
      refine jx_iadd C dX8_would_86 ?_
      refine jx_iconst C dX8_would_87 ?_
      refine jx_iadd C dX8_would_88 ?_
      refine lv_iload_n hx hb dX8_would_89 rfl (lv_at hl 2 rfl) ?_
      refine jx_iast C hK hP hD hS 0 1 rfl rfl rfl rfl h.1 rfl dX8_would_90 (fun H locs hP hD hS => ?_)
      have h := h.2
      have hP : va_P D vwCl (jx_ws cI cT [(cp_M aM, (jx_su (jx_su sM_60 0 (35 + (4 * l6)) l1) 0 ((35 + (4 * l6)) + 1) l2))]) H := hP
      have hD : va_D A (jx_ws cI cT [(cp_M aM, (jx_su (jx_su sM_60 0 (35 + (4 * l6)) l1) 0 ((35 + (4 * l6)) + 1) l2))]) := hD
      refine lv_aload_n hx hb dX8_would_91 rfl (lv_at hl 0 rfl) ?_
      refine jx_getR C hK hP 0 0 0 rfl rfl rfl fl_X8_7 dX8_would_92 ?_
      refine jx_bipush C dX8_would_95 (by decide) ?_
      refine jx_iconst C dX8_would_97 ?_
      refine lv_iload hx hb dX8_would_98 (lv_at hl 6 rfl) ?_
      refine jx_imul C dX8_would_100 ?_
      refine jx_iadd C dX8_would_101 ?_
      refine jx_iconst C dX8_would_102 ?_
      refine jx_iadd C dX8_would_103 ?_
      refine lv_iload_n hx hb dX8_would_104 rfl (lv_at hl 3 rfl) ?_
      refine jx_iast C hK hP hD hS 0 1 rfl rfl rfl rfl h.1 rfl dX8_would_105 (fun H locs hP hD hS => ?_)
      have h := h.2
      have hP : va_P D vwCl (jx_ws cI cT [(cp_M aM, (jx_su (jx_su (jx_su sM_60 0 (35 + (4 * l6)) l1) 0 ((35 + (4 * l6)) + 1) l2) 0 ((35 + (4 * l6)) + 2) l3))]) H := hP
      have hD : va_D A (jx_ws cI cT [(cp_M aM, (jx_su (jx_su (jx_su sM_60 0 (35 + (4 * l6)) l1) 0 ((35 + (4 * l6)) + 1) l2) 0 ((35 + (4 * l6)) + 2) l3))]) := hD
      refine lv_aload_n hx hb dX8_would_106 rfl (lv_at hl 0 rfl) ?_
      refine jx_getR C hK hP 0 0 0 rfl rfl rfl fl_X8_7 dX8_would_107 ?_
      refine jx_bipush C dX8_would_110 (by decide) ?_
      refine jx_iconst C dX8_would_112 ?_
      refine lv_iload hx hb dX8_would_113 (lv_at hl 6 rfl) ?_
      refine jx_imul C dX8_would_115 ?_
      refine jx_iadd C dX8_would_116 ?_
      refine jx_iconst C dX8_would_117 ?_
      refine jx_iadd C dX8_would_118 ?_
      refine lv_iload hx hb dX8_would_119 (lv_at hl 4 rfl) ?_
      refine jx_iast C hK hP hD hS 0 1 rfl rfl rfl rfl h.1 rfl dX8_would_121 (fun H locs hP hD hS => ?_)
      have h := h.2
      have hP : va_P D vwCl (jx_ws cI cT [(cp_M aM, (jx_su (jx_su (jx_su (jx_su sM_60 0 (35 + (4 * l6)) l1) 0 ((35 + (4 * l6)) + 1) l2) 0 ((35 + (4 * l6)) + 2) l3) 0 ((35 + (4 * l6)) + 3) l4))]) H := hP
      have hD : va_D A (jx_ws cI cT [(cp_M aM, (jx_su (jx_su (jx_su (jx_su sM_60 0 (35 + (4 * l6)) l1) 0 ((35 + (4 * l6)) + 1) l2) 0 ((35 + (4 * l6)) + 2) l3) 0 ((35 + (4 * l6)) + 3) l4))]) := hD
      refine lv_aload_n hx hb dX8_would_122 rfl (lv_at hl 0 rfl) ?_
      refine jx_callVV C hK hP hD hS hA (ct_M_lay l D cI cT aM _ (jx_su (jx_su (jx_su (jx_su sM_60 0 (35 + (4 * l6)) l1) 0 ((35 + (4 * l6)) + 1) l2) 0 ((35 + (4 * l6)) + 2) l3) 0 ((35 + (4 * l6)) + 3) l4)  h) ms_X8_lay lk_X8_126 [0] rfl rfl (fun _ => rfl) (cs' := (fun u => [(cp_M aM, u)])) (fun _ => rfl) (fun _ => rfl) 0 0 rfl rfl rfl rfl rfl hl.1 rfl rfl dX8_would_123 ⟨Nat.le_refl _, Nat.le_refl _⟩ (fun sM_123 H locs h hP hD hS => ?_)
      have hP : va_P D vwCl (jx_ws cI cT [(cp_M aM, sM_123)]) H := hP
      have hD : va_D A (jx_ws cI cT [(cp_M aM, sM_123)]) := hD
      refine lv_aload_n hx hb dX8_would_126 rfl (lv_at hl 0 rfl) ?_
      refine jx_getR C hK hP 0 0 0 rfl rfl rfl fl_X8_7 dX8_would_127 ?_
      refine jx_iconst C dX8_would_130 ?_
      refine jx_iald C hK hP 0 1 rfl rfl rfl (show jx_B _ _ from ⟨by decide, by decide⟩) dX8_would_131 ?_
      refine lv_istore (lv' := [(7, .int (jx_i (sM_123 0 0))), (0, .ref (aM 0)), (1, .int (jx_i l1)), (2, .int (jx_i l2)), (3, .int (jx_i l3)), (4, .int (jx_i l4)), (5, .int (jx_i l5)), (6, .int (jx_i l6))]) hx hb dX8_would_132 hl (by decide) rfl (fun ls hl => ?_)
      obtain ⟨n, h⟩ := h
      refine Lo134 l6 _ n sM_123 (sM_123 0 0) h ?_ _ _ hP hD hS ls (lv_sub hl [1, 2, 3, 4, 5, 6, 7, 0] rfl)
      · intro sM l7 h H locs hP hD hS ls hl
        exact J157 sM l6 l7 h _ _ hP hD hS ls (lv_sub hl [0, 1, 2, 3, 4, 5, 6, 7] rfl)
    · have h := h.2.1 hc
      refine jx_ldc C (-1000002) kc_X8_80 dX8_would_56 ?_
      exact jx_rI C hr hlk hAe hS hQQ sM hP h dX8_would_58
  refine lv_iload_n hx hb dX8_would_0 rfl (lv_at hl 1 rfl) ?_
  refine lv_iload_n hx hb dX8_would_1 rfl (lv_at hl 2 rfl) ?_
  refine lv_iload_n hx hb dX8_would_2 rfl (lv_at hl 3 rfl) ?_
  refine lv_iload hx hb dX8_would_3 (lv_at hl 4 rfl) ?_
  refine jx_callSI C hK hP hD hS hA (ct_M_areSides l D cI cT  _  l1 l2 l3 l4 h) ms_X8_areSides lk_X8_188 [] rfl rfl (fun _ => rfl) (cs' := (fun _ => [(cp_M aM, sM)])) (fun _ => rfl) (fun _ => rfl) rfl rfl hl.1 rfl rfl dX8_would_5 ⟨Nat.le_refl _, Nat.le_refl _⟩ (fun r5 _ H locs h hP hD hS => ?_)
  have hP : va_P D vwCl (jx_ws cI cT [(cp_M aM, sM)]) H := hP
  have hD : va_D A (jx_ws cI cT [(cp_M aM, sM)]) := hD
  refine jx_zeq C h.1 (tgt := 21) dX8_would_8 (by decide) (fun hc => ?_) (fun hc => ?_)
  · have h := h.2.1 hc
    refine jx_ldc C (-1000001) kc_X8_192 dX8_would_21 ?_
    exact jx_rI C hr hlk hAe hS hQQ sM hP h dX8_would_23
  · have h := h.2.2 hc
    refine lv_iload hx hb dX8_would_11 (lv_at hl 5 rfl) ?_
    refine jx_iconst C dX8_would_13 ?_
    refine jx_iconst C dX8_would_14 ?_
    refine jx_callSI C hK hP hD hS hA (ct_M_in l D cI cT  _  l5 0 4 h) ms_X8_in lk_X8_180 [] rfl rfl (fun _ => rfl) (cs' := (fun _ => [(cp_M aM, sM)])) (fun _ => rfl) (fun _ => rfl) rfl rfl hl.1 rfl rfl dX8_would_15 ⟨Nat.le_refl _, Nat.le_refl _⟩ (fun r15 _ H locs h hP hD hS => ?_)
    have hP : va_P D vwCl (jx_ws cI cT [(cp_M aM, sM)]) H := hP
    have hD : va_D A (jx_ws cI cT [(cp_M aM, sM)]) := hD
    refine jx_zne C h.1 (tgt := 24) dX8_would_18 (by decide) (fun hc => ?_) (fun hc => ?_)
    · have h := h.2.2 hc
      refine jx_iconst C dX8_would_24 ?_
      refine lv_istore (lv' := [(6, .int (jx_i 0)), (0, .ref (aM 0)), (1, .int (jx_i l1)), (2, .int (jx_i l2)), (3, .int (jx_i l3)), (4, .int (jx_i l4)), (5, .int (jx_i l5))]) hx hb dX8_would_25 hl (by decide) rfl (fun ls hl => ?_)
      obtain ⟨n, h⟩ := h
      refine Lo27 sM _ n 0 h ?_ _ _ hP hD hS ls (lv_sub hl [1, 2, 3, 4, 5, 6, 0] rfl)
      · intro l6 h H locs hP hD hS ls hl
        exact J49 sM l6 h _ _ hP hD hS ls (lv_sub hl [0, 1, 2, 3, 4, 5, 6] rfl)
    · have h := h.2.1 hc
      refine jx_ldc C (-1000001) kc_X8_192 dX8_would_21 ?_
      exact jx_rI C hr hlk hAe hS hQQ sM hP h dX8_would_23
set_option maxRecDepth 100000 in
set_option maxHeartbeats 4000000 in
theorem ct_M_wouldTake (l : Launch) (D : va_G) (cI cT : ClassId) (aM : Nat → Nat) (Q : Int → jx_St → Prop) (sM : jx_St) (l1 : Int) (l2 : Int) (h : wp_M_wouldTake Q sM l1 l2) : jx_KI jx_St l D cI cT yX8_wouldTake cX8_wouldTake 6 .int 7 177 [.ref (aM 0), .int (jx_i l1), .int (jx_i l2)] [(cp_M aM, sM)] (fun u => [(cp_M aM, u)]) Q := by
  refine jx_ent (own := RX8) (by decide) rfl (Nat.le_of_ble_eq_true rfl) ?_
  intro p e s m args below meth c A QQ C hr hlk hK hAe hA hP hD hS ls hl hQQ
  have hl : lv_has ls 6 [(0, .ref (aM 0)), (1, .int (jx_i l1)), (2, .int (jx_i l2))] := hl
  have hx := C.1
  have hb := C.2.1
  unfold wp_M_wouldTake at h
  refine lv_iload_n hx hb dX8_wouldTake_0 rfl (lv_at hl 1 rfl) ?_
  refine jx_callSI C hK hP hD hS hA (ct_M_isBox l D cI cT  _  l1 h) ms_X8_isBox lk_X8_184 [] rfl rfl (fun _ => rfl) (cs' := (fun _ => [(cp_M aM, sM)])) (fun _ => rfl) (fun _ => rfl) rfl rfl hl.1 rfl rfl dX8_wouldTake_1 ⟨Nat.le_refl _, Nat.le_refl _⟩ (fun r1 _ H locs h hP hD hS => ?_)
  have hP : va_P D vwCl (jx_ws cI cT [(cp_M aM, sM)]) H := hP
  have hD : va_D A (jx_ws cI cT [(cp_M aM, sM)]) := hD
  refine jx_zeq C h.1 (tgt := 16) dX8_wouldTake_4 (by decide) (fun hc => ?_) (fun hc => ?_)
  · have h := h.2.1 hc
    refine jx_ldc C (-1000001) kc_X8_192 dX8_wouldTake_16 ?_
    exact jx_rI C hr hlk hAe hS hQQ sM hP h dX8_wouldTake_18
  · have h := h.2.2 hc
    refine lv_iload_n hx hb dX8_wouldTake_7 rfl (lv_at hl 2 rfl) ?_
    refine jx_iconst C dX8_wouldTake_8 ?_
    refine jx_iconst C dX8_wouldTake_9 ?_
    refine jx_callSI C hK hP hD hS hA (ct_M_in l D cI cT  _  l2 0 3 h) ms_X8_in lk_X8_180 [] rfl rfl (fun _ => rfl) (cs' := (fun _ => [(cp_M aM, sM)])) (fun _ => rfl) (fun _ => rfl) rfl rfl hl.1 rfl rfl dX8_wouldTake_10 ⟨Nat.le_refl _, Nat.le_refl _⟩ (fun r10 _ H locs h hP hD hS => ?_)
    have hP : va_P D vwCl (jx_ws cI cT [(cp_M aM, sM)]) H := hP
    have hD : va_D A (jx_ws cI cT [(cp_M aM, sM)]) := hD
    refine jx_zne C h.1 (tgt := 19) dX8_wouldTake_13 (by decide) (fun hc => ?_) (fun hc => ?_)
    · have h := h.2.2 hc
      refine lv_aload_n hx hb dX8_wouldTake_19 rfl (lv_at hl 0 rfl) ?_
      refine lv_iload_n hx hb dX8_wouldTake_20 rfl (lv_at hl 1 rfl) ?_
      refine jx_callVI C hK hP hD hS hA (ct_M_isThere l D cI cT aM _ sM l1 h) ms_X8_isThere lk_X8_193 [0] rfl rfl (fun _ => rfl) (cs' := (fun _ => [(cp_M aM, sM)])) (fun _ => rfl) (fun _ => rfl) 0 0 rfl rfl rfl rfl rfl hl.1 rfl rfl dX8_wouldTake_21 ⟨Nat.le_refl _, Nat.le_refl _⟩ (fun r21 _ H locs h hP hD hS => ?_)
      have hP : va_P D vwCl (jx_ws cI cT [(cp_M aM, sM)]) H := hP
      have hD : va_D A (jx_ws cI cT [(cp_M aM, sM)]) := hD
      refine jx_zne C h.1 (tgt := 30) dX8_wouldTake_24 (by decide) (fun hc => ?_) (fun hc => ?_)
      · have h := h.2.2 hc
        refine lv_aload_n hx hb dX8_wouldTake_30 rfl (lv_at hl 0 rfl) ?_
        refine jx_callVV C hK hP hD hS hA (ct_M_copy l D cI cT aM _ sM  h) ms_X8_copy lk_X8_196 [0] rfl rfl (fun _ => rfl) (cs' := (fun u => [(cp_M aM, u)])) (fun _ => rfl) (fun _ => rfl) 0 0 rfl rfl rfl rfl rfl hl.1 rfl rfl dX8_wouldTake_31 ⟨Nat.le_refl _, Nat.le_refl _⟩ (fun sM_31 H locs h hP hD hS => ?_)
        have hP : va_P D vwCl (jx_ws cI cT [(cp_M aM, sM_31)]) H := hP
        have hD : va_D A (jx_ws cI cT [(cp_M aM, sM_31)]) := hD
        refine lv_aload_n hx hb dX8_wouldTake_34 rfl (lv_at hl 0 rfl) ?_
        refine lv_iload_n hx hb dX8_wouldTake_35 rfl (lv_at hl 1 rfl) ?_
        refine jx_callVV C hK hP hD hS hA (ct_M_takesBox l D cI cT aM _ sM_31 l1 h) ms_X8_takesBox lk_X8_212 [0] rfl rfl (fun _ => rfl) (cs' := (fun u => [(cp_M aM, u)])) (fun _ => rfl) (fun _ => rfl) 0 0 rfl rfl rfl rfl rfl hl.1 rfl rfl dX8_wouldTake_36 ⟨Nat.le_refl _, Nat.le_refl _⟩ (fun sM_36 H locs h hP hD hS => ?_)
        have hP : va_P D vwCl (jx_ws cI cT [(cp_M aM, sM_36)]) H := hP
        have hD : va_D A (jx_ws cI cT [(cp_M aM, sM_36)]) := hD
        refine lv_aload_n hx hb dX8_wouldTake_39 rfl (lv_at hl 0 rfl) ?_
        refine jx_getR C hK hP 0 0 0 rfl rfl rfl fl_X8_7 dX8_wouldTake_40 ?_
        refine jx_iconst C dX8_wouldTake_43 ?_
        refine jx_iald C hK hP 0 1 rfl rfl rfl (show jx_B _ _ from ⟨by decide, by decide⟩) dX8_wouldTake_44 ?_
        refine lv_aload_n hx hb dX8_wouldTake_45 rfl (lv_at hl 0 rfl) ?_
        refine jx_getR C hK hP 0 0 1 rfl rfl rfl fl_X8_13 dX8_wouldTake_46 ?_
        refine jx_iconst C dX8_wouldTake_49 ?_
        refine jx_iald C hK hP 0 2 rfl rfl rfl (show jx_B _ _ from ⟨by decide, by decide⟩) dX8_wouldTake_50 ?_
        refine jx_isub C dX8_wouldTake_51 ?_
        refine lv_istore_n (lv' := [(3, .int (jx_i ((sM_36 0 3) - (sM_36 1 3)))), (0, .ref (aM 0)), (1, .int (jx_i l1)), (2, .int (jx_i l2))]) hx hb dX8_wouldTake_52 rfl hl (by decide) rfl (fun ls hl => ?_)
        refine lv_aload_n hx hb dX8_wouldTake_53 rfl (lv_at hl 1 rfl) ?_
        refine jx_callVI C hK hP hD hS hA (ct_M_levels l D cI cT aM _ sM_36  h) ms_X8_levels lk_X8_209 [0] rfl rfl (fun _ => rfl) (cs' := (fun _ => [(cp_M aM, sM_36)])) (fun _ => rfl) (fun _ => rfl) 0 0 rfl rfl rfl rfl rfl hl.1 rfl rfl dX8_wouldTake_54 ⟨Nat.le_refl _, Nat.le_refl _⟩ (fun r54 _ H locs h hP hD hS => ?_)
        have hP : va_P D vwCl (jx_ws cI cT [(cp_M aM, sM_36)]) H := hP
        have hD : va_D A (jx_ws cI cT [(cp_M aM, sM_36)]) := hD
        refine lv_istore (lv' := [(4, .int (jx_i r54)), (3, .int (jx_i ((sM_36 0 3) - (sM_36 1 3)))), (0, .ref (aM 0)), (1, .int (jx_i l1)), (2, .int (jx_i l2))]) hx hb dX8_wouldTake_57 hl (by decide) rfl (fun ls hl => ?_)
        refine lv_aload_n hx hb dX8_wouldTake_59 rfl (lv_at hl 2 rfl) ?_
        refine jx_iconst C dX8_wouldTake_60 ?_
        refine jx_callVI C hK hP hD hS hA (ct_M_overlapsOf l D cI cT aM _ sM_36 0 h) ms_X8_overlapsOf lk_X8_225 [0] rfl rfl (fun _ => rfl) (cs' := (fun u => [(cp_M aM, u)])) (fun _ => rfl) (fun _ => rfl) 0 0 rfl rfl rfl rfl rfl hl.1 rfl rfl dX8_wouldTake_61 ⟨Nat.le_refl _, Nat.le_refl _⟩ (fun r61 sM_61 H locs h hP hD hS => ?_)
        have hP : va_P D vwCl (jx_ws cI cT [(cp_M aM, sM_61)]) H := hP
        have hD : va_D A (jx_ws cI cT [(cp_M aM, sM_61)]) := hD
        refine lv_istore (lv' := [(5, .int (jx_i r61)), (4, .int (jx_i r54)), (3, .int (jx_i ((sM_36 0 3) - (sM_36 1 3)))), (0, .ref (aM 0)), (1, .int (jx_i l1)), (2, .int (jx_i l2))]) hx hb dX8_wouldTake_64 hl (by decide) rfl (fun ls hl => ?_)
        refine lv_aload_n hx hb dX8_wouldTake_66 rfl (lv_at hl 3 rfl) ?_
        refine jx_callVV C hK hP hD hS hA (ct_M_back l D cI cT aM _ sM_61  h) ms_X8_back lk_X8_236 [0] rfl rfl (fun _ => rfl) (cs' := (fun u => [(cp_M aM, u)])) (fun _ => rfl) (fun _ => rfl) 0 0 rfl rfl rfl rfl rfl hl.1 rfl rfl dX8_wouldTake_67 ⟨Nat.le_refl _, Nat.le_refl _⟩ (fun sM_67 H locs h hP hD hS => ?_)
        have hP : va_P D vwCl (jx_ws cI cT [(cp_M aM, sM_67)]) H := hP
        have hD : va_D A (jx_ws cI cT [(cp_M aM, sM_67)]) := hD
        refine lv_iload_n hx hb dX8_wouldTake_70 rfl (lv_at hl 5 rfl) ?_
        refine jx_zne C h.1 (tgt := 78) dX8_wouldTake_71 (by decide) (fun hc => ?_) (fun hc => ?_)
        · have h := h.2.2 hc
          refine lv_iload_n hx hb dX8_wouldTake_78 rfl (lv_at hl 5 rfl) ?_
          refine jx_iconst C dX8_wouldTake_79 ?_
          refine jx_cne C h.1 (jx_inR (by decide) (by decide)) (tgt := 90) dX8_wouldTake_80 (by decide) (fun hc => ?_) (fun hc => ?_)
          · have h := h.2.2 hc
            refine lv_iload_n hx hb dX8_wouldTake_90 rfl (lv_at hl 5 rfl) ?_
            refine jx_iconst C dX8_wouldTake_91 ?_
            refine jx_cne C h.1 (jx_inR (by decide) (by decide)) (tgt := 100) dX8_wouldTake_92 (by decide) (fun hc => ?_) (fun hc => ?_)
            · have h := h.2.2 hc
              refine lv_iload hx hb dX8_wouldTake_100 (lv_at hl 0 rfl) ?_
              exact jx_rI C hr hlk hAe hS hQQ sM_67 hP h dX8_wouldTake_102
            · have h := h.2.1 hc
              refine lv_iload hx hb dX8_wouldTake_95 (lv_at hl 1 rfl) ?_
              refine lv_goto (tgt := 102) hx hb dX8_wouldTake_97 (by decide) ?_
              exact jx_rI C hr hlk hAe hS hQQ sM_67 hP h dX8_wouldTake_102
          · have h := h.2.1 hc
            refine lv_aload_n hx hb dX8_wouldTake_83 rfl (lv_at hl 3 rfl) ?_
            refine jx_getI C hK hP 0 0 17 rfl rfl rfl fl_X8_135 dX8_wouldTake_84 ?_
            refine lv_goto (tgt := 102) hx hb dX8_wouldTake_87 (by decide) ?_
            exact jx_rI C hr hlk hAe hS hQQ sM_67 hP h dX8_wouldTake_102
        · have h := h.2.1 hc
          refine lv_iload_n hx hb dX8_wouldTake_74 rfl (lv_at hl 2 rfl) ?_
          refine lv_goto (tgt := 102) hx hb dX8_wouldTake_75 (by decide) ?_
          exact jx_rI C hr hlk hAe hS hQQ sM_67 hP h dX8_wouldTake_102
      · have h := h.2.1 hc
        refine jx_ldc C (-1000004) kc_X8_221 dX8_wouldTake_27 ?_
        exact jx_rI C hr hlk hAe hS hQQ sM hP h dX8_wouldTake_29
    · have h := h.2.1 hc
      refine jx_ldc C (-1000001) kc_X8_192 dX8_wouldTake_16 ?_
      exact jx_rI C hr hlk hAe hS hQQ sM hP h dX8_wouldTake_18
