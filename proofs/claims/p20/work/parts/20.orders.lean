set_option maxRecDepth 100000 in
set_option maxHeartbeats 4000000 in
theorem ct_O_append (l : Launch) (D : va_G) (cI cT : ClassId) (aO : Nat → Nat) (Q : jx_St → Prop) (sO : jx_St) (l1 : Int) (h : wp_O_append Q sO l1) : jx_KV jx_St l D cI cT yX3_append cX3_append 2 1 22 [.ref (aO 0), .int (jx_i l1)] [(cp_O aO, sO)] (fun u => [(cp_O aO, u)]) Q := by
  refine jx_ent (own := RX3) (by decide) rfl (Nat.le_of_ble_eq_true rfl) ?_
  intro p e s m args below meth c A QQ C hr hlk hK hAe hA hP hD hS ls hl hQQ
  have hl : lv_has ls 2 [(0, .ref (aO 0)), (1, .int (jx_i l1))] := hl
  have hx := C.1
  have hb := C.2.1
  unfold wp_O_append at h
  refine lv_aload_n hx hb dX3_append_0 rfl (lv_at hl 0 rfl) ?_
  refine jx_getI C hK hP 0 0 1 rfl rfl rfl fl_X3_18 dX3_append_1 ?_
  refine jx_bipush C dX3_append_4 (by decide) ?_
  refine jx_cge C h.1 (jx_inR (by decide) (by decide)) (tgt := 31) dX3_append_6 (by decide) (fun hc => ?_) (fun hc => ?_)
  · have h := h.2.2 hc
    exact jx_rV C hr hlk hAe hS hQQ sO hP h dX3_append_31
  · have h := h.2.1 hc
    refine lv_aload_n hx hb dX3_append_9 rfl (lv_at hl 0 rfl) ?_
    refine jx_getR C hK hP 0 0 0 rfl rfl rfl fl_X3_9 dX3_append_10 ?_
    refine lv_aload_n hx hb dX3_append_13 rfl (lv_at hl 0 rfl) ?_
    refine jx_getI C hK hP 0 0 1 rfl rfl rfl fl_X3_18 dX3_append_14 ?_
    refine lv_iload_n hx hb dX3_append_17 rfl (lv_at hl 1 rfl) ?_
    refine jx_rowsSet C hK hP hD hS hA 0 1 rfl rfl rfl rfl h.1 lk_X3_22 rfl hl.1 rfl rfl dX3_append_18 ⟨Nat.le_refl _, Nat.le_refl _⟩ (fun H locs hP hD hS => ?_)
    have h := h.2
    have hP : va_P D vwCl (jx_ws cI cT [(cp_O aO, (jx_se 60 sO 0 (sO 1 0) l1))]) H := hP
    have hD : va_D A (jx_ws cI cT [(cp_O aO, (jx_se 60 sO 0 (sO 1 0) l1))]) := hD
    refine lv_aload_n hx hb dX3_append_21 rfl (lv_at hl 0 rfl) ?_
    refine lv_dup hx hb dX3_append_22 rfl ?_
    refine jx_getI C hK hP 0 0 1 rfl rfl rfl fl_X3_18 dX3_append_23 ?_
    refine jx_iconst C dX3_append_26 ?_
    refine jx_iadd C dX3_append_27 ?_
    refine jx_putI C hK hP hD hS 0 0 1 rfl rfl rfl rfl rfl fl_X3_18 fw_X3_1 ⟨rfl, rfl⟩ rfl dX3_append_28 (fun H locs hP hD hS => ?_)
    have hP : va_P D vwCl (jx_ws cI cT [(cp_O aO, (jx_su (jx_se 60 sO 0 (sO 1 0) l1) 1 0 (((jx_se 60 sO 0 (sO 1 0) l1) 1 0) + 1)))]) H := hP
    have hD : va_D A (jx_ws cI cT [(cp_O aO, (jx_su (jx_se 60 sO 0 (sO 1 0) l1) 1 0 (((jx_se 60 sO 0 (sO 1 0) l1) 1 0) + 1)))]) := hD
    exact jx_rV C hr hlk hAe hS hQQ (jx_su (jx_se 60 sO 0 (sO 1 0) l1) 1 0 (((jx_se 60 sO 0 (sO 1 0) l1) 1 0) + 1)) hP h dX3_append_31
set_option maxRecDepth 100000 in
set_option maxHeartbeats 4000000 in
theorem ct_O_signIs (l : Launch) (D : va_G) (cI cT : ClassId) (aO : Nat → Nat) (Q : Int → Prop) (sO : jx_St) (l1 : Int) (h : wp_O_signIs Q sO l1) : jx_KI (Unit) l D cI cT yX3_signIs cX3_signIs 2 .boolean 1 21 [.ref (aO 0), .int (jx_i l1)] [(cp_O aO, sO)] (fun _ => [(cp_O aO, sO)]) (fun x _ => Q x) := by
  refine jx_ent (own := RX3) (by decide) rfl (Nat.le_of_ble_eq_true rfl) ?_
  intro p e s m args below meth c A QQ C hr hlk hK hAe hA hP hD hS ls hl hQQ
  have hl : lv_has ls 2 [(0, .ref (aO 0)), (1, .int (jx_i l1))] := hl
  have hx := C.1
  have hb := C.2.1
  unfold wp_O_signIs at h
  refine lv_aload_n hx hb dX3_signIs_0 rfl (lv_at hl 0 rfl) ?_
  refine jx_getI C hK hP 0 0 4 rfl rfl rfl fl_X3_49 dX3_signIs_1 ?_
  refine lv_aload_n hx hb dX3_signIs_4 rfl (lv_at hl 0 rfl) ?_
  refine jx_getI C hK hP 0 0 1 rfl rfl rfl fl_X3_18 dX3_signIs_5 ?_
  refine jx_cge C h.1 h.2.1 (tgt := 30) dX3_signIs_8 (by decide) (fun hc => ?_) (fun hc => ?_)
  · have h := h.2.2.2 hc
    refine jx_iconst C dX3_signIs_30 ?_
    exact jx_rZ C hr hlk hAe hS hQQ (by decide) () hP h dX3_signIs_31
  · have h := h.2.2.1 hc
    refine lv_aload_n hx hb dX3_signIs_11 rfl (lv_at hl 0 rfl) ?_
    refine jx_getR C hK hP 0 0 0 rfl rfl rfl fl_X3_9 dX3_signIs_12 ?_
    refine lv_aload_n hx hb dX3_signIs_15 rfl (lv_at hl 0 rfl) ?_
    refine jx_getI C hK hP 0 0 4 rfl rfl rfl fl_X3_49 dX3_signIs_16 ?_
    refine jx_rowsAt C hK hP hD hS hA 0 1 rfl rfl rfl rfl h.1 lk_X3_28 hl.1 rfl rfl dX3_signIs_19 ⟨Nat.le_refl _, Nat.le_refl _⟩ (fun H locs hP hS => ?_)
    have h := h.2
    refine lv_iload_n hx hb dX3_signIs_22 rfl (lv_at hl 1 rfl) ?_
    refine jx_cne C h.1 h.2.1 (tgt := 30) dX3_signIs_23 (by decide) (fun hc => ?_) (fun hc => ?_)
    · have h := h.2.2.2 hc
      refine jx_iconst C dX3_signIs_30 ?_
      exact jx_rZ C hr hlk hAe hS hQQ (by decide) () hP h dX3_signIs_31
    · have h := h.2.2.1 hc
      refine jx_iconst C dX3_signIs_26 ?_
      refine lv_goto (tgt := 31) hx hb dX3_signIs_27 (by decide) ?_
      exact jx_rZ C hr hlk hAe hS hQQ (by decide) () hP h dX3_signIs_31
set_option maxRecDepth 100000 in
set_option maxHeartbeats 4000000 in
theorem ct_O_signIsDigit (l : Launch) (D : va_G) (cI cT : ClassId) (aO : Nat → Nat) (Q : Int → Prop) (sO : jx_St) (h : wp_O_signIsDigit Q sO) : jx_KI (Unit) l D cI cT yX3_signIsDigit cX3_signIsDigit 1 .boolean 1 21 [.ref (aO 0)] [(cp_O aO, sO)] (fun _ => [(cp_O aO, sO)]) (fun x _ => Q x) := by
  refine jx_ent (own := RX3) (by decide) rfl (Nat.le_of_ble_eq_true rfl) ?_
  intro p e s m args below meth c A QQ C hr hlk hK hAe hA hP hD hS ls hl hQQ
  have hl : lv_has ls 1 [(0, .ref (aO 0))] := hl
  have hx := C.1
  have hb := C.2.1
  unfold wp_O_signIsDigit at h
  refine lv_aload_n hx hb dX3_signIsDigit_0 rfl (lv_at hl 0 rfl) ?_
  refine jx_getI C hK hP 0 0 4 rfl rfl rfl fl_X3_49 dX3_signIsDigit_1 ?_
  refine lv_aload_n hx hb dX3_signIsDigit_4 rfl (lv_at hl 0 rfl) ?_
  refine jx_getI C hK hP 0 0 1 rfl rfl rfl fl_X3_18 dX3_signIsDigit_5 ?_
  refine jx_cge C h.1 h.2.1 (tgt := 47) dX3_signIsDigit_8 (by decide) (fun hc => ?_) (fun hc => ?_)
  · have h := h.2.2.2 hc
    refine jx_iconst C dX3_signIsDigit_47 ?_
    exact jx_rZ C hr hlk hAe hS hQQ (by decide) () hP h dX3_signIsDigit_48
  · have h := h.2.2.1 hc
    refine lv_aload_n hx hb dX3_signIsDigit_11 rfl (lv_at hl 0 rfl) ?_
    refine jx_getR C hK hP 0 0 0 rfl rfl rfl fl_X3_9 dX3_signIsDigit_12 ?_
    refine lv_aload_n hx hb dX3_signIsDigit_15 rfl (lv_at hl 0 rfl) ?_
    refine jx_getI C hK hP 0 0 4 rfl rfl rfl fl_X3_49 dX3_signIsDigit_16 ?_
    refine jx_rowsAt C hK hP hD hS hA 0 1 rfl rfl rfl rfl h.1 lk_X3_28 hl.1 rfl rfl dX3_signIsDigit_19 ⟨Nat.le_refl _, Nat.le_refl _⟩ (fun H locs hP hS => ?_)
    have h := h.2
    refine jx_bipush C dX3_signIsDigit_22 (by decide) ?_
    refine jx_clt C h.1 (jx_inR (by decide) (by decide)) (tgt := 47) dX3_signIsDigit_24 (by decide) (fun hc => ?_) (fun hc => ?_)
    · have h := h.2.1 hc
      refine jx_iconst C dX3_signIsDigit_47 ?_
      exact jx_rZ C hr hlk hAe hS hQQ (by decide) () hP h dX3_signIsDigit_48
    · have h := h.2.2 hc
      refine lv_aload_n hx hb dX3_signIsDigit_27 rfl (lv_at hl 0 rfl) ?_
      refine jx_getR C hK hP 0 0 0 rfl rfl rfl fl_X3_9 dX3_signIsDigit_28 ?_
      refine lv_aload_n hx hb dX3_signIsDigit_31 rfl (lv_at hl 0 rfl) ?_
      refine jx_getI C hK hP 0 0 4 rfl rfl rfl fl_X3_49 dX3_signIsDigit_32 ?_
      refine jx_rowsAt C hK hP hD hS hA 0 1 rfl rfl rfl rfl h.1 lk_X3_28 hl.1 rfl rfl dX3_signIsDigit_35 ⟨Nat.le_refl _, Nat.le_refl _⟩ (fun H locs hP hS => ?_)
      have h := h.2
      refine jx_bipush C dX3_signIsDigit_38 (by decide) ?_
      refine jx_cgt C h.1 (jx_inR (by decide) (by decide)) (tgt := 47) dX3_signIsDigit_40 (by decide) (fun hc => ?_) (fun hc => ?_)
      · have h := h.2.2 hc
        refine jx_iconst C dX3_signIsDigit_47 ?_
        exact jx_rZ C hr hlk hAe hS hQQ (by decide) () hP h dX3_signIsDigit_48
      · have h := h.2.1 hc
        refine jx_iconst C dX3_signIsDigit_43 ?_
        refine lv_goto (tgt := 48) hx hb dX3_signIsDigit_44 (by decide) ?_
        exact jx_rZ C hr hlk hAe hS hQQ (by decide) () hP h dX3_signIsDigit_48
set_option maxRecDepth 100000 in
set_option maxHeartbeats 4000000 in
theorem ct_O_readNumber (l : Launch) (D : va_G) (cI cT : ClassId) (aO : Nat → Nat) (Q : Int → jx_St → Prop) (sO : jx_St) (l1 : Int) (h : wp_O_readNumber Q sO l1) : jx_KI jx_St l D cI cT yX3_readNumber cX3_readNumber 3 .boolean 2 41 [.ref (aO 0), .int (jx_i l1)] [(cp_O aO, sO)] (fun u => [(cp_O aO, u)]) Q := by
  refine jx_ent (own := RX3) (by decide) rfl (Nat.le_of_ble_eq_true rfl) ?_
  intro p e s m args below meth c A QQ C hr hlk hK hAe hA hP hD hS ls hl hQQ
  have hl : lv_has ls 3 [(0, .ref (aO 0)), (1, .int (jx_i l1))] := hl
  have hx := C.1
  have hb := C.2.1
  unfold wp_O_readNumber at h
  have J71 : ∀ (sO : jx_St) (l2 : Int), wp_O_readNumber_71 Q l1 sO l2 → ∀ (H : Heap) (locs : List Loc), va_P D vwCl (jx_ws cI cT [(cp_O aO, sO)]) H → va_D A (jx_ws cI cT [(cp_O aO, sO)]) → va_S A s.heap H locs → ∀ ls : Array Slot, lv_has ls 3 [(0, .ref (aO 0)), (1, .int (jx_i l1)), (2, .int (jx_i l2))] → W p l e (jx_rm 2 41) s m args below meth c H locs 0 0 QQ (F0 m 71 ls []) := by
    intro sO l2 h H locs hP hD hS ls hl
    unfold wp_O_readNumber_71 at h
    refine lv_aload_n hx hb dX3_readNumber_71 rfl (lv_at hl 0 rfl) ?_
    refine jx_getR C hK hP 0 0 2 rfl rfl rfl fl_X3_15 dX3_readNumber_72 ?_
    refine lv_iload_n hx hb dX3_readNumber_75 rfl (lv_at hl 1 rfl) ?_
    refine lv_iload_n hx hb dX3_readNumber_76 rfl (lv_at hl 2 rfl) ?_
    refine jx_rowsSet C hK hP hD hS hA 0 2 rfl rfl rfl rfl h.1 lk_X3_22 rfl hl.1 rfl rfl dX3_readNumber_77 ⟨Nat.le_refl _, Nat.le_refl _⟩ (fun H locs hP hD hS => ?_)
    have h := h.2
    have hP : va_P D vwCl (jx_ws cI cT [(cp_O aO, (jx_se 5 sO 2 l1 l2))]) H := hP
    have hD : va_D A (jx_ws cI cT [(cp_O aO, (jx_se 5 sO 2 l1 l2))]) := hD
    refine jx_iconst C dX3_readNumber_80 ?_
    exact jx_rZ C hr hlk hAe hS hQQ (by decide) (jx_se 5 sO 2 l1 l2) hP h dX3_readNumber_81
  refine lv_aload_n hx hb dX3_readNumber_0 rfl (lv_at hl 0 rfl) ?_
  refine jx_callVI C hK hP hD hS hA (ct_O_signIsDigit l D cI cT aO _ sO  h) ms_X3_signIsDigit lk_X3_72 [0] rfl rfl (fun _ => rfl) (cs' := (fun _ => [(cp_O aO, sO)])) (fun _ => rfl) (fun _ => rfl) 0 0 rfl rfl rfl rfl rfl hl.1 rfl rfl dX3_readNumber_1 ⟨Nat.le_refl _, Nat.le_refl _⟩ (fun r1 _ H locs h hP hD hS => ?_)
  have hP : va_P D vwCl (jx_ws cI cT [(cp_O aO, sO)]) H := hP
  have hD : va_D A (jx_ws cI cT [(cp_O aO, sO)]) := hD
  refine jx_zne C h.1 (tgt := 9) dX3_readNumber_4 (by decide) (fun hc => ?_) (fun hc => ?_)
  · have h := h.2.2 hc
    refine lv_aload_n hx hb dX3_readNumber_9 rfl (lv_at hl 0 rfl) ?_
    refine jx_getR C hK hP 0 0 0 rfl rfl rfl fl_X3_9 dX3_readNumber_10 ?_
    refine lv_aload_n hx hb dX3_readNumber_13 rfl (lv_at hl 0 rfl) ?_
    refine jx_getI C hK hP 0 0 4 rfl rfl rfl fl_X3_49 dX3_readNumber_14 ?_
    refine jx_rowsAt C hK hP hD hS hA 0 1 rfl rfl rfl rfl h.1 lk_X3_28 hl.1 rfl rfl dX3_readNumber_17 ⟨Nat.le_refl _, Nat.le_refl _⟩ (fun H locs hP hS => ?_)
    have h := h.2
    refine jx_bipush C dX3_readNumber_20 (by decide) ?_
    refine jx_isub C dX3_readNumber_22 ?_
    refine lv_istore_n (lv' := [(2, .int (jx_i ((jx_at 60 (sO 0) (sO 4 0)) - 48))), (0, .ref (aO 0)), (1, .int (jx_i l1))]) hx hb dX3_readNumber_23 rfl hl (by decide) rfl (fun ls hl => ?_)
    refine lv_aload_n hx hb dX3_readNumber_24 rfl (lv_at hl 1 rfl) ?_
    refine lv_dup hx hb dX3_readNumber_25 rfl ?_
    refine jx_getI C hK hP 0 0 4 rfl rfl rfl fl_X3_49 dX3_readNumber_26 ?_
    refine jx_iconst C dX3_readNumber_29 ?_
    refine jx_iadd C dX3_readNumber_30 ?_
    refine jx_putI C hK hP hD hS 0 0 4 rfl rfl rfl rfl rfl fl_X3_49 fw_X3_4 ⟨rfl, rfl⟩ rfl dX3_readNumber_31 (fun H locs hP hD hS => ?_)
    have hP : va_P D vwCl (jx_ws cI cT [(cp_O aO, (jx_su sO 4 0 ((sO 4 0) + 1)))]) H := hP
    have hD : va_D A (jx_ws cI cT [(cp_O aO, (jx_su sO 4 0 ((sO 4 0) + 1)))]) := hD
    refine lv_aload_n hx hb dX3_readNumber_34 rfl (lv_at hl 1 rfl) ?_
    refine jx_callVI C hK hP hD hS hA (ct_O_signIsDigit l D cI cT aO _ (jx_su sO 4 0 ((sO 4 0) + 1))  h) ms_X3_signIsDigit lk_X3_72 [0] rfl rfl (fun _ => rfl) (cs' := (fun _ => [(cp_O aO, (jx_su sO 4 0 ((sO 4 0) + 1)))])) (fun _ => rfl) (fun _ => rfl) 0 0 rfl rfl rfl rfl rfl hl.1 rfl rfl dX3_readNumber_35 ⟨Nat.le_refl _, Nat.le_refl _⟩ (fun r35 _ H locs h hP hD hS => ?_)
    have hP : va_P D vwCl (jx_ws cI cT [(cp_O aO, (jx_su sO 4 0 ((sO 4 0) + 1)))]) H := hP
    have hD : va_D A (jx_ws cI cT [(cp_O aO, (jx_su sO 4 0 ((sO 4 0) + 1)))]) := hD
    refine jx_zeq C h.1 (tgt := 71) dX3_readNumber_38 (by decide) (fun hc => ?_) (fun hc => ?_)
    · have h := h.2.1 hc
      exact J71 (jx_su sO 4 0 ((sO 4 0) + 1)) ((jx_at 60 (sO 0) (sO 4 0)) - 48) h _ _ hP hD hS ls (lv_sub hl [1, 2, 0] rfl)
    · have h := h.2.2 hc
      refine lv_iload_n hx hb dX3_readNumber_41 rfl (lv_at hl 0 rfl) ?_
      refine jx_bipush C dX3_readNumber_42 (by decide) ?_
      refine jx_imul C dX3_readNumber_44 ?_
      refine lv_aload_n hx hb dX3_readNumber_45 rfl (lv_at hl 1 rfl) ?_
      refine jx_getR C hK hP 0 0 0 rfl rfl rfl fl_X3_9 dX3_readNumber_46 ?_
      refine lv_aload_n hx hb dX3_readNumber_49 rfl (lv_at hl 1 rfl) ?_
      refine jx_getI C hK hP 0 0 4 rfl rfl rfl fl_X3_49 dX3_readNumber_50 ?_
      refine jx_rowsAt C hK hP hD hS hA 0 1 rfl rfl rfl rfl h.1 lk_X3_28 hl.1 rfl rfl dX3_readNumber_53 ⟨Nat.le_refl _, Nat.le_refl _⟩ (fun H locs hP hS => ?_)
      have h := h.2
      refine jx_iadd C dX3_readNumber_56 ?_
      refine jx_bipush C dX3_readNumber_57 (by decide) ?_
      refine jx_isub C dX3_readNumber_59 ?_
      refine lv_istore_n (lv' := [(2, .int (jx_i (((((jx_at 60 (sO 0) (sO 4 0)) - 48) * 10) + (jx_at 60 ((jx_su sO 4 0 ((sO 4 0) + 1)) 0) ((jx_su sO 4 0 ((sO 4 0) + 1)) 4 0))) - 48))), (0, .ref (aO 0)), (1, .int (jx_i l1))]) hx hb dX3_readNumber_60 rfl hl (by decide) rfl (fun ls hl => ?_)
      refine lv_aload_n hx hb dX3_readNumber_61 rfl (lv_at hl 1 rfl) ?_
      refine lv_dup hx hb dX3_readNumber_62 rfl ?_
      refine jx_getI C hK hP 0 0 4 rfl rfl rfl fl_X3_49 dX3_readNumber_63 ?_
      refine jx_iconst C dX3_readNumber_66 ?_
      refine jx_iadd C dX3_readNumber_67 ?_
      refine jx_putI C hK hP hD hS 0 0 4 rfl rfl rfl rfl rfl fl_X3_49 fw_X3_4 ⟨rfl, rfl⟩ rfl dX3_readNumber_68 (fun H locs hP hD hS => ?_)
      have hP : va_P D vwCl (jx_ws cI cT [(cp_O aO, (jx_su (jx_su sO 4 0 ((sO 4 0) + 1)) 4 0 (((jx_su sO 4 0 ((sO 4 0) + 1)) 4 0) + 1)))]) H := hP
      have hD : va_D A (jx_ws cI cT [(cp_O aO, (jx_su (jx_su sO 4 0 ((sO 4 0) + 1)) 4 0 (((jx_su sO 4 0 ((sO 4 0) + 1)) 4 0) + 1)))]) := hD
      exact J71 (jx_su (jx_su sO 4 0 ((sO 4 0) + 1)) 4 0 (((jx_su sO 4 0 ((sO 4 0) + 1)) 4 0) + 1)) (((((jx_at 60 (sO 0) (sO 4 0)) - 48) * 10) + (jx_at 60 ((jx_su sO 4 0 ((sO 4 0) + 1)) 0) ((jx_su sO 4 0 ((sO 4 0) + 1)) 4 0))) - 48) h _ _ hP hD hS ls (lv_sub hl [1, 2, 0] rfl)
  · have h := h.2.1 hc
    refine jx_iconst C dX3_readNumber_7 ?_
    exact jx_rZ C hr hlk hAe hS hQQ (by decide) sO hP h dX3_readNumber_8
set_option maxRecDepth 100000 in
set_option maxHeartbeats 4000000 in
theorem ct_O_read (l : Launch) (D : va_G) (cI cT : ClassId) (aO : Nat → Nat) (Q : Int → jx_St → Prop) (sO : jx_St) (l1 : Int) (h : wp_O_read Q sO l1) : jx_KI jx_St l D cI cT yX3_read cX3_read 4 .boolean 3 63 [.ref (aO 0), .int (jx_i l1)] [(cp_O aO, sO)] (fun u => [(cp_O aO, u)]) Q := by
  refine jx_ent (own := RX3) (by decide) rfl (Nat.le_of_ble_eq_true rfl) ?_
  intro p e s m args below meth c A QQ C hr hlk hK hAe hA hP hD hS ls hl hQQ
  have hl : lv_has ls 4 [(0, .ref (aO 0)), (1, .int (jx_i l1))] := hl
  have hx := C.1
  have hb := C.2.1
  unfold wp_O_read at h
  have Lo58 : ∀ (l2 : Int) (n : Nat) (sO : jx_St) (l3 : Int), jx_it (fun B58 v => wp_O_read_58 Q l1 l2 B58 v.1 v.2) n (sO, l3) → ∀ (H : Heap) (locs : List Loc), va_P D vwCl (jx_ws cI cT [(cp_O aO, sO)]) H → va_D A (jx_ws cI cT [(cp_O aO, sO)]) → va_S A s.heap H locs → ∀ ls : Array Slot, lv_has ls 4 [(0, .ref (aO 0)), (2, .int (jx_i l2)), (3, .int (jx_i l3))] → W p l e (jx_rm 3 63) s m args below meth c H locs 0 0 QQ (F0 m 58 ls []) := by
    intro l2 n
    induction n with
    | zero =>
      intro sO l3 h
      exact (show False from h).elim
    | succ n ih =>
      intro sO l3 h H locs hP hD hS ls hl
      have h : wp_O_read_58 Q l1 l2 (jx_it (fun B58 v => wp_O_read_58 Q l1 l2 B58 v.1 v.2) n) sO l3 := h
      have ih := fun sO l3 h => ih sO l3 h
      generalize jx_it (fun B58 v => wp_O_read_58 Q l1 l2 B58 v.1 v.2) n = B58 at h ih
      unfold wp_O_read_58 at h
      have J86 : ∀ (sO : jx_St) (l3 : Int) (t1 : Int), wp_O_read_86 Q l1 B58 sO l2 l3 t1 → ∀ (H : Heap) (locs : List Loc), va_P D vwCl (jx_ws cI cT [(cp_O aO, sO)]) H → va_D A (jx_ws cI cT [(cp_O aO, sO)]) → va_S A s.heap H locs → ∀ ls : Array Slot, lv_has ls 4 [(0, .ref (aO 0)), (2, .int (jx_i l2)), (3, .int (jx_i l3))] → W p l e (jx_rm 3 63) s m args below meth c H locs 0 0 QQ (F0 m 86 ls [.int (jx_i t1), .ref (aO 0)]) := by
        intro sO l3 t1 h H locs hP hD hS ls hl
        unfold wp_O_read_86 at h
        refine jx_callVI C hK hP hD hS hA (ct_O_signIs l D cI cT aO _ sO t1 h) ms_X3_signIs lk_X3_66 [0] rfl rfl (fun _ => rfl) (cs' := (fun _ => [(cp_O aO, sO)])) (fun _ => rfl) (fun _ => rfl) 0 0 rfl rfl rfl rfl rfl hl.1 rfl rfl dX3_read_86 ⟨Nat.le_refl _, Nat.le_refl _⟩ (fun r86 _ H locs h hP hD hS => ?_)
        have hP : va_P D vwCl (jx_ws cI cT [(cp_O aO, sO)]) H := hP
        have hD : va_D A (jx_ws cI cT [(cp_O aO, sO)]) := hD
        refine jx_zne C h.1 (tgt := 94) dX3_read_89 (by decide) (fun hc => ?_) (fun hc => ?_)
        · have h := h.2.2 hc
          refine lv_aload_n hx hb dX3_read_94 rfl (lv_at hl 0 rfl) ?_
          refine lv_dup hx hb dX3_read_95 rfl ?_
          refine jx_getI C hK hP 0 0 4 rfl rfl rfl fl_X3_49 dX3_read_96 ?_
          refine jx_iconst C dX3_read_99 ?_
          refine jx_iadd C dX3_read_100 ?_
          refine jx_putI C hK hP hD hS 0 0 4 rfl rfl rfl rfl rfl fl_X3_49 fw_X3_4 ⟨rfl, rfl⟩ rfl dX3_read_101 (fun H locs hP hD hS => ?_)
          have hP : va_P D vwCl (jx_ws cI cT [(cp_O aO, (jx_su sO 4 0 ((sO 4 0) + 1)))]) H := hP
          have hD : va_D A (jx_ws cI cT [(cp_O aO, (jx_su sO 4 0 ((sO 4 0) + 1)))]) := hD
          refine jx_iinc C (lv' := [(3, .int (jx_i (l3 + 1))), (0, .ref (aO 0)), (2, .int (jx_i l2))]) dX3_read_104 hl (k := 2) rfl (by decide) rfl (fun ls hl => ?_)
          refine lv_goto (tgt := 58) hx hb dX3_read_107 (by decide) ?_
          exact ih (jx_su sO 4 0 ((sO 4 0) + 1)) (l3 + 1) h _ _ hP hD hS ls (lv_sub hl [1, 2, 0] rfl)
        · have h := h.2.1 hc
          refine jx_iconst C dX3_read_92 ?_
          exact jx_rZ C hr hlk hAe hS hQQ (by decide) sO hP h dX3_read_93
      refine lv_iload_n hx hb dX3_read_58 rfl (lv_at hl 2 rfl) ?_
      refine lv_iload_n hx hb dX3_read_59 rfl (lv_at hl 1 rfl) ?_
      refine jx_cge C h.1 h.2.1 (tgt := 110) dX3_read_60 (by decide) (fun hc => ?_) (fun hc => ?_)
      · have h := h.2.2.2 hc
        refine jx_iconst C dX3_read_110 ?_
        exact jx_rZ C hr hlk hAe hS hQQ (by decide) sO hP h dX3_read_111
      · have h := h.2.2.1 hc
        refine lv_aload_n hx hb dX3_read_63 rfl (lv_at hl 0 rfl) ?_
        refine lv_iload_n hx hb dX3_read_64 rfl (lv_at hl 2 rfl) ?_
        refine jx_callVI C hK hP hD hS hA (ct_O_readNumber l D cI cT aO _ sO l3 h) ms_X3_readNumber lk_X3_69 [0] rfl rfl (fun _ => rfl) (cs' := (fun u => [(cp_O aO, u)])) (fun _ => rfl) (fun _ => rfl) 0 0 rfl rfl rfl rfl rfl hl.1 rfl rfl dX3_read_65 ⟨Nat.le_refl _, Nat.le_refl _⟩ (fun r65 sO_65 H locs h hP hD hS => ?_)
        have hP : va_P D vwCl (jx_ws cI cT [(cp_O aO, sO_65)]) H := hP
        have hD : va_D A (jx_ws cI cT [(cp_O aO, sO_65)]) := hD
        refine jx_zeq C h.1 (tgt := 92) dX3_read_68 (by decide) (fun hc => ?_) (fun hc => ?_)
        · have h := h.2.1 hc
          refine jx_iconst C dX3_read_92 ?_
          exact jx_rZ C hr hlk hAe hS hQQ (by decide) sO_65 hP h dX3_read_93
        · have h := h.2.2 hc
          refine lv_aload_n hx hb dX3_read_71 rfl (lv_at hl 0 rfl) ?_
          refine lv_iload_n hx hb dX3_read_72 rfl (lv_at hl 2 rfl) ?_
          refine lv_iload_n hx hb dX3_read_73 rfl (lv_at hl 1 rfl) ?_
          refine jx_iconst C dX3_read_74 ?_
          refine jx_isub C dX3_read_75 ?_
          refine jx_cne C h.1 h.2.1 (tgt := 84) dX3_read_76 (by decide) (fun hc => ?_) (fun hc => ?_)
          · have h := h.2.2.2 hc
            refine jx_bipush C dX3_read_84 (by decide) ?_
            exact J86 sO_65 l3 44 h _ _ hP hD hS ls (lv_sub hl [0, 1, 2] rfl)
          · have h := h.2.2.1 hc
            refine jx_bipush C dX3_read_79 (by decide) ?_
            refine lv_goto (tgt := 86) hx hb dX3_read_81 (by decide) ?_
            exact J86 sO_65 l3 59 h _ _ hP hD hS ls (lv_sub hl [0, 1, 2] rfl)
  have J55 : ∀ (sO : jx_St) (t0 : Int), wp_O_read_55 Q l1 sO t0 → ∀ (H : Heap) (locs : List Loc), va_P D vwCl (jx_ws cI cT [(cp_O aO, sO)]) H → va_D A (jx_ws cI cT [(cp_O aO, sO)]) → va_S A s.heap H locs → ∀ ls : Array Slot, lv_has ls 4 [(0, .ref (aO 0))] → W p l e (jx_rm 3 63) s m args below meth c H locs 0 0 QQ (F0 m 55 ls [.int (jx_i t0)]) := by
    intro sO t0 h H locs hP hD hS ls hl
    unfold wp_O_read_55 at h
    refine lv_istore_n (lv' := [(2, .int (jx_i t0)), (0, .ref (aO 0))]) hx hb dX3_read_55 rfl hl (by decide) rfl (fun ls hl => ?_)
    refine jx_iconst C dX3_read_56 ?_
    refine lv_istore_n (lv' := [(3, .int (jx_i 0)), (2, .int (jx_i t0)), (0, .ref (aO 0))]) hx hb dX3_read_57 rfl hl (by decide) rfl (fun ls hl => ?_)
    obtain ⟨n, h⟩ := h
    refine Lo58 t0 n sO 0 h _ _ hP hD hS ls (lv_sub hl [2, 1, 0] rfl)
  have J33 : ∀ (sO : jx_St), wp_O_read_33 Q l1 sO → ∀ (H : Heap) (locs : List Loc), va_P D vwCl (jx_ws cI cT [(cp_O aO, sO)]) H → va_D A (jx_ws cI cT [(cp_O aO, sO)]) → va_S A s.heap H locs → ∀ ls : Array Slot, lv_has ls 4 [(0, .ref (aO 0))] → W p l e (jx_rm 3 63) s m args below meth c H locs 0 0 QQ (F0 m 33 ls []) := by
    intro sO h H locs hP hD hS ls hl
    unfold wp_O_read_33 at h
    refine lv_aload_n hx hb dX3_read_33 rfl (lv_at hl 0 rfl) ?_
    refine lv_dup hx hb dX3_read_34 rfl ?_
    refine jx_getI C hK hP 0 0 4 rfl rfl rfl fl_X3_49 dX3_read_35 ?_
    refine jx_iconst C dX3_read_38 ?_
    refine jx_iadd C dX3_read_39 ?_
    refine jx_putI C hK hP hD hS 0 0 4 rfl rfl rfl rfl rfl fl_X3_49 fw_X3_4 ⟨rfl, rfl⟩ rfl dX3_read_40 (fun H locs hP hD hS => ?_)
    have hP : va_P D vwCl (jx_ws cI cT [(cp_O aO, (jx_su sO 4 0 ((sO 4 0) + 1)))]) H := hP
    have hD : va_D A (jx_ws cI cT [(cp_O aO, (jx_su sO 4 0 ((sO 4 0) + 1)))]) := hD
    refine lv_aload_n hx hb dX3_read_43 rfl (lv_at hl 0 rfl) ?_
    refine jx_getI C hK hP 0 0 3 rfl rfl rfl fl_X3_62 dX3_read_44 ?_
    refine jx_zeq C h.1 (tgt := 54) dX3_read_47 (by decide) (fun hc => ?_) (fun hc => ?_)
    · have h := h.2.1 hc
      refine jx_iconst C dX3_read_54 ?_
      exact J55 (jx_su sO 4 0 ((sO 4 0) + 1)) 1 h _ _ hP hD hS ls (lv_sub hl [0] rfl)
    · have h := h.2.2 hc
      refine jx_iconst C dX3_read_50 ?_
      refine lv_goto (tgt := 55) hx hb dX3_read_51 (by decide) ?_
      exact J55 (jx_su sO 4 0 ((sO 4 0) + 1)) 5 h _ _ hP hD hS ls (lv_sub hl [0] rfl)
  refine lv_aload_n hx hb dX3_read_0 rfl (lv_at hl 0 rfl) ?_
  refine lv_iload_n hx hb dX3_read_1 rfl (lv_at hl 1 rfl) ?_
  refine jx_putI C hK hP hD hS 0 0 4 rfl rfl rfl rfl rfl fl_X3_49 fw_X3_4 ⟨rfl, rfl⟩ rfl dX3_read_2 (fun H locs hP hD hS => ?_)
  have hP : va_P D vwCl (jx_ws cI cT [(cp_O aO, (jx_su sO 4 0 l1))]) H := hP
  have hD : va_D A (jx_ws cI cT [(cp_O aO, (jx_su sO 4 0 l1))]) := hD
  refine lv_aload_n hx hb dX3_read_5 rfl (lv_at hl 0 rfl) ?_
  refine lv_aload_n hx hb dX3_read_6 rfl (lv_at hl 0 rfl) ?_
  refine jx_bipush C dX3_read_7 (by decide) ?_
  refine jx_callVI C hK hP hD hS hA (ct_O_signIs l D cI cT aO _ (jx_su sO 4 0 l1) 43 h) ms_X3_signIs lk_X3_66 [0] rfl rfl (fun _ => rfl) (cs' := (fun _ => [(cp_O aO, (jx_su sO 4 0 l1))])) (fun _ => rfl) (fun _ => rfl) 0 0 rfl rfl rfl rfl rfl hl.1 rfl rfl dX3_read_9 ⟨Nat.le_refl _, Nat.le_refl _⟩ (fun r9 _ H locs h hP hD hS => ?_)
  have hP : va_P D vwCl (jx_ws cI cT [(cp_O aO, (jx_su sO 4 0 l1))]) H := hP
  have hD : va_D A (jx_ws cI cT [(cp_O aO, (jx_su sO 4 0 l1))]) := hD
  refine jx_putI C hK hP hD hS 0 0 3 rfl rfl rfl rfl rfl fl_X3_62 fw_X3_3 (jx_nz h.1) rfl dX3_read_12 (fun H locs hP hD hS => ?_)
  have h := h.2
  have hP : va_P D vwCl (jx_ws cI cT [(cp_O aO, (jx_su (jx_su sO 4 0 l1) 3 0 r9))]) H := hP
  have hD : va_D A (jx_ws cI cT [(cp_O aO, (jx_su (jx_su sO 4 0 l1) 3 0 r9))]) := hD
  refine lv_aload_n hx hb dX3_read_15 rfl (lv_at hl 0 rfl) ?_
  refine jx_getI C hK hP 0 0 3 rfl rfl rfl fl_X3_62 dX3_read_16 ?_
  refine jx_zne C h.1 (tgt := 33) dX3_read_19 (by decide) (fun hc => ?_) (fun hc => ?_)
  · have h := h.2.2 hc
    exact J33 (jx_su (jx_su sO 4 0 l1) 3 0 r9) h _ _ hP hD hS ls (lv_sub hl [0] rfl)
  · have h := h.2.1 hc
    refine lv_aload_n hx hb dX3_read_22 rfl (lv_at hl 0 rfl) ?_
    refine jx_bipush C dX3_read_23 (by decide) ?_
    refine jx_callVI C hK hP hD hS hA (ct_O_signIs l D cI cT aO _ (jx_su (jx_su sO 4 0 l1) 3 0 r9) 45 h) ms_X3_signIs lk_X3_66 [0] rfl rfl (fun _ => rfl) (cs' := (fun _ => [(cp_O aO, (jx_su (jx_su sO 4 0 l1) 3 0 r9))])) (fun _ => rfl) (fun _ => rfl) 0 0 rfl rfl rfl rfl rfl hl.1 rfl rfl dX3_read_25 ⟨Nat.le_refl _, Nat.le_refl _⟩ (fun r25 _ H locs h hP hD hS => ?_)
    have hP : va_P D vwCl (jx_ws cI cT [(cp_O aO, (jx_su (jx_su sO 4 0 l1) 3 0 r9))]) H := hP
    have hD : va_D A (jx_ws cI cT [(cp_O aO, (jx_su (jx_su sO 4 0 l1) 3 0 r9))]) := hD
    refine jx_zne C h.1 (tgt := 33) dX3_read_28 (by decide) (fun hc => ?_) (fun hc => ?_)
    · have h := h.2.2 hc
      exact J33 (jx_su (jx_su sO 4 0 l1) 3 0 r9) h _ _ hP hD hS ls (lv_sub hl [0] rfl)
    · have h := h.2.1 hc
      refine jx_iconst C dX3_read_31 ?_
      exact jx_rZ C hr hlk hAe hS hQQ (by decide) (jx_su (jx_su sO 4 0 l1) 3 0 r9) hP h dX3_read_32
set_option maxRecDepth 100000 in
set_option maxHeartbeats 4000000 in
theorem ct_O_number (l : Launch) (D : va_G) (cI cT : ClassId) (aO : Nat → Nat) (Q : Int → Prop) (sO : jx_St) (l1 : Int) (h : wp_O_number Q sO l1) : jx_KI (Unit) l D cI cT yX3_number cX3_number 2 .int 1 21 [.ref (aO 0), .int (jx_i l1)] [(cp_O aO, sO)] (fun _ => [(cp_O aO, sO)]) (fun x _ => Q x) := by
  refine jx_ent (own := RX3) (by decide) rfl (Nat.le_of_ble_eq_true rfl) ?_
  intro p e s m args below meth c A QQ C hr hlk hK hAe hA hP hD hS ls hl hQQ
  have hl : lv_has ls 2 [(0, .ref (aO 0)), (1, .int (jx_i l1))] := hl
  have hx := C.1
  have hb := C.2.1
  unfold wp_O_number at h
  refine lv_aload_n hx hb dX3_number_0 rfl (lv_at hl 0 rfl) ?_
  refine jx_getR C hK hP 0 0 2 rfl rfl rfl fl_X3_15 dX3_number_1 ?_
  refine lv_iload_n hx hb dX3_number_4 rfl (lv_at hl 1 rfl) ?_
  refine jx_rowsAt C hK hP hD hS hA 0 2 rfl rfl rfl rfl h.1 lk_X3_28 hl.1 rfl rfl dX3_number_5 ⟨Nat.le_refl _, Nat.le_refl _⟩ (fun H locs hP hS => ?_)
  have h := h.2
  exact jx_rI C hr hlk hAe hS hQQ () hP h dX3_number_8
set_option maxRecDepth 100000 in
set_option maxHeartbeats 4000000 in
theorem ct_O_wrongNumber (l : Launch) (D : va_G) (cI cT : ClassId) (aO : Nat → Nat) (Q : Int → Prop) (sO : jx_St) (h : wp_O_wrongNumber Q sO) : jx_KI (Unit) l D cI cT yX3_wrongNumber cX3_wrongNumber 1 .int 2 42 [.ref (aO 0)] [(cp_O aO, sO)] (fun _ => [(cp_O aO, sO)]) (fun x _ => Q x) := by
  refine jx_ent (own := RX3) (by decide) rfl (Nat.le_of_ble_eq_true rfl) ?_
  intro p e s m args below meth c A QQ C hr hlk hK hAe hA hP hD hS ls hl hQQ
  have hl : lv_has ls 1 [(0, .ref (aO 0))] := hl
  have hx := C.1
  have hb := C.2.1
  unfold wp_O_wrongNumber at h
  have J34 : wp_O_wrongNumber_34 Q sO → ∀ (H : Heap) (locs : List Loc), va_P D vwCl (jx_ws cI cT [(cp_O aO, sO)]) H → va_D A (jx_ws cI cT [(cp_O aO, sO)]) → va_S A s.heap H locs → ∀ ls : Array Slot, lv_has ls 1 [(0, .ref (aO 0))] → W p l e (jx_rm 2 42) s m args below meth c H locs 0 0 QQ (F0 m 34 ls []) := by
    intro h H locs hP hD hS ls hl
    unfold wp_O_wrongNumber_34 at h
    refine lv_aload_n hx hb dX3_wrongNumber_34 rfl (lv_at hl 0 rfl) ?_
    refine jx_getI C hK hP 0 0 3 rfl rfl rfl fl_X3_62 dX3_wrongNumber_35 ?_
    refine jx_zeq C h.1 (tgt := 58) dX3_wrongNumber_38 (by decide) (fun hc => ?_) (fun hc => ?_)
    · have h := h.2.1 hc
      refine jx_iconst C dX3_wrongNumber_58 ?_
      exact jx_rI C hr hlk hAe hS hQQ () hP h dX3_wrongNumber_59
    · have h := h.2.2 hc
      refine lv_aload_n hx hb dX3_wrongNumber_41 rfl (lv_at hl 0 rfl) ?_
      refine jx_iconst C dX3_wrongNumber_42 ?_
      refine jx_callVI C hK hP hD hS hA (ct_O_number l D cI cT aO _ sO 2 h) ms_X3_number lk_X3_45 [0] rfl rfl (fun _ => rfl) (cs' := (fun _ => [(cp_O aO, sO)])) (fun _ => rfl) (fun _ => rfl) 0 0 rfl rfl rfl rfl rfl hl.1 rfl rfl dX3_wrongNumber_43 ⟨Nat.le_refl _, Nat.le_refl _⟩ (fun r43 _ H locs h hP hD hS => ?_)
      have hP : va_P D vwCl (jx_ws cI cT [(cp_O aO, sO)]) H := hP
      have hD : va_D A (jx_ws cI cT [(cp_O aO, sO)]) := hD
      refine lv_aload_n hx hb dX3_wrongNumber_46 rfl (lv_at hl 0 rfl) ?_
      refine jx_iconst C dX3_wrongNumber_47 ?_
      refine jx_callVI C hK hP hD hS hA (ct_O_number l D cI cT aO _ sO 4 h) ms_X3_number lk_X3_45 [0] rfl rfl (fun _ => rfl) (cs' := (fun _ => [(cp_O aO, sO)])) (fun _ => rfl) (fun _ => rfl) 0 0 rfl rfl rfl rfl rfl hl.1 rfl rfl dX3_wrongNumber_48 ⟨Nat.le_refl _, Nat.le_refl _⟩ (fun r48 _ H locs h hP hD hS => ?_)
      have hP : va_P D vwCl (jx_ws cI cT [(cp_O aO, sO)]) H := hP
      have hD : va_D A (jx_ws cI cT [(cp_O aO, sO)]) := hD
      refine jx_cle C h.1 h.2.1 (tgt := 58) dX3_wrongNumber_51 (by decide) (fun hc => ?_) (fun hc => ?_)
      · have h := h.2.2.1 hc
        refine jx_iconst C dX3_wrongNumber_58 ?_
        exact jx_rI C hr hlk hAe hS hQQ () hP h dX3_wrongNumber_59
      · have h := h.2.2.2 hc
        refine jx_iconst C dX3_wrongNumber_54 ?_
        refine lv_goto (tgt := 59) hx hb dX3_wrongNumber_55 (by decide) ?_
        exact jx_rI C hr hlk hAe hS hQQ () hP h dX3_wrongNumber_59
  refine lv_aload_n hx hb dX3_wrongNumber_0 rfl (lv_at hl 0 rfl) ?_
  refine jx_iconst C dX3_wrongNumber_1 ?_
  refine jx_callVI C hK hP hD hS hA (ct_O_number l D cI cT aO _ sO 0 h) ms_X3_number lk_X3_45 [0] rfl rfl (fun _ => rfl) (cs' := (fun _ => [(cp_O aO, sO)])) (fun _ => rfl) (fun _ => rfl) 0 0 rfl rfl rfl rfl rfl hl.1 rfl rfl dX3_wrongNumber_2 ⟨Nat.le_refl _, Nat.le_refl _⟩ (fun r2 _ H locs h hP hD hS => ?_)
  have hP : va_P D vwCl (jx_ws cI cT [(cp_O aO, sO)]) H := hP
  have hD : va_D A (jx_ws cI cT [(cp_O aO, sO)]) := hD
  refine jx_bipush C dX3_wrongNumber_5 (by decide) ?_
  refine jx_clt C h.1 (jx_inR (by decide) (by decide)) (tgt := 12) dX3_wrongNumber_7 (by decide) (fun hc => ?_) (fun hc => ?_)
  · have h := h.2.1 hc
    refine lv_aload_n hx hb dX3_wrongNumber_12 rfl (lv_at hl 0 rfl) ?_
    refine jx_getI C hK hP 0 0 3 rfl rfl rfl fl_X3_62 dX3_wrongNumber_13 ?_
    refine jx_zeq C h.1 (tgt := 34) dX3_wrongNumber_16 (by decide) (fun hc => ?_) (fun hc => ?_)
    · have h := h.2.1 hc
      exact J34  h _ _ hP hD hS ls (lv_sub hl [0] rfl)
    · have h := h.2.2 hc
      refine lv_aload_n hx hb dX3_wrongNumber_19 rfl (lv_at hl 0 rfl) ?_
      refine jx_iconst C dX3_wrongNumber_20 ?_
      refine jx_callVI C hK hP hD hS hA (ct_O_number l D cI cT aO _ sO 1 h) ms_X3_number lk_X3_45 [0] rfl rfl (fun _ => rfl) (cs' := (fun _ => [(cp_O aO, sO)])) (fun _ => rfl) (fun _ => rfl) 0 0 rfl rfl rfl rfl rfl hl.1 rfl rfl dX3_wrongNumber_21 ⟨Nat.le_refl _, Nat.le_refl _⟩ (fun r21 _ H locs h hP hD hS => ?_)
      have hP : va_P D vwCl (jx_ws cI cT [(cp_O aO, sO)]) H := hP
      have hD : va_D A (jx_ws cI cT [(cp_O aO, sO)]) := hD
      refine lv_aload_n hx hb dX3_wrongNumber_24 rfl (lv_at hl 0 rfl) ?_
      refine jx_iconst C dX3_wrongNumber_25 ?_
      refine jx_callVI C hK hP hD hS hA (ct_O_number l D cI cT aO _ sO 3 h) ms_X3_number lk_X3_45 [0] rfl rfl (fun _ => rfl) (cs' := (fun _ => [(cp_O aO, sO)])) (fun _ => rfl) (fun _ => rfl) 0 0 rfl rfl rfl rfl rfl hl.1 rfl rfl dX3_wrongNumber_26 ⟨Nat.le_refl _, Nat.le_refl _⟩ (fun r26 _ H locs h hP hD hS => ?_)
      have hP : va_P D vwCl (jx_ws cI cT [(cp_O aO, sO)]) H := hP
      have hD : va_D A (jx_ws cI cT [(cp_O aO, sO)]) := hD
      refine jx_cle C h.1 h.2.1 (tgt := 34) dX3_wrongNumber_29 (by decide) (fun hc => ?_) (fun hc => ?_)
      · have h := h.2.2.1 hc
        exact J34  h _ _ hP hD hS ls (lv_sub hl [0] rfl)
      · have h := h.2.2.2 hc
        refine jx_iconst C dX3_wrongNumber_32 ?_
        exact jx_rI C hr hlk hAe hS hQQ () hP h dX3_wrongNumber_33
  · have h := h.2.2 hc
    refine jx_iconst C dX3_wrongNumber_10 ?_
    exact jx_rI C hr hlk hAe hS hQQ () hP h dX3_wrongNumber_11
set_option maxRecDepth 100000 in
set_option maxHeartbeats 4000000 in
theorem ct_O_reasonAgainst (l : Launch) (D : va_G) (cI cT : ClassId) (aO : Nat → Nat) (Q : Int → jx_St → Prop) (sO : jx_St) (l1 : Int) (l2 : Int) (h : wp_O_reasonAgainst Q sO l1 l2) : jx_KI jx_St l D cI cT yX3_reasonAgainst cX3_reasonAgainst 4 .int 4 86 [.ref (aO 0), .int (jx_i l1), .int (jx_i l2)] [(cp_O aO, sO)] (fun u => [(cp_O aO, u)]) Q := by
  refine jx_ent (own := RX3) (by decide) rfl (Nat.le_of_ble_eq_true rfl) ?_
  intro p e s m args below meth c A QQ C hr hlk hK hAe hA hP hD hS ls hl hQQ
  have hl : lv_has ls 4 [(0, .ref (aO 0)), (1, .int (jx_i l1)), (2, .int (jx_i l2))] := hl
  have hx := C.1
  have hb := C.2.1
  unfold wp_O_reasonAgainst at h
  have J56 : ∀ (sO : jx_St) (t0 : Int), wp_O_reasonAgainst_56 Q l1 l2 sO t0 → ∀ (H : Heap) (locs : List Loc), va_P D vwCl (jx_ws cI cT [(cp_O aO, sO)]) H → va_D A (jx_ws cI cT [(cp_O aO, sO)]) → va_S A s.heap H locs → ∀ ls : Array Slot, lv_has ls 4 [(0, .ref (aO 0))] → W p l e (jx_rm 4 86) s m args below meth c H locs 0 0 QQ (F0 m 56 ls [.int (jx_i t0)]) := by
    intro sO t0 h H locs hP hD hS ls hl
    unfold wp_O_reasonAgainst_56 at h
    refine lv_istore_n (lv' := [(3, .int (jx_i t0)), (0, .ref (aO 0))]) hx hb dX3_reasonAgainst_56 rfl hl (by decide) rfl (fun ls hl => ?_)
    refine lv_iload_n hx hb dX3_reasonAgainst_57 rfl (lv_at hl 0 rfl) ?_
    refine lv_aload_n hx hb dX3_reasonAgainst_58 rfl (lv_at hl 1 rfl) ?_
    refine jx_getI C hK hP 0 0 3 rfl rfl rfl fl_X3_62 dX3_reasonAgainst_59 ?_
    refine jx_cne C h.1 h.2.1 (tgt := 69) dX3_reasonAgainst_62 (by decide) (fun hc => ?_) (fun hc => ?_)
    · have h := h.2.2.2 hc
      refine jx_iconst C dX3_reasonAgainst_69 ?_
      exact jx_rI C hr hlk hAe hS hQQ sO hP h dX3_reasonAgainst_70
    · have h := h.2.2.1 hc
      refine jx_iconst C dX3_reasonAgainst_65 ?_
      refine lv_goto (tgt := 70) hx hb dX3_reasonAgainst_66 (by decide) ?_
      exact jx_rI C hr hlk hAe hS hQQ sO hP h dX3_reasonAgainst_70
  refine lv_aload_n hx hb dX3_reasonAgainst_0 rfl (lv_at hl 0 rfl) ?_
  refine lv_iload_n hx hb dX3_reasonAgainst_1 rfl (lv_at hl 1 rfl) ?_
  refine jx_callVI C hK hP hD hS hA (ct_O_read l D cI cT aO _ sO l1 h) ms_X3_read lk_X3_51 [0] rfl rfl (fun _ => rfl) (cs' := (fun u => [(cp_O aO, u)])) (fun _ => rfl) (fun _ => rfl) 0 0 rfl rfl rfl rfl rfl hl.1 rfl rfl dX3_reasonAgainst_2 ⟨Nat.le_refl _, Nat.le_refl _⟩ (fun r2 sO_2 H locs h hP hD hS => ?_)
  have hP : va_P D vwCl (jx_ws cI cT [(cp_O aO, sO_2)]) H := hP
  have hD : va_D A (jx_ws cI cT [(cp_O aO, sO_2)]) := hD
  refine jx_zne C h.1 (tgt := 20) dX3_reasonAgainst_5 (by decide) (fun hc => ?_) (fun hc => ?_)
  · have h := h.2.2 hc
    refine lv_aload_n hx hb dX3_reasonAgainst_20 rfl (lv_at hl 0 rfl) ?_
    refine lv_aload_n hx hb dX3_reasonAgainst_21 rfl (lv_at hl 0 rfl) ?_
    refine jx_callVI C hK hP hD hS hA (ct_O_wrongNumber l D cI cT aO _ sO_2  h) ms_X3_wrongNumber lk_X3_58 [0] rfl rfl (fun _ => rfl) (cs' := (fun _ => [(cp_O aO, sO_2)])) (fun _ => rfl) (fun _ => rfl) 0 0 rfl rfl rfl rfl rfl hl.1 rfl rfl dX3_reasonAgainst_22 ⟨Nat.le_refl _, Nat.le_refl _⟩ (fun r22 _ H locs h hP hD hS => ?_)
    have hP : va_P D vwCl (jx_ws cI cT [(cp_O aO, sO_2)]) H := hP
    have hD : va_D A (jx_ws cI cT [(cp_O aO, sO_2)]) := hD
    refine jx_putI C hK hP hD hS 0 0 8 rfl rfl rfl rfl rfl fl_X3_55 fw_X3_8 ⟨rfl, rfl⟩ rfl dX3_reasonAgainst_25 (fun H locs hP hD hS => ?_)
    have hP : va_P D vwCl (jx_ws cI cT [(cp_O aO, (jx_su sO_2 8 0 r22))]) H := hP
    have hD : va_D A (jx_ws cI cT [(cp_O aO, (jx_su sO_2 8 0 r22))]) := hD
    refine lv_aload_n hx hb dX3_reasonAgainst_28 rfl (lv_at hl 0 rfl) ?_
    refine jx_getI C hK hP 0 0 8 rfl rfl rfl fl_X3_55 dX3_reasonAgainst_29 ?_
    refine jx_iconst C dX3_reasonAgainst_32 ?_
    refine jx_ceq C h.1 (jx_inR (by decide) (by decide)) (tgt := 38) dX3_reasonAgainst_33 (by decide) (fun hc => ?_) (fun hc => ?_)
    · have h := h.2.1 hc
      refine lv_iload_n hx hb dX3_reasonAgainst_38 rfl (lv_at hl 2 rfl) ?_
      refine lv_aload_n hx hb dX3_reasonAgainst_39 rfl (lv_at hl 0 rfl) ?_
      refine jx_iconst C dX3_reasonAgainst_40 ?_
      refine jx_callVI C hK hP hD hS hA (ct_O_number l D cI cT aO _ (jx_su sO_2 8 0 r22) 0 h) ms_X3_number lk_X3_45 [0] rfl rfl (fun _ => rfl) (cs' := (fun _ => [(cp_O aO, (jx_su sO_2 8 0 r22))])) (fun _ => rfl) (fun _ => rfl) 0 0 rfl rfl rfl rfl rfl hl.1 rfl rfl dX3_reasonAgainst_41 ⟨Nat.le_refl _, Nat.le_refl _⟩ (fun r41 _ H locs h hP hD hS => ?_)
      have hP : va_P D vwCl (jx_ws cI cT [(cp_O aO, (jx_su sO_2 8 0 r22))]) H := hP
      have hD : va_D A (jx_ws cI cT [(cp_O aO, (jx_su sO_2 8 0 r22))]) := hD
      refine jx_ishr C dX3_reasonAgainst_44 ?_
      refine jx_iconst C dX3_reasonAgainst_45 ?_
      refine jx_iand C dX3_reasonAgainst_46 ?_
      refine jx_iconst C dX3_reasonAgainst_47 ?_
      refine jx_cne C h.1 (jx_inR (by decide) (by decide)) (tgt := 55) dX3_reasonAgainst_48 (by decide) (fun hc => ?_) (fun hc => ?_)
      · have h := h.2.2 hc
        refine jx_iconst C dX3_reasonAgainst_55 ?_
        exact J56 (jx_su sO_2 8 0 r22) 0 h _ _ hP hD hS ls (lv_sub hl [0] rfl)
      · have h := h.2.1 hc
        refine jx_iconst C dX3_reasonAgainst_51 ?_
        refine lv_goto (tgt := 56) hx hb dX3_reasonAgainst_52 (by decide) ?_
        exact J56 (jx_su sO_2 8 0 r22) 1 h _ _ hP hD hS ls (lv_sub hl [0] rfl)
    · have h := h.2.2 hc
      refine jx_iconst C dX3_reasonAgainst_36 ?_
      exact jx_rI C hr hlk hAe hS hQQ (jx_su sO_2 8 0 r22) hP h dX3_reasonAgainst_37
  · have h := h.2.1 hc
    refine lv_aload_n hx hb dX3_reasonAgainst_8 rfl (lv_at hl 0 rfl) ?_
    refine lv_aload_n hx hb dX3_reasonAgainst_9 rfl (lv_at hl 0 rfl) ?_
    refine jx_getI C hK hP 0 0 4 rfl rfl rfl fl_X3_49 dX3_reasonAgainst_10 ?_
    refine lv_iload_n hx hb dX3_reasonAgainst_13 rfl (lv_at hl 1 rfl) ?_
    refine jx_isub C dX3_reasonAgainst_14 ?_
    refine jx_putI C hK hP hD hS 0 0 8 rfl rfl rfl rfl rfl fl_X3_55 fw_X3_8 ⟨rfl, rfl⟩ rfl dX3_reasonAgainst_15 (fun H locs hP hD hS => ?_)
    have hP : va_P D vwCl (jx_ws cI cT [(cp_O aO, (jx_su sO_2 8 0 ((sO_2 4 0) - l1)))]) H := hP
    have hD : va_D A (jx_ws cI cT [(cp_O aO, (jx_su sO_2 8 0 ((sO_2 4 0) - l1)))]) := hD
    refine jx_iconst C dX3_reasonAgainst_18 ?_
    exact jx_rI C hr hlk hAe hS hQQ (jx_su sO_2 8 0 ((sO_2 4 0) - l1)) hP h dX3_reasonAgainst_19
set_option maxRecDepth 100000 in
set_option maxHeartbeats 4000000 in
theorem ct_O_examine (l : Launch) (D : va_G) (cI cT : ClassId) (aO : Nat → Nat) (Q : jx_St → Prop) (sO : jx_St) (l1 : Int) (h : wp_O_examine Q sO l1) : jx_KV jx_St l D cI cT yX3_examine cX3_examine 4 5 109 [.ref (aO 0), .int (jx_i l1)] [(cp_O aO, sO)] (fun u => [(cp_O aO, u)]) Q := by
  refine jx_ent (own := RX3) (by decide) rfl (Nat.le_of_ble_eq_true rfl) ?_
  intro p e s m args below meth c A QQ C hr hlk hK hAe hA hP hD hS ls hl hQQ
  have hl : lv_has ls 4 [(0, .ref (aO 0)), (1, .int (jx_i l1))] := hl
  have hx := C.1
  have hb := C.2.1
  unfold wp_O_examine at h
  have Lo19 : ∀ (n : Nat) (sO : jx_St) (l2 : Int) (l3 : Int), jx_it (fun B19 v => wp_O_examine_19 Q l1 B19 v.1 v.2.1 v.2.2) n (sO, l2, l3) → ∀ (H : Heap) (locs : List Loc), va_P D vwCl (jx_ws cI cT [(cp_O aO, sO)]) H → va_D A (jx_ws cI cT [(cp_O aO, sO)]) → va_S A s.heap H locs → ∀ ls : Array Slot, lv_has ls 4 [(0, .ref (aO 0)), (2, .int (jx_i l2)), (3, .int (jx_i l3))] → W p l e (jx_rm 5 109) s m args below meth c H locs 0 0 QQ (F0 m 19 ls []) := by
    intro n
    induction n with
    | zero =>
      intro sO l2 l3 h
      exact (show False from h).elim
    | succ n ih =>
      intro sO l2 l3 h H locs hP hD hS ls hl
      have h : wp_O_examine_19 Q l1 (jx_it (fun B19 v => wp_O_examine_19 Q l1 B19 v.1 v.2.1 v.2.2) n) sO l2 l3 := h
      have ih := fun sO l2 l3 h => ih sO l2 l3 h
      generalize jx_it (fun B19 v => wp_O_examine_19 Q l1 B19 v.1 v.2.1 v.2.2) n = B19 at h ih
      unfold wp_O_examine_19 at h
      refine lv_iload_n hx hb dX3_examine_19 rfl (lv_at hl 2 rfl) ?_
      refine jx_bipush C dX3_examine_20 (by decide) ?_
      refine jx_cge C h.1 (jx_inR (by decide) (by decide)) (tgt := 91) dX3_examine_22 (by decide) (fun hc => ?_) (fun hc => ?_)
      · have h := h.2.2 hc
        exact jx_rV C hr hlk hAe hS hQQ sO hP h dX3_examine_91
      · have h := h.2.1 hc
        refine lv_aload_n hx hb dX3_examine_25 rfl (lv_at hl 0 rfl) ?_
        refine jx_getI C hK hP 0 0 6 rfl rfl rfl fl_X3_35 dX3_examine_26 ?_
        refine lv_aload_n hx hb dX3_examine_29 rfl (lv_at hl 0 rfl) ?_
        refine jx_getI C hK hP 0 0 1 rfl rfl rfl fl_X3_18 dX3_examine_30 ?_
        refine jx_cge C h.1 h.2.1 (tgt := 91) dX3_examine_33 (by decide) (fun hc => ?_) (fun hc => ?_)
        · have h := h.2.2.2 hc
          exact jx_rV C hr hlk hAe hS hQQ sO hP h dX3_examine_91
        · have h := h.2.2.1 hc
          refine lv_aload_n hx hb dX3_examine_36 rfl (lv_at hl 0 rfl) ?_
          refine lv_aload_n hx hb dX3_examine_37 rfl (lv_at hl 0 rfl) ?_
          refine lv_aload_n hx hb dX3_examine_38 rfl (lv_at hl 0 rfl) ?_
          refine jx_getI C hK hP 0 0 6 rfl rfl rfl fl_X3_35 dX3_examine_39 ?_
          refine lv_iload_n hx hb dX3_examine_42 rfl (lv_at hl 1 rfl) ?_
          refine jx_callVI C hK hP hD hS hA (ct_O_reasonAgainst l D cI cT aO _ sO (sO 6 0) l2 h) ms_X3_reasonAgainst lk_X3_41 [0] rfl rfl (fun _ => rfl) (cs' := (fun u => [(cp_O aO, u)])) (fun _ => rfl) (fun _ => rfl) 0 0 rfl rfl rfl rfl rfl hl.1 rfl rfl dX3_examine_43 ⟨Nat.le_refl _, Nat.le_refl _⟩ (fun r43 sO_43 H locs h hP hD hS => ?_)
          have hP : va_P D vwCl (jx_ws cI cT [(cp_O aO, sO_43)]) H := hP
          have hD : va_D A (jx_ws cI cT [(cp_O aO, sO_43)]) := hD
          refine jx_putI C hK hP hD hS 0 0 7 rfl rfl rfl rfl rfl fl_X3_38 fw_X3_7 ⟨rfl, rfl⟩ rfl dX3_examine_46 (fun H locs hP hD hS => ?_)
          have hP : va_P D vwCl (jx_ws cI cT [(cp_O aO, (jx_su sO_43 7 0 r43))]) H := hP
          have hD : va_D A (jx_ws cI cT [(cp_O aO, (jx_su sO_43 7 0 r43))]) := hD
          refine lv_aload_n hx hb dX3_examine_49 rfl (lv_at hl 0 rfl) ?_
          refine jx_getI C hK hP 0 0 7 rfl rfl rfl fl_X3_38 dX3_examine_50 ?_
          refine jx_zeq C h.1 (tgt := 57) dX3_examine_53 (by decide) (fun hc => ?_) (fun hc => ?_)
          · have h := h.2.1 hc
            refine lv_iload_n hx hb dX3_examine_57 rfl (lv_at hl 1 rfl) ?_
            refine jx_iconst C dX3_examine_58 ?_
            refine lv_aload_n hx hb dX3_examine_59 rfl (lv_at hl 0 rfl) ?_
            refine jx_iconst C dX3_examine_60 ?_
            refine jx_callVI C hK hP hD hS hA (ct_O_number l D cI cT aO _ (jx_su sO_43 7 0 r43) 0 h) ms_X3_number lk_X3_45 [0] rfl rfl (fun _ => rfl) (cs' := (fun _ => [(cp_O aO, (jx_su sO_43 7 0 r43))])) (fun _ => rfl) (fun _ => rfl) 0 0 rfl rfl rfl rfl rfl hl.1 rfl rfl dX3_examine_61 ⟨Nat.le_refl _, Nat.le_refl _⟩ (fun r61 _ H locs h hP hD hS => ?_)
            have hP : va_P D vwCl (jx_ws cI cT [(cp_O aO, (jx_su sO_43 7 0 r43))]) H := hP
            have hD : va_D A (jx_ws cI cT [(cp_O aO, (jx_su sO_43 7 0 r43))]) := hD
            refine jx_ishl C dX3_examine_64 ?_
            refine jx_ixor C dX3_examine_65 ?_
            refine lv_istore_n (lv' := [(2, .int (jx_i (jx_xor l2 (jx_shl 1 r61)))), (0, .ref (aO 0)), (3, .int (jx_i l3))]) hx hb dX3_examine_66 rfl hl (by decide) rfl (fun ls hl => ?_)
            refine lv_aload_n hx hb dX3_examine_67 rfl (lv_at hl 1 rfl) ?_
            refine lv_dup hx hb dX3_examine_68 rfl ?_
            refine jx_getI C hK hP 0 0 5 rfl rfl rfl fl_X3_32 dX3_examine_69 ?_
            refine jx_iconst C dX3_examine_72 ?_
            refine jx_iadd C dX3_examine_73 ?_
            refine jx_putI C hK hP hD hS 0 0 5 rfl rfl rfl rfl rfl fl_X3_32 fw_X3_5 ⟨rfl, rfl⟩ rfl dX3_examine_74 (fun H locs hP hD hS => ?_)
            have hP : va_P D vwCl (jx_ws cI cT [(cp_O aO, (jx_su (jx_su sO_43 7 0 r43) 5 0 (((jx_su sO_43 7 0 r43) 5 0) + 1)))]) H := hP
            have hD : va_D A (jx_ws cI cT [(cp_O aO, (jx_su (jx_su sO_43 7 0 r43) 5 0 (((jx_su sO_43 7 0 r43) 5 0) + 1)))]) := hD
            refine lv_aload_n hx hb dX3_examine_77 rfl (lv_at hl 1 rfl) ?_
            refine lv_aload_n hx hb dX3_examine_78 rfl (lv_at hl 1 rfl) ?_
            refine jx_getI C hK hP 0 0 4 rfl rfl rfl fl_X3_49 dX3_examine_79 ?_
            refine jx_putI C hK hP hD hS 0 0 6 rfl rfl rfl rfl rfl fl_X3_35 fw_X3_6 ⟨rfl, rfl⟩ rfl dX3_examine_82 (fun H locs hP hD hS => ?_)
            have hP : va_P D vwCl (jx_ws cI cT [(cp_O aO, (jx_su (jx_su (jx_su sO_43 7 0 r43) 5 0 (((jx_su sO_43 7 0 r43) 5 0) + 1)) 6 0 ((jx_su (jx_su sO_43 7 0 r43) 5 0 (((jx_su sO_43 7 0 r43) 5 0) + 1)) 4 0)))]) H := hP
            have hD : va_D A (jx_ws cI cT [(cp_O aO, (jx_su (jx_su (jx_su sO_43 7 0 r43) 5 0 (((jx_su sO_43 7 0 r43) 5 0) + 1)) 6 0 ((jx_su (jx_su sO_43 7 0 r43) 5 0 (((jx_su sO_43 7 0 r43) 5 0) + 1)) 4 0)))]) := hD
            refine jx_iinc C (lv' := [(3, .int (jx_i (l3 + 1))), (2, .int (jx_i (jx_xor l2 (jx_shl 1 r61)))), (0, .ref (aO 0))]) dX3_examine_85 hl (k := 2) rfl (by decide) rfl (fun ls hl => ?_)
            refine lv_goto (tgt := 19) hx hb dX3_examine_88 (by decide) ?_
            exact ih (jx_su (jx_su (jx_su sO_43 7 0 r43) 5 0 (((jx_su sO_43 7 0 r43) 5 0) + 1)) 6 0 ((jx_su (jx_su sO_43 7 0 r43) 5 0 (((jx_su sO_43 7 0 r43) 5 0) + 1)) 4 0)) (jx_xor l2 (jx_shl 1 r61)) (l3 + 1) h _ _ hP hD hS ls (lv_sub hl [2, 1, 0] rfl)
          · have h := h.2.2 hc
            exact jx_rV C hr hlk hAe hS hQQ (jx_su sO_43 7 0 r43) hP h dX3_examine_56
  refine lv_iload_n hx hb dX3_examine_0 rfl (lv_at hl 1 rfl) ?_
  refine lv_istore_n (lv' := [(2, .int (jx_i l1)), (0, .ref (aO 0)), (1, .int (jx_i l1))]) hx hb dX3_examine_1 rfl hl (by decide) rfl (fun ls hl => ?_)
  refine lv_aload_n hx hb dX3_examine_2 rfl (lv_at hl 1 rfl) ?_
  refine jx_iconst C dX3_examine_3 ?_
  refine jx_putI C hK hP hD hS 0 0 5 rfl rfl rfl rfl rfl fl_X3_32 fw_X3_5 ⟨rfl, rfl⟩ rfl dX3_examine_4 (fun H locs hP hD hS => ?_)
  have hP : va_P D vwCl (jx_ws cI cT [(cp_O aO, (jx_su sO 5 0 0))]) H := hP
  have hD : va_D A (jx_ws cI cT [(cp_O aO, (jx_su sO 5 0 0))]) := hD
  refine lv_aload_n hx hb dX3_examine_7 rfl (lv_at hl 1 rfl) ?_
  refine jx_iconst C dX3_examine_8 ?_
  refine jx_putI C hK hP hD hS 0 0 6 rfl rfl rfl rfl rfl fl_X3_35 fw_X3_6 ⟨rfl, rfl⟩ rfl dX3_examine_9 (fun H locs hP hD hS => ?_)
  have hP : va_P D vwCl (jx_ws cI cT [(cp_O aO, (jx_su (jx_su sO 5 0 0) 6 0 0))]) H := hP
  have hD : va_D A (jx_ws cI cT [(cp_O aO, (jx_su (jx_su sO 5 0 0) 6 0 0))]) := hD
  refine lv_aload_n hx hb dX3_examine_12 rfl (lv_at hl 1 rfl) ?_
  refine jx_iconst C dX3_examine_13 ?_
  refine jx_putI C hK hP hD hS 0 0 7 rfl rfl rfl rfl rfl fl_X3_38 fw_X3_7 ⟨rfl, rfl⟩ rfl dX3_examine_14 (fun H locs hP hD hS => ?_)
  have hP : va_P D vwCl (jx_ws cI cT [(cp_O aO, (jx_su (jx_su (jx_su sO 5 0 0) 6 0 0) 7 0 0))]) H := hP
  have hD : va_D A (jx_ws cI cT [(cp_O aO, (jx_su (jx_su (jx_su sO 5 0 0) 6 0 0) 7 0 0))]) := hD
  refine jx_iconst C dX3_examine_17 ?_
  refine lv_istore_n (lv' := [(3, .int (jx_i 0)), (2, .int (jx_i l1)), (0, .ref (aO 0)), (1, .int (jx_i l1))]) hx hb dX3_examine_18 rfl hl (by decide) rfl (fun ls hl => ?_)
  obtain ⟨n, h⟩ := h
  refine Lo19 n (jx_su (jx_su (jx_su sO 5 0 0) 6 0 0) 7 0 0) l1 0 h _ _ hP hD hS ls (lv_sub hl [2, 1, 0] rfl)
