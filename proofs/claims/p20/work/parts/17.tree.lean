set_option maxRecDepth 100000 in
set_option maxHeartbeats 4000000 in
theorem ct_T_levelOf (l : Launch) (D : va_G) (cI cT : ClassId) (aT : Nat → Nat) (Q : Int → Prop) (sT : jx_St) (l1 : Int) (h : wp_T_levelOf Q sT l1) : jx_KI (Unit) l D cI cT yX6_levelOf cX6_levelOf 2 .int 1 21 [.ref (aT 0), .int (jx_i l1)] [(cp_T aT, sT)] (fun _ => [(cp_T aT, sT)]) (fun x _ => Q x) := by
  refine jx_ent (own := RX6) (by decide) rfl (Nat.le_of_ble_eq_true rfl) ?_
  intro p e s m args below meth c A QQ C hr hlk hK hAe hA hP hD hS ls hl hQQ
  have hl : lv_has ls 2 [(0, .ref (aT 0)), (1, .int (jx_i l1))] := hl
  have hx := C.1
  have hb := C.2.1
  unfold wp_T_levelOf at h
  refine lv_aload_n hx hb dX6_levelOf_0 rfl (lv_at hl 0 rfl) ?_
  refine jx_getR C hK hP 0 0 2 rfl rfl rfl fl_X6_18 dX6_levelOf_1 ?_
  refine lv_iload_n hx hb dX6_levelOf_4 rfl (lv_at hl 1 rfl) ?_
  refine jx_rowsAt C hK hP hD hS hA 0 3 rfl rfl rfl rfl h.1 lk_X6_62 hl.1 rfl rfl dX6_levelOf_5 ⟨Nat.le_refl _, Nat.le_refl _⟩ (fun H locs hP hS => ?_)
  have h := h.2
  exact jx_rI C hr hlk hAe hS hQQ () hP h dX6_levelOf_8
set_option maxRecDepth 100000 in
set_option maxHeartbeats 4000000 in
theorem ct_T_thingAt (l : Launch) (D : va_G) (cI cT : ClassId) (aT : Nat → Nat) (Q : Int → Prop) (sT : jx_St) (l1 : Int) (l2 : Int) (h : wp_T_thingAt Q sT l1 l2) : jx_KI (Unit) l D cI cT yX6_thingAt cX6_thingAt 3 .int 1 21 [.ref (aT 0), .int (jx_i l1), .int (jx_i l2)] [(cp_T aT, sT)] (fun _ => [(cp_T aT, sT)]) (fun x _ => Q x) := by
  refine jx_ent (own := RX6) (by decide) rfl (Nat.le_of_ble_eq_true rfl) ?_
  intro p e s m args below meth c A QQ C hr hlk hK hAe hA hP hD hS ls hl hQQ
  have hl : lv_has ls 3 [(0, .ref (aT 0)), (1, .int (jx_i l1)), (2, .int (jx_i l2))] := hl
  have hx := C.1
  have hb := C.2.1
  unfold wp_T_thingAt at h
  refine lv_iload_n hx hb dX6_thingAt_0 rfl (lv_at hl 2 rfl) ?_
  refine jx_zlt C h.1 (tgt := 24) dX6_thingAt_1 (by decide) (fun hc => ?_) (fun hc => ?_)
  · have h := h.2.1 hc
    refine jx_iconst C dX6_thingAt_24 ?_
    exact jx_rI C hr hlk hAe hS hQQ () hP h dX6_thingAt_25
  · have h := h.2.2 hc
    refine lv_iload_n hx hb dX6_thingAt_4 rfl (lv_at hl 2 rfl) ?_
    refine jx_iconst C dX6_thingAt_5 ?_
    refine jx_cge C h.1 (jx_inR (by decide) (by decide)) (tgt := 24) dX6_thingAt_6 (by decide) (fun hc => ?_) (fun hc => ?_)
    · have h := h.2.2 hc
      refine jx_iconst C dX6_thingAt_24 ?_
      exact jx_rI C hr hlk hAe hS hQQ () hP h dX6_thingAt_25
    · have h := h.2.1 hc
      refine lv_aload_n hx hb dX6_thingAt_9 rfl (lv_at hl 0 rfl) ?_
      refine jx_getR C hK hP 0 0 6 rfl rfl rfl fl_X6_30 dX6_thingAt_10 ?_
      refine lv_iload_n hx hb dX6_thingAt_13 rfl (lv_at hl 1 rfl) ?_
      refine jx_iconst C dX6_thingAt_14 ?_
      refine jx_imul C dX6_thingAt_15 ?_
      refine lv_iload_n hx hb dX6_thingAt_16 rfl (lv_at hl 2 rfl) ?_
      refine jx_iadd C dX6_thingAt_17 ?_
      refine jx_rowsAt C hK hP hD hS hA 0 7 rfl rfl rfl rfl h.1 lk_X6_62 hl.1 rfl rfl dX6_thingAt_18 ⟨Nat.le_refl _, Nat.le_refl _⟩ (fun H locs hP hS => ?_)
      have h := h.2
      refine lv_goto (tgt := 25) hx hb dX6_thingAt_21 (by decide) ?_
      exact jx_rI C hr hlk hAe hS hQQ () hP h dX6_thingAt_25
set_option maxRecDepth 100000 in
set_option maxHeartbeats 4000000 in
theorem ct_T_hull (l : Launch) (D : va_G) (cI cT : ClassId) (aT : Nat → Nat) (Q : Int → Prop) (sT : jx_St) (l1 : Int) (l2 : Int) (h : wp_T_hull Q sT l1 l2) : jx_KI (Unit) l D cI cT yX6_hull cX6_hull 3 .int 1 21 [.ref (aT 0), .int (jx_i l1), .int (jx_i l2)] [(cp_T aT, sT)] (fun _ => [(cp_T aT, sT)]) (fun x _ => Q x) := by
  refine jx_ent (own := RX6) (by decide) rfl (Nat.le_of_ble_eq_true rfl) ?_
  intro p e s m args below meth c A QQ C hr hlk hK hAe hA hP hD hS ls hl hQQ
  have hl : lv_has ls 3 [(0, .ref (aT 0)), (1, .int (jx_i l1)), (2, .int (jx_i l2))] := hl
  have hx := C.1
  have hb := C.2.1
  unfold wp_T_hull at h
  have J15 : wp_T_hull_15 Q sT l1 l2 → ∀ (H : Heap) (locs : List Loc), va_P D vwCl (jx_ws cI cT [(cp_T aT, sT)]) H → va_D A (jx_ws cI cT [(cp_T aT, sT)]) → va_S A s.heap H locs → ∀ ls : Array Slot, lv_has ls 3 [(1, .int (jx_i l1))] → W p l e (jx_rm 1 21) s m args below meth c H locs 0 0 QQ (F0 m 15 ls [.ref (aT 5)]) := by
    intro h H locs hP hD hS ls hl
    unfold wp_T_hull_15 at h
    refine lv_iload_n hx hb dX6_hull_15 rfl (lv_at hl 0 rfl) ?_
    refine jx_rowsAt C hK hP hD hS hA 0 5 rfl rfl rfl rfl h.1 lk_X6_62 hl.1 rfl rfl dX6_hull_16 ⟨Nat.le_refl _, Nat.le_refl _⟩ (fun H locs hP hS => ?_)
    have h := h.2
    exact jx_rI C hr hlk hAe hS hQQ () hP h dX6_hull_19
  have J15_1 : wp_T_hull_15_1 Q sT l1 l2 → ∀ (H : Heap) (locs : List Loc), va_P D vwCl (jx_ws cI cT [(cp_T aT, sT)]) H → va_D A (jx_ws cI cT [(cp_T aT, sT)]) → va_S A s.heap H locs → ∀ ls : Array Slot, lv_has ls 3 [(1, .int (jx_i l1))] → W p l e (jx_rm 1 21) s m args below meth c H locs 0 0 QQ (F0 m 15 ls [.ref (aT 1)]) := by
    intro h H locs hP hD hS ls hl
    unfold wp_T_hull_15_1 at h
    refine lv_iload_n hx hb dX6_hull_15 rfl (lv_at hl 0 rfl) ?_
    refine jx_rowsAt C hK hP hD hS hA 0 1 rfl rfl rfl rfl h.1 lk_X6_62 hl.1 rfl rfl dX6_hull_16 ⟨Nat.le_refl _, Nat.le_refl _⟩ (fun H locs hP hS => ?_)
    have h := h.2
    exact jx_rI C hr hlk hAe hS hQQ () hP h dX6_hull_19
  refine lv_iload_n hx hb dX6_hull_0 rfl (lv_at hl 2 rfl) ?_
  refine jx_zne C h.1 (tgt := 11) dX6_hull_1 (by decide) (fun hc => ?_) (fun hc => ?_)
  · have h := h.2.2 hc
    refine lv_aload_n hx hb dX6_hull_11 rfl (lv_at hl 0 rfl) ?_
    refine jx_getR C hK hP 0 0 4 rfl rfl rfl fl_X6_24 dX6_hull_12 ?_
    exact J15  h _ _ hP hD hS ls (lv_sub hl [1] rfl)
  · have h := h.2.1 hc
    refine lv_aload_n hx hb dX6_hull_4 rfl (lv_at hl 0 rfl) ?_
    refine jx_getR C hK hP 0 0 0 rfl rfl rfl fl_X6_9 dX6_hull_5 ?_
    refine lv_goto (tgt := 15) hx hb dX6_hull_8 (by decide) ?_
    exact J15_1  h _ _ hP hD hS ls (lv_sub hl [1] rfl)
set_option maxRecDepth 100000 in
set_option maxHeartbeats 4000000 in
theorem ct_T_setBox (l : Launch) (D : va_G) (cI cT : ClassId) (aT : Nat → Nat) (Q : jx_St → Prop) (sT : jx_St) (l1 : Int) (l2 : Int) (h : wp_T_setBox Q sT l1 l2) : jx_KV jx_St l D cI cT yX6_setBox cX6_setBox 3 1 22 [.ref (aT 0), .int (jx_i l1), .int (jx_i l2)] [(cp_T aT, sT)] (fun u => [(cp_T aT, u)]) Q := by
  refine jx_ent (own := RX6) (by decide) rfl (Nat.le_of_ble_eq_true rfl) ?_
  intro p e s m args below meth c A QQ C hr hlk hK hAe hA hP hD hS ls hl hQQ
  have hl : lv_has ls 3 [(0, .ref (aT 0)), (1, .int (jx_i l1)), (2, .int (jx_i l2))] := hl
  have hx := C.1
  have hb := C.2.1
  unfold wp_T_setBox at h
  refine lv_aload_n hx hb dX6_setBox_0 rfl (lv_at hl 0 rfl) ?_
  refine jx_getR C hK hP 0 0 0 rfl rfl rfl fl_X6_9 dX6_setBox_1 ?_
  refine lv_iload_n hx hb dX6_setBox_4 rfl (lv_at hl 1 rfl) ?_
  refine lv_iload_n hx hb dX6_setBox_5 rfl (lv_at hl 2 rfl) ?_
  refine jx_rowsSet C hK hP hD hS hA 0 1 rfl rfl rfl rfl h.1 lk_X6_100 rfl hl.1 rfl rfl dX6_setBox_6 ⟨Nat.le_refl _, Nat.le_refl _⟩ (fun H locs hP hD hS => ?_)
  have h := h.2
  have hP : va_P D vwCl (jx_ws cI cT [(cp_T aT, (jx_se 31 sT 0 l1 l2))]) H := hP
  have hD : va_D A (jx_ws cI cT [(cp_T aT, (jx_se 31 sT 0 l1 l2))]) := hD
  exact jx_rV C hr hlk hAe hS hQQ (jx_se 31 sT 0 l1 l2) hP h dX6_setBox_9
set_option maxRecDepth 100000 in
set_option maxHeartbeats 4000000 in
theorem ct_T_sizeOf (l : Launch) (D : va_G) (cI cT : ClassId) (aT : Nat → Nat) (Q : Int → Prop) (sT : jx_St) (l1 : Int) (h : wp_T_sizeOf Q sT l1) : jx_KI (Unit) l D cI cT yX6_sizeOf cX6_sizeOf 2 .int 1 21 [.ref (aT 0), .int (jx_i l1)] [(cp_T aT, sT)] (fun _ => [(cp_T aT, sT)]) (fun x _ => Q x) := by
  refine jx_ent (own := RX6) (by decide) rfl (Nat.le_of_ble_eq_true rfl) ?_
  intro p e s m args below meth c A QQ C hr hlk hK hAe hA hP hD hS ls hl hQQ
  have hl : lv_has ls 2 [(0, .ref (aT 0)), (1, .int (jx_i l1))] := hl
  have hx := C.1
  have hb := C.2.1
  unfold wp_T_sizeOf at h
  refine lv_aload_n hx hb dX6_sizeOf_0 rfl (lv_at hl 0 rfl) ?_
  refine jx_getR C hK hP 0 0 3 rfl rfl rfl fl_X6_21 dX6_sizeOf_1 ?_
  refine lv_iload_n hx hb dX6_sizeOf_4 rfl (lv_at hl 1 rfl) ?_
  refine jx_rowsAt C hK hP hD hS hA 0 4 rfl rfl rfl rfl h.1 lk_X6_62 hl.1 rfl rfl dX6_sizeOf_5 ⟨Nat.le_refl _, Nat.le_refl _⟩ (fun H locs hP hS => ?_)
  have h := h.2
  exact jx_rI C hr hlk hAe hS hQQ () hP h dX6_sizeOf_8
set_option maxRecDepth 100000 in
set_option maxHeartbeats 4000000 in
theorem ct_T_leastGreater (l : Launch) (D : va_G) (cI cT : ClassId) (aT : Nat → Nat) (Q : Int → Prop) (sT : jx_St) (l1 : Int) (l2 : Int) (h : wp_T_leastGreater Q sT l1 l2) : jx_KI (Unit) l D cI cT yX6_leastGreater cX6_leastGreater 11 .int 2 44 [.ref (aT 0), .int (jx_i l1), .int (jx_i l2)] [(cp_T aT, sT)] (fun _ => [(cp_T aT, sT)]) (fun x _ => Q x) := by
  refine jx_ent (own := RX6) (by decide) rfl (Nat.le_of_ble_eq_true rfl) ?_
  intro p e s m args below meth c A QQ C hr hlk hK hAe hA hP hD hS ls hl hQQ
  have hl : lv_has ls 11 [(0, .ref (aT 0)), (1, .int (jx_i l1)), (2, .int (jx_i l2))] := hl
  have hx := C.1
  have hb := C.2.1
  unfold wp_T_leastGreater at h
  have Lo11 : ∀ (n : Nat) (l3 : Int) (l4 : Int) (l5 : Int) (l6 : Int), jx_it (fun B11 v => wp_T_leastGreater_11 Q sT l1 l2 B11 v.1 v.2.1 v.2.2.1 v.2.2.2) n (l3, l4, l5, l6) → ∀ (H : Heap) (locs : List Loc), va_P D vwCl (jx_ws cI cT [(cp_T aT, sT)]) H → va_D A (jx_ws cI cT [(cp_T aT, sT)]) → va_S A s.heap H locs → ∀ ls : Array Slot, lv_has ls 11 [(0, .ref (aT 0)), (1, .int (jx_i l1)), (2, .int (jx_i l2)), (3, .int (jx_i l3)), (4, .int (jx_i l4)), (5, .int (jx_i l5)), (6, .int (jx_i l6))] → W p l e (jx_rm 2 44) s m args below meth c H locs 0 0 QQ (F0 m 11 ls []) := by
    intro n
    induction n with
    | zero =>
      intro l3 l4 l5 l6 h
      exact (show False from h).elim
    | succ n ih =>
      intro l3 l4 l5 l6 h H locs hP hD hS ls hl
      have h : wp_T_leastGreater_11 Q sT l1 l2 (jx_it (fun B11 v => wp_T_leastGreater_11 Q sT l1 l2 B11 v.1 v.2.1 v.2.2.1 v.2.2.2) n) l3 l4 l5 l6 := h
      have ih := fun l3 l4 l5 l6 h => ih l3 l4 l5 l6 h
      generalize jx_it (fun B11 v => wp_T_leastGreater_11 Q sT l1 l2 B11 v.1 v.2.1 v.2.2.1 v.2.2.2) n = B11 at h ih
      unfold wp_T_leastGreater_11 at h
      have J99 : ∀ (l3 : Int) (l4 : Int) (l5 : Int) (l6 : Int), wp_T_leastGreater_99 Q sT l1 l2 B11 l3 l4 l5 l6 → ∀ (H : Heap) (locs : List Loc), va_P D vwCl (jx_ws cI cT [(cp_T aT, sT)]) H → va_D A (jx_ws cI cT [(cp_T aT, sT)]) → va_S A s.heap H locs → ∀ ls : Array Slot, lv_has ls 11 [(0, .ref (aT 0)), (1, .int (jx_i l1)), (2, .int (jx_i l2)), (3, .int (jx_i l3)), (4, .int (jx_i l4)), (5, .int (jx_i l5)), (6, .int (jx_i l6))] → W p l e (jx_rm 2 44) s m args below meth c H locs 0 0 QQ (F0 m 99 ls []) := by
        intro l3 l4 l5 l6 h H locs hP hD hS ls hl
        unfold wp_T_leastGreater_99 at h
        refine jx_iinc C (lv' := [(6, .int (jx_i (l6 + 1))), (0, .ref (aT 0)), (1, .int (jx_i l1)), (2, .int (jx_i l2)), (3, .int (jx_i l3)), (4, .int (jx_i l4)), (5, .int (jx_i l5))]) dX6_leastGreater_99 hl (k := 6) rfl (by decide) rfl (fun ls hl => ?_)
        refine lv_goto (tgt := 11) hx hb dX6_leastGreater_102 (by decide) ?_
        exact ih l3 l4 l5 (l6 + 1) h _ _ hP hD hS ls (lv_sub hl [1, 2, 3, 4, 5, 6, 0] rfl)
      have J88 : ∀ (l6 : Int) (l7 : Int) (l9 : Int) (l10 : Int), wp_T_leastGreater_88 Q sT l1 l2 B11 l6 l7 l9 l10 → ∀ (H : Heap) (locs : List Loc), va_P D vwCl (jx_ws cI cT [(cp_T aT, sT)]) H → va_D A (jx_ws cI cT [(cp_T aT, sT)]) → va_S A s.heap H locs → ∀ ls : Array Slot, lv_has ls 11 [(0, .ref (aT 0)), (1, .int (jx_i l1)), (2, .int (jx_i l2)), (6, .int (jx_i l6)), (7, .int (jx_i l7)), (9, .int (jx_i l9)), (10, .int (jx_i l10))] → W p l e (jx_rm 2 44) s m args below meth c H locs 0 0 QQ (F0 m 88 ls []) := by
        intro l6 l7 l9 l10 h H locs hP hD hS ls hl
        unfold wp_T_leastGreater_88 at h
        refine lv_iload hx hb dX6_leastGreater_88 (lv_at hl 4 rfl) ?_
        refine lv_istore_n (lv' := [(3, .int (jx_i l7)), (0, .ref (aT 0)), (1, .int (jx_i l1)), (2, .int (jx_i l2)), (6, .int (jx_i l6)), (7, .int (jx_i l7)), (9, .int (jx_i l9)), (10, .int (jx_i l10))]) hx hb dX6_leastGreater_90 rfl hl (by decide) rfl (fun ls hl => ?_)
        refine lv_iload hx hb dX6_leastGreater_91 (lv_at hl 7 rfl) ?_
        refine lv_istore (lv' := [(4, .int (jx_i l10)), (3, .int (jx_i l7)), (0, .ref (aT 0)), (1, .int (jx_i l1)), (2, .int (jx_i l2)), (6, .int (jx_i l6)), (7, .int (jx_i l7)), (9, .int (jx_i l9)), (10, .int (jx_i l10))]) hx hb dX6_leastGreater_93 hl (by decide) rfl (fun ls hl => ?_)
        refine lv_iload hx hb dX6_leastGreater_95 (lv_at hl 7 rfl) ?_
        refine lv_istore (lv' := [(5, .int (jx_i l9)), (4, .int (jx_i l10)), (3, .int (jx_i l7)), (0, .ref (aT 0)), (1, .int (jx_i l1)), (2, .int (jx_i l2)), (6, .int (jx_i l6)), (7, .int (jx_i l7)), (9, .int (jx_i l9)), (10, .int (jx_i l10))]) hx hb dX6_leastGreater_97 hl (by decide) rfl (fun ls hl => ?_)
        exact J99 l7 l10 l9 l6 h _ _ hP hD hS ls (lv_sub hl [3, 4, 5, 2, 1, 0, 6] rfl)
      refine lv_iload hx hb dX6_leastGreater_11 (lv_at hl 6 rfl) ?_
      refine lv_aload_n hx hb dX6_leastGreater_13 rfl (lv_at hl 0 rfl) ?_
      refine lv_iload_n hx hb dX6_leastGreater_14 rfl (lv_at hl 1 rfl) ?_
      refine jx_callVI C hK hP hD hS hA (ct_T_sizeOf l D cI cT aT _ sT l1 h) ms_X6_sizeOf lk_X6_71 [0] rfl rfl (fun _ => rfl) (cs' := (fun _ => [(cp_T aT, sT)])) (fun _ => rfl) (fun _ => rfl) 0 0 rfl rfl rfl rfl rfl hl.1 rfl rfl dX6_leastGreater_15 ⟨Nat.le_refl _, Nat.le_refl _⟩ (fun r15 _ H locs h hP hD hS => ?_)
      have hP : va_P D vwCl (jx_ws cI cT [(cp_T aT, sT)]) H := hP
      have hD : va_D A (jx_ws cI cT [(cp_T aT, sT)]) := hD
      refine jx_cge C h.1 h.2.1 (tgt := 105) dX6_leastGreater_18 (by decide) (fun hc => ?_) (fun hc => ?_)
      · have h := h.2.2.2 hc
        refine lv_iload_n hx hb dX6_leastGreater_105 rfl (lv_at hl 3 rfl) ?_
        exact jx_rI C hr hlk hAe hS hQQ () hP h dX6_leastGreater_106
      · have h := h.2.2.1 hc
        refine lv_aload_n hx hb dX6_leastGreater_21 rfl (lv_at hl 0 rfl) ?_
        refine lv_iload_n hx hb dX6_leastGreater_22 rfl (lv_at hl 1 rfl) ?_
        refine lv_iload hx hb dX6_leastGreater_23 (lv_at hl 6 rfl) ?_
        refine jx_callVI C hK hP hD hS hA (ct_T_thingAt l D cI cT aT _ sT l1 l6 h) ms_X6_thingAt lk_X6_74 [0] rfl rfl (fun _ => rfl) (cs' := (fun _ => [(cp_T aT, sT)])) (fun _ => rfl) (fun _ => rfl) 0 0 rfl rfl rfl rfl rfl hl.1 rfl rfl dX6_leastGreater_25 ⟨Nat.le_refl _, Nat.le_refl _⟩ (fun r25 _ H locs h hP hD hS => ?_)
        have hP : va_P D vwCl (jx_ws cI cT [(cp_T aT, sT)]) H := hP
        have hD : va_D A (jx_ws cI cT [(cp_T aT, sT)]) := hD
        refine lv_istore (lv' := [(7, .int (jx_i r25)), (0, .ref (aT 0)), (1, .int (jx_i l1)), (2, .int (jx_i l2)), (3, .int (jx_i l3)), (4, .int (jx_i l4)), (5, .int (jx_i l5)), (6, .int (jx_i l6))]) hx hb dX6_leastGreater_28 hl (by decide) rfl (fun ls hl => ?_)
        refine lv_aload_n hx hb dX6_leastGreater_30 rfl (lv_at hl 1 rfl) ?_
        refine jx_getR C hK hP 0 0 4 rfl rfl rfl fl_X6_24 dX6_leastGreater_31 ?_
        refine lv_iload hx hb dX6_leastGreater_34 (lv_at hl 0 rfl) ?_
        refine jx_rowsAt C hK hP hD hS hA 0 5 rfl rfl rfl rfl h.1 lk_X6_62 hl.1 rfl rfl dX6_leastGreater_36 ⟨Nat.le_refl _, Nat.le_refl _⟩ (fun H locs hP hS => ?_)
        have h := h.2
        refine lv_istore (lv' := [(8, .int (jx_i (jx_at 32 (sT 4) r25))), (7, .int (jx_i r25)), (0, .ref (aT 0)), (1, .int (jx_i l1)), (2, .int (jx_i l2)), (3, .int (jx_i l3)), (4, .int (jx_i l4)), (5, .int (jx_i l5)), (6, .int (jx_i l6))]) hx hb dX6_leastGreater_39 hl (by decide) rfl (fun ls hl => ?_)
        refine lv_iload hx hb dX6_leastGreater_41 (lv_at hl 0 rfl) ?_
        refine jx_callSI C hK hP hD hS hA (ct_Box_area l D cI cT  _  (jx_at 32 (sT 4) r25) h) ms_X0_area lk_X6_94 [] rfl rfl (fun _ => rfl) (cs' := (fun _ => [(cp_T aT, sT)])) (fun _ => rfl) (fun _ => rfl) rfl rfl hl.1 rfl rfl dX6_leastGreater_43 ⟨Nat.le_refl _, Nat.le_refl _⟩ (fun r43 _ H locs h hP hD hS => ?_)
        have hP : va_P D vwCl (jx_ws cI cT [(cp_T aT, sT)]) H := hP
        have hD : va_D A (jx_ws cI cT [(cp_T aT, sT)]) := hD
        refine lv_istore (lv' := [(9, .int (jx_i r43)), (8, .int (jx_i (jx_at 32 (sT 4) r25))), (7, .int (jx_i r25)), (0, .ref (aT 0)), (1, .int (jx_i l1)), (2, .int (jx_i l2)), (3, .int (jx_i l3)), (4, .int (jx_i l4)), (5, .int (jx_i l5)), (6, .int (jx_i l6))]) hx hb dX6_leastGreater_46 hl (by decide) rfl (fun ls hl => ?_)
        refine lv_iload hx hb dX6_leastGreater_48 (lv_at hl 1 rfl) ?_
        refine lv_iload_n hx hb dX6_leastGreater_50 rfl (lv_at hl 5 rfl) ?_
        refine jx_callSI C hK hP hD hS hA (ct_Box_around l D cI cT  _  (jx_at 32 (sT 4) r25) l2 h) ms_X0_around lk_X6_97 [] rfl rfl (fun _ => rfl) (cs' := (fun _ => [(cp_T aT, sT)])) (fun _ => rfl) (fun _ => rfl) rfl rfl hl.1 rfl rfl dX6_leastGreater_51 ⟨Nat.le_refl _, Nat.le_refl _⟩ (fun r51 _ H locs h hP hD hS => ?_)
        have hP : va_P D vwCl (jx_ws cI cT [(cp_T aT, sT)]) H := hP
        have hD : va_D A (jx_ws cI cT [(cp_T aT, sT)]) := hD
        refine jx_callSI C hK hP hD hS hA (ct_Box_area l D cI cT  _  r51 h) ms_X0_area lk_X6_94 [] rfl rfl (fun _ => rfl) (cs' := (fun _ => [(cp_T aT, sT)])) (fun _ => rfl) (fun _ => rfl) rfl rfl hl.1 rfl rfl dX6_leastGreater_54 ⟨Nat.le_refl _, Nat.le_refl _⟩ (fun r54 _ H locs h hP hD hS => ?_)
        have hP : va_P D vwCl (jx_ws cI cT [(cp_T aT, sT)]) H := hP
        have hD : va_D A (jx_ws cI cT [(cp_T aT, sT)]) := hD
        refine lv_iload hx hb dX6_leastGreater_57 (lv_at hl 0 rfl) ?_
        refine jx_isub C dX6_leastGreater_59 ?_
        refine lv_istore (lv' := [(10, .int (jx_i (r54 - r43))), (9, .int (jx_i r43)), (8, .int (jx_i (jx_at 32 (sT 4) r25))), (7, .int (jx_i r25)), (0, .ref (aT 0)), (1, .int (jx_i l1)), (2, .int (jx_i l2)), (3, .int (jx_i l3)), (4, .int (jx_i l4)), (5, .int (jx_i l5)), (6, .int (jx_i l6))]) hx hb dX6_leastGreater_60 hl (by decide) rfl (fun ls hl => ?_)
        refine lv_iload_n hx hb dX6_leastGreater_62 rfl (lv_at hl 7 rfl) ?_
        refine jx_iconst C dX6_leastGreater_63 ?_
        refine jx_ceq C h.1 (jx_inR (by decide) (by decide)) (tgt := 88) dX6_leastGreater_64 (by decide) (fun hc => ?_) (fun hc => ?_)
        · have h := h.2.1 hc
          exact J88 l6 r25 r43 (r54 - r43) h _ _ hP hD hS ls (lv_sub hl [4, 5, 6, 10, 3, 1, 0] rfl)
        · have h := h.2.2 hc
          refine lv_iload hx hb dX6_leastGreater_67 (lv_at hl 0 rfl) ?_
          refine lv_iload hx hb dX6_leastGreater_69 (lv_at hl 8 rfl) ?_
          refine jx_clt C h.1 h.2.1 (tgt := 88) dX6_leastGreater_71 (by decide) (fun hc => ?_) (fun hc => ?_)
          · have h := h.2.2.1 hc
            exact J88 l6 r25 r43 (r54 - r43) h _ _ hP hD hS ls (lv_sub hl [4, 5, 6, 10, 3, 1, 0] rfl)
          · have h := h.2.2.2 hc
            refine lv_iload hx hb dX6_leastGreater_74 (lv_at hl 0 rfl) ?_
            refine lv_iload hx hb dX6_leastGreater_76 (lv_at hl 8 rfl) ?_
            refine jx_cne C h.1 h.2.1 (tgt := 99) dX6_leastGreater_78 (by decide) (fun hc => ?_) (fun hc => ?_)
            · have h := h.2.2.2 hc
              exact J99 l3 l4 l5 l6 h _ _ hP hD hS ls (lv_sub hl [4, 5, 6, 7, 8, 9, 10] rfl)
            · have h := h.2.2.1 hc
              refine lv_iload hx hb dX6_leastGreater_81 (lv_at hl 1 rfl) ?_
              refine lv_iload hx hb dX6_leastGreater_83 (lv_at hl 9 rfl) ?_
              refine jx_cge C h.1 h.2.1 (tgt := 99) dX6_leastGreater_85 (by decide) (fun hc => ?_) (fun hc => ?_)
              · have h := h.2.2.2 hc
                exact J99 l3 l4 l5 l6 h _ _ hP hD hS ls (lv_sub hl [4, 5, 6, 7, 8, 9, 10] rfl)
              · have h := h.2.2.1 hc
                exact J88 l6 r25 r43 (r54 - r43) h _ _ hP hD hS ls (lv_sub hl [4, 5, 6, 10, 3, 1, 0] rfl)
  refine jx_iconst C dX6_leastGreater_0 ?_
  refine lv_istore_n (lv' := [(3, .int (jx_i (-1))), (0, .ref (aT 0)), (1, .int (jx_i l1)), (2, .int (jx_i l2))]) hx hb dX6_leastGreater_1 rfl hl (by decide) rfl (fun ls hl => ?_)
  refine jx_iconst C dX6_leastGreater_2 ?_
  refine lv_istore (lv' := [(4, .int (jx_i 0)), (3, .int (jx_i (-1))), (0, .ref (aT 0)), (1, .int (jx_i l1)), (2, .int (jx_i l2))]) hx hb dX6_leastGreater_3 hl (by decide) rfl (fun ls hl => ?_)
  refine jx_iconst C dX6_leastGreater_5 ?_
  refine lv_istore (lv' := [(5, .int (jx_i 0)), (4, .int (jx_i 0)), (3, .int (jx_i (-1))), (0, .ref (aT 0)), (1, .int (jx_i l1)), (2, .int (jx_i l2))]) hx hb dX6_leastGreater_6 hl (by decide) rfl (fun ls hl => ?_)
  refine jx_iconst C dX6_leastGreater_8 ?_
  refine lv_istore (lv' := [(6, .int (jx_i 0)), (5, .int (jx_i 0)), (4, .int (jx_i 0)), (3, .int (jx_i (-1))), (0, .ref (aT 0)), (1, .int (jx_i l1)), (2, .int (jx_i l2))]) hx hb dX6_leastGreater_9 hl (by decide) rfl (fun ls hl => ?_)
  obtain ⟨n, h⟩ := h
  refine Lo11 n (-1) 0 0 0 h _ _ hP hD hS ls (lv_sub hl [4, 5, 6, 3, 2, 1, 0] rfl)
set_option maxRecDepth 100000 in
set_option maxHeartbeats 4000000 in
theorem ct_T_nodeFor (l : Launch) (D : va_G) (cI cT : ClassId) (aT : Nat → Nat) (Q : Int → Prop) (sT : jx_St) (l1 : Int) (l2 : Int) (h : wp_T_nodeFor Q sT l1 l2) : jx_KI (Unit) l D cI cT yX6_nodeFor cX6_nodeFor 5 .int 3 74 [.ref (aT 0), .int (jx_i l1), .int (jx_i l2)] [(cp_T aT, sT)] (fun _ => [(cp_T aT, sT)]) (fun x _ => Q x) := by
  refine jx_ent (own := RX6) (by decide) rfl (Nat.le_of_ble_eq_true rfl) ?_
  intro p e s m args below meth c A QQ C hr hlk hK hAe hA hP hD hS ls hl hQQ
  have hl : lv_has ls 5 [(0, .ref (aT 0)), (1, .int (jx_i l1)), (2, .int (jx_i l2))] := hl
  have hx := C.1
  have hb := C.2.1
  unfold wp_T_nodeFor at h
  have Lo8 : ∀ (n : Nat) (l3 : Int) (l4 : Int), jx_it (fun B8 v => wp_T_nodeFor_8 Q sT l1 l2 B8 v.1 v.2) n (l3, l4) → ∀ (H : Heap) (locs : List Loc), va_P D vwCl (jx_ws cI cT [(cp_T aT, sT)]) H → va_D A (jx_ws cI cT [(cp_T aT, sT)]) → va_S A s.heap H locs → ∀ ls : Array Slot, lv_has ls 5 [(0, .ref (aT 0)), (1, .int (jx_i l1)), (2, .int (jx_i l2)), (3, .int (jx_i l3)), (4, .int (jx_i l4))] → W p l e (jx_rm 3 74) s m args below meth c H locs 0 0 QQ (F0 m 8 ls []) := by
    intro n
    induction n with
    | zero =>
      intro l3 l4 h
      exact (show False from h).elim
    | succ n ih =>
      intro l3 l4 h H locs hP hD hS ls hl
      have h : wp_T_nodeFor_8 Q sT l1 l2 (jx_it (fun B8 v => wp_T_nodeFor_8 Q sT l1 l2 B8 v.1 v.2) n) l3 l4 := h
      have ih := fun l3 l4 h => ih l3 l4 h
      generalize jx_it (fun B8 v => wp_T_nodeFor_8 Q sT l1 l2 B8 v.1 v.2) n = B8 at h ih
      unfold wp_T_nodeFor_8 at h
      refine lv_iload hx hb dX6_nodeFor_8 (lv_at hl 4 rfl) ?_
      refine jx_bipush C dX6_nodeFor_10 (by decide) ?_
      refine jx_cge C h.1 (jx_inR (by decide) (by decide)) (tgt := 37) dX6_nodeFor_12 (by decide) (fun hc => ?_) (fun hc => ?_)
      · have h := h.2.2 hc
        refine lv_iload_n hx hb dX6_nodeFor_37 rfl (lv_at hl 3 rfl) ?_
        exact jx_rI C hr hlk hAe hS hQQ () hP h dX6_nodeFor_38
      · have h := h.2.1 hc
        refine lv_aload_n hx hb dX6_nodeFor_15 rfl (lv_at hl 0 rfl) ?_
        refine lv_iload_n hx hb dX6_nodeFor_16 rfl (lv_at hl 3 rfl) ?_
        refine jx_callVI C hK hP hD hS hA (ct_T_levelOf l D cI cT aT _ sT l3 h) ms_X6_levelOf lk_X6_68 [0] rfl rfl (fun _ => rfl) (cs' := (fun _ => [(cp_T aT, sT)])) (fun _ => rfl) (fun _ => rfl) 0 0 rfl rfl rfl rfl rfl hl.1 rfl rfl dX6_nodeFor_17 ⟨Nat.le_refl _, Nat.le_refl _⟩ (fun r17 _ H locs h hP hD hS => ?_)
        have hP : va_P D vwCl (jx_ws cI cT [(cp_T aT, sT)]) H := hP
        have hD : va_D A (jx_ws cI cT [(cp_T aT, sT)]) := hD
        refine lv_iload_n hx hb dX6_nodeFor_20 rfl (lv_at hl 2 rfl) ?_
        refine jx_cle C h.1 h.2.1 (tgt := 37) dX6_nodeFor_21 (by decide) (fun hc => ?_) (fun hc => ?_)
        · have h := h.2.2.1 hc
          refine lv_iload_n hx hb dX6_nodeFor_37 rfl (lv_at hl 3 rfl) ?_
          exact jx_rI C hr hlk hAe hS hQQ () hP h dX6_nodeFor_38
        · have h := h.2.2.2 hc
          refine lv_aload_n hx hb dX6_nodeFor_24 rfl (lv_at hl 0 rfl) ?_
          refine lv_iload_n hx hb dX6_nodeFor_25 rfl (lv_at hl 3 rfl) ?_
          refine lv_iload_n hx hb dX6_nodeFor_26 rfl (lv_at hl 1 rfl) ?_
          refine jx_callVI C hK hP hD hS hA (ct_T_leastGreater l D cI cT aT _ sT l3 l1 h) ms_X6_leastGreater lk_X6_91 [0] rfl rfl (fun _ => rfl) (cs' := (fun _ => [(cp_T aT, sT)])) (fun _ => rfl) (fun _ => rfl) 0 0 rfl rfl rfl rfl rfl hl.1 rfl rfl dX6_nodeFor_27 ⟨Nat.le_refl _, Nat.le_refl _⟩ (fun r27 _ H locs h hP hD hS => ?_)
          have hP : va_P D vwCl (jx_ws cI cT [(cp_T aT, sT)]) H := hP
          have hD : va_D A (jx_ws cI cT [(cp_T aT, sT)]) := hD
          refine lv_istore_n (lv' := [(3, .int (jx_i r27)), (0, .ref (aT 0)), (1, .int (jx_i l1)), (2, .int (jx_i l2)), (4, .int (jx_i l4))]) hx hb dX6_nodeFor_30 rfl hl (by decide) rfl (fun ls hl => ?_)
          refine jx_iinc C (lv' := [(4, .int (jx_i (l4 + 1))), (3, .int (jx_i r27)), (0, .ref (aT 0)), (1, .int (jx_i l1)), (2, .int (jx_i l2))]) dX6_nodeFor_31 hl (k := 4) rfl (by decide) rfl (fun ls hl => ?_)
          refine lv_goto (tgt := 8) hx hb dX6_nodeFor_34 (by decide) ?_
          exact ih r27 (l4 + 1) h _ _ hP hD hS ls (lv_sub hl [2, 3, 4, 1, 0] rfl)
  refine lv_aload_n hx hb dX6_nodeFor_0 rfl (lv_at hl 0 rfl) ?_
  refine jx_getI C hK hP 0 0 7 rfl rfl rfl fl_X6_43 dX6_nodeFor_1 ?_
  refine lv_istore_n (lv' := [(3, .int (jx_i (sT 7 0))), (0, .ref (aT 0)), (1, .int (jx_i l1)), (2, .int (jx_i l2))]) hx hb dX6_nodeFor_4 rfl hl (by decide) rfl (fun ls hl => ?_)
  refine jx_iconst C dX6_nodeFor_5 ?_
  refine lv_istore (lv' := [(4, .int (jx_i 0)), (3, .int (jx_i (sT 7 0))), (0, .ref (aT 0)), (1, .int (jx_i l1)), (2, .int (jx_i l2))]) hx hb dX6_nodeFor_6 hl (by decide) rfl (fun ls hl => ?_)
  obtain ⟨n, h⟩ := h
  refine Lo8 n (sT 7 0) 0 h _ _ hP hD hS ls (lv_sub hl [2, 3, 4, 1, 0] rfl)
set_option maxRecDepth 100000 in
set_option maxHeartbeats 4000000 in
theorem ct_T_add (l : Launch) (D : va_G) (cI cT : ClassId) (aT : Nat → Nat) (Q : jx_St → Prop) (sT : jx_St) (l1 : Int) (l2 : Int) (l3 : Int) (h : wp_T_add Q sT l1 l2 l3) : jx_KV jx_St l D cI cT yX6_add cX6_add 7 2 42 [.ref (aT 0), .int (jx_i l1), .int (jx_i l2), .int (jx_i l3)] [(cp_T aT, sT)] (fun u => [(cp_T aT, u)]) Q := by
  refine jx_ent (own := RX6) (by decide) rfl (Nat.le_of_ble_eq_true rfl) ?_
  intro p e s m args below meth c A QQ C hr hlk hK hAe hA hP hD hS ls hl hQQ
  have hl : lv_has ls 7 [(0, .ref (aT 0)), (1, .int (jx_i l1)), (2, .int (jx_i l2)), (3, .int (jx_i l3))] := hl
  have hx := C.1
  have hb := C.2.1
  unfold wp_T_add at h
  have Lo38 : ∀ (l4 : Int) (l5 : Int) (K76 : jx_St → Prop) (n : Nat) (sT : jx_St) (l6 : Int), jx_it (fun B38 v => wp_T_add_38 Q l1 l2 l3 K76 l4 l5 B38 v.1 v.2) n (sT, l6) → (∀ (sT : jx_St), K76 sT → ∀ (H : Heap) (locs : List Loc), va_P D vwCl (jx_ws cI cT [(cp_T aT, sT)]) H → va_D A (jx_ws cI cT [(cp_T aT, sT)]) → va_S A s.heap H locs → ∀ ls : Array Slot, lv_has ls 7 [(0, .ref (aT 0)), (1, .int (jx_i l1)), (2, .int (jx_i l2)), (3, .int (jx_i l3)), (4, .int (jx_i l4)), (5, .int (jx_i l5))] → W p l e (jx_rm 2 42) s m args below meth c H locs 0 0 QQ (F0 m 76 ls [])) → ∀ (H : Heap) (locs : List Loc), va_P D vwCl (jx_ws cI cT [(cp_T aT, sT)]) H → va_D A (jx_ws cI cT [(cp_T aT, sT)]) → va_S A s.heap H locs → ∀ ls : Array Slot, lv_has ls 7 [(0, .ref (aT 0)), (1, .int (jx_i l1)), (2, .int (jx_i l2)), (3, .int (jx_i l3)), (4, .int (jx_i l4)), (5, .int (jx_i l5)), (6, .int (jx_i l6))] → W p l e (jx_rm 2 42) s m args below meth c H locs 0 0 QQ (F0 m 38 ls []) := by
    intro l4 l5 K76 n
    induction n with
    | zero =>
      intro sT l6 h
      exact (show False from h).elim
    | succ n ih =>
      intro sT l6 h K76E H locs hP hD hS ls hl
      have h : wp_T_add_38 Q l1 l2 l3 K76 l4 l5 (jx_it (fun B38 v => wp_T_add_38 Q l1 l2 l3 K76 l4 l5 B38 v.1 v.2) n) sT l6 := h
      have ih := fun sT l6 h => ih sT l6 h K76E
      generalize jx_it (fun B38 v => wp_T_add_38 Q l1 l2 l3 K76 l4 l5 B38 v.1 v.2) n = B38 at h ih
      unfold wp_T_add_38 at h
      refine lv_iload hx hb dX6_add_38 (lv_at hl 6 rfl) ?_
      refine lv_iload_n hx hb dX6_add_40 rfl (lv_at hl 2 rfl) ?_
      refine jx_cle C h.1 h.2.1 (tgt := 76) dX6_add_41 (by decide) (fun hc => ?_) (fun hc => ?_)
      · have h := h.2.2.1 hc
        exact K76E sT h _ _ hP hD hS ls (lv_sub hl [0, 1, 2, 3, 4, 5] rfl)
      · have h := h.2.2.2 hc
        refine lv_aload_n hx hb dX6_add_44 rfl (lv_at hl 0 rfl) ?_
        refine jx_getR C hK hP 0 0 6 rfl rfl rfl fl_X6_30 dX6_add_45 ?_
        refine lv_iload hx hb dX6_add_48 (lv_at hl 5 rfl) ?_
        refine lv_iload hx hb dX6_add_50 (lv_at hl 6 rfl) ?_
        refine jx_iadd C dX6_add_52 ?_
        refine lv_aload_n hx hb dX6_add_53 rfl (lv_at hl 0 rfl) ?_
        refine jx_getR C hK hP 0 0 6 rfl rfl rfl fl_X6_30 dX6_add_54 ?_
        refine lv_iload hx hb dX6_add_57 (lv_at hl 5 rfl) ?_
        refine lv_iload hx hb dX6_add_59 (lv_at hl 6 rfl) ?_
        refine jx_iadd C dX6_add_61 ?_
        refine jx_iconst C dX6_add_62 ?_
        refine jx_isub C dX6_add_63 ?_
        refine jx_rowsAt C hK hP hD hS hA 0 7 rfl rfl rfl rfl h.1 lk_X6_62 hl.1 rfl rfl dX6_add_64 ⟨Nat.le_refl _, Nat.le_refl _⟩ (fun H locs hP hS => ?_)
        have h := h.2
        refine jx_rowsSet C hK hP hD hS hA 0 7 rfl rfl rfl rfl h.1 lk_X6_100 rfl hl.1 rfl rfl dX6_add_67 ⟨Nat.le_refl _, Nat.le_refl _⟩ (fun H locs hP hD hS => ?_)
        have h := h.2
        have hP : va_P D vwCl (jx_ws cI cT [(cp_T aT, (jx_se 160 sT 6 (l5 + l6) (jx_at 160 (sT 6) ((l5 + l6) - 1))))]) H := hP
        have hD : va_D A (jx_ws cI cT [(cp_T aT, (jx_se 160 sT 6 (l5 + l6) (jx_at 160 (sT 6) ((l5 + l6) - 1))))]) := hD
        refine jx_iinc C (lv' := [(6, .int (jx_i (l6 + (-1)))), (0, .ref (aT 0)), (1, .int (jx_i l1)), (2, .int (jx_i l2)), (3, .int (jx_i l3)), (4, .int (jx_i l4)), (5, .int (jx_i l5))]) dX6_add_70 hl (k := 6) rfl (by decide) rfl (fun ls hl => ?_)
        refine lv_goto (tgt := 38) hx hb dX6_add_73 (by decide) ?_
        exact ih (jx_se 160 sT 6 (l5 + l6) (jx_at 160 (sT 6) ((l5 + l6) - 1))) (l6 + (-1)) h _ _ hP hD hS ls (lv_sub hl [1, 2, 3, 4, 5, 6, 0] rfl)
  have J119 : ∀ (sT : jx_St), wp_T_add_119 Q l1 l2 l3 sT → ∀ (H : Heap) (locs : List Loc), va_P D vwCl (jx_ws cI cT [(cp_T aT, sT)]) H → va_D A (jx_ws cI cT [(cp_T aT, sT)]) → va_S A s.heap H locs → ∀ ls : Array Slot, lv_has ls 7 [(1, .int (jx_i l1)), (3, .int (jx_i l3))] → W p l e (jx_rm 2 42) s m args below meth c H locs 0 0 QQ (F0 m 119 ls [.ref (aT 6)]) := by
    intro sT h H locs hP hD hS ls hl
    unfold wp_T_add_119 at h
    refine lv_iload_n hx hb dX6_add_119 rfl (lv_at hl 1 rfl) ?_
    refine lv_iload_n hx hb dX6_add_120 rfl (lv_at hl 0 rfl) ?_
    refine jx_rowsSet C hK hP hD hS hA 0 6 rfl rfl rfl rfl h.1 lk_X6_100 rfl hl.1 rfl rfl dX6_add_121 ⟨Nat.le_refl _, Nat.le_refl _⟩ (fun H locs hP hD hS => ?_)
    have h := h.2
    have hP : va_P D vwCl (jx_ws cI cT [(cp_T aT, (jx_se 32 sT 5 l3 l1))]) H := hP
    have hD : va_D A (jx_ws cI cT [(cp_T aT, (jx_se 32 sT 5 l3 l1))]) := hD
    exact jx_rV C hr hlk hAe hS hQQ (jx_se 32 sT 5 l3 l1) hP h dX6_add_124
  have J119_1 : ∀ (sT : jx_St), wp_T_add_119_1 Q l1 l2 l3 sT → ∀ (H : Heap) (locs : List Loc), va_P D vwCl (jx_ws cI cT [(cp_T aT, sT)]) H → va_D A (jx_ws cI cT [(cp_T aT, sT)]) → va_S A s.heap H locs → ∀ ls : Array Slot, lv_has ls 7 [(1, .int (jx_i l1)), (3, .int (jx_i l3))] → W p l e (jx_rm 2 42) s m args below meth c H locs 0 0 QQ (F0 m 119 ls [.ref (aT 2)]) := by
    intro sT h H locs hP hD hS ls hl
    unfold wp_T_add_119_1 at h
    refine lv_iload_n hx hb dX6_add_119 rfl (lv_at hl 1 rfl) ?_
    refine lv_iload_n hx hb dX6_add_120 rfl (lv_at hl 0 rfl) ?_
    refine jx_rowsSet C hK hP hD hS hA 0 2 rfl rfl rfl rfl h.1 lk_X6_100 rfl hl.1 rfl rfl dX6_add_121 ⟨Nat.le_refl _, Nat.le_refl _⟩ (fun H locs hP hD hS => ?_)
    have h := h.2
    have hP : va_P D vwCl (jx_ws cI cT [(cp_T aT, (jx_se 31 sT 1 l3 l1))]) H := hP
    have hD : va_D A (jx_ws cI cT [(cp_T aT, (jx_se 31 sT 1 l3 l1))]) := hD
    exact jx_rV C hr hlk hAe hS hQQ (jx_se 31 sT 1 l3 l1) hP h dX6_add_124
  have J76 : ∀ (sT : jx_St) (l4 : Int) (l5 : Int), wp_T_add_76 Q l1 l2 l3 sT l4 l5 → ∀ (H : Heap) (locs : List Loc), va_P D vwCl (jx_ws cI cT [(cp_T aT, sT)]) H → va_D A (jx_ws cI cT [(cp_T aT, sT)]) → va_S A s.heap H locs → ∀ ls : Array Slot, lv_has ls 7 [(0, .ref (aT 0)), (1, .int (jx_i l1)), (2, .int (jx_i l2)), (3, .int (jx_i l3)), (4, .int (jx_i l4)), (5, .int (jx_i l5))] → W p l e (jx_rm 2 42) s m args below meth c H locs 0 0 QQ (F0 m 76 ls []) := by
    intro sT l4 l5 h H locs hP hD hS ls hl
    unfold wp_T_add_76 at h
    refine lv_aload_n hx hb dX6_add_76 rfl (lv_at hl 0 rfl) ?_
    refine jx_getR C hK hP 0 0 6 rfl rfl rfl fl_X6_30 dX6_add_77 ?_
    refine lv_iload hx hb dX6_add_80 (lv_at hl 5 rfl) ?_
    refine lv_iload_n hx hb dX6_add_82 rfl (lv_at hl 2 rfl) ?_
    refine jx_iadd C dX6_add_83 ?_
    refine lv_iload_n hx hb dX6_add_84 rfl (lv_at hl 3 rfl) ?_
    refine jx_rowsSet C hK hP hD hS hA 0 7 rfl rfl rfl rfl h.1 lk_X6_100 rfl hl.1 rfl rfl dX6_add_85 ⟨Nat.le_refl _, Nat.le_refl _⟩ (fun H locs hP hD hS => ?_)
    have h := h.2
    have hP : va_P D vwCl (jx_ws cI cT [(cp_T aT, (jx_se 160 sT 6 (l5 + l2) l3))]) H := hP
    have hD : va_D A (jx_ws cI cT [(cp_T aT, (jx_se 160 sT 6 (l5 + l2) l3))]) := hD
    refine lv_aload_n hx hb dX6_add_88 rfl (lv_at hl 0 rfl) ?_
    refine jx_getR C hK hP 0 0 3 rfl rfl rfl fl_X6_21 dX6_add_89 ?_
    refine lv_iload_n hx hb dX6_add_92 rfl (lv_at hl 1 rfl) ?_
    refine lv_iload hx hb dX6_add_93 (lv_at hl 4 rfl) ?_
    refine jx_iconst C dX6_add_95 ?_
    refine jx_iadd C dX6_add_96 ?_
    refine jx_rowsSet C hK hP hD hS hA 0 4 rfl rfl rfl rfl h.1 lk_X6_100 rfl hl.1 rfl rfl dX6_add_97 ⟨Nat.le_refl _, Nat.le_refl _⟩ (fun H locs hP hD hS => ?_)
    have h := h.2
    have hP : va_P D vwCl (jx_ws cI cT [(cp_T aT, (jx_se 32 (jx_se 160 sT 6 (l5 + l2) l3) 3 l1 (l4 + 1)))]) H := hP
    have hD : va_D A (jx_ws cI cT [(cp_T aT, (jx_se 32 (jx_se 160 sT 6 (l5 + l2) l3) 3 l1 (l4 + 1)))]) := hD
    refine lv_aload_n hx hb dX6_add_100 rfl (lv_at hl 0 rfl) ?_
    refine lv_iload_n hx hb dX6_add_101 rfl (lv_at hl 1 rfl) ?_
    refine jx_callVI C hK hP hD hS hA (ct_T_levelOf l D cI cT aT _ (jx_se 32 (jx_se 160 sT 6 (l5 + l2) l3) 3 l1 (l4 + 1)) l1 h) ms_X6_levelOf lk_X6_68 [0] rfl rfl (fun _ => rfl) (cs' := (fun _ => [(cp_T aT, (jx_se 32 (jx_se 160 sT 6 (l5 + l2) l3) 3 l1 (l4 + 1)))])) (fun _ => rfl) (fun _ => rfl) 0 0 rfl rfl rfl rfl rfl hl.1 rfl rfl dX6_add_102 ⟨Nat.le_refl _, Nat.le_refl _⟩ (fun r102 _ H locs h hP hD hS => ?_)
    have hP : va_P D vwCl (jx_ws cI cT [(cp_T aT, (jx_se 32 (jx_se 160 sT 6 (l5 + l2) l3) 3 l1 (l4 + 1)))]) H := hP
    have hD : va_D A (jx_ws cI cT [(cp_T aT, (jx_se 32 (jx_se 160 sT 6 (l5 + l2) l3) 3 l1 (l4 + 1)))]) := hD
    refine jx_zne C h.1 (tgt := 115) dX6_add_105 (by decide) (fun hc => ?_) (fun hc => ?_)
    · have h := h.2.2 hc
      refine lv_aload_n hx hb dX6_add_115 rfl (lv_at hl 0 rfl) ?_
      refine jx_getR C hK hP 0 0 5 rfl rfl rfl fl_X6_27 dX6_add_116 ?_
      exact J119 (jx_se 32 (jx_se 160 sT 6 (l5 + l2) l3) 3 l1 (l4 + 1)) h _ _ hP hD hS ls (lv_sub hl [1, 3] rfl)
    · have h := h.2.1 hc
      refine lv_aload_n hx hb dX6_add_108 rfl (lv_at hl 0 rfl) ?_
      refine jx_getR C hK hP 0 0 1 rfl rfl rfl fl_X6_15 dX6_add_109 ?_
      refine lv_goto (tgt := 119) hx hb dX6_add_112 (by decide) ?_
      exact J119_1 (jx_se 32 (jx_se 160 sT 6 (l5 + l2) l3) 3 l1 (l4 + 1)) h _ _ hP hD hS ls (lv_sub hl [1, 3] rfl)
  refine lv_aload_n hx hb dX6_add_0 rfl (lv_at hl 0 rfl) ?_
  refine lv_iload_n hx hb dX6_add_1 rfl (lv_at hl 1 rfl) ?_
  refine jx_callVI C hK hP hD hS hA (ct_T_sizeOf l D cI cT aT _ sT l1 h) ms_X6_sizeOf lk_X6_71 [0] rfl rfl (fun _ => rfl) (cs' := (fun _ => [(cp_T aT, sT)])) (fun _ => rfl) (fun _ => rfl) 0 0 rfl rfl rfl rfl rfl hl.1 rfl rfl dX6_add_2 ⟨Nat.le_refl _, Nat.le_refl _⟩ (fun r2 _ H locs h hP hD hS => ?_)
  have hP : va_P D vwCl (jx_ws cI cT [(cp_T aT, sT)]) H := hP
  have hD : va_D A (jx_ws cI cT [(cp_T aT, sT)]) := hD
  refine lv_istore (lv' := [(4, .int (jx_i r2)), (0, .ref (aT 0)), (1, .int (jx_i l1)), (2, .int (jx_i l2)), (3, .int (jx_i l3))]) hx hb dX6_add_5 hl (by decide) rfl (fun ls hl => ?_)
  refine lv_iload hx hb dX6_add_7 (lv_at hl 0 rfl) ?_
  refine jx_zlt C h.1 (tgt := 28) dX6_add_9 (by decide) (fun hc => ?_) (fun hc => ?_)
  · have h := h.2.1 hc
    exact jx_rV C hr hlk hAe hS hQQ sT hP h dX6_add_28
  · have h := h.2.2 hc
    refine lv_iload hx hb dX6_add_12 (lv_at hl 0 rfl) ?_
    refine jx_iconst C dX6_add_14 ?_
    refine jx_cge C h.1 (jx_inR (by decide) (by decide)) (tgt := 28) dX6_add_15 (by decide) (fun hc => ?_) (fun hc => ?_)
    · have h := h.2.2 hc
      exact jx_rV C hr hlk hAe hS hQQ sT hP h dX6_add_28
    · have h := h.2.1 hc
      refine lv_iload_n hx hb dX6_add_18 rfl (lv_at hl 3 rfl) ?_
      refine jx_zlt C h.1 (tgt := 28) dX6_add_19 (by decide) (fun hc => ?_) (fun hc => ?_)
      · have h := h.2.1 hc
        exact jx_rV C hr hlk hAe hS hQQ sT hP h dX6_add_28
      · have h := h.2.2 hc
        refine lv_iload_n hx hb dX6_add_22 rfl (lv_at hl 3 rfl) ?_
        refine lv_iload hx hb dX6_add_23 (lv_at hl 0 rfl) ?_
        refine jx_cle C h.1 h.2.1 (tgt := 29) dX6_add_25 (by decide) (fun hc => ?_) (fun hc => ?_)
        · have h := h.2.2.1 hc
          refine lv_iload_n hx hb dX6_add_29 rfl (lv_at hl 2 rfl) ?_
          refine jx_iconst C dX6_add_30 ?_
          refine jx_imul C dX6_add_31 ?_
          refine lv_istore (lv' := [(5, .int (jx_i (l1 * 5))), (4, .int (jx_i r2)), (0, .ref (aT 0)), (1, .int (jx_i l1)), (2, .int (jx_i l2)), (3, .int (jx_i l3))]) hx hb dX6_add_32 hl (by decide) rfl (fun ls hl => ?_)
          refine lv_iload hx hb dX6_add_34 (lv_at hl 1 rfl) ?_
          refine lv_istore (lv' := [(6, .int (jx_i r2)), (5, .int (jx_i (l1 * 5))), (4, .int (jx_i r2)), (0, .ref (aT 0)), (1, .int (jx_i l1)), (2, .int (jx_i l2)), (3, .int (jx_i l3))]) hx hb dX6_add_36 hl (by decide) rfl (fun ls hl => ?_)
          obtain ⟨n, h⟩ := h
          refine Lo38 r2 (l1 * 5) _ n sT r2 h ?_ _ _ hP hD hS ls (lv_sub hl [3, 4, 5, 6, 2, 1, 0] rfl)
          · intro sT h H locs hP hD hS ls hl
            exact J76 sT r2 (l1 * 5) h _ _ hP hD hS ls (lv_sub hl [0, 1, 2, 3, 4, 5] rfl)
        · have h := h.2.2.2 hc
          exact jx_rV C hr hlk hAe hS hQQ sT hP h dX6_add_28
set_option maxRecDepth 100000 in
set_option maxHeartbeats 4000000 in
theorem ct_T_aboveOf (l : Launch) (D : va_G) (cI cT : ClassId) (aT : Nat → Nat) (Q : Int → Prop) (sT : jx_St) (l1 : Int) (h : wp_T_aboveOf Q sT l1) : jx_KI (Unit) l D cI cT yX6_aboveOf cX6_aboveOf 2 .int 1 21 [.ref (aT 0), .int (jx_i l1)] [(cp_T aT, sT)] (fun _ => [(cp_T aT, sT)]) (fun x _ => Q x) := by
  refine jx_ent (own := RX6) (by decide) rfl (Nat.le_of_ble_eq_true rfl) ?_
  intro p e s m args below meth c A QQ C hr hlk hK hAe hA hP hD hS ls hl hQQ
  have hl : lv_has ls 2 [(0, .ref (aT 0)), (1, .int (jx_i l1))] := hl
  have hx := C.1
  have hb := C.2.1
  unfold wp_T_aboveOf at h
  refine lv_aload_n hx hb dX6_aboveOf_0 rfl (lv_at hl 0 rfl) ?_
  refine jx_getR C hK hP 0 0 5 rfl rfl rfl fl_X6_27 dX6_aboveOf_1 ?_
  refine lv_iload_n hx hb dX6_aboveOf_4 rfl (lv_at hl 1 rfl) ?_
  refine jx_rowsAt C hK hP hD hS hA 0 6 rfl rfl rfl rfl h.1 lk_X6_62 hl.1 rfl rfl dX6_aboveOf_5 ⟨Nat.le_refl _, Nat.le_refl _⟩ (fun H locs hP hS => ?_)
  have h := h.2
  exact jx_rI C hr hlk hAe hS hQQ () hP h dX6_aboveOf_8
set_option maxRecDepth 100000 in
set_option maxHeartbeats 4000000 in
theorem ct_T_refresh (l : Launch) (D : va_G) (cI cT : ClassId) (aT : Nat → Nat) (Q : jx_St → Prop) (sT : jx_St) (l1 : Int) (h : wp_T_refresh Q sT l1) : jx_KV jx_St l D cI cT yX6_refresh cX6_refresh 7 2 44 [.ref (aT 0), .int (jx_i l1)] [(cp_T aT, sT)] (fun u => [(cp_T aT, u)]) Q := by
  refine jx_ent (own := RX6) (by decide) rfl (Nat.le_of_ble_eq_true rfl) ?_
  intro p e s m args below meth c A QQ C hr hlk hK hAe hA hP hD hS ls hl hQQ
  have hl : lv_has ls 7 [(0, .ref (aT 0)), (1, .int (jx_i l1))] := hl
  have hx := C.1
  have hb := C.2.1
  unfold wp_T_refresh at h
  have Lo4 : ∀ (n : Nat) (sT : jx_St) (l2 : Int) (l3 : Int), jx_it (fun B4 v => wp_T_refresh_4 Q l1 B4 v.1 v.2.1 v.2.2) n (sT, l2, l3) → ∀ (H : Heap) (locs : List Loc), va_P D vwCl (jx_ws cI cT [(cp_T aT, sT)]) H → va_D A (jx_ws cI cT [(cp_T aT, sT)]) → va_S A s.heap H locs → ∀ ls : Array Slot, lv_has ls 7 [(0, .ref (aT 0)), (2, .int (jx_i l2)), (3, .int (jx_i l3))] → W p l e (jx_rm 2 44) s m args below meth c H locs 0 0 QQ (F0 m 4 ls []) := by
    intro n
    induction n with
    | zero =>
      intro sT l2 l3 h
      exact (show False from h).elim
    | succ n ih =>
      intro sT l2 l3 h H locs hP hD hS ls hl
      have h : wp_T_refresh_4 Q l1 (jx_it (fun B4 v => wp_T_refresh_4 Q l1 B4 v.1 v.2.1 v.2.2) n) sT l2 l3 := h
      have ih := fun sT l2 l3 h => ih sT l2 l3 h
      generalize jx_it (fun B4 v => wp_T_refresh_4 Q l1 B4 v.1 v.2.1 v.2.2) n = B4 at h ih
      unfold wp_T_refresh_4 at h
      have Lo28 : ∀ (sT : jx_St) (l2 : Int) (l3 : Int) (l4 : Int) (K64 : Int → Prop) (n : Nat) (l5 : Int) (l6 : Int), jx_it (fun B28 v => wp_T_refresh_28 Q l1 K64 sT l2 l3 l4 B28 v.1 v.2) n (l5, l6) → (∀ (l5 : Int), K64 l5 → ∀ (H : Heap) (locs : List Loc), va_P D vwCl (jx_ws cI cT [(cp_T aT, sT)]) H → va_D A (jx_ws cI cT [(cp_T aT, sT)]) → va_S A s.heap H locs → ∀ ls : Array Slot, lv_has ls 7 [(0, .ref (aT 0)), (2, .int (jx_i l2)), (3, .int (jx_i l3)), (5, .int (jx_i l5))] → W p l e (jx_rm 2 44) s m args below meth c H locs 0 0 QQ (F0 m 64 ls [])) → ∀ (H : Heap) (locs : List Loc), va_P D vwCl (jx_ws cI cT [(cp_T aT, sT)]) H → va_D A (jx_ws cI cT [(cp_T aT, sT)]) → va_S A s.heap H locs → ∀ ls : Array Slot, lv_has ls 7 [(0, .ref (aT 0)), (2, .int (jx_i l2)), (3, .int (jx_i l3)), (4, .int (jx_i l4)), (5, .int (jx_i l5)), (6, .int (jx_i l6))] → W p l e (jx_rm 2 44) s m args below meth c H locs 0 0 QQ (F0 m 28 ls []) := by
        intro sT l2 l3 l4 K64 n
        induction n with
        | zero =>
          intro l5 l6 h
          exact (show False from h).elim
        | succ n ih =>
          intro l5 l6 h K64E H locs hP hD hS ls hl
          have h : wp_T_refresh_28 Q l1 K64 sT l2 l3 l4 (jx_it (fun B28 v => wp_T_refresh_28 Q l1 K64 sT l2 l3 l4 B28 v.1 v.2) n) l5 l6 := h
          have ih := fun l5 l6 h => ih l5 l6 h K64E
          generalize jx_it (fun B28 v => wp_T_refresh_28 Q l1 K64 sT l2 l3 l4 B28 v.1 v.2) n = B28 at h ih
          unfold wp_T_refresh_28 at h
          refine lv_iload hx hb dX6_refresh_28 (lv_at hl 5 rfl) ?_
          refine lv_aload_n hx hb dX6_refresh_30 rfl (lv_at hl 0 rfl) ?_
          refine lv_iload_n hx hb dX6_refresh_31 rfl (lv_at hl 1 rfl) ?_
          refine jx_callVI C hK hP hD hS hA (ct_T_sizeOf l D cI cT aT _ sT l2 h) ms_X6_sizeOf lk_X6_71 [0] rfl rfl (fun _ => rfl) (cs' := (fun _ => [(cp_T aT, sT)])) (fun _ => rfl) (fun _ => rfl) 0 0 rfl rfl rfl rfl rfl hl.1 rfl rfl dX6_refresh_32 ⟨Nat.le_refl _, Nat.le_refl _⟩ (fun r32 _ H locs h hP hD hS => ?_)
          have hP : va_P D vwCl (jx_ws cI cT [(cp_T aT, sT)]) H := hP
          have hD : va_D A (jx_ws cI cT [(cp_T aT, sT)]) := hD
          refine jx_cge C h.1 h.2.1 (tgt := 64) dX6_refresh_35 (by decide) (fun hc => ?_) (fun hc => ?_)
          · have h := h.2.2.2 hc
            exact K64E l5 h _ _ hP hD hS ls (lv_sub hl [0, 1, 2, 4] rfl)
          · have h := h.2.2.1 hc
            refine lv_iload hx hb dX6_refresh_38 (lv_at hl 4 rfl) ?_
            refine lv_aload_n hx hb dX6_refresh_40 rfl (lv_at hl 0 rfl) ?_
            refine lv_aload_n hx hb dX6_refresh_41 rfl (lv_at hl 0 rfl) ?_
            refine lv_iload_n hx hb dX6_refresh_42 rfl (lv_at hl 1 rfl) ?_
            refine lv_iload hx hb dX6_refresh_43 (lv_at hl 5 rfl) ?_
            refine jx_callVI C hK hP hD hS hA (ct_T_thingAt l D cI cT aT _ sT l2 l6 h) ms_X6_thingAt lk_X6_74 [0] rfl rfl (fun _ => rfl) (cs' := (fun _ => [(cp_T aT, sT)])) (fun _ => rfl) (fun _ => rfl) 0 0 rfl rfl rfl rfl rfl hl.1 rfl rfl dX6_refresh_45 ⟨Nat.le_refl _, Nat.le_refl _⟩ (fun r45 _ H locs h hP hD hS => ?_)
            have hP : va_P D vwCl (jx_ws cI cT [(cp_T aT, sT)]) H := hP
            have hD : va_D A (jx_ws cI cT [(cp_T aT, sT)]) := hD
            refine lv_iload hx hb dX6_refresh_48 (lv_at hl 3 rfl) ?_
            refine jx_callVI C hK hP hD hS hA (ct_T_hull l D cI cT aT _ sT r45 l4 h) ms_X6_hull lk_X6_82 [0] rfl rfl (fun _ => rfl) (cs' := (fun _ => [(cp_T aT, sT)])) (fun _ => rfl) (fun _ => rfl) 0 0 rfl rfl rfl rfl rfl hl.1 rfl rfl dX6_refresh_50 ⟨Nat.le_refl _, Nat.le_refl _⟩ (fun r50 _ H locs h hP hD hS => ?_)
            have hP : va_P D vwCl (jx_ws cI cT [(cp_T aT, sT)]) H := hP
            have hD : va_D A (jx_ws cI cT [(cp_T aT, sT)]) := hD
            refine jx_callSI C hK hP hD hS hA (ct_Box_around l D cI cT  _  l5 r50 h) ms_X0_around lk_X6_97 [] rfl rfl (fun _ => rfl) (cs' := (fun _ => [(cp_T aT, sT)])) (fun _ => rfl) (fun _ => rfl) rfl rfl hl.1 rfl rfl dX6_refresh_53 ⟨Nat.le_refl _, Nat.le_refl _⟩ (fun r53 _ H locs h hP hD hS => ?_)
            have hP : va_P D vwCl (jx_ws cI cT [(cp_T aT, sT)]) H := hP
            have hD : va_D A (jx_ws cI cT [(cp_T aT, sT)]) := hD
            refine lv_istore (lv' := [(5, .int (jx_i r53)), (0, .ref (aT 0)), (2, .int (jx_i l2)), (3, .int (jx_i l3)), (4, .int (jx_i l4)), (6, .int (jx_i l6))]) hx hb dX6_refresh_56 hl (by decide) rfl (fun ls hl => ?_)
            refine jx_iinc C (lv' := [(6, .int (jx_i (l6 + 1))), (5, .int (jx_i r53)), (0, .ref (aT 0)), (2, .int (jx_i l2)), (3, .int (jx_i l3)), (4, .int (jx_i l4))]) dX6_refresh_58 hl (k := 5) rfl (by decide) rfl (fun ls hl => ?_)
            refine lv_goto (tgt := 28) hx hb dX6_refresh_61 (by decide) ?_
            exact ih r53 (l6 + 1) h _ _ hP hD hS ls (lv_sub hl [2, 3, 4, 5, 1, 0] rfl)
      have J64 : ∀ (sT : jx_St) (l2 : Int) (l3 : Int) (l5 : Int), wp_T_refresh_64 Q l1 B4 sT l2 l3 l5 → ∀ (H : Heap) (locs : List Loc), va_P D vwCl (jx_ws cI cT [(cp_T aT, sT)]) H → va_D A (jx_ws cI cT [(cp_T aT, sT)]) → va_S A s.heap H locs → ∀ ls : Array Slot, lv_has ls 7 [(0, .ref (aT 0)), (2, .int (jx_i l2)), (3, .int (jx_i l3)), (5, .int (jx_i l5))] → W p l e (jx_rm 2 44) s m args below meth c H locs 0 0 QQ (F0 m 64 ls []) := by
        intro sT l2 l3 l5 h H locs hP hD hS ls hl
        unfold wp_T_refresh_64 at h
        refine lv_aload_n hx hb dX6_refresh_64 rfl (lv_at hl 0 rfl) ?_
        refine jx_getR C hK hP 0 0 4 rfl rfl rfl fl_X6_24 dX6_refresh_65 ?_
        refine lv_iload_n hx hb dX6_refresh_68 rfl (lv_at hl 1 rfl) ?_
        refine lv_iload hx hb dX6_refresh_69 (lv_at hl 3 rfl) ?_
        refine jx_rowsSet C hK hP hD hS hA 0 5 rfl rfl rfl rfl h.1 lk_X6_100 rfl hl.1 rfl rfl dX6_refresh_71 ⟨Nat.le_refl _, Nat.le_refl _⟩ (fun H locs hP hD hS => ?_)
        have h := h.2
        have hP : va_P D vwCl (jx_ws cI cT [(cp_T aT, (jx_se 32 sT 4 l2 l5))]) H := hP
        have hD : va_D A (jx_ws cI cT [(cp_T aT, (jx_se 32 sT 4 l2 l5))]) := hD
        refine lv_aload_n hx hb dX6_refresh_74 rfl (lv_at hl 0 rfl) ?_
        refine lv_iload_n hx hb dX6_refresh_75 rfl (lv_at hl 1 rfl) ?_
        refine jx_callVI C hK hP hD hS hA (ct_T_aboveOf l D cI cT aT _ (jx_se 32 sT 4 l2 l5) l2 h) ms_X6_aboveOf lk_X6_104 [0] rfl rfl (fun _ => rfl) (cs' := (fun _ => [(cp_T aT, (jx_se 32 sT 4 l2 l5))])) (fun _ => rfl) (fun _ => rfl) 0 0 rfl rfl rfl rfl rfl hl.1 rfl rfl dX6_refresh_76 ⟨Nat.le_refl _, Nat.le_refl _⟩ (fun r76 _ H locs h hP hD hS => ?_)
        have hP : va_P D vwCl (jx_ws cI cT [(cp_T aT, (jx_se 32 sT 4 l2 l5))]) H := hP
        have hD : va_D A (jx_ws cI cT [(cp_T aT, (jx_se 32 sT 4 l2 l5))]) := hD
        refine lv_istore_n (lv' := [(2, .int (jx_i r76)), (0, .ref (aT 0)), (3, .int (jx_i l3)), (5, .int (jx_i l5))]) hx hb dX6_refresh_79 rfl hl (by decide) rfl (fun ls hl => ?_)
        refine jx_iinc C (lv' := [(3, .int (jx_i (l3 + 1))), (2, .int (jx_i r76)), (0, .ref (aT 0)), (5, .int (jx_i l5))]) dX6_refresh_80 hl (k := 2) rfl (by decide) rfl (fun ls hl => ?_)
        refine lv_goto (tgt := 4) hx hb dX6_refresh_83 (by decide) ?_
        exact ih (jx_se 32 sT 4 l2 l5) r76 (l3 + 1) h _ _ hP hD hS ls (lv_sub hl [2, 1, 0] rfl)
      refine lv_iload_n hx hb dX6_refresh_4 rfl (lv_at hl 2 rfl) ?_
      refine jx_bipush C dX6_refresh_5 (by decide) ?_
      refine jx_cge C h.1 (jx_inR (by decide) (by decide)) (tgt := 86) dX6_refresh_7 (by decide) (fun hc => ?_) (fun hc => ?_)
      · have h := h.2.2 hc
        exact jx_rV C hr hlk hAe hS hQQ sT hP h dX6_refresh_86
      · have h := h.2.1 hc
        refine lv_iload_n hx hb dX6_refresh_10 rfl (lv_at hl 1 rfl) ?_
        refine jx_iconst C dX6_refresh_11 ?_
        refine jx_ceq C h.1 (jx_inR (by decide) (by decide)) (tgt := 86) dX6_refresh_12 (by decide) (fun hc => ?_) (fun hc => ?_)
        · have h := h.2.1 hc
          exact jx_rV C hr hlk hAe hS hQQ sT hP h dX6_refresh_86
        · have h := h.2.2 hc
          refine lv_aload_n hx hb dX6_refresh_15 rfl (lv_at hl 0 rfl) ?_
          refine lv_iload_n hx hb dX6_refresh_16 rfl (lv_at hl 1 rfl) ?_
          refine jx_callVI C hK hP hD hS hA (ct_T_levelOf l D cI cT aT _ sT l2 h) ms_X6_levelOf lk_X6_68 [0] rfl rfl (fun _ => rfl) (cs' := (fun _ => [(cp_T aT, sT)])) (fun _ => rfl) (fun _ => rfl) 0 0 rfl rfl rfl rfl rfl hl.1 rfl rfl dX6_refresh_17 ⟨Nat.le_refl _, Nat.le_refl _⟩ (fun r17 _ H locs h hP hD hS => ?_)
          have hP : va_P D vwCl (jx_ws cI cT [(cp_T aT, sT)]) H := hP
          have hD : va_D A (jx_ws cI cT [(cp_T aT, sT)]) := hD
          refine lv_istore (lv' := [(4, .int (jx_i r17)), (0, .ref (aT 0)), (2, .int (jx_i l2)), (3, .int (jx_i l3))]) hx hb dX6_refresh_20 hl (by decide) rfl (fun ls hl => ?_)
          refine jx_iconst C dX6_refresh_22 ?_
          refine lv_istore (lv' := [(5, .int (jx_i (-1))), (4, .int (jx_i r17)), (0, .ref (aT 0)), (2, .int (jx_i l2)), (3, .int (jx_i l3))]) hx hb dX6_refresh_23 hl (by decide) rfl (fun ls hl => ?_)
          refine jx_iconst C dX6_refresh_25 ?_
          refine lv_istore (lv' := [(6, .int (jx_i 0)), (5, .int (jx_i (-1))), (4, .int (jx_i r17)), (0, .ref (aT 0)), (2, .int (jx_i l2)), (3, .int (jx_i l3))]) hx hb dX6_refresh_26 hl (by decide) rfl (fun ls hl => ?_)
          obtain ⟨n, h⟩ := h
          refine Lo28 sT l2 l3 r17 _ n (-1) 0 h ?_ _ _ hP hD hS ls (lv_sub hl [3, 4, 5, 2, 1, 0] rfl)
          · intro l5 h H locs hP hD hS ls hl
            exact J64 sT l2 l3 l5 h _ _ hP hD hS ls (lv_sub hl [0, 1, 2, 3] rfl)
  refine lv_iload_n hx hb dX6_refresh_0 rfl (lv_at hl 1 rfl) ?_
  refine lv_istore_n (lv' := [(2, .int (jx_i l1)), (0, .ref (aT 0)), (1, .int (jx_i l1))]) hx hb dX6_refresh_1 rfl hl (by decide) rfl (fun ls hl => ?_)
  refine jx_iconst C dX6_refresh_2 ?_
  refine lv_istore_n (lv' := [(3, .int (jx_i 0)), (2, .int (jx_i l1)), (0, .ref (aT 0)), (1, .int (jx_i l1))]) hx hb dX6_refresh_3 rfl hl (by decide) rfl (fun ls hl => ?_)
  obtain ⟨n, h⟩ := h
  refine Lo4 n sT l1 0 h _ _ hP hD hS ls (lv_sub hl [2, 1, 0] rfl)
set_option maxRecDepth 100000 in
set_option maxHeartbeats 4000000 in
theorem ct_T_newNode (l : Launch) (D : va_G) (cI cT : ClassId) (aT : Nat → Nat) (Q : Int → jx_St → Prop) (sT : jx_St) (l1 : Int) (h : wp_T_newNode Q sT l1) : jx_KI jx_St l D cI cT yX6_newNode cX6_newNode 3 .int 2 42 [.ref (aT 0), .int (jx_i l1)] [(cp_T aT, sT)] (fun u => [(cp_T aT, u)]) Q := by
  refine jx_ent (own := RX6) (by decide) rfl (Nat.le_of_ble_eq_true rfl) ?_
  intro p e s m args below meth c A QQ C hr hlk hK hAe hA hP hD hS ls hl hQQ
  have hl : lv_has ls 3 [(0, .ref (aT 0)), (1, .int (jx_i l1))] := hl
  have hx := C.1
  have hb := C.2.1
  unfold wp_T_newNode at h
  have Lo2 : ∀ (sT : jx_St) (K17 : Int → Prop) (n : Nat) (l2 : Int), jx_it (fun B2 v => wp_T_newNode_2 Q l1 K17 sT B2 v) n l2 → (∀ (l2 : Int), K17 l2 → ∀ (H : Heap) (locs : List Loc), va_P D vwCl (jx_ws cI cT [(cp_T aT, sT)]) H → va_D A (jx_ws cI cT [(cp_T aT, sT)]) → va_S A s.heap H locs → ∀ ls : Array Slot, lv_has ls 3 [(0, .ref (aT 0)), (1, .int (jx_i l1)), (2, .int (jx_i l2))] → W p l e (jx_rm 2 42) s m args below meth c H locs 0 0 QQ (F0 m 17 ls [])) → ∀ (H : Heap) (locs : List Loc), va_P D vwCl (jx_ws cI cT [(cp_T aT, sT)]) H → va_D A (jx_ws cI cT [(cp_T aT, sT)]) → va_S A s.heap H locs → ∀ ls : Array Slot, lv_has ls 3 [(0, .ref (aT 0)), (1, .int (jx_i l1)), (2, .int (jx_i l2))] → W p l e (jx_rm 2 42) s m args below meth c H locs 0 0 QQ (F0 m 2 ls []) := by
    intro sT K17 n
    induction n with
    | zero =>
      intro l2 h
      exact (show False from h).elim
    | succ n ih =>
      intro l2 h K17E H locs hP hD hS ls hl
      have h : wp_T_newNode_2 Q l1 K17 sT (jx_it (fun B2 v => wp_T_newNode_2 Q l1 K17 sT B2 v) n) l2 := h
      have ih := fun l2 h => ih l2 h K17E
      generalize jx_it (fun B2 v => wp_T_newNode_2 Q l1 K17 sT B2 v) n = B2 at h ih
      unfold wp_T_newNode_2 at h
      refine lv_iload_n hx hb dX6_newNode_2 rfl (lv_at hl 2 rfl) ?_
      refine jx_bipush C dX6_newNode_3 (by decide) ?_
      refine jx_cge C h.1 (jx_inR (by decide) (by decide)) (tgt := 34) dX6_newNode_5 (by decide) (fun hc => ?_) (fun hc => ?_)
      · have h := h.2.2 hc
        refine jx_iconst C dX6_newNode_34 ?_
        exact jx_rI C hr hlk hAe hS hQQ sT hP h dX6_newNode_35
      · have h := h.2.1 hc
        refine lv_aload_n hx hb dX6_newNode_8 rfl (lv_at hl 0 rfl) ?_
        refine lv_iload_n hx hb dX6_newNode_9 rfl (lv_at hl 2 rfl) ?_
        refine jx_callVI C hK hP hD hS hA (ct_T_levelOf l D cI cT aT _ sT l2 h) ms_X6_levelOf lk_X6_68 [0] rfl rfl (fun _ => rfl) (cs' := (fun _ => [(cp_T aT, sT)])) (fun _ => rfl) (fun _ => rfl) 0 0 rfl rfl rfl rfl rfl hl.1 rfl rfl dX6_newNode_10 ⟨Nat.le_refl _, Nat.le_refl _⟩ (fun r10 _ H locs h hP hD hS => ?_)
        have hP : va_P D vwCl (jx_ws cI cT [(cp_T aT, sT)]) H := hP
        have hD : va_D A (jx_ws cI cT [(cp_T aT, sT)]) := hD
        refine jx_iconst C dX6_newNode_13 ?_
        refine jx_cne C h.1 (jx_inR (by decide) (by decide)) (tgt := 28) dX6_newNode_14 (by decide) (fun hc => ?_) (fun hc => ?_)
        · have h := h.2.2 hc
          refine jx_iinc C (lv' := [(2, .int (jx_i (l2 + 1))), (0, .ref (aT 0)), (1, .int (jx_i l1))]) dX6_newNode_28 hl (k := 2) rfl (by decide) rfl (fun ls hl => ?_)
          refine lv_goto (tgt := 2) hx hb dX6_newNode_31 (by decide) ?_
          exact ih (l2 + 1) h _ _ hP hD hS ls (lv_sub hl [1, 2, 0] rfl)
        · have h := h.2.1 hc
          exact K17E l2 h _ _ hP hD hS ls (lv_sub hl [0, 1, 2] rfl)
  have J17 : ∀ (sT : jx_St) (l2 : Int), wp_T_newNode_17 Q l1 sT l2 → ∀ (H : Heap) (locs : List Loc), va_P D vwCl (jx_ws cI cT [(cp_T aT, sT)]) H → va_D A (jx_ws cI cT [(cp_T aT, sT)]) → va_S A s.heap H locs → ∀ ls : Array Slot, lv_has ls 3 [(0, .ref (aT 0)), (1, .int (jx_i l1)), (2, .int (jx_i l2))] → W p l e (jx_rm 2 42) s m args below meth c H locs 0 0 QQ (F0 m 17 ls []) := by
    intro sT l2 h H locs hP hD hS ls hl
    unfold wp_T_newNode_17 at h
    refine lv_aload_n hx hb dX6_newNode_17 rfl (lv_at hl 0 rfl) ?_
    refine jx_getR C hK hP 0 0 2 rfl rfl rfl fl_X6_18 dX6_newNode_18 ?_
    refine lv_iload_n hx hb dX6_newNode_21 rfl (lv_at hl 2 rfl) ?_
    refine lv_iload_n hx hb dX6_newNode_22 rfl (lv_at hl 1 rfl) ?_
    refine jx_rowsSet C hK hP hD hS hA 0 3 rfl rfl rfl rfl h.1 lk_X6_100 rfl hl.1 rfl rfl dX6_newNode_23 ⟨Nat.le_refl _, Nat.le_refl _⟩ (fun H locs hP hD hS => ?_)
    have h := h.2
    have hP : va_P D vwCl (jx_ws cI cT [(cp_T aT, (jx_se 32 sT 2 l2 l1))]) H := hP
    have hD : va_D A (jx_ws cI cT [(cp_T aT, (jx_se 32 sT 2 l2 l1))]) := hD
    refine lv_iload_n hx hb dX6_newNode_26 rfl (lv_at hl 2 rfl) ?_
    exact jx_rI C hr hlk hAe hS hQQ (jx_se 32 sT 2 l2 l1) hP h dX6_newNode_27
  refine jx_iconst C dX6_newNode_0 ?_
  refine lv_istore_n (lv' := [(2, .int (jx_i 0)), (0, .ref (aT 0)), (1, .int (jx_i l1))]) hx hb dX6_newNode_1 rfl hl (by decide) rfl (fun ls hl => ?_)
  obtain ⟨n, h⟩ := h
  refine Lo2 sT _ n 0 h ?_ _ _ hP hD hS ls (lv_sub hl [1, 2, 0] rfl)
  · intro l2 h H locs hP hD hS ls hl
    exact J17 sT l2 h _ _ hP hD hS ls (lv_sub hl [0, 1, 2] rfl)
set_option maxRecDepth 100000 in
set_option maxHeartbeats 4000000 in
theorem ct_T_remove (l : Launch) (D : va_G) (cI cT : ClassId) (aT : Nat → Nat) (Q : jx_St → Prop) (sT : jx_St) (l1 : Int) (l2 : Int) (h : wp_T_remove Q sT l1 l2) : jx_KV jx_St l D cI cT yX6_remove cX6_remove 6 2 43 [.ref (aT 0), .int (jx_i l1), .int (jx_i l2)] [(cp_T aT, sT)] (fun u => [(cp_T aT, u)]) Q := by
  refine jx_ent (own := RX6) (by decide) rfl (Nat.le_of_ble_eq_true rfl) ?_
  intro p e s m args below meth c A QQ C hr hlk hK hAe hA hP hD hS ls hl hQQ
  have hl : lv_has ls 6 [(0, .ref (aT 0)), (1, .int (jx_i l1)), (2, .int (jx_i l2))] := hl
  have hx := C.1
  have hb := C.2.1
  unfold wp_T_remove at h
  have Lo53 : ∀ (l3 : Int) (l4 : Int) (K93 : jx_St → Prop) (n : Nat) (sT : jx_St) (l5 : Int), jx_it (fun B53 v => wp_T_remove_53 Q l1 l2 K93 l3 l4 B53 v.1 v.2) n (sT, l5) → (∀ (sT : jx_St), K93 sT → ∀ (H : Heap) (locs : List Loc), va_P D vwCl (jx_ws cI cT [(cp_T aT, sT)]) H → va_D A (jx_ws cI cT [(cp_T aT, sT)]) → va_S A s.heap H locs → ∀ ls : Array Slot, lv_has ls 6 [(0, .ref (aT 0)), (1, .int (jx_i l1)), (3, .int (jx_i l3)), (4, .int (jx_i l4))] → W p l e (jx_rm 2 43) s m args below meth c H locs 0 0 QQ (F0 m 93 ls [])) → ∀ (H : Heap) (locs : List Loc), va_P D vwCl (jx_ws cI cT [(cp_T aT, sT)]) H → va_D A (jx_ws cI cT [(cp_T aT, sT)]) → va_S A s.heap H locs → ∀ ls : Array Slot, lv_has ls 6 [(0, .ref (aT 0)), (1, .int (jx_i l1)), (3, .int (jx_i l3)), (4, .int (jx_i l4)), (5, .int (jx_i l5))] → W p l e (jx_rm 2 43) s m args below meth c H locs 0 0 QQ (F0 m 53 ls []) := by
    intro l3 l4 K93 n
    induction n with
    | zero =>
      intro sT l5 h
      exact (show False from h).elim
    | succ n ih =>
      intro sT l5 h K93E H locs hP hD hS ls hl
      have h : wp_T_remove_53 Q l1 l2 K93 l3 l4 (jx_it (fun B53 v => wp_T_remove_53 Q l1 l2 K93 l3 l4 B53 v.1 v.2) n) sT l5 := h
      have ih := fun sT l5 h => ih sT l5 h K93E
      generalize jx_it (fun B53 v => wp_T_remove_53 Q l1 l2 K93 l3 l4 B53 v.1 v.2) n = B53 at h ih
      unfold wp_T_remove_53 at h
      refine lv_iload hx hb dX6_remove_53 (lv_at hl 4 rfl) ?_
      refine lv_iload_n hx hb dX6_remove_55 rfl (lv_at hl 2 rfl) ?_
      refine jx_iconst C dX6_remove_56 ?_
      refine jx_isub C dX6_remove_57 ?_
      refine jx_cge C h.1 h.2.1 (tgt := 93) dX6_remove_58 (by decide) (fun hc => ?_) (fun hc => ?_)
      · have h := h.2.2.2 hc
        exact K93E sT h _ _ hP hD hS ls (lv_sub hl [0, 1, 2, 3] rfl)
      · have h := h.2.2.1 hc
        refine lv_aload_n hx hb dX6_remove_61 rfl (lv_at hl 0 rfl) ?_
        refine jx_getR C hK hP 0 0 6 rfl rfl rfl fl_X6_30 dX6_remove_62 ?_
        refine lv_iload hx hb dX6_remove_65 (lv_at hl 3 rfl) ?_
        refine lv_iload hx hb dX6_remove_67 (lv_at hl 4 rfl) ?_
        refine jx_iadd C dX6_remove_69 ?_
        refine lv_aload_n hx hb dX6_remove_70 rfl (lv_at hl 0 rfl) ?_
        refine jx_getR C hK hP 0 0 6 rfl rfl rfl fl_X6_30 dX6_remove_71 ?_
        refine lv_iload hx hb dX6_remove_74 (lv_at hl 3 rfl) ?_
        refine lv_iload hx hb dX6_remove_76 (lv_at hl 4 rfl) ?_
        refine jx_iadd C dX6_remove_78 ?_
        refine jx_iconst C dX6_remove_79 ?_
        refine jx_iadd C dX6_remove_80 ?_
        refine jx_rowsAt C hK hP hD hS hA 0 7 rfl rfl rfl rfl h.1 lk_X6_62 hl.1 rfl rfl dX6_remove_81 ⟨Nat.le_refl _, Nat.le_refl _⟩ (fun H locs hP hS => ?_)
        have h := h.2
        refine jx_rowsSet C hK hP hD hS hA 0 7 rfl rfl rfl rfl h.1 lk_X6_100 rfl hl.1 rfl rfl dX6_remove_84 ⟨Nat.le_refl _, Nat.le_refl _⟩ (fun H locs hP hD hS => ?_)
        have h := h.2
        have hP : va_P D vwCl (jx_ws cI cT [(cp_T aT, (jx_se 160 sT 6 (l4 + l5) (jx_at 160 (sT 6) ((l4 + l5) + 1))))]) H := hP
        have hD : va_D A (jx_ws cI cT [(cp_T aT, (jx_se 160 sT 6 (l4 + l5) (jx_at 160 (sT 6) ((l4 + l5) + 1))))]) := hD
        refine jx_iinc C (lv' := [(5, .int (jx_i (l5 + 1))), (0, .ref (aT 0)), (1, .int (jx_i l1)), (3, .int (jx_i l3)), (4, .int (jx_i l4))]) dX6_remove_87 hl (k := 4) rfl (by decide) rfl (fun ls hl => ?_)
        refine lv_goto (tgt := 53) hx hb dX6_remove_90 (by decide) ?_
        exact ih (jx_se 160 sT 6 (l4 + l5) (jx_at 160 (sT 6) ((l4 + l5) + 1))) (l5 + 1) h _ _ hP hD hS ls (lv_sub hl [1, 2, 3, 4, 0] rfl)
  have J93 : ∀ (sT : jx_St) (l3 : Int) (l4 : Int), wp_T_remove_93 Q l1 l2 sT l3 l4 → ∀ (H : Heap) (locs : List Loc), va_P D vwCl (jx_ws cI cT [(cp_T aT, sT)]) H → va_D A (jx_ws cI cT [(cp_T aT, sT)]) → va_S A s.heap H locs → ∀ ls : Array Slot, lv_has ls 6 [(0, .ref (aT 0)), (1, .int (jx_i l1)), (3, .int (jx_i l3)), (4, .int (jx_i l4))] → W p l e (jx_rm 2 43) s m args below meth c H locs 0 0 QQ (F0 m 93 ls []) := by
    intro sT l3 l4 h H locs hP hD hS ls hl
    unfold wp_T_remove_93 at h
    refine lv_aload_n hx hb dX6_remove_93 rfl (lv_at hl 0 rfl) ?_
    refine jx_getR C hK hP 0 0 6 rfl rfl rfl fl_X6_30 dX6_remove_94 ?_
    refine lv_iload hx hb dX6_remove_97 (lv_at hl 3 rfl) ?_
    refine lv_iload_n hx hb dX6_remove_99 rfl (lv_at hl 2 rfl) ?_
    refine jx_iadd C dX6_remove_100 ?_
    refine jx_iconst C dX6_remove_101 ?_
    refine jx_isub C dX6_remove_102 ?_
    refine jx_iconst C dX6_remove_103 ?_
    refine jx_rowsSet C hK hP hD hS hA 0 7 rfl rfl rfl rfl h.1 lk_X6_100 rfl hl.1 rfl rfl dX6_remove_104 ⟨Nat.le_refl _, Nat.le_refl _⟩ (fun H locs hP hD hS => ?_)
    have h := h.2
    have hP : va_P D vwCl (jx_ws cI cT [(cp_T aT, (jx_se 160 sT 6 ((l4 + l3) - 1) (-1)))]) H := hP
    have hD : va_D A (jx_ws cI cT [(cp_T aT, (jx_se 160 sT 6 ((l4 + l3) - 1) (-1)))]) := hD
    refine lv_aload_n hx hb dX6_remove_107 rfl (lv_at hl 0 rfl) ?_
    refine jx_getR C hK hP 0 0 3 rfl rfl rfl fl_X6_21 dX6_remove_108 ?_
    refine lv_iload_n hx hb dX6_remove_111 rfl (lv_at hl 1 rfl) ?_
    refine lv_iload_n hx hb dX6_remove_112 rfl (lv_at hl 2 rfl) ?_
    refine jx_iconst C dX6_remove_113 ?_
    refine jx_isub C dX6_remove_114 ?_
    refine jx_rowsSet C hK hP hD hS hA 0 4 rfl rfl rfl rfl h.1 lk_X6_100 rfl hl.1 rfl rfl dX6_remove_115 ⟨Nat.le_refl _, Nat.le_refl _⟩ (fun H locs hP hD hS => ?_)
    have h := h.2
    have hP : va_P D vwCl (jx_ws cI cT [(cp_T aT, (jx_se 32 (jx_se 160 sT 6 ((l4 + l3) - 1) (-1)) 3 l1 (l3 - 1)))]) H := hP
    have hD : va_D A (jx_ws cI cT [(cp_T aT, (jx_se 32 (jx_se 160 sT 6 ((l4 + l3) - 1) (-1)) 3 l1 (l3 - 1)))]) := hD
    exact jx_rV C hr hlk hAe hS hQQ (jx_se 32 (jx_se 160 sT 6 ((l4 + l3) - 1) (-1)) 3 l1 (l3 - 1)) hP h dX6_remove_118
  have J40 : ∀ (sT : jx_St) (l3 : Int) (l4 : Int), wp_T_remove_40 Q l1 l2 sT l3 l4 → ∀ (H : Heap) (locs : List Loc), va_P D vwCl (jx_ws cI cT [(cp_T aT, sT)]) H → va_D A (jx_ws cI cT [(cp_T aT, sT)]) → va_S A s.heap H locs → ∀ ls : Array Slot, lv_has ls 6 [(0, .ref (aT 0)), (1, .int (jx_i l1)), (2, .int (jx_i l2)), (3, .int (jx_i l3)), (4, .int (jx_i l4))] → W p l e (jx_rm 2 43) s m args below meth c H locs 0 0 QQ (F0 m 40 ls [.ref (aT 6)]) := by
    intro sT l3 l4 h H locs hP hD hS ls hl
    unfold wp_T_remove_40 at h
    refine lv_aload_n hx hb dX6_remove_40 rfl (lv_at hl 0 rfl) ?_
    refine lv_iload_n hx hb dX6_remove_41 rfl (lv_at hl 1 rfl) ?_
    refine lv_iload_n hx hb dX6_remove_42 rfl (lv_at hl 2 rfl) ?_
    refine jx_callVI C hK hP hD hS hA (ct_T_thingAt l D cI cT aT _ sT l1 l2 h) ms_X6_thingAt lk_X6_74 [0] rfl rfl (fun _ => rfl) (cs' := (fun _ => [(cp_T aT, sT)])) (fun _ => rfl) (fun _ => rfl) 0 0 rfl rfl rfl rfl rfl hl.1 rfl rfl dX6_remove_43 ⟨Nat.le_refl _, Nat.le_refl _⟩ (fun r43 _ H locs h hP hD hS => ?_)
    have hP : va_P D vwCl (jx_ws cI cT [(cp_T aT, sT)]) H := hP
    have hD : va_D A (jx_ws cI cT [(cp_T aT, sT)]) := hD
    refine jx_iconst C dX6_remove_46 ?_
    refine jx_rowsSet C hK hP hD hS hA 0 6 rfl rfl rfl rfl h.1 lk_X6_100 rfl hl.1 rfl rfl dX6_remove_47 ⟨Nat.le_refl _, Nat.le_refl _⟩ (fun H locs hP hD hS => ?_)
    have h := h.2
    have hP : va_P D vwCl (jx_ws cI cT [(cp_T aT, (jx_se 32 sT 5 r43 (-1)))]) H := hP
    have hD : va_D A (jx_ws cI cT [(cp_T aT, (jx_se 32 sT 5 r43 (-1)))]) := hD
    refine lv_iload_n hx hb dX6_remove_50 rfl (lv_at hl 2 rfl) ?_
    refine lv_istore (lv' := [(5, .int (jx_i l2)), (0, .ref (aT 0)), (1, .int (jx_i l1)), (2, .int (jx_i l2)), (3, .int (jx_i l3)), (4, .int (jx_i l4))]) hx hb dX6_remove_51 hl (by decide) rfl (fun ls hl => ?_)
    obtain ⟨n, h⟩ := h
    refine Lo53 l3 l4 _ n (jx_se 32 sT 5 r43 (-1)) l2 h ?_ _ _ hP hD hS ls (lv_sub hl [1, 2, 4, 5, 0] rfl)
    · intro sT h H locs hP hD hS ls hl
      exact J93 sT l3 l4 h _ _ hP hD hS ls (lv_sub hl [0, 1, 2, 3] rfl)
  have J40_1 : ∀ (sT : jx_St) (l3 : Int) (l4 : Int), wp_T_remove_40_1 Q l1 l2 sT l3 l4 → ∀ (H : Heap) (locs : List Loc), va_P D vwCl (jx_ws cI cT [(cp_T aT, sT)]) H → va_D A (jx_ws cI cT [(cp_T aT, sT)]) → va_S A s.heap H locs → ∀ ls : Array Slot, lv_has ls 6 [(0, .ref (aT 0)), (1, .int (jx_i l1)), (2, .int (jx_i l2)), (3, .int (jx_i l3)), (4, .int (jx_i l4))] → W p l e (jx_rm 2 43) s m args below meth c H locs 0 0 QQ (F0 m 40 ls [.ref (aT 2)]) := by
    intro sT l3 l4 h H locs hP hD hS ls hl
    unfold wp_T_remove_40_1 at h
    refine lv_aload_n hx hb dX6_remove_40 rfl (lv_at hl 0 rfl) ?_
    refine lv_iload_n hx hb dX6_remove_41 rfl (lv_at hl 1 rfl) ?_
    refine lv_iload_n hx hb dX6_remove_42 rfl (lv_at hl 2 rfl) ?_
    refine jx_callVI C hK hP hD hS hA (ct_T_thingAt l D cI cT aT _ sT l1 l2 h) ms_X6_thingAt lk_X6_74 [0] rfl rfl (fun _ => rfl) (cs' := (fun _ => [(cp_T aT, sT)])) (fun _ => rfl) (fun _ => rfl) 0 0 rfl rfl rfl rfl rfl hl.1 rfl rfl dX6_remove_43 ⟨Nat.le_refl _, Nat.le_refl _⟩ (fun r43 _ H locs h hP hD hS => ?_)
    have hP : va_P D vwCl (jx_ws cI cT [(cp_T aT, sT)]) H := hP
    have hD : va_D A (jx_ws cI cT [(cp_T aT, sT)]) := hD
    refine jx_iconst C dX6_remove_46 ?_
    refine jx_rowsSet C hK hP hD hS hA 0 2 rfl rfl rfl rfl h.1 lk_X6_100 rfl hl.1 rfl rfl dX6_remove_47 ⟨Nat.le_refl _, Nat.le_refl _⟩ (fun H locs hP hD hS => ?_)
    have h := h.2
    have hP : va_P D vwCl (jx_ws cI cT [(cp_T aT, (jx_se 31 sT 1 r43 (-1)))]) H := hP
    have hD : va_D A (jx_ws cI cT [(cp_T aT, (jx_se 31 sT 1 r43 (-1)))]) := hD
    refine lv_iload_n hx hb dX6_remove_50 rfl (lv_at hl 2 rfl) ?_
    refine lv_istore (lv' := [(5, .int (jx_i l2)), (0, .ref (aT 0)), (1, .int (jx_i l1)), (2, .int (jx_i l2)), (3, .int (jx_i l3)), (4, .int (jx_i l4))]) hx hb dX6_remove_51 hl (by decide) rfl (fun ls hl => ?_)
    obtain ⟨n, h⟩ := h
    refine Lo53 l3 l4 _ n (jx_se 31 sT 1 r43 (-1)) l2 h ?_ _ _ hP hD hS ls (lv_sub hl [1, 2, 4, 5, 0] rfl)
    · intro sT h H locs hP hD hS ls hl
      exact J93 sT l3 l4 h _ _ hP hD hS ls (lv_sub hl [0, 1, 2, 3] rfl)
  refine lv_aload_n hx hb dX6_remove_0 rfl (lv_at hl 0 rfl) ?_
  refine lv_iload_n hx hb dX6_remove_1 rfl (lv_at hl 1 rfl) ?_
  refine jx_callVI C hK hP hD hS hA (ct_T_sizeOf l D cI cT aT _ sT l1 h) ms_X6_sizeOf lk_X6_71 [0] rfl rfl (fun _ => rfl) (cs' := (fun _ => [(cp_T aT, sT)])) (fun _ => rfl) (fun _ => rfl) 0 0 rfl rfl rfl rfl rfl hl.1 rfl rfl dX6_remove_2 ⟨Nat.le_refl _, Nat.le_refl _⟩ (fun r2 _ H locs h hP hD hS => ?_)
  have hP : va_P D vwCl (jx_ws cI cT [(cp_T aT, sT)]) H := hP
  have hD : va_D A (jx_ws cI cT [(cp_T aT, sT)]) := hD
  refine lv_istore_n (lv' := [(3, .int (jx_i r2)), (0, .ref (aT 0)), (1, .int (jx_i l1)), (2, .int (jx_i l2))]) hx hb dX6_remove_5 rfl hl (by decide) rfl (fun ls hl => ?_)
  refine lv_iload_n hx hb dX6_remove_6 rfl (lv_at hl 3 rfl) ?_
  refine jx_zlt C h.1 (tgt := 15) dX6_remove_7 (by decide) (fun hc => ?_) (fun hc => ?_)
  · have h := h.2.1 hc
    exact jx_rV C hr hlk hAe hS hQQ sT hP h dX6_remove_15
  · have h := h.2.2 hc
    refine lv_iload_n hx hb dX6_remove_10 rfl (lv_at hl 3 rfl) ?_
    refine lv_iload_n hx hb dX6_remove_11 rfl (lv_at hl 0 rfl) ?_
    refine jx_clt C h.1 h.2.1 (tgt := 16) dX6_remove_12 (by decide) (fun hc => ?_) (fun hc => ?_)
    · have h := h.2.2.1 hc
      refine lv_iload_n hx hb dX6_remove_16 rfl (lv_at hl 2 rfl) ?_
      refine jx_iconst C dX6_remove_17 ?_
      refine jx_imul C dX6_remove_18 ?_
      refine lv_istore (lv' := [(4, .int (jx_i (l1 * 5))), (3, .int (jx_i r2)), (0, .ref (aT 0)), (1, .int (jx_i l1)), (2, .int (jx_i l2))]) hx hb dX6_remove_19 hl (by decide) rfl (fun ls hl => ?_)
      refine lv_aload_n hx hb dX6_remove_21 rfl (lv_at hl 2 rfl) ?_
      refine lv_iload_n hx hb dX6_remove_22 rfl (lv_at hl 3 rfl) ?_
      refine jx_callVI C hK hP hD hS hA (ct_T_levelOf l D cI cT aT _ sT l1 h) ms_X6_levelOf lk_X6_68 [0] rfl rfl (fun _ => rfl) (cs' := (fun _ => [(cp_T aT, sT)])) (fun _ => rfl) (fun _ => rfl) 0 0 rfl rfl rfl rfl rfl hl.1 rfl rfl dX6_remove_23 ⟨Nat.le_refl _, Nat.le_refl _⟩ (fun r23 _ H locs h hP hD hS => ?_)
      have hP : va_P D vwCl (jx_ws cI cT [(cp_T aT, sT)]) H := hP
      have hD : va_D A (jx_ws cI cT [(cp_T aT, sT)]) := hD
      refine jx_zne C h.1 (tgt := 36) dX6_remove_26 (by decide) (fun hc => ?_) (fun hc => ?_)
      · have h := h.2.2 hc
        refine lv_aload_n hx hb dX6_remove_36 rfl (lv_at hl 2 rfl) ?_
        refine jx_getR C hK hP 0 0 5 rfl rfl rfl fl_X6_27 dX6_remove_37 ?_
        exact J40 sT r2 (l1 * 5) h _ _ hP hD hS ls (lv_sub hl [2, 3, 4, 1, 0] rfl)
      · have h := h.2.1 hc
        refine lv_aload_n hx hb dX6_remove_29 rfl (lv_at hl 2 rfl) ?_
        refine jx_getR C hK hP 0 0 1 rfl rfl rfl fl_X6_15 dX6_remove_30 ?_
        refine lv_goto (tgt := 40) hx hb dX6_remove_33 (by decide) ?_
        exact J40_1 sT r2 (l1 * 5) h _ _ hP hD hS ls (lv_sub hl [2, 3, 4, 1, 0] rfl)
    · have h := h.2.2.2 hc
      exact jx_rV C hr hlk hAe hS hQQ sT hP h dX6_remove_15
set_option maxRecDepth 100000 in
set_option maxHeartbeats 4000000 in
theorem ct_T_clearRow (l : Launch) (D : va_G) (cI cT : ClassId) (aT : Nat → Nat) (Q : jx_St → Prop) (sT : jx_St) (l1 : Int) (h : wp_T_clearRow Q sT l1) : jx_KV jx_St l D cI cT yX6_clearRow cX6_clearRow 3 3 68 [.ref (aT 0), .int (jx_i l1)] [(cp_T aT, sT)] (fun u => [(cp_T aT, u)]) Q := by
  refine jx_ent (own := RX6) (by decide) rfl (Nat.le_of_ble_eq_true rfl) ?_
  intro p e s m args below meth c A QQ C hr hlk hK hAe hA hP hD hS ls hl hQQ
  have hl : lv_has ls 3 [(0, .ref (aT 0)), (1, .int (jx_i l1))] := hl
  have hx := C.1
  have hb := C.2.1
  unfold wp_T_clearRow at h
  have Lo8 : ∀ (n : Nat) (sT : jx_St) (l2 : Int), jx_it (fun B8 v => wp_T_clearRow_8 Q l1 B8 v.1 v.2) n (sT, l2) → ∀ (H : Heap) (locs : List Loc), va_P D vwCl (jx_ws cI cT [(cp_T aT, sT)]) H → va_D A (jx_ws cI cT [(cp_T aT, sT)]) → va_S A s.heap H locs → ∀ ls : Array Slot, lv_has ls 3 [(0, .ref (aT 0)), (1, .int (jx_i l1)), (2, .int (jx_i l2))] → W p l e (jx_rm 3 68) s m args below meth c H locs 0 0 QQ (F0 m 8 ls []) := by
    intro n
    induction n with
    | zero =>
      intro sT l2 h
      exact (show False from h).elim
    | succ n ih =>
      intro sT l2 h H locs hP hD hS ls hl
      have h : wp_T_clearRow_8 Q l1 (jx_it (fun B8 v => wp_T_clearRow_8 Q l1 B8 v.1 v.2) n) sT l2 := h
      have ih := fun sT l2 h => ih sT l2 h
      generalize jx_it (fun B8 v => wp_T_clearRow_8 Q l1 B8 v.1 v.2) n = B8 at h ih
      unfold wp_T_clearRow_8 at h
      refine lv_iload_n hx hb dX6_clearRow_8 rfl (lv_at hl 2 rfl) ?_
      refine jx_zlt C h.1 (tgt := 24) dX6_clearRow_9 (by decide) (fun hc => ?_) (fun hc => ?_)
      · have h := h.2.1 hc
        exact jx_rV C hr hlk hAe hS hQQ sT hP h dX6_clearRow_24
      · have h := h.2.2 hc
        refine lv_aload_n hx hb dX6_clearRow_12 rfl (lv_at hl 0 rfl) ?_
        refine lv_iload_n hx hb dX6_clearRow_13 rfl (lv_at hl 1 rfl) ?_
        refine lv_iload_n hx hb dX6_clearRow_14 rfl (lv_at hl 2 rfl) ?_
        refine jx_callVV C hK hP hD hS hA (ct_T_remove l D cI cT aT _ sT l1 l2 h) ms_X6_remove lk_X6_107 [0] rfl rfl (fun _ => rfl) (cs' := (fun u => [(cp_T aT, u)])) (fun _ => rfl) (fun _ => rfl) 0 0 rfl rfl rfl rfl rfl hl.1 rfl rfl dX6_clearRow_15 ⟨Nat.le_refl _, Nat.le_refl _⟩ (fun sT_15 H locs h hP hD hS => ?_)
        have hP : va_P D vwCl (jx_ws cI cT [(cp_T aT, sT_15)]) H := hP
        have hD : va_D A (jx_ws cI cT [(cp_T aT, sT_15)]) := hD
        refine jx_iinc C (lv' := [(2, .int (jx_i (l2 + (-1)))), (0, .ref (aT 0)), (1, .int (jx_i l1))]) dX6_clearRow_18 hl (k := 2) rfl (by decide) rfl (fun ls hl => ?_)
        refine lv_goto (tgt := 8) hx hb dX6_clearRow_21 (by decide) ?_
        exact ih sT_15 (l2 + (-1)) h _ _ hP hD hS ls (lv_sub hl [1, 2, 0] rfl)
  refine lv_aload_n hx hb dX6_clearRow_0 rfl (lv_at hl 0 rfl) ?_
  refine lv_iload_n hx hb dX6_clearRow_1 rfl (lv_at hl 1 rfl) ?_
  refine jx_callVI C hK hP hD hS hA (ct_T_sizeOf l D cI cT aT _ sT l1 h) ms_X6_sizeOf lk_X6_71 [0] rfl rfl (fun _ => rfl) (cs' := (fun _ => [(cp_T aT, sT)])) (fun _ => rfl) (fun _ => rfl) 0 0 rfl rfl rfl rfl rfl hl.1 rfl rfl dX6_clearRow_2 ⟨Nat.le_refl _, Nat.le_refl _⟩ (fun r2 _ H locs h hP hD hS => ?_)
  have hP : va_P D vwCl (jx_ws cI cT [(cp_T aT, sT)]) H := hP
  have hD : va_D A (jx_ws cI cT [(cp_T aT, sT)]) := hD
  refine jx_iconst C dX6_clearRow_5 ?_
  refine jx_isub C dX6_clearRow_6 ?_
  refine lv_istore_n (lv' := [(2, .int (jx_i (r2 - 1))), (0, .ref (aT 0)), (1, .int (jx_i l1))]) hx hb dX6_clearRow_7 rfl hl (by decide) rfl (fun ls hl => ?_)
  obtain ⟨n, h⟩ := h
  refine Lo8 n sT (r2 - 1) h _ _ hP hD hS ls (lv_sub hl [1, 2, 0] rfl)
set_option maxRecDepth 100000 in
set_option maxHeartbeats 4000000 in
theorem ct_T_placeIn (l : Launch) (D : va_G) (cI cT : ClassId) (aT : Nat → Nat) (Q : Int → Prop) (sT : jx_St) (l1 : Int) (l2 : Int) (h : wp_T_placeIn Q sT l1 l2) : jx_KI (Unit) l D cI cT yX6_placeIn cX6_placeIn 4 .int 2 43 [.ref (aT 0), .int (jx_i l1), .int (jx_i l2)] [(cp_T aT, sT)] (fun _ => [(cp_T aT, sT)]) (fun x _ => Q x) := by
  refine jx_ent (own := RX6) (by decide) rfl (Nat.le_of_ble_eq_true rfl) ?_
  intro p e s m args below meth c A QQ C hr hlk hK hAe hA hP hD hS ls hl hQQ
  have hl : lv_has ls 4 [(0, .ref (aT 0)), (1, .int (jx_i l1)), (2, .int (jx_i l2))] := hl
  have hx := C.1
  have hb := C.2.1
  unfold wp_T_placeIn at h
  have Lo2 : ∀ (n : Nat) (l3 : Int), jx_it (fun B2 v => wp_T_placeIn_2 Q sT l1 l2 B2 v) n l3 → ∀ (H : Heap) (locs : List Loc), va_P D vwCl (jx_ws cI cT [(cp_T aT, sT)]) H → va_D A (jx_ws cI cT [(cp_T aT, sT)]) → va_S A s.heap H locs → ∀ ls : Array Slot, lv_has ls 4 [(0, .ref (aT 0)), (1, .int (jx_i l1)), (2, .int (jx_i l2)), (3, .int (jx_i l3))] → W p l e (jx_rm 2 43) s m args below meth c H locs 0 0 QQ (F0 m 2 ls []) := by
    intro n
    induction n with
    | zero =>
      intro l3 h
      exact (show False from h).elim
    | succ n ih =>
      intro l3 h H locs hP hD hS ls hl
      have h : wp_T_placeIn_2 Q sT l1 l2 (jx_it (fun B2 v => wp_T_placeIn_2 Q sT l1 l2 B2 v) n) l3 := h
      have ih := fun l3 h => ih l3 h
      generalize jx_it (fun B2 v => wp_T_placeIn_2 Q sT l1 l2 B2 v) n = B2 at h ih
      unfold wp_T_placeIn_2 at h
      refine lv_iload_n hx hb dX6_placeIn_2 rfl (lv_at hl 3 rfl) ?_
      refine lv_aload_n hx hb dX6_placeIn_3 rfl (lv_at hl 0 rfl) ?_
      refine lv_iload_n hx hb dX6_placeIn_4 rfl (lv_at hl 1 rfl) ?_
      refine jx_callVI C hK hP hD hS hA (ct_T_sizeOf l D cI cT aT _ sT l1 h) ms_X6_sizeOf lk_X6_71 [0] rfl rfl (fun _ => rfl) (cs' := (fun _ => [(cp_T aT, sT)])) (fun _ => rfl) (fun _ => rfl) 0 0 rfl rfl rfl rfl rfl hl.1 rfl rfl dX6_placeIn_5 ⟨Nat.le_refl _, Nat.le_refl _⟩ (fun r5 _ H locs h hP hD hS => ?_)
      have hP : va_P D vwCl (jx_ws cI cT [(cp_T aT, sT)]) H := hP
      have hD : va_D A (jx_ws cI cT [(cp_T aT, sT)]) := hD
      refine jx_cge C h.1 h.2.1 (tgt := 29) dX6_placeIn_8 (by decide) (fun hc => ?_) (fun hc => ?_)
      · have h := h.2.2.2 hc
        refine jx_iconst C dX6_placeIn_29 ?_
        exact jx_rI C hr hlk hAe hS hQQ () hP h dX6_placeIn_30
      · have h := h.2.2.1 hc
        refine lv_aload_n hx hb dX6_placeIn_11 rfl (lv_at hl 0 rfl) ?_
        refine lv_iload_n hx hb dX6_placeIn_12 rfl (lv_at hl 1 rfl) ?_
        refine lv_iload_n hx hb dX6_placeIn_13 rfl (lv_at hl 3 rfl) ?_
        refine jx_callVI C hK hP hD hS hA (ct_T_thingAt l D cI cT aT _ sT l1 l3 h) ms_X6_thingAt lk_X6_74 [0] rfl rfl (fun _ => rfl) (cs' := (fun _ => [(cp_T aT, sT)])) (fun _ => rfl) (fun _ => rfl) 0 0 rfl rfl rfl rfl rfl hl.1 rfl rfl dX6_placeIn_14 ⟨Nat.le_refl _, Nat.le_refl _⟩ (fun r14 _ H locs h hP hD hS => ?_)
        have hP : va_P D vwCl (jx_ws cI cT [(cp_T aT, sT)]) H := hP
        have hD : va_D A (jx_ws cI cT [(cp_T aT, sT)]) := hD
        refine lv_iload_n hx hb dX6_placeIn_17 rfl (lv_at hl 2 rfl) ?_
        refine jx_cne C h.1 h.2.1 (tgt := 23) dX6_placeIn_18 (by decide) (fun hc => ?_) (fun hc => ?_)
        · have h := h.2.2.2 hc
          refine jx_iinc C (lv' := [(3, .int (jx_i (l3 + 1))), (0, .ref (aT 0)), (1, .int (jx_i l1)), (2, .int (jx_i l2))]) dX6_placeIn_23 hl (k := 3) rfl (by decide) rfl (fun ls hl => ?_)
          refine lv_goto (tgt := 2) hx hb dX6_placeIn_26 (by decide) ?_
          exact ih (l3 + 1) h _ _ hP hD hS ls (lv_sub hl [1, 2, 3, 0] rfl)
        · have h := h.2.2.1 hc
          refine lv_iload_n hx hb dX6_placeIn_21 rfl (lv_at hl 3 rfl) ?_
          exact jx_rI C hr hlk hAe hS hQQ () hP h dX6_placeIn_22
  refine jx_iconst C dX6_placeIn_0 ?_
  refine lv_istore_n (lv' := [(3, .int (jx_i 0)), (0, .ref (aT 0)), (1, .int (jx_i l1)), (2, .int (jx_i l2))]) hx hb dX6_placeIn_1 rfl hl (by decide) rfl (fun ls hl => ?_)
  obtain ⟨n, h⟩ := h
  refine Lo2 n 0 h _ _ hP hD hS ls (lv_sub hl [1, 2, 3, 0] rfl)
set_option maxRecDepth 100000 in
set_option maxHeartbeats 4000000 in
theorem ct_T_raiseRoot (l : Launch) (D : va_G) (cI cT : ClassId) (aT : Nat → Nat) (Q : jx_St → Prop) (sT : jx_St) (h : wp_T_raiseRoot Q sT) : jx_KV jx_St l D cI cT yX6_raiseRoot cX6_raiseRoot 2 3 68 [.ref (aT 0)] [(cp_T aT, sT)] (fun u => [(cp_T aT, u)]) Q := by
  refine jx_ent (own := RX6) (by decide) rfl (Nat.le_of_ble_eq_true rfl) ?_
  intro p e s m args below meth c A QQ C hr hlk hK hAe hA hP hD hS ls hl hQQ
  have hl : lv_has ls 2 [(0, .ref (aT 0))] := hl
  have hx := C.1
  have hb := C.2.1
  unfold wp_T_raiseRoot at h
  refine lv_aload_n hx hb dX6_raiseRoot_0 rfl (lv_at hl 0 rfl) ?_
  refine jx_getI C hK hP 0 0 7 rfl rfl rfl fl_X6_43 dX6_raiseRoot_1 ?_
  refine lv_istore_n (lv' := [(1, .int (jx_i (sT 7 0))), (0, .ref (aT 0))]) hx hb dX6_raiseRoot_4 rfl hl (by decide) rfl (fun ls hl => ?_)
  refine lv_aload_n hx hb dX6_raiseRoot_5 rfl (lv_at hl 1 rfl) ?_
  refine lv_aload_n hx hb dX6_raiseRoot_6 rfl (lv_at hl 1 rfl) ?_
  refine lv_aload_n hx hb dX6_raiseRoot_7 rfl (lv_at hl 1 rfl) ?_
  refine lv_iload_n hx hb dX6_raiseRoot_8 rfl (lv_at hl 0 rfl) ?_
  refine jx_callVI C hK hP hD hS hA (ct_T_levelOf l D cI cT aT _ sT (sT 7 0) h) ms_X6_levelOf lk_X6_68 [0] rfl rfl (fun _ => rfl) (cs' := (fun _ => [(cp_T aT, sT)])) (fun _ => rfl) (fun _ => rfl) 0 0 rfl rfl rfl rfl rfl hl.1 rfl rfl dX6_raiseRoot_9 ⟨Nat.le_refl _, Nat.le_refl _⟩ (fun r9 _ H locs h hP hD hS => ?_)
  have hP : va_P D vwCl (jx_ws cI cT [(cp_T aT, sT)]) H := hP
  have hD : va_D A (jx_ws cI cT [(cp_T aT, sT)]) := hD
  refine jx_iconst C dX6_raiseRoot_12 ?_
  refine jx_iadd C dX6_raiseRoot_13 ?_
  refine jx_callVI C hK hP hD hS hA (ct_T_newNode l D cI cT aT _ sT (r9 + 1) h) ms_X6_newNode lk_X6_39 [0] rfl rfl (fun _ => rfl) (cs' := (fun u => [(cp_T aT, u)])) (fun _ => rfl) (fun _ => rfl) 0 0 rfl rfl rfl rfl rfl hl.1 rfl rfl dX6_raiseRoot_14 ⟨Nat.le_refl _, Nat.le_refl _⟩ (fun r14 sT_14 H locs h hP hD hS => ?_)
  have hP : va_P D vwCl (jx_ws cI cT [(cp_T aT, sT_14)]) H := hP
  have hD : va_D A (jx_ws cI cT [(cp_T aT, sT_14)]) := hD
  refine jx_putI C hK hP hD hS 0 0 7 rfl rfl rfl rfl rfl fl_X6_43 fw_X6_7 ⟨rfl, rfl⟩ rfl dX6_raiseRoot_17 (fun H locs hP hD hS => ?_)
  have hP : va_P D vwCl (jx_ws cI cT [(cp_T aT, (jx_su sT_14 7 0 r14))]) H := hP
  have hD : va_D A (jx_ws cI cT [(cp_T aT, (jx_su sT_14 7 0 r14))]) := hD
  refine lv_aload_n hx hb dX6_raiseRoot_20 rfl (lv_at hl 1 rfl) ?_
  refine lv_aload_n hx hb dX6_raiseRoot_21 rfl (lv_at hl 1 rfl) ?_
  refine jx_getI C hK hP 0 0 7 rfl rfl rfl fl_X6_43 dX6_raiseRoot_22 ?_
  refine jx_iconst C dX6_raiseRoot_25 ?_
  refine lv_iload_n hx hb dX6_raiseRoot_26 rfl (lv_at hl 0 rfl) ?_
  refine jx_callVV C hK hP hD hS hA (ct_T_add l D cI cT aT _ (jx_su sT_14 7 0 r14) ((jx_su sT_14 7 0 r14) 7 0) 0 (sT 7 0) h) ms_X6_add lk_X6_115 [0] rfl rfl (fun _ => rfl) (cs' := (fun u => [(cp_T aT, u)])) (fun _ => rfl) (fun _ => rfl) 0 0 rfl rfl rfl rfl rfl hl.1 rfl rfl dX6_raiseRoot_27 ⟨Nat.le_refl _, Nat.le_refl _⟩ (fun sT_27 H locs h hP hD hS => ?_)
  have hP : va_P D vwCl (jx_ws cI cT [(cp_T aT, sT_27)]) H := hP
  have hD : va_D A (jx_ws cI cT [(cp_T aT, sT_27)]) := hD
  exact jx_rV C hr hlk hAe hS hQQ sT_27 hP h dX6_raiseRoot_30
set_option maxRecDepth 100000 in
set_option maxHeartbeats 4000000 in
theorem ct_T_drop (l : Launch) (D : va_G) (cI cT : ClassId) (aT : Nat → Nat) (Q : jx_St → Prop) (sT : jx_St) (l1 : Int) (h : wp_T_drop Q sT l1) : jx_KV jx_St l D cI cT yX6_drop cX6_drop 2 4 90 [.ref (aT 0), .int (jx_i l1)] [(cp_T aT, sT)] (fun u => [(cp_T aT, u)]) Q := by
  refine jx_ent (own := RX6) (by decide) rfl (Nat.le_of_ble_eq_true rfl) ?_
  intro p e s m args below meth c A QQ C hr hlk hK hAe hA hP hD hS ls hl hQQ
  have hl : lv_has ls 2 [(0, .ref (aT 0)), (1, .int (jx_i l1))] := hl
  have hx := C.1
  have hb := C.2.1
  unfold wp_T_drop at h
  refine lv_aload_n hx hb dX6_drop_0 rfl (lv_at hl 0 rfl) ?_
  refine lv_iload_n hx hb dX6_drop_1 rfl (lv_at hl 1 rfl) ?_
  refine jx_callVV C hK hP hD hS hA (ct_T_clearRow l D cI cT aT _ sT l1 h) ms_X6_clearRow lk_X6_111 [0] rfl rfl (fun _ => rfl) (cs' := (fun u => [(cp_T aT, u)])) (fun _ => rfl) (fun _ => rfl) 0 0 rfl rfl rfl rfl rfl hl.1 rfl rfl dX6_drop_2 ⟨Nat.le_refl _, Nat.le_refl _⟩ (fun sT_2 H locs h hP hD hS => ?_)
  have hP : va_P D vwCl (jx_ws cI cT [(cp_T aT, sT_2)]) H := hP
  have hD : va_D A (jx_ws cI cT [(cp_T aT, sT_2)]) := hD
  refine lv_aload_n hx hb dX6_drop_5 rfl (lv_at hl 0 rfl) ?_
  refine jx_getR C hK hP 0 0 2 rfl rfl rfl fl_X6_18 dX6_drop_6 ?_
  refine lv_iload_n hx hb dX6_drop_9 rfl (lv_at hl 1 rfl) ?_
  refine jx_iconst C dX6_drop_10 ?_
  refine jx_rowsSet C hK hP hD hS hA 0 3 rfl rfl rfl rfl h.1 lk_X6_100 rfl hl.1 rfl rfl dX6_drop_11 ⟨Nat.le_refl _, Nat.le_refl _⟩ (fun H locs hP hD hS => ?_)
  have h := h.2
  have hP : va_P D vwCl (jx_ws cI cT [(cp_T aT, (jx_se 32 sT_2 2 l1 (-1)))]) H := hP
  have hD : va_D A (jx_ws cI cT [(cp_T aT, (jx_se 32 sT_2 2 l1 (-1)))]) := hD
  refine lv_aload_n hx hb dX6_drop_14 rfl (lv_at hl 0 rfl) ?_
  refine jx_getR C hK hP 0 0 4 rfl rfl rfl fl_X6_24 dX6_drop_15 ?_
  refine lv_iload_n hx hb dX6_drop_18 rfl (lv_at hl 1 rfl) ?_
  refine jx_iconst C dX6_drop_19 ?_
  refine jx_rowsSet C hK hP hD hS hA 0 5 rfl rfl rfl rfl h.1 lk_X6_100 rfl hl.1 rfl rfl dX6_drop_20 ⟨Nat.le_refl _, Nat.le_refl _⟩ (fun H locs hP hD hS => ?_)
  have h := h.2
  have hP : va_P D vwCl (jx_ws cI cT [(cp_T aT, (jx_se 32 (jx_se 32 sT_2 2 l1 (-1)) 4 l1 (-1)))]) H := hP
  have hD : va_D A (jx_ws cI cT [(cp_T aT, (jx_se 32 (jx_se 32 sT_2 2 l1 (-1)) 4 l1 (-1)))]) := hD
  refine lv_aload_n hx hb dX6_drop_23 rfl (lv_at hl 0 rfl) ?_
  refine jx_getR C hK hP 0 0 5 rfl rfl rfl fl_X6_27 dX6_drop_24 ?_
  refine lv_iload_n hx hb dX6_drop_27 rfl (lv_at hl 1 rfl) ?_
  refine jx_iconst C dX6_drop_28 ?_
  refine jx_rowsSet C hK hP hD hS hA 0 6 rfl rfl rfl rfl h.1 lk_X6_100 rfl hl.1 rfl rfl dX6_drop_29 ⟨Nat.le_refl _, Nat.le_refl _⟩ (fun H locs hP hD hS => ?_)
  have h := h.2
  have hP : va_P D vwCl (jx_ws cI cT [(cp_T aT, (jx_se 32 (jx_se 32 (jx_se 32 sT_2 2 l1 (-1)) 4 l1 (-1)) 5 l1 (-1)))]) H := hP
  have hD : va_D A (jx_ws cI cT [(cp_T aT, (jx_se 32 (jx_se 32 (jx_se 32 sT_2 2 l1 (-1)) 4 l1 (-1)) 5 l1 (-1)))]) := hD
  exact jx_rV C hr hlk hAe hS hQQ (jx_se 32 (jx_se 32 (jx_se 32 sT_2 2 l1 (-1)) 4 l1 (-1)) 5 l1 (-1)) hP h dX6_drop_32
set_option maxRecDepth 100000 in
set_option maxHeartbeats 4000000 in
theorem ct_T_homeOf (l : Launch) (D : va_G) (cI cT : ClassId) (aT : Nat → Nat) (Q : Int → Prop) (sT : jx_St) (l1 : Int) (h : wp_T_homeOf Q sT l1) : jx_KI (Unit) l D cI cT yX6_homeOf cX6_homeOf 2 .int 1 21 [.ref (aT 0), .int (jx_i l1)] [(cp_T aT, sT)] (fun _ => [(cp_T aT, sT)]) (fun x _ => Q x) := by
  refine jx_ent (own := RX6) (by decide) rfl (Nat.le_of_ble_eq_true rfl) ?_
  intro p e s m args below meth c A QQ C hr hlk hK hAe hA hP hD hS ls hl hQQ
  have hl : lv_has ls 2 [(0, .ref (aT 0)), (1, .int (jx_i l1))] := hl
  have hx := C.1
  have hb := C.2.1
  unfold wp_T_homeOf at h
  refine lv_aload_n hx hb dX6_homeOf_0 rfl (lv_at hl 0 rfl) ?_
  refine jx_getR C hK hP 0 0 1 rfl rfl rfl fl_X6_15 dX6_homeOf_1 ?_
  refine lv_iload_n hx hb dX6_homeOf_4 rfl (lv_at hl 1 rfl) ?_
  refine jx_rowsAt C hK hP hD hS hA 0 2 rfl rfl rfl rfl h.1 lk_X6_62 hl.1 rfl rfl dX6_homeOf_5 ⟨Nat.le_refl _, Nat.le_refl _⟩ (fun H locs hP hS => ?_)
  have h := h.2
  exact jx_rI C hr hlk hAe hS hQQ () hP h dX6_homeOf_8
set_option maxRecDepth 100000 in
set_option maxHeartbeats 4000000 in
theorem ct_T_lowerRoot (l : Launch) (D : va_G) (cI cT : ClassId) (aT : Nat → Nat) (Q : jx_St → Prop) (sT : jx_St) (h : wp_T_lowerRoot Q sT) : jx_KV jx_St l D cI cT yX6_lowerRoot cX6_lowerRoot 3 5 111 [.ref (aT 0)] [(cp_T aT, sT)] (fun u => [(cp_T aT, u)]) Q := by
  refine jx_ent (own := RX6) (by decide) rfl (Nat.le_of_ble_eq_true rfl) ?_
  intro p e s m args below meth c A QQ C hr hlk hK hAe hA hP hD hS ls hl hQQ
  have hl : lv_has ls 3 [(0, .ref (aT 0))] := hl
  have hx := C.1
  have hb := C.2.1
  unfold wp_T_lowerRoot at h
  have Lo2 : ∀ (n : Nat) (sT : jx_St) (l1 : Int), jx_it (fun B2 v => wp_T_lowerRoot_2 Q B2 v.1 v.2) n (sT, l1) → ∀ (H : Heap) (locs : List Loc), va_P D vwCl (jx_ws cI cT [(cp_T aT, sT)]) H → va_D A (jx_ws cI cT [(cp_T aT, sT)]) → va_S A s.heap H locs → ∀ ls : Array Slot, lv_has ls 3 [(0, .ref (aT 0)), (1, .int (jx_i l1))] → W p l e (jx_rm 5 111) s m args below meth c H locs 0 0 QQ (F0 m 2 ls []) := by
    intro n
    induction n with
    | zero =>
      intro sT l1 h
      exact (show False from h).elim
    | succ n ih =>
      intro sT l1 h H locs hP hD hS ls hl
      have h : wp_T_lowerRoot_2 Q (jx_it (fun B2 v => wp_T_lowerRoot_2 Q B2 v.1 v.2) n) sT l1 := h
      have ih := fun sT l1 h => ih sT l1 h
      generalize jx_it (fun B2 v => wp_T_lowerRoot_2 Q B2 v.1 v.2) n = B2 at h ih
      unfold wp_T_lowerRoot_2 at h
      refine lv_iload_n hx hb dX6_lowerRoot_2 rfl (lv_at hl 1 rfl) ?_
      refine jx_bipush C dX6_lowerRoot_3 (by decide) ?_
      refine jx_cge C h.1 (jx_inR (by decide) (by decide)) (tgt := 57) dX6_lowerRoot_5 (by decide) (fun hc => ?_) (fun hc => ?_)
      · have h := h.2.2 hc
        exact jx_rV C hr hlk hAe hS hQQ sT hP h dX6_lowerRoot_57
      · have h := h.2.1 hc
        refine lv_aload_n hx hb dX6_lowerRoot_8 rfl (lv_at hl 0 rfl) ?_
        refine lv_aload_n hx hb dX6_lowerRoot_9 rfl (lv_at hl 0 rfl) ?_
        refine jx_getI C hK hP 0 0 7 rfl rfl rfl fl_X6_43 dX6_lowerRoot_10 ?_
        refine jx_callVI C hK hP hD hS hA (ct_T_levelOf l D cI cT aT _ sT (sT 7 0) h) ms_X6_levelOf lk_X6_68 [0] rfl rfl (fun _ => rfl) (cs' := (fun _ => [(cp_T aT, sT)])) (fun _ => rfl) (fun _ => rfl) 0 0 rfl rfl rfl rfl rfl hl.1 rfl rfl dX6_lowerRoot_13 ⟨Nat.le_refl _, Nat.le_refl _⟩ (fun r13 _ H locs h hP hD hS => ?_)
        have hP : va_P D vwCl (jx_ws cI cT [(cp_T aT, sT)]) H := hP
        have hD : va_D A (jx_ws cI cT [(cp_T aT, sT)]) := hD
        refine jx_zle C h.1 (tgt := 57) dX6_lowerRoot_16 (by decide) (fun hc => ?_) (fun hc => ?_)
        · have h := h.2.1 hc
          exact jx_rV C hr hlk hAe hS hQQ sT hP h dX6_lowerRoot_57
        · have h := h.2.2 hc
          refine lv_aload_n hx hb dX6_lowerRoot_19 rfl (lv_at hl 0 rfl) ?_
          refine lv_aload_n hx hb dX6_lowerRoot_20 rfl (lv_at hl 0 rfl) ?_
          refine jx_getI C hK hP 0 0 7 rfl rfl rfl fl_X6_43 dX6_lowerRoot_21 ?_
          refine jx_callVI C hK hP hD hS hA (ct_T_sizeOf l D cI cT aT _ sT (sT 7 0) h) ms_X6_sizeOf lk_X6_71 [0] rfl rfl (fun _ => rfl) (cs' := (fun _ => [(cp_T aT, sT)])) (fun _ => rfl) (fun _ => rfl) 0 0 rfl rfl rfl rfl rfl hl.1 rfl rfl dX6_lowerRoot_24 ⟨Nat.le_refl _, Nat.le_refl _⟩ (fun r24 _ H locs h hP hD hS => ?_)
          have hP : va_P D vwCl (jx_ws cI cT [(cp_T aT, sT)]) H := hP
          have hD : va_D A (jx_ws cI cT [(cp_T aT, sT)]) := hD
          refine jx_iconst C dX6_lowerRoot_27 ?_
          refine jx_cne C h.1 (jx_inR (by decide) (by decide)) (tgt := 57) dX6_lowerRoot_28 (by decide) (fun hc => ?_) (fun hc => ?_)
          · have h := h.2.2 hc
            exact jx_rV C hr hlk hAe hS hQQ sT hP h dX6_lowerRoot_57
          · have h := h.2.1 hc
            refine lv_aload_n hx hb dX6_lowerRoot_31 rfl (lv_at hl 0 rfl) ?_
            refine jx_getI C hK hP 0 0 7 rfl rfl rfl fl_X6_43 dX6_lowerRoot_32 ?_
            refine lv_istore_n (lv' := [(2, .int (jx_i (sT 7 0))), (0, .ref (aT 0)), (1, .int (jx_i l1))]) hx hb dX6_lowerRoot_35 rfl hl (by decide) rfl (fun ls hl => ?_)
            refine lv_aload_n hx hb dX6_lowerRoot_36 rfl (lv_at hl 1 rfl) ?_
            refine lv_aload_n hx hb dX6_lowerRoot_37 rfl (lv_at hl 1 rfl) ?_
            refine lv_iload_n hx hb dX6_lowerRoot_38 rfl (lv_at hl 0 rfl) ?_
            refine jx_iconst C dX6_lowerRoot_39 ?_
            refine jx_callVI C hK hP hD hS hA (ct_T_thingAt l D cI cT aT _ sT (sT 7 0) 0 h) ms_X6_thingAt lk_X6_74 [0] rfl rfl (fun _ => rfl) (cs' := (fun _ => [(cp_T aT, sT)])) (fun _ => rfl) (fun _ => rfl) 0 0 rfl rfl rfl rfl rfl hl.1 rfl rfl dX6_lowerRoot_40 ⟨Nat.le_refl _, Nat.le_refl _⟩ (fun r40 _ H locs h hP hD hS => ?_)
            have hP : va_P D vwCl (jx_ws cI cT [(cp_T aT, sT)]) H := hP
            have hD : va_D A (jx_ws cI cT [(cp_T aT, sT)]) := hD
            refine jx_putI C hK hP hD hS 0 0 7 rfl rfl rfl rfl rfl fl_X6_43 fw_X6_7 ⟨rfl, rfl⟩ rfl dX6_lowerRoot_43 (fun H locs hP hD hS => ?_)
            have hP : va_P D vwCl (jx_ws cI cT [(cp_T aT, (jx_su sT 7 0 r40))]) H := hP
            have hD : va_D A (jx_ws cI cT [(cp_T aT, (jx_su sT 7 0 r40))]) := hD
            refine lv_aload_n hx hb dX6_lowerRoot_46 rfl (lv_at hl 1 rfl) ?_
            refine lv_iload_n hx hb dX6_lowerRoot_47 rfl (lv_at hl 0 rfl) ?_
            refine jx_callVV C hK hP hD hS hA (ct_T_drop l D cI cT aT _ (jx_su sT 7 0 r40) (sT 7 0) h) ms_X6_drop lk_X6_119 [0] rfl rfl (fun _ => rfl) (cs' := (fun u => [(cp_T aT, u)])) (fun _ => rfl) (fun _ => rfl) 0 0 rfl rfl rfl rfl rfl hl.1 rfl rfl dX6_lowerRoot_48 ⟨Nat.le_refl _, Nat.le_refl _⟩ (fun sT_48 H locs h hP hD hS => ?_)
            have hP : va_P D vwCl (jx_ws cI cT [(cp_T aT, sT_48)]) H := hP
            have hD : va_D A (jx_ws cI cT [(cp_T aT, sT_48)]) := hD
            refine jx_iinc C (lv' := [(1, .int (jx_i (l1 + 1))), (2, .int (jx_i (sT 7 0))), (0, .ref (aT 0))]) dX6_lowerRoot_51 hl (k := 2) rfl (by decide) rfl (fun ls hl => ?_)
            refine lv_goto (tgt := 2) hx hb dX6_lowerRoot_54 (by decide) ?_
            exact ih sT_48 (l1 + 1) h _ _ hP hD hS ls (lv_sub hl [2, 0] rfl)
  refine jx_iconst C dX6_lowerRoot_0 ?_
  refine lv_istore_n (lv' := [(1, .int (jx_i 0)), (0, .ref (aT 0))]) hx hb dX6_lowerRoot_1 rfl hl (by decide) rfl (fun ls hl => ?_)
  obtain ⟨n, h⟩ := h
  refine Lo2 n sT 0 h _ _ hP hD hS ls (lv_sub hl [1, 0] rfl)
set_option maxRecDepth 100000 in
set_option maxHeartbeats 4000000 in
theorem ct_T_copy (l : Launch) (D : va_G) (cI cT : ClassId) (aT : Nat → Nat) (aX : Nat → Nat) (Q : jx_St → Prop) (sT : jx_St) (sX : jx_St) (h : wp_T_copy Q sT sX) : jx_KV jx_St l D cI cT yX6_copy cX6_copy 2 1 40 [.ref (aT 0), .ref (aX 0)] [(cp_T aT, sT), (cp_T aX, sX)] (fun u => [(cp_T aT, u), (cp_T aX, sX)]) Q := by
  refine jx_ent (own := RX6) (by decide) rfl (Nat.le_of_ble_eq_true rfl) ?_
  intro p e s m args below meth c A QQ C hr hlk hK hAe hA hP hD hS ls hl hQQ
  have hl : lv_has ls 2 [(0, .ref (aT 0)), (1, .ref (aX 0))] := hl
  have hx := C.1
  have hb := C.2.1
  unfold wp_T_copy at h
  refine lv_aload_n hx hb dX6_copy_0 rfl (lv_at hl 1 rfl) ?_
  refine jx_getR C hK hP 1 0 0 rfl rfl rfl fl_X6_9 dX6_copy_1 ?_
  refine jx_iconst C dX6_copy_4 ?_
  refine lv_aload_n hx hb dX6_copy_5 rfl (lv_at hl 0 rfl) ?_
  refine jx_getR C hK hP 0 0 0 rfl rfl rfl fl_X6_9 dX6_copy_6 ?_
  refine jx_iconst C dX6_copy_9 ?_
  refine jx_bipush C dX6_copy_10 (by decide) ?_
  refine jx_copyi (n := 31) C hK hP hD hS (i0 := 1) (q0 := 1) (i1 := 0) (q1 := 1) rfl rfl rfl rfl rfl rfl lk_X6_47 jx_wCopy.1 jx_wCopy.2.1 jx_wCopy.2.2 rfl hl.1 rfl dX6_copy_12 (fun H locs hP hD hS => ?_)
  have hP : va_P D vwCl (jx_ws cI cT [(cp_T aT, (jx_cp sT 0 (sX 0) 31)), (cp_T aX, sX)]) H := hP
  have hD : va_D A (jx_ws cI cT [(cp_T aT, (jx_cp sT 0 (sX 0) 31)), (cp_T aX, sX)]) := hD
  refine lv_aload_n hx hb dX6_copy_15 rfl (lv_at hl 1 rfl) ?_
  refine jx_getR C hK hP 1 0 1 rfl rfl rfl fl_X6_15 dX6_copy_16 ?_
  refine jx_iconst C dX6_copy_19 ?_
  refine lv_aload_n hx hb dX6_copy_20 rfl (lv_at hl 0 rfl) ?_
  refine jx_getR C hK hP 0 0 1 rfl rfl rfl fl_X6_15 dX6_copy_21 ?_
  refine jx_iconst C dX6_copy_24 ?_
  refine jx_bipush C dX6_copy_25 (by decide) ?_
  refine jx_copyi (n := 31) C hK hP hD hS (i0 := 1) (q0 := 2) (i1 := 0) (q1 := 2) rfl rfl rfl rfl rfl rfl lk_X6_47 jx_wCopy.1 jx_wCopy.2.1 jx_wCopy.2.2 rfl hl.1 rfl dX6_copy_27 (fun H locs hP hD hS => ?_)
  have hP : va_P D vwCl (jx_ws cI cT [(cp_T aT, (jx_cp (jx_cp sT 0 (sX 0) 31) 1 (sX 1) 31)), (cp_T aX, sX)]) H := hP
  have hD : va_D A (jx_ws cI cT [(cp_T aT, (jx_cp (jx_cp sT 0 (sX 0) 31) 1 (sX 1) 31)), (cp_T aX, sX)]) := hD
  refine lv_aload_n hx hb dX6_copy_30 rfl (lv_at hl 1 rfl) ?_
  refine jx_getR C hK hP 1 0 2 rfl rfl rfl fl_X6_18 dX6_copy_31 ?_
  refine jx_iconst C dX6_copy_34 ?_
  refine lv_aload_n hx hb dX6_copy_35 rfl (lv_at hl 0 rfl) ?_
  refine jx_getR C hK hP 0 0 2 rfl rfl rfl fl_X6_18 dX6_copy_36 ?_
  refine jx_iconst C dX6_copy_39 ?_
  refine jx_bipush C dX6_copy_40 (by decide) ?_
  refine jx_copyi (n := 32) C hK hP hD hS (i0 := 1) (q0 := 3) (i1 := 0) (q1 := 3) rfl rfl rfl rfl rfl rfl lk_X6_47 jx_wCopy.1 jx_wCopy.2.1 jx_wCopy.2.2 rfl hl.1 rfl dX6_copy_42 (fun H locs hP hD hS => ?_)
  have hP : va_P D vwCl (jx_ws cI cT [(cp_T aT, (jx_cp (jx_cp (jx_cp sT 0 (sX 0) 31) 1 (sX 1) 31) 2 (sX 2) 32)), (cp_T aX, sX)]) H := hP
  have hD : va_D A (jx_ws cI cT [(cp_T aT, (jx_cp (jx_cp (jx_cp sT 0 (sX 0) 31) 1 (sX 1) 31) 2 (sX 2) 32)), (cp_T aX, sX)]) := hD
  refine lv_aload_n hx hb dX6_copy_45 rfl (lv_at hl 1 rfl) ?_
  refine jx_getR C hK hP 1 0 3 rfl rfl rfl fl_X6_21 dX6_copy_46 ?_
  refine jx_iconst C dX6_copy_49 ?_
  refine lv_aload_n hx hb dX6_copy_50 rfl (lv_at hl 0 rfl) ?_
  refine jx_getR C hK hP 0 0 3 rfl rfl rfl fl_X6_21 dX6_copy_51 ?_
  refine jx_iconst C dX6_copy_54 ?_
  refine jx_bipush C dX6_copy_55 (by decide) ?_
  refine jx_copyi (n := 32) C hK hP hD hS (i0 := 1) (q0 := 4) (i1 := 0) (q1 := 4) rfl rfl rfl rfl rfl rfl lk_X6_47 jx_wCopy.1 jx_wCopy.2.1 jx_wCopy.2.2 rfl hl.1 rfl dX6_copy_57 (fun H locs hP hD hS => ?_)
  have hP : va_P D vwCl (jx_ws cI cT [(cp_T aT, (jx_cp (jx_cp (jx_cp (jx_cp sT 0 (sX 0) 31) 1 (sX 1) 31) 2 (sX 2) 32) 3 (sX 3) 32)), (cp_T aX, sX)]) H := hP
  have hD : va_D A (jx_ws cI cT [(cp_T aT, (jx_cp (jx_cp (jx_cp (jx_cp sT 0 (sX 0) 31) 1 (sX 1) 31) 2 (sX 2) 32) 3 (sX 3) 32)), (cp_T aX, sX)]) := hD
  refine lv_aload_n hx hb dX6_copy_60 rfl (lv_at hl 1 rfl) ?_
  refine jx_getR C hK hP 1 0 4 rfl rfl rfl fl_X6_24 dX6_copy_61 ?_
  refine jx_iconst C dX6_copy_64 ?_
  refine lv_aload_n hx hb dX6_copy_65 rfl (lv_at hl 0 rfl) ?_
  refine jx_getR C hK hP 0 0 4 rfl rfl rfl fl_X6_24 dX6_copy_66 ?_
  refine jx_iconst C dX6_copy_69 ?_
  refine jx_bipush C dX6_copy_70 (by decide) ?_
  refine jx_copyi (n := 32) C hK hP hD hS (i0 := 1) (q0 := 5) (i1 := 0) (q1 := 5) rfl rfl rfl rfl rfl rfl lk_X6_47 jx_wCopy.1 jx_wCopy.2.1 jx_wCopy.2.2 rfl hl.1 rfl dX6_copy_72 (fun H locs hP hD hS => ?_)
  have hP : va_P D vwCl (jx_ws cI cT [(cp_T aT, (jx_cp (jx_cp (jx_cp (jx_cp (jx_cp sT 0 (sX 0) 31) 1 (sX 1) 31) 2 (sX 2) 32) 3 (sX 3) 32) 4 (sX 4) 32)), (cp_T aX, sX)]) H := hP
  have hD : va_D A (jx_ws cI cT [(cp_T aT, (jx_cp (jx_cp (jx_cp (jx_cp (jx_cp sT 0 (sX 0) 31) 1 (sX 1) 31) 2 (sX 2) 32) 3 (sX 3) 32) 4 (sX 4) 32)), (cp_T aX, sX)]) := hD
  refine lv_aload_n hx hb dX6_copy_75 rfl (lv_at hl 1 rfl) ?_
  refine jx_getR C hK hP 1 0 5 rfl rfl rfl fl_X6_27 dX6_copy_76 ?_
  refine jx_iconst C dX6_copy_79 ?_
  refine lv_aload_n hx hb dX6_copy_80 rfl (lv_at hl 0 rfl) ?_
  refine jx_getR C hK hP 0 0 5 rfl rfl rfl fl_X6_27 dX6_copy_81 ?_
  refine jx_iconst C dX6_copy_84 ?_
  refine jx_bipush C dX6_copy_85 (by decide) ?_
  refine jx_copyi (n := 32) C hK hP hD hS (i0 := 1) (q0 := 6) (i1 := 0) (q1 := 6) rfl rfl rfl rfl rfl rfl lk_X6_47 jx_wCopy.1 jx_wCopy.2.1 jx_wCopy.2.2 rfl hl.1 rfl dX6_copy_87 (fun H locs hP hD hS => ?_)
  have hP : va_P D vwCl (jx_ws cI cT [(cp_T aT, (jx_cp (jx_cp (jx_cp (jx_cp (jx_cp (jx_cp sT 0 (sX 0) 31) 1 (sX 1) 31) 2 (sX 2) 32) 3 (sX 3) 32) 4 (sX 4) 32) 5 (sX 5) 32)), (cp_T aX, sX)]) H := hP
  have hD : va_D A (jx_ws cI cT [(cp_T aT, (jx_cp (jx_cp (jx_cp (jx_cp (jx_cp (jx_cp sT 0 (sX 0) 31) 1 (sX 1) 31) 2 (sX 2) 32) 3 (sX 3) 32) 4 (sX 4) 32) 5 (sX 5) 32)), (cp_T aX, sX)]) := hD
  refine lv_aload_n hx hb dX6_copy_90 rfl (lv_at hl 1 rfl) ?_
  refine jx_getR C hK hP 1 0 6 rfl rfl rfl fl_X6_30 dX6_copy_91 ?_
  refine jx_iconst C dX6_copy_94 ?_
  refine lv_aload_n hx hb dX6_copy_95 rfl (lv_at hl 0 rfl) ?_
  refine jx_getR C hK hP 0 0 6 rfl rfl rfl fl_X6_30 dX6_copy_96 ?_
  refine jx_iconst C dX6_copy_99 ?_
  refine jx_sipush C dX6_copy_100 (by decide) ?_
  refine jx_copyi (n := 160) C hK hP hD hS (i0 := 1) (q0 := 7) (i1 := 0) (q1 := 7) rfl rfl rfl rfl rfl rfl lk_X6_47 jx_wCopy.1 jx_wCopy.2.1 jx_wCopy.2.2 rfl hl.1 rfl dX6_copy_103 (fun H locs hP hD hS => ?_)
  have hP : va_P D vwCl (jx_ws cI cT [(cp_T aT, (jx_cp (jx_cp (jx_cp (jx_cp (jx_cp (jx_cp (jx_cp sT 0 (sX 0) 31) 1 (sX 1) 31) 2 (sX 2) 32) 3 (sX 3) 32) 4 (sX 4) 32) 5 (sX 5) 32) 6 (sX 6) 160)), (cp_T aX, sX)]) H := hP
  have hD : va_D A (jx_ws cI cT [(cp_T aT, (jx_cp (jx_cp (jx_cp (jx_cp (jx_cp (jx_cp (jx_cp sT 0 (sX 0) 31) 1 (sX 1) 31) 2 (sX 2) 32) 3 (sX 3) 32) 4 (sX 4) 32) 5 (sX 5) 32) 6 (sX 6) 160)), (cp_T aX, sX)]) := hD
  refine lv_aload_n hx hb dX6_copy_106 rfl (lv_at hl 0 rfl) ?_
  refine lv_aload_n hx hb dX6_copy_107 rfl (lv_at hl 1 rfl) ?_
  refine jx_getI C hK hP 1 0 7 rfl rfl rfl fl_X6_43 dX6_copy_108 ?_
  refine jx_putI C hK hP hD hS 0 0 7 rfl rfl rfl rfl rfl fl_X6_43 fw_X6_7 ⟨rfl, rfl⟩ rfl dX6_copy_111 (fun H locs hP hD hS => ?_)
  have hP : va_P D vwCl (jx_ws cI cT [(cp_T aT, (jx_su (jx_cp (jx_cp (jx_cp (jx_cp (jx_cp (jx_cp (jx_cp sT 0 (sX 0) 31) 1 (sX 1) 31) 2 (sX 2) 32) 3 (sX 3) 32) 4 (sX 4) 32) 5 (sX 5) 32) 6 (sX 6) 160) 7 0 (sX 7 0))), (cp_T aX, sX)]) H := hP
  have hD : va_D A (jx_ws cI cT [(cp_T aT, (jx_su (jx_cp (jx_cp (jx_cp (jx_cp (jx_cp (jx_cp (jx_cp sT 0 (sX 0) 31) 1 (sX 1) 31) 2 (sX 2) 32) 3 (sX 3) 32) 4 (sX 4) 32) 5 (sX 5) 32) 6 (sX 6) 160) 7 0 (sX 7 0))), (cp_T aX, sX)]) := hD
  refine lv_aload_n hx hb dX6_copy_114 rfl (lv_at hl 0 rfl) ?_
  refine lv_aload_n hx hb dX6_copy_115 rfl (lv_at hl 1 rfl) ?_
  refine jx_getI C hK hP 1 0 8 rfl rfl rfl fl_X6_53 dX6_copy_116 ?_
  refine jx_putI C hK hP hD hS 0 0 8 rfl rfl rfl rfl rfl fl_X6_53 fw_X6_8 ⟨rfl, rfl⟩ rfl dX6_copy_119 (fun H locs hP hD hS => ?_)
  have hP : va_P D vwCl (jx_ws cI cT [(cp_T aT, (jx_su (jx_su (jx_cp (jx_cp (jx_cp (jx_cp (jx_cp (jx_cp (jx_cp sT 0 (sX 0) 31) 1 (sX 1) 31) 2 (sX 2) 32) 3 (sX 3) 32) 4 (sX 4) 32) 5 (sX 5) 32) 6 (sX 6) 160) 7 0 (sX 7 0)) 8 0 (sX 8 0))), (cp_T aX, sX)]) H := hP
  have hD : va_D A (jx_ws cI cT [(cp_T aT, (jx_su (jx_su (jx_cp (jx_cp (jx_cp (jx_cp (jx_cp (jx_cp (jx_cp sT 0 (sX 0) 31) 1 (sX 1) 31) 2 (sX 2) 32) 3 (sX 3) 32) 4 (sX 4) 32) 5 (sX 5) 32) 6 (sX 6) 160) 7 0 (sX 7 0)) 8 0 (sX 8 0))), (cp_T aX, sX)]) := hD
  refine lv_aload_n hx hb dX6_copy_122 rfl (lv_at hl 0 rfl) ?_
  refine lv_aload_n hx hb dX6_copy_123 rfl (lv_at hl 1 rfl) ?_
  refine jx_getI C hK hP 1 0 9 rfl rfl rfl fl_X6_56 dX6_copy_124 ?_
  refine jx_putI C hK hP hD hS 0 0 9 rfl rfl rfl rfl rfl fl_X6_56 fw_X6_9 ⟨rfl, rfl⟩ rfl dX6_copy_127 (fun H locs hP hD hS => ?_)
  have hP : va_P D vwCl (jx_ws cI cT [(cp_T aT, (jx_su (jx_su (jx_su (jx_cp (jx_cp (jx_cp (jx_cp (jx_cp (jx_cp (jx_cp sT 0 (sX 0) 31) 1 (sX 1) 31) 2 (sX 2) 32) 3 (sX 3) 32) 4 (sX 4) 32) 5 (sX 5) 32) 6 (sX 6) 160) 7 0 (sX 7 0)) 8 0 (sX 8 0)) 9 0 (sX 9 0))), (cp_T aX, sX)]) H := hP
  have hD : va_D A (jx_ws cI cT [(cp_T aT, (jx_su (jx_su (jx_su (jx_cp (jx_cp (jx_cp (jx_cp (jx_cp (jx_cp (jx_cp sT 0 (sX 0) 31) 1 (sX 1) 31) 2 (sX 2) 32) 3 (sX 3) 32) 4 (sX 4) 32) 5 (sX 5) 32) 6 (sX 6) 160) 7 0 (sX 7 0)) 8 0 (sX 8 0)) 9 0 (sX 9 0))), (cp_T aX, sX)]) := hD
  refine lv_aload_n hx hb dX6_copy_130 rfl (lv_at hl 0 rfl) ?_
  refine lv_aload_n hx hb dX6_copy_131 rfl (lv_at hl 1 rfl) ?_
  refine jx_getI C hK hP 1 0 10 rfl rfl rfl fl_X6_59 dX6_copy_132 ?_
  refine jx_putI C hK hP hD hS 0 0 10 rfl rfl rfl rfl rfl fl_X6_59 fw_X6_10 ⟨rfl, rfl⟩ rfl dX6_copy_135 (fun H locs hP hD hS => ?_)
  have hP : va_P D vwCl (jx_ws cI cT [(cp_T aT, (jx_su (jx_su (jx_su (jx_su (jx_cp (jx_cp (jx_cp (jx_cp (jx_cp (jx_cp (jx_cp sT 0 (sX 0) 31) 1 (sX 1) 31) 2 (sX 2) 32) 3 (sX 3) 32) 4 (sX 4) 32) 5 (sX 5) 32) 6 (sX 6) 160) 7 0 (sX 7 0)) 8 0 (sX 8 0)) 9 0 (sX 9 0)) 10 0 (sX 10 0))), (cp_T aX, sX)]) H := hP
  have hD : va_D A (jx_ws cI cT [(cp_T aT, (jx_su (jx_su (jx_su (jx_su (jx_cp (jx_cp (jx_cp (jx_cp (jx_cp (jx_cp (jx_cp sT 0 (sX 0) 31) 1 (sX 1) 31) 2 (sX 2) 32) 3 (sX 3) 32) 4 (sX 4) 32) 5 (sX 5) 32) 6 (sX 6) 160) 7 0 (sX 7 0)) 8 0 (sX 8 0)) 9 0 (sX 9 0)) 10 0 (sX 10 0))), (cp_T aX, sX)]) := hD
  exact jx_rV C hr hlk hAe hS hQQ (jx_su (jx_su (jx_su (jx_su (jx_cp (jx_cp (jx_cp (jx_cp (jx_cp (jx_cp (jx_cp sT 0 (sX 0) 31) 1 (sX 1) 31) 2 (sX 2) 32) 3 (sX 3) 32) 4 (sX 4) 32) 5 (sX 5) 32) 6 (sX 6) 160) 7 0 (sX 7 0)) 8 0 (sX 8 0)) 9 0 (sX 9 0)) 10 0 (sX 10 0)) hP h dX6_copy_138
set_option maxRecDepth 100000 in
set_option maxHeartbeats 4000000 in
theorem ct_T_has (l : Launch) (D : va_G) (cI cT : ClassId) (aT : Nat → Nat) (Q : Int → Prop) (sT : jx_St) (l1 : Int) (h : wp_T_has Q sT l1) : jx_KI (Unit) l D cI cT yX6_has cX6_has 2 .boolean 1 21 [.ref (aT 0), .int (jx_i l1)] [(cp_T aT, sT)] (fun _ => [(cp_T aT, sT)]) (fun x _ => Q x) := by
  refine jx_ent (own := RX6) (by decide) rfl (Nat.le_of_ble_eq_true rfl) ?_
  intro p e s m args below meth c A QQ C hr hlk hK hAe hA hP hD hS ls hl hQQ
  have hl : lv_has ls 2 [(0, .ref (aT 0)), (1, .int (jx_i l1))] := hl
  have hx := C.1
  have hb := C.2.1
  unfold wp_T_has at h
  refine lv_aload_n hx hb dX6_has_0 rfl (lv_at hl 0 rfl) ?_
  refine jx_getR C hK hP 0 0 0 rfl rfl rfl fl_X6_9 dX6_has_1 ?_
  refine lv_iload_n hx hb dX6_has_4 rfl (lv_at hl 1 rfl) ?_
  refine jx_rowsAt C hK hP hD hS hA 0 1 rfl rfl rfl rfl h.1 lk_X6_62 hl.1 rfl rfl dX6_has_5 ⟨Nat.le_refl _, Nat.le_refl _⟩ (fun H locs hP hS => ?_)
  have h := h.2
  refine jx_iconst C dX6_has_8 ?_
  refine jx_ceq C h.1 (jx_inR (by decide) (by decide)) (tgt := 16) dX6_has_9 (by decide) (fun hc => ?_) (fun hc => ?_)
  · have h := h.2.1 hc
    refine jx_iconst C dX6_has_16 ?_
    exact jx_rZ C hr hlk hAe hS hQQ (by decide) () hP h dX6_has_17
  · have h := h.2.2 hc
    refine jx_iconst C dX6_has_12 ?_
    refine lv_goto (tgt := 17) hx hb dX6_has_13 (by decide) ?_
    exact jx_rZ C hr hlk hAe hS hQQ (by decide) () hP h dX6_has_17
set_option maxRecDepth 100000 in
set_option maxHeartbeats 4000000 in
theorem ct_T_boxSet (l : Launch) (D : va_G) (cI cT : ClassId) (aT : Nat → Nat) (Q : Int → Prop) (sT : jx_St) (h : wp_T_boxSet Q sT) : jx_KI (Unit) l D cI cT yX6_boxSet cX6_boxSet 3 .int 2 42 [.ref (aT 0)] [(cp_T aT, sT)] (fun _ => [(cp_T aT, sT)]) (fun x _ => Q x) := by
  refine jx_ent (own := RX6) (by decide) rfl (Nat.le_of_ble_eq_true rfl) ?_
  intro p e s m args below meth c A QQ C hr hlk hK hAe hA hP hD hS ls hl hQQ
  have hl : lv_has ls 3 [(0, .ref (aT 0))] := hl
  have hx := C.1
  have hb := C.2.1
  unfold wp_T_boxSet at h
  have Lo4 : ∀ (n : Nat) (l1 : Int) (l2 : Int), jx_it (fun B4 v => wp_T_boxSet_4 Q sT B4 v.1 v.2) n (l1, l2) → ∀ (H : Heap) (locs : List Loc), va_P D vwCl (jx_ws cI cT [(cp_T aT, sT)]) H → va_D A (jx_ws cI cT [(cp_T aT, sT)]) → va_S A s.heap H locs → ∀ ls : Array Slot, lv_has ls 3 [(0, .ref (aT 0)), (1, .int (jx_i l1)), (2, .int (jx_i l2))] → W p l e (jx_rm 2 42) s m args below meth c H locs 0 0 QQ (F0 m 4 ls []) := by
    intro n
    induction n with
    | zero =>
      intro l1 l2 h
      exact (show False from h).elim
    | succ n ih =>
      intro l1 l2 h H locs hP hD hS ls hl
      have h : wp_T_boxSet_4 Q sT (jx_it (fun B4 v => wp_T_boxSet_4 Q sT B4 v.1 v.2) n) l1 l2 := h
      have ih := fun l1 l2 h => ih l1 l2 h
      generalize jx_it (fun B4 v => wp_T_boxSet_4 Q sT B4 v.1 v.2) n = B4 at h ih
      unfold wp_T_boxSet_4 at h
      have J24 : ∀ (l1 : Int) (l2 : Int), wp_T_boxSet_24 Q sT B4 l1 l2 → ∀ (H : Heap) (locs : List Loc), va_P D vwCl (jx_ws cI cT [(cp_T aT, sT)]) H → va_D A (jx_ws cI cT [(cp_T aT, sT)]) → va_S A s.heap H locs → ∀ ls : Array Slot, lv_has ls 3 [(0, .ref (aT 0)), (1, .int (jx_i l1)), (2, .int (jx_i l2))] → W p l e (jx_rm 2 42) s m args below meth c H locs 0 0 QQ (F0 m 24 ls []) := by
        intro l1 l2 h H locs hP hD hS ls hl
        unfold wp_T_boxSet_24 at h
        refine jx_iinc C (lv' := [(2, .int (jx_i (l2 + 1))), (0, .ref (aT 0)), (1, .int (jx_i l1))]) dX6_boxSet_24 hl (k := 2) rfl (by decide) rfl (fun ls hl => ?_)
        refine lv_goto (tgt := 4) hx hb dX6_boxSet_27 (by decide) ?_
        exact ih l1 (l2 + 1) h _ _ hP hD hS ls (lv_sub hl [1, 2, 0] rfl)
      refine lv_iload_n hx hb dX6_boxSet_4 rfl (lv_at hl 2 rfl) ?_
      refine jx_bipush C dX6_boxSet_5 (by decide) ?_
      refine jx_cge C h.1 (jx_inR (by decide) (by decide)) (tgt := 30) dX6_boxSet_7 (by decide) (fun hc => ?_) (fun hc => ?_)
      · have h := h.2.2 hc
        refine lv_iload_n hx hb dX6_boxSet_30 rfl (lv_at hl 1 rfl) ?_
        exact jx_rI C hr hlk hAe hS hQQ () hP h dX6_boxSet_31
      · have h := h.2.1 hc
        refine lv_aload_n hx hb dX6_boxSet_10 rfl (lv_at hl 0 rfl) ?_
        refine lv_iload_n hx hb dX6_boxSet_11 rfl (lv_at hl 2 rfl) ?_
        refine jx_callVI C hK hP hD hS hA (ct_T_has l D cI cT aT _ sT l2 h) ms_X6_has lk_X6_78 [0] rfl rfl (fun _ => rfl) (cs' := (fun _ => [(cp_T aT, sT)])) (fun _ => rfl) (fun _ => rfl) 0 0 rfl rfl rfl rfl rfl hl.1 rfl rfl dX6_boxSet_12 ⟨Nat.le_refl _, Nat.le_refl _⟩ (fun r12 _ H locs h hP hD hS => ?_)
        have hP : va_P D vwCl (jx_ws cI cT [(cp_T aT, sT)]) H := hP
        have hD : va_D A (jx_ws cI cT [(cp_T aT, sT)]) := hD
        refine jx_zeq C h.1 (tgt := 24) dX6_boxSet_15 (by decide) (fun hc => ?_) (fun hc => ?_)
        · have h := h.2.1 hc
          exact J24 l1 l2 h _ _ hP hD hS ls (lv_sub hl [0, 1, 2] rfl)
        · have h := h.2.2 hc
          refine lv_iload_n hx hb dX6_boxSet_18 rfl (lv_at hl 1 rfl) ?_
          refine jx_iconst C dX6_boxSet_19 ?_
          refine lv_iload_n hx hb dX6_boxSet_20 rfl (lv_at hl 2 rfl) ?_
          refine jx_ishl C dX6_boxSet_21 ?_
          refine jx_ior C dX6_boxSet_22 ?_
          refine lv_istore_n (lv' := [(1, .int (jx_i (jx_or l1 (jx_shl 1 l2)))), (0, .ref (aT 0)), (2, .int (jx_i l2))]) hx hb dX6_boxSet_23 rfl hl (by decide) rfl (fun ls hl => ?_)
          exact J24 (jx_or l1 (jx_shl 1 l2)) l2 h _ _ hP hD hS ls (lv_sub hl [1, 0, 2] rfl)
  refine jx_iconst C dX6_boxSet_0 ?_
  refine lv_istore_n (lv' := [(1, .int (jx_i 0)), (0, .ref (aT 0))]) hx hb dX6_boxSet_1 rfl hl (by decide) rfl (fun ls hl => ?_)
  refine jx_iconst C dX6_boxSet_2 ?_
  refine lv_istore_n (lv' := [(2, .int (jx_i 0)), (1, .int (jx_i 0)), (0, .ref (aT 0))]) hx hb dX6_boxSet_3 rfl hl (by decide) rfl (fun ls hl => ?_)
  obtain ⟨n, h⟩ := h
  refine Lo4 n 0 0 h _ _ hP hD hS ls (lv_sub hl [2, 1, 0] rfl)
set_option maxRecDepth 100000 in
set_option maxHeartbeats 4000000 in
theorem ct_T_boxesOfLeaf (l : Launch) (D : va_G) (cI cT : ClassId) (aT : Nat → Nat) (Q : Int → Prop) (sT : jx_St) (l1 : Int) (h : wp_T_boxesOfLeaf Q sT l1) : jx_KI (Unit) l D cI cT yX6_boxesOfLeaf cX6_boxesOfLeaf 4 .int 2 43 [.ref (aT 0), .int (jx_i l1)] [(cp_T aT, sT)] (fun _ => [(cp_T aT, sT)]) (fun x _ => Q x) := by
  refine jx_ent (own := RX6) (by decide) rfl (Nat.le_of_ble_eq_true rfl) ?_
  intro p e s m args below meth c A QQ C hr hlk hK hAe hA hP hD hS ls hl hQQ
  have hl : lv_has ls 4 [(0, .ref (aT 0)), (1, .int (jx_i l1))] := hl
  have hx := C.1
  have hb := C.2.1
  unfold wp_T_boxesOfLeaf at h
  have Lo4 : ∀ (n : Nat) (l2 : Int) (l3 : Int), jx_it (fun B4 v => wp_T_boxesOfLeaf_4 Q sT l1 B4 v.1 v.2) n (l2, l3) → ∀ (H : Heap) (locs : List Loc), va_P D vwCl (jx_ws cI cT [(cp_T aT, sT)]) H → va_D A (jx_ws cI cT [(cp_T aT, sT)]) → va_S A s.heap H locs → ∀ ls : Array Slot, lv_has ls 4 [(0, .ref (aT 0)), (1, .int (jx_i l1)), (2, .int (jx_i l2)), (3, .int (jx_i l3))] → W p l e (jx_rm 2 43) s m args below meth c H locs 0 0 QQ (F0 m 4 ls []) := by
    intro n
    induction n with
    | zero =>
      intro l2 l3 h
      exact (show False from h).elim
    | succ n ih =>
      intro l2 l3 h H locs hP hD hS ls hl
      have h : wp_T_boxesOfLeaf_4 Q sT l1 (jx_it (fun B4 v => wp_T_boxesOfLeaf_4 Q sT l1 B4 v.1 v.2) n) l2 l3 := h
      have ih := fun l2 l3 h => ih l2 l3 h
      generalize jx_it (fun B4 v => wp_T_boxesOfLeaf_4 Q sT l1 B4 v.1 v.2) n = B4 at h ih
      unfold wp_T_boxesOfLeaf_4 at h
      refine lv_iload_n hx hb dX6_boxesOfLeaf_4 rfl (lv_at hl 3 rfl) ?_
      refine lv_aload_n hx hb dX6_boxesOfLeaf_5 rfl (lv_at hl 0 rfl) ?_
      refine lv_iload_n hx hb dX6_boxesOfLeaf_6 rfl (lv_at hl 1 rfl) ?_
      refine jx_callVI C hK hP hD hS hA (ct_T_sizeOf l D cI cT aT _ sT l1 h) ms_X6_sizeOf lk_X6_71 [0] rfl rfl (fun _ => rfl) (cs' := (fun _ => [(cp_T aT, sT)])) (fun _ => rfl) (fun _ => rfl) 0 0 rfl rfl rfl rfl rfl hl.1 rfl rfl dX6_boxesOfLeaf_7 ⟨Nat.le_refl _, Nat.le_refl _⟩ (fun r7 _ H locs h hP hD hS => ?_)
      have hP : va_P D vwCl (jx_ws cI cT [(cp_T aT, sT)]) H := hP
      have hD : va_D A (jx_ws cI cT [(cp_T aT, sT)]) := hD
      refine jx_cge C h.1 h.2.1 (tgt := 30) dX6_boxesOfLeaf_10 (by decide) (fun hc => ?_) (fun hc => ?_)
      · have h := h.2.2.2 hc
        refine lv_iload_n hx hb dX6_boxesOfLeaf_30 rfl (lv_at hl 2 rfl) ?_
        exact jx_rI C hr hlk hAe hS hQQ () hP h dX6_boxesOfLeaf_31
      · have h := h.2.2.1 hc
        refine lv_iload_n hx hb dX6_boxesOfLeaf_13 rfl (lv_at hl 2 rfl) ?_
        refine jx_iconst C dX6_boxesOfLeaf_14 ?_
        refine lv_aload_n hx hb dX6_boxesOfLeaf_15 rfl (lv_at hl 0 rfl) ?_
        refine lv_iload_n hx hb dX6_boxesOfLeaf_16 rfl (lv_at hl 1 rfl) ?_
        refine lv_iload_n hx hb dX6_boxesOfLeaf_17 rfl (lv_at hl 3 rfl) ?_
        refine jx_callVI C hK hP hD hS hA (ct_T_thingAt l D cI cT aT _ sT l1 l3 h) ms_X6_thingAt lk_X6_74 [0] rfl rfl (fun _ => rfl) (cs' := (fun _ => [(cp_T aT, sT)])) (fun _ => rfl) (fun _ => rfl) 0 0 rfl rfl rfl rfl rfl hl.1 rfl rfl dX6_boxesOfLeaf_18 ⟨Nat.le_refl _, Nat.le_refl _⟩ (fun r18 _ H locs h hP hD hS => ?_)
        have hP : va_P D vwCl (jx_ws cI cT [(cp_T aT, sT)]) H := hP
        have hD : va_D A (jx_ws cI cT [(cp_T aT, sT)]) := hD
        refine jx_ishl C dX6_boxesOfLeaf_21 ?_
        refine jx_ior C dX6_boxesOfLeaf_22 ?_
        refine lv_istore_n (lv' := [(2, .int (jx_i (jx_or l2 (jx_shl 1 r18)))), (0, .ref (aT 0)), (1, .int (jx_i l1)), (3, .int (jx_i l3))]) hx hb dX6_boxesOfLeaf_23 rfl hl (by decide) rfl (fun ls hl => ?_)
        refine jx_iinc C (lv' := [(3, .int (jx_i (l3 + 1))), (2, .int (jx_i (jx_or l2 (jx_shl 1 r18)))), (0, .ref (aT 0)), (1, .int (jx_i l1))]) dX6_boxesOfLeaf_24 hl (k := 3) rfl (by decide) rfl (fun ls hl => ?_)
        refine lv_goto (tgt := 4) hx hb dX6_boxesOfLeaf_27 (by decide) ?_
        exact ih (jx_or l2 (jx_shl 1 r18)) (l3 + 1) h _ _ hP hD hS ls (lv_sub hl [2, 3, 1, 0] rfl)
  refine jx_iconst C dX6_boxesOfLeaf_0 ?_
  refine lv_istore_n (lv' := [(2, .int (jx_i 0)), (0, .ref (aT 0)), (1, .int (jx_i l1))]) hx hb dX6_boxesOfLeaf_1 rfl hl (by decide) rfl (fun ls hl => ?_)
  refine jx_iconst C dX6_boxesOfLeaf_2 ?_
  refine lv_istore_n (lv' := [(3, .int (jx_i 0)), (2, .int (jx_i 0)), (0, .ref (aT 0)), (1, .int (jx_i l1))]) hx hb dX6_boxesOfLeaf_3 rfl hl (by decide) rfl (fun ls hl => ?_)
  obtain ⟨n, h⟩ := h
  refine Lo4 n 0 0 h _ _ hP hD hS ls (lv_sub hl [2, 3, 1, 0] rfl)
set_option maxRecDepth 100000 in
set_option maxHeartbeats 4000000 in
theorem ct_T_boxesTouching (l : Launch) (D : va_G) (cI cT : ClassId) (aT : Nat → Nat) (Q : Int → Prop) (sT : jx_St) (l1 : Int) (h : wp_T_boxesTouching Q sT l1) : jx_KI (Unit) l D cI cT yX6_boxesTouching cX6_boxesTouching 4 .int 2 43 [.ref (aT 0), .int (jx_i l1)] [(cp_T aT, sT)] (fun _ => [(cp_T aT, sT)]) (fun x _ => Q x) := by
  refine jx_ent (own := RX6) (by decide) rfl (Nat.le_of_ble_eq_true rfl) ?_
  intro p e s m args below meth c A QQ C hr hlk hK hAe hA hP hD hS ls hl hQQ
  have hl : lv_has ls 4 [(0, .ref (aT 0)), (1, .int (jx_i l1))] := hl
  have hx := C.1
  have hb := C.2.1
  unfold wp_T_boxesTouching at h
  have Lo4 : ∀ (n : Nat) (l2 : Int) (l3 : Int), jx_it (fun B4 v => wp_T_boxesTouching_4 Q sT l1 B4 v.1 v.2) n (l2, l3) → ∀ (H : Heap) (locs : List Loc), va_P D vwCl (jx_ws cI cT [(cp_T aT, sT)]) H → va_D A (jx_ws cI cT [(cp_T aT, sT)]) → va_S A s.heap H locs → ∀ ls : Array Slot, lv_has ls 4 [(0, .ref (aT 0)), (1, .int (jx_i l1)), (2, .int (jx_i l2)), (3, .int (jx_i l3))] → W p l e (jx_rm 2 43) s m args below meth c H locs 0 0 QQ (F0 m 4 ls []) := by
    intro n
    induction n with
    | zero =>
      intro l2 l3 h
      exact (show False from h).elim
    | succ n ih =>
      intro l2 l3 h H locs hP hD hS ls hl
      have h : wp_T_boxesTouching_4 Q sT l1 (jx_it (fun B4 v => wp_T_boxesTouching_4 Q sT l1 B4 v.1 v.2) n) l2 l3 := h
      have ih := fun l2 l3 h => ih l2 l3 h
      generalize jx_it (fun B4 v => wp_T_boxesTouching_4 Q sT l1 B4 v.1 v.2) n = B4 at h ih
      unfold wp_T_boxesTouching_4 at h
      have J29 : ∀ (l2 : Int) (l3 : Int), wp_T_boxesTouching_29 Q sT l1 B4 l2 l3 → ∀ (H : Heap) (locs : List Loc), va_P D vwCl (jx_ws cI cT [(cp_T aT, sT)]) H → va_D A (jx_ws cI cT [(cp_T aT, sT)]) → va_S A s.heap H locs → ∀ ls : Array Slot, lv_has ls 4 [(0, .ref (aT 0)), (1, .int (jx_i l1)), (2, .int (jx_i l2)), (3, .int (jx_i l3))] → W p l e (jx_rm 2 43) s m args below meth c H locs 0 0 QQ (F0 m 29 ls []) := by
        intro l2 l3 h H locs hP hD hS ls hl
        unfold wp_T_boxesTouching_29 at h
        refine jx_iinc C (lv' := [(3, .int (jx_i (l3 + 1))), (0, .ref (aT 0)), (1, .int (jx_i l1)), (2, .int (jx_i l2))]) dX6_boxesTouching_29 hl (k := 3) rfl (by decide) rfl (fun ls hl => ?_)
        refine lv_goto (tgt := 4) hx hb dX6_boxesTouching_32 (by decide) ?_
        exact ih l2 (l3 + 1) h _ _ hP hD hS ls (lv_sub hl [1, 2, 3, 0] rfl)
      refine lv_iload_n hx hb dX6_boxesTouching_4 rfl (lv_at hl 3 rfl) ?_
      refine jx_bipush C dX6_boxesTouching_5 (by decide) ?_
      refine jx_cge C h.1 (jx_inR (by decide) (by decide)) (tgt := 35) dX6_boxesTouching_7 (by decide) (fun hc => ?_) (fun hc => ?_)
      · have h := h.2.2 hc
        refine lv_iload_n hx hb dX6_boxesTouching_35 rfl (lv_at hl 2 rfl) ?_
        exact jx_rI C hr hlk hAe hS hQQ () hP h dX6_boxesTouching_36
      · have h := h.2.1 hc
        refine lv_aload_n hx hb dX6_boxesTouching_10 rfl (lv_at hl 0 rfl) ?_
        refine lv_iload_n hx hb dX6_boxesTouching_11 rfl (lv_at hl 3 rfl) ?_
        refine jx_iconst C dX6_boxesTouching_12 ?_
        refine jx_callVI C hK hP hD hS hA (ct_T_hull l D cI cT aT _ sT l3 0 h) ms_X6_hull lk_X6_82 [0] rfl rfl (fun _ => rfl) (cs' := (fun _ => [(cp_T aT, sT)])) (fun _ => rfl) (fun _ => rfl) 0 0 rfl rfl rfl rfl rfl hl.1 rfl rfl dX6_boxesTouching_13 ⟨Nat.le_refl _, Nat.le_refl _⟩ (fun r13 _ H locs h hP hD hS => ?_)
        have hP : va_P D vwCl (jx_ws cI cT [(cp_T aT, sT)]) H := hP
        have hD : va_D A (jx_ws cI cT [(cp_T aT, sT)]) := hD
        refine lv_iload_n hx hb dX6_boxesTouching_16 rfl (lv_at hl 1 rfl) ?_
        refine jx_callSI C hK hP hD hS hA (ct_Box_touch l D cI cT  _  r13 l1 h) ms_X0_touch lk_X6_85 [] rfl rfl (fun _ => rfl) (cs' := (fun _ => [(cp_T aT, sT)])) (fun _ => rfl) (fun _ => rfl) rfl rfl hl.1 rfl rfl dX6_boxesTouching_17 ⟨Nat.le_refl _, Nat.le_refl _⟩ (fun r17 _ H locs h hP hD hS => ?_)
        have hP : va_P D vwCl (jx_ws cI cT [(cp_T aT, sT)]) H := hP
        have hD : va_D A (jx_ws cI cT [(cp_T aT, sT)]) := hD
        refine jx_zeq C h.1 (tgt := 29) dX6_boxesTouching_20 (by decide) (fun hc => ?_) (fun hc => ?_)
        · have h := h.2.1 hc
          exact J29 l2 l3 h _ _ hP hD hS ls (lv_sub hl [0, 1, 2, 3] rfl)
        · have h := h.2.2 hc
          refine lv_iload_n hx hb dX6_boxesTouching_23 rfl (lv_at hl 2 rfl) ?_
          refine jx_iconst C dX6_boxesTouching_24 ?_
          refine lv_iload_n hx hb dX6_boxesTouching_25 rfl (lv_at hl 3 rfl) ?_
          refine jx_ishl C dX6_boxesTouching_26 ?_
          refine jx_ior C dX6_boxesTouching_27 ?_
          refine lv_istore_n (lv' := [(2, .int (jx_i (jx_or l2 (jx_shl 1 l3)))), (0, .ref (aT 0)), (1, .int (jx_i l1)), (3, .int (jx_i l3))]) hx hb dX6_boxesTouching_28 rfl hl (by decide) rfl (fun ls hl => ?_)
          exact J29 (jx_or l2 (jx_shl 1 l3)) l3 h _ _ hP hD hS ls (lv_sub hl [1, 2, 0, 3] rfl)
  refine jx_iconst C dX6_boxesTouching_0 ?_
  refine lv_istore_n (lv' := [(2, .int (jx_i 0)), (0, .ref (aT 0)), (1, .int (jx_i l1))]) hx hb dX6_boxesTouching_1 rfl hl (by decide) rfl (fun ls hl => ?_)
  refine jx_iconst C dX6_boxesTouching_2 ?_
  refine lv_istore_n (lv' := [(3, .int (jx_i 0)), (2, .int (jx_i 0)), (0, .ref (aT 0)), (1, .int (jx_i l1))]) hx hb dX6_boxesTouching_3 rfl hl (by decide) rfl (fun ls hl => ?_)
  obtain ⟨n, h⟩ := h
  refine Lo4 n 0 0 h _ _ hP hD hS ls (lv_sub hl [2, 3, 1, 0] rfl)
set_option maxRecDepth 100000 in
set_option maxHeartbeats 4000000 in
theorem ct_T_freeNumber (l : Launch) (D : va_G) (cI cT : ClassId) (aT : Nat → Nat) (Q : Int → Prop) (sT : jx_St) (h : wp_T_freeNumber Q sT) : jx_KI (Unit) l D cI cT yX6_freeNumber cX6_freeNumber 2 .int 2 42 [.ref (aT 0)] [(cp_T aT, sT)] (fun _ => [(cp_T aT, sT)]) (fun x _ => Q x) := by
  refine jx_ent (own := RX6) (by decide) rfl (Nat.le_of_ble_eq_true rfl) ?_
  intro p e s m args below meth c A QQ C hr hlk hK hAe hA hP hD hS ls hl hQQ
  have hl : lv_has ls 2 [(0, .ref (aT 0))] := hl
  have hx := C.1
  have hb := C.2.1
  unfold wp_T_freeNumber at h
  have Lo2 : ∀ (n : Nat) (l1 : Int), jx_it (fun B2 v => wp_T_freeNumber_2 Q sT B2 v) n l1 → ∀ (H : Heap) (locs : List Loc), va_P D vwCl (jx_ws cI cT [(cp_T aT, sT)]) H → va_D A (jx_ws cI cT [(cp_T aT, sT)]) → va_S A s.heap H locs → ∀ ls : Array Slot, lv_has ls 2 [(0, .ref (aT 0)), (1, .int (jx_i l1))] → W p l e (jx_rm 2 42) s m args below meth c H locs 0 0 QQ (F0 m 2 ls []) := by
    intro n
    induction n with
    | zero =>
      intro l1 h
      exact (show False from h).elim
    | succ n ih =>
      intro l1 h H locs hP hD hS ls hl
      have h : wp_T_freeNumber_2 Q sT (jx_it (fun B2 v => wp_T_freeNumber_2 Q sT B2 v) n) l1 := h
      have ih := fun l1 h => ih l1 h
      generalize jx_it (fun B2 v => wp_T_freeNumber_2 Q sT B2 v) n = B2 at h ih
      unfold wp_T_freeNumber_2 at h
      refine lv_iload_n hx hb dX6_freeNumber_2 rfl (lv_at hl 1 rfl) ?_
      refine jx_bipush C dX6_freeNumber_3 (by decide) ?_
      refine jx_cge C h.1 (jx_inR (by decide) (by decide)) (tgt := 24) dX6_freeNumber_5 (by decide) (fun hc => ?_) (fun hc => ?_)
      · have h := h.2.2 hc
        refine jx_iconst C dX6_freeNumber_24 ?_
        exact jx_rI C hr hlk hAe hS hQQ () hP h dX6_freeNumber_25
      · have h := h.2.1 hc
        refine lv_aload_n hx hb dX6_freeNumber_8 rfl (lv_at hl 0 rfl) ?_
        refine lv_iload_n hx hb dX6_freeNumber_9 rfl (lv_at hl 1 rfl) ?_
        refine jx_callVI C hK hP hD hS hA (ct_T_has l D cI cT aT _ sT l1 h) ms_X6_has lk_X6_78 [0] rfl rfl (fun _ => rfl) (cs' := (fun _ => [(cp_T aT, sT)])) (fun _ => rfl) (fun _ => rfl) 0 0 rfl rfl rfl rfl rfl hl.1 rfl rfl dX6_freeNumber_10 ⟨Nat.le_refl _, Nat.le_refl _⟩ (fun r10 _ H locs h hP hD hS => ?_)
        have hP : va_P D vwCl (jx_ws cI cT [(cp_T aT, sT)]) H := hP
        have hD : va_D A (jx_ws cI cT [(cp_T aT, sT)]) := hD
        refine jx_zne C h.1 (tgt := 18) dX6_freeNumber_13 (by decide) (fun hc => ?_) (fun hc => ?_)
        · have h := h.2.2 hc
          refine jx_iinc C (lv' := [(1, .int (jx_i (l1 + 1))), (0, .ref (aT 0))]) dX6_freeNumber_18 hl (k := 1) rfl (by decide) rfl (fun ls hl => ?_)
          refine lv_goto (tgt := 2) hx hb dX6_freeNumber_21 (by decide) ?_
          exact ih (l1 + 1) h _ _ hP hD hS ls (lv_sub hl [1, 0] rfl)
        · have h := h.2.1 hc
          refine lv_iload_n hx hb dX6_freeNumber_16 rfl (lv_at hl 1 rfl) ?_
          exact jx_rI C hr hlk hAe hS hQQ () hP h dX6_freeNumber_17
  refine jx_iconst C dX6_freeNumber_0 ?_
  refine lv_istore_n (lv' := [(1, .int (jx_i 0)), (0, .ref (aT 0))]) hx hb dX6_freeNumber_1 rfl hl (by decide) rfl (fun ls hl => ?_)
  obtain ⟨n, h⟩ := h
  refine Lo2 n 0 h _ _ hP hD hS ls (lv_sub hl [1, 0] rfl)
set_option maxRecDepth 100000 in
set_option maxHeartbeats 4000000 in
theorem ct_T_height (l : Launch) (D : va_G) (cI cT : ClassId) (aT : Nat → Nat) (Q : Int → Prop) (sT : jx_St) (h : wp_T_height Q sT) : jx_KI (Unit) l D cI cT yX6_height cX6_height 1 .int 2 42 [.ref (aT 0)] [(cp_T aT, sT)] (fun _ => [(cp_T aT, sT)]) (fun x _ => Q x) := by
  refine jx_ent (own := RX6) (by decide) rfl (Nat.le_of_ble_eq_true rfl) ?_
  intro p e s m args below meth c A QQ C hr hlk hK hAe hA hP hD hS ls hl hQQ
  have hl : lv_has ls 1 [(0, .ref (aT 0))] := hl
  have hx := C.1
  have hb := C.2.1
  unfold wp_T_height at h
  refine lv_aload_n hx hb dX6_height_0 rfl (lv_at hl 0 rfl) ?_
  refine lv_aload_n hx hb dX6_height_1 rfl (lv_at hl 0 rfl) ?_
  refine jx_getI C hK hP 0 0 7 rfl rfl rfl fl_X6_43 dX6_height_2 ?_
  refine jx_callVI C hK hP hD hS hA (ct_T_levelOf l D cI cT aT _ sT (sT 7 0) h) ms_X6_levelOf lk_X6_68 [0] rfl rfl (fun _ => rfl) (cs' := (fun _ => [(cp_T aT, sT)])) (fun _ => rfl) (fun _ => rfl) 0 0 rfl rfl rfl rfl rfl hl.1 rfl rfl dX6_height_5 ⟨Nat.le_refl _, Nat.le_refl _⟩ (fun r5 _ H locs h hP hD hS => ?_)
  have hP : va_P D vwCl (jx_ws cI cT [(cp_T aT, sT)]) H := hP
  have hD : va_D A (jx_ws cI cT [(cp_T aT, sT)]) := hD
  refine jx_iconst C dX6_height_8 ?_
  refine jx_iadd C dX6_height_9 ?_
  exact jx_rI C hr hlk hAe hS hQQ () hP h dX6_height_10
