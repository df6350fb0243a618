set_option maxRecDepth 100000 in
set_option maxHeartbeats 4000000 in
theorem ct_S_note (l : Launch) (D : va_G) (cI cT : ClassId) (aS : Nat → Nat) (aT : Nat → Nat) (Q : jx_St → Prop) (sS : jx_St) (l1 : Int) (h : wp_S_note Q sS l1) : jx_KV jx_St l D cI cT yX5_note cX5_note 2 1 22 [.ref (aS 0), .int (jx_i l1)] [(cp_S aS (aT 0), sS)] (fun u => [(cp_S aS (aT 0), u)]) Q := by
  refine jx_ent (own := RX5) (by decide) rfl (Nat.le_of_ble_eq_true rfl) ?_
  intro p e s m args below meth c A QQ C hr hlk hK hAe hA hP hD hS ls hl hQQ
  have hl : lv_has ls 2 [(0, .ref (aS 0)), (1, .int (jx_i l1))] := hl
  have hx := C.1
  have hb := C.2.1
  unfold wp_S_note at h
  refine lv_aload_n hx hb dX5_note_0 rfl (lv_at hl 0 rfl) ?_
  refine jx_getI C hK hP 0 0 2 rfl rfl rfl fl_X5_19 dX5_note_1 ?_
  refine jx_bipush C dX5_note_4 (by decide) ?_
  refine jx_cge C h.1 (jx_inR (by decide) (by decide)) (tgt := 31) dX5_note_6 (by decide) (fun hc => ?_) (fun hc => ?_)
  · have h := h.2.2 hc
    exact jx_rV C hr hlk hAe hS hQQ sS hP h dX5_note_31
  · have h := h.2.1 hc
    refine lv_aload_n hx hb dX5_note_9 rfl (lv_at hl 0 rfl) ?_
    refine jx_getR C hK hP 0 0 1 rfl rfl rfl fl_X5_9 dX5_note_10 ?_
    refine lv_aload_n hx hb dX5_note_13 rfl (lv_at hl 0 rfl) ?_
    refine jx_getI C hK hP 0 0 2 rfl rfl rfl fl_X5_19 dX5_note_14 ?_
    refine lv_iload_n hx hb dX5_note_17 rfl (lv_at hl 1 rfl) ?_
    refine jx_rowsSet C hK hP hD hS hA 0 1 rfl rfl rfl rfl h.1 lk_X5_46 rfl hl.1 rfl rfl dX5_note_18 ⟨Nat.le_refl _, Nat.le_refl _⟩ (fun H locs hP hD hS => ?_)
    have h := h.2
    have hP : va_P D vwCl (jx_ws cI cT [(cp_S aS (aT 0), (jx_se 32 sS 1 (sS 2 0) l1))]) H := hP
    have hD : va_D A (jx_ws cI cT [(cp_S aS (aT 0), (jx_se 32 sS 1 (sS 2 0) l1))]) := hD
    refine lv_aload_n hx hb dX5_note_21 rfl (lv_at hl 0 rfl) ?_
    refine lv_dup hx hb dX5_note_22 rfl ?_
    refine jx_getI C hK hP 0 0 2 rfl rfl rfl fl_X5_19 dX5_note_23 ?_
    refine jx_iconst C dX5_note_26 ?_
    refine jx_iadd C dX5_note_27 ?_
    refine jx_putI C hK hP hD hS 0 0 2 rfl rfl rfl rfl rfl fl_X5_19 fw_X5_2 ⟨rfl, rfl⟩ rfl dX5_note_28 (fun H locs hP hD hS => ?_)
    have hP : va_P D vwCl (jx_ws cI cT [(cp_S aS (aT 0), (jx_su (jx_se 32 sS 1 (sS 2 0) l1) 2 0 (((jx_se 32 sS 1 (sS 2 0) l1) 2 0) + 1)))]) H := hP
    have hD : va_D A (jx_ws cI cT [(cp_S aS (aT 0), (jx_su (jx_se 32 sS 1 (sS 2 0) l1) 2 0 (((jx_se 32 sS 1 (sS 2 0) l1) 2 0) + 1)))]) := hD
    exact jx_rV C hr hlk hAe hS hQQ (jx_su (jx_se 32 sS 1 (sS 2 0) l1) 2 0 (((jx_se 32 sS 1 (sS 2 0) l1) 2 0) + 1)) hP h dX5_note_31
set_option maxRecDepth 100000 in
set_option maxHeartbeats 4000000 in
theorem ct_S_lookFrom (l : Launch) (D : va_G) (cI cT : ClassId) (aS : Nat → Nat) (aT : Nat → Nat) (Q : jx_St → Prop) (sS : jx_St) (sT : jx_St) (l1 : Int) (h : wp_S_lookFrom Q sS sT l1) : jx_KV jx_St l D cI cT yX5_lookFrom cX5_lookFrom 6 2 43 [.ref (aS 0), .int (jx_i l1)] [(cp_S aS (aT 0), sS), (cp_T aT, sT)] (fun u => [(cp_S aS (aT 0), u), (cp_T aT, sT)]) Q := by
  refine jx_ent (own := RX5) (by decide) rfl (Nat.le_of_ble_eq_true rfl) ?_
  intro p e s m args below meth c A QQ C hr hlk hK hAe hA hP hD hS ls hl hQQ
  have hl : lv_has ls 6 [(0, .ref (aS 0)), (1, .int (jx_i l1))] := hl
  have hx := C.1
  have hb := C.2.1
  unfold wp_S_lookFrom at h
  have Lo12 : ∀ (n : Nat) (sS : jx_St) (l2 : Int), jx_it (fun B12 v => wp_S_lookFrom_12 Q sT l1 B12 v.1 v.2) n (sS, l2) → ∀ (H : Heap) (locs : List Loc), va_P D vwCl (jx_ws cI cT [(cp_S aS (aT 0), sS), (cp_T aT, sT)]) H → va_D A (jx_ws cI cT [(cp_S aS (aT 0), sS), (cp_T aT, sT)]) → va_S A s.heap H locs → ∀ ls : Array Slot, lv_has ls 6 [(0, .ref (aS 0)), (2, .int (jx_i l2))] → W p l e (jx_rm 2 43) s m args below meth c H locs 0 0 QQ (F0 m 12 ls []) := by
    intro n
    induction n with
    | zero =>
      intro sS l2 h
      exact (show False from h).elim
    | succ n ih =>
      intro sS l2 h H locs hP hD hS ls hl
      have h : wp_S_lookFrom_12 Q sT l1 (jx_it (fun B12 v => wp_S_lookFrom_12 Q sT l1 B12 v.1 v.2) n) sS l2 := h
      have ih := fun sS l2 h => ih sS l2 h
      generalize jx_it (fun B12 v => wp_S_lookFrom_12 Q sT l1 B12 v.1 v.2) n = B12 at h ih
      unfold wp_S_lookFrom_12 at h
      have Lo63 : ∀ (l2 : Int) (l3 : Int) (l4 : Int) (K90 : jx_St → Prop) (n : Nat) (sS : jx_St) (l5 : Int), jx_it (fun B63 v => wp_S_lookFrom_63 Q sT l1 K90 l2 l3 l4 B63 v.1 v.2) n (sS, l5) → (∀ (sS : jx_St), K90 sS → ∀ (H : Heap) (locs : List Loc), va_P D vwCl (jx_ws cI cT [(cp_S aS (aT 0), sS), (cp_T aT, sT)]) H → va_D A (jx_ws cI cT [(cp_S aS (aT 0), sS), (cp_T aT, sT)]) → va_S A s.heap H locs → ∀ ls : Array Slot, lv_has ls 6 [(0, .ref (aS 0)), (2, .int (jx_i l2))] → W p l e (jx_rm 2 43) s m args below meth c H locs 0 0 QQ (F0 m 90 ls [])) → ∀ (H : Heap) (locs : List Loc), va_P D vwCl (jx_ws cI cT [(cp_S aS (aT 0), sS), (cp_T aT, sT)]) H → va_D A (jx_ws cI cT [(cp_S aS (aT 0), sS), (cp_T aT, sT)]) → va_S A s.heap H locs → ∀ ls : Array Slot, lv_has ls 6 [(0, .ref (aS 0)), (2, .int (jx_i l2)), (3, .int (jx_i l3)), (4, .int (jx_i l4)), (5, .int (jx_i l5))] → W p l e (jx_rm 2 43) s m args below meth c H locs 0 0 QQ (F0 m 63 ls []) := by
        intro l2 l3 l4 K90 n
        induction n with
        | zero =>
          intro sS l5 h
          exact (show False from h).elim
        | succ n ih =>
          intro sS l5 h K90E H locs hP hD hS ls hl
          have h : wp_S_lookFrom_63 Q sT l1 K90 l2 l3 l4 (jx_it (fun B63 v => wp_S_lookFrom_63 Q sT l1 K90 l2 l3 l4 B63 v.1 v.2) n) sS l5 := h
          have ih := fun sS l5 h => ih sS l5 h K90E
          generalize jx_it (fun B63 v => wp_S_lookFrom_63 Q sT l1 K90 l2 l3 l4 B63 v.1 v.2) n = B63 at h ih
          unfold wp_S_lookFrom_63 at h
          refine lv_iload hx hb dX5_lookFrom_63 (lv_at hl 4 rfl) ?_
          refine lv_iload hx hb dX5_lookFrom_65 (lv_at hl 3 rfl) ?_
          refine jx_cge C h.1 h.2.1 (tgt := 90) dX5_lookFrom_67 (by decide) (fun hc => ?_) (fun hc => ?_)
          · have h := h.2.2.2 hc
            exact K90E sS h _ _ hP hD hS ls (lv_sub hl [0, 1] rfl)
          · have h := h.2.2.1 hc
            refine lv_aload_n hx hb dX5_lookFrom_70 rfl (lv_at hl 0 rfl) ?_
            refine lv_aload_n hx hb dX5_lookFrom_71 rfl (lv_at hl 0 rfl) ?_
            refine jx_getR C hK hP 0 0 0 rfl rfl rfl fl_X5_15 dX5_lookFrom_72 ?_
            refine lv_iload_n hx hb dX5_lookFrom_75 rfl (lv_at hl 2 rfl) ?_
            refine lv_iload hx hb dX5_lookFrom_76 (lv_at hl 4 rfl) ?_
            refine jx_callVI C hK hP hD hS hA (ct_T_thingAt l D cI cT aT _ sT l3 l5 h) ms_X6_thingAt lk_X5_42 [1] rfl rfl (fun _ => rfl) (cs' := (fun _ => [(cp_S aS (aT 0), sS), (cp_T aT, sT)])) (fun _ => rfl) (fun _ => rfl) 1 0 rfl rfl rfl rfl rfl hl.1 rfl rfl dX5_lookFrom_78 ⟨Nat.le_refl _, Nat.le_refl _⟩ (fun r78 _ H locs h hP hD hS => ?_)
            have hP : va_P D vwCl (jx_ws cI cT [(cp_S aS (aT 0), sS), (cp_T aT, sT)]) H := hP
            have hD : va_D A (jx_ws cI cT [(cp_S aS (aT 0), sS), (cp_T aT, sT)]) := hD
            refine jx_callVV C hK hP hD hS hA (ct_S_note l D cI cT aS aT _ sS r78 h) ms_X5_note lk_X5_23 [0] rfl rfl (fun _ => rfl) (cs' := (fun u => [(cp_S aS (aT 0), u), (cp_T aT, sT)])) (fun _ => rfl) (fun _ => rfl) 0 0 rfl rfl rfl rfl rfl hl.1 rfl rfl dX5_lookFrom_81 ⟨Nat.le_refl _, Nat.le_refl _⟩ (fun sS_81 H locs h hP hD hS => ?_)
            have hP : va_P D vwCl (jx_ws cI cT [(cp_S aS (aT 0), sS_81), (cp_T aT, sT)]) H := hP
            have hD : va_D A (jx_ws cI cT [(cp_S aS (aT 0), sS_81), (cp_T aT, sT)]) := hD
            refine jx_iinc C (lv' := [(5, .int (jx_i (l5 + 1))), (0, .ref (aS 0)), (2, .int (jx_i l2)), (3, .int (jx_i l3)), (4, .int (jx_i l4))]) dX5_lookFrom_84 hl (k := 4) rfl (by decide) rfl (fun ls hl => ?_)
            refine lv_goto (tgt := 63) hx hb dX5_lookFrom_87 (by decide) ?_
            exact ih sS_81 (l5 + 1) h _ _ hP hD hS ls (lv_sub hl [1, 2, 3, 4, 0] rfl)
      have J90 : ∀ (sS : jx_St) (l2 : Int), wp_S_lookFrom_90 Q sT l1 B12 sS l2 → ∀ (H : Heap) (locs : List Loc), va_P D vwCl (jx_ws cI cT [(cp_S aS (aT 0), sS), (cp_T aT, sT)]) H → va_D A (jx_ws cI cT [(cp_S aS (aT 0), sS), (cp_T aT, sT)]) → va_S A s.heap H locs → ∀ ls : Array Slot, lv_has ls 6 [(0, .ref (aS 0)), (2, .int (jx_i l2))] → W p l e (jx_rm 2 43) s m args below meth c H locs 0 0 QQ (F0 m 90 ls []) := by
        intro sS l2 h H locs hP hD hS ls hl
        unfold wp_S_lookFrom_90 at h
        refine jx_iinc C (lv' := [(2, .int (jx_i (l2 + 1))), (0, .ref (aS 0))]) dX5_lookFrom_90 hl (k := 1) rfl (by decide) rfl (fun ls hl => ?_)
        refine lv_goto (tgt := 12) hx hb dX5_lookFrom_93 (by decide) ?_
        exact ih sS (l2 + 1) h _ _ hP hD hS ls (lv_sub hl [1, 0] rfl)
      have J58 : ∀ (sS : jx_St) (l2 : Int) (l3 : Int) (t0 : Int), wp_S_lookFrom_58 Q sT l1 B12 sS l2 l3 t0 → ∀ (H : Heap) (locs : List Loc), va_P D vwCl (jx_ws cI cT [(cp_S aS (aT 0), sS), (cp_T aT, sT)]) H → va_D A (jx_ws cI cT [(cp_S aS (aT 0), sS), (cp_T aT, sT)]) → va_S A s.heap H locs → ∀ ls : Array Slot, lv_has ls 6 [(0, .ref (aS 0)), (2, .int (jx_i l2)), (3, .int (jx_i l3))] → W p l e (jx_rm 2 43) s m args below meth c H locs 0 0 QQ (F0 m 58 ls [.int (jx_i t0)]) := by
        intro sS l2 l3 t0 h H locs hP hD hS ls hl
        unfold wp_S_lookFrom_58 at h
        refine lv_istore (lv' := [(4, .int (jx_i t0)), (0, .ref (aS 0)), (2, .int (jx_i l2)), (3, .int (jx_i l3))]) hx hb dX5_lookFrom_58 hl (by decide) rfl (fun ls hl => ?_)
        refine jx_iconst C dX5_lookFrom_60 ?_
        refine lv_istore (lv' := [(5, .int (jx_i 0)), (4, .int (jx_i t0)), (0, .ref (aS 0)), (2, .int (jx_i l2)), (3, .int (jx_i l3))]) hx hb dX5_lookFrom_61 hl (by decide) rfl (fun ls hl => ?_)
        obtain ⟨n, h⟩ := h
        refine Lo63 l2 l3 t0 _ n sS 0 h ?_ _ _ hP hD hS ls (lv_sub hl [2, 3, 4, 1, 0] rfl)
        · intro sS h H locs hP hD hS ls hl
          exact J90 sS l2 h _ _ hP hD hS ls (lv_sub hl [0, 1] rfl)
      refine lv_iload_n hx hb dX5_lookFrom_12 rfl (lv_at hl 1 rfl) ?_
      refine jx_bipush C dX5_lookFrom_13 (by decide) ?_
      refine jx_cge C h.1 (jx_inR (by decide) (by decide)) (tgt := 96) dX5_lookFrom_15 (by decide) (fun hc => ?_) (fun hc => ?_)
      · have h := h.2.2 hc
        exact jx_rV C hr hlk hAe hS hQQ sS hP h dX5_lookFrom_96
      · have h := h.2.1 hc
        refine lv_iload_n hx hb dX5_lookFrom_18 rfl (lv_at hl 1 rfl) ?_
        refine lv_aload_n hx hb dX5_lookFrom_19 rfl (lv_at hl 0 rfl) ?_
        refine jx_getI C hK hP 0 0 2 rfl rfl rfl fl_X5_19 dX5_lookFrom_20 ?_
        refine jx_cge C h.1 h.2.1 (tgt := 96) dX5_lookFrom_23 (by decide) (fun hc => ?_) (fun hc => ?_)
        · have h := h.2.2.2 hc
          exact jx_rV C hr hlk hAe hS hQQ sS hP h dX5_lookFrom_96
        · have h := h.2.2.1 hc
          refine lv_aload_n hx hb dX5_lookFrom_26 rfl (lv_at hl 0 rfl) ?_
          refine jx_getR C hK hP 0 0 1 rfl rfl rfl fl_X5_9 dX5_lookFrom_27 ?_
          refine lv_iload_n hx hb dX5_lookFrom_30 rfl (lv_at hl 1 rfl) ?_
          refine jx_rowsAt C hK hP hD hS hA 0 1 rfl rfl rfl rfl h.1 lk_X5_27 hl.1 rfl rfl dX5_lookFrom_31 ⟨Nat.le_refl _, Nat.le_refl _⟩ (fun H locs hP hS => ?_)
          have h := h.2
          refine lv_istore_n (lv' := [(3, .int (jx_i (jx_at 32 (sS 1) l2))), (0, .ref (aS 0)), (2, .int (jx_i l2))]) hx hb dX5_lookFrom_34 rfl hl (by decide) rfl (fun ls hl => ?_)
          refine lv_aload_n hx hb dX5_lookFrom_35 rfl (lv_at hl 1 rfl) ?_
          refine jx_getR C hK hP 0 0 0 rfl rfl rfl fl_X5_15 dX5_lookFrom_36 ?_
          refine lv_iload_n hx hb dX5_lookFrom_39 rfl (lv_at hl 0 rfl) ?_
          refine jx_callVI C hK hP hD hS hA (ct_T_levelOf l D cI cT aT _ sT (jx_at 32 (sS 1) l2) h) ms_X6_levelOf lk_X5_33 [1] rfl rfl (fun _ => rfl) (cs' := (fun _ => [(cp_S aS (aT 0), sS), (cp_T aT, sT)])) (fun _ => rfl) (fun _ => rfl) 1 0 rfl rfl rfl rfl rfl hl.1 rfl rfl dX5_lookFrom_40 ⟨Nat.le_refl _, Nat.le_refl _⟩ (fun r40 _ H locs h hP hD hS => ?_)
          have hP : va_P D vwCl (jx_ws cI cT [(cp_S aS (aT 0), sS), (cp_T aT, sT)]) H := hP
          have hD : va_D A (jx_ws cI cT [(cp_S aS (aT 0), sS), (cp_T aT, sT)]) := hD
          refine jx_zle C h.1 (tgt := 57) dX5_lookFrom_43 (by decide) (fun hc => ?_) (fun hc => ?_)
          · have h := h.2.1 hc
            refine jx_iconst C dX5_lookFrom_57 ?_
            exact J58 sS l2 (jx_at 32 (sS 1) l2) 0 h _ _ hP hD hS ls (lv_sub hl [1, 2, 0] rfl)
          · have h := h.2.2 hc
            refine lv_aload_n hx hb dX5_lookFrom_46 rfl (lv_at hl 1 rfl) ?_
            refine jx_getR C hK hP 0 0 0 rfl rfl rfl fl_X5_15 dX5_lookFrom_47 ?_
            refine lv_iload_n hx hb dX5_lookFrom_50 rfl (lv_at hl 0 rfl) ?_
            refine jx_callVI C hK hP hD hS hA (ct_T_sizeOf l D cI cT aT _ sT (jx_at 32 (sS 1) l2) h) ms_X6_sizeOf lk_X5_39 [1] rfl rfl (fun _ => rfl) (cs' := (fun _ => [(cp_S aS (aT 0), sS), (cp_T aT, sT)])) (fun _ => rfl) (fun _ => rfl) 1 0 rfl rfl rfl rfl rfl hl.1 rfl rfl dX5_lookFrom_51 ⟨Nat.le_refl _, Nat.le_refl _⟩ (fun r51 _ H locs h hP hD hS => ?_)
            have hP : va_P D vwCl (jx_ws cI cT [(cp_S aS (aT 0), sS), (cp_T aT, sT)]) H := hP
            have hD : va_D A (jx_ws cI cT [(cp_S aS (aT 0), sS), (cp_T aT, sT)]) := hD
            refine lv_goto (tgt := 58) hx hb dX5_lookFrom_54 (by decide) ?_
            exact J58 sS l2 (jx_at 32 (sS 1) l2) r51 h _ _ hP hD hS ls (lv_sub hl [1, 2, 0] rfl)
  refine lv_aload_n hx hb dX5_lookFrom_0 rfl (lv_at hl 0 rfl) ?_
  refine jx_iconst C dX5_lookFrom_1 ?_
  refine jx_putI C hK hP hD hS 0 0 2 rfl rfl rfl rfl rfl fl_X5_19 fw_X5_2 ⟨rfl, rfl⟩ rfl dX5_lookFrom_2 (fun H locs hP hD hS => ?_)
  have hP : va_P D vwCl (jx_ws cI cT [(cp_S aS (aT 0), (jx_su sS 2 0 0)), (cp_T aT, sT)]) H := hP
  have hD : va_D A (jx_ws cI cT [(cp_S aS (aT 0), (jx_su sS 2 0 0)), (cp_T aT, sT)]) := hD
  refine lv_aload_n hx hb dX5_lookFrom_5 rfl (lv_at hl 0 rfl) ?_
  refine lv_iload_n hx hb dX5_lookFrom_6 rfl (lv_at hl 1 rfl) ?_
  refine jx_callVV C hK hP hD hS hA (ct_S_note l D cI cT aS aT _ (jx_su sS 2 0 0) l1 h) ms_X5_note lk_X5_23 [0] rfl rfl (fun _ => rfl) (cs' := (fun u => [(cp_S aS (aT 0), u), (cp_T aT, sT)])) (fun _ => rfl) (fun _ => rfl) 0 0 rfl rfl rfl rfl rfl hl.1 rfl rfl dX5_lookFrom_7 ⟨Nat.le_refl _, Nat.le_refl _⟩ (fun sS_7 H locs h hP hD hS => ?_)
  have hP : va_P D vwCl (jx_ws cI cT [(cp_S aS (aT 0), sS_7), (cp_T aT, sT)]) H := hP
  have hD : va_D A (jx_ws cI cT [(cp_S aS (aT 0), sS_7), (cp_T aT, sT)]) := hD
  refine jx_iconst C dX5_lookFrom_10 ?_
  refine lv_istore_n (lv' := [(2, .int (jx_i 0)), (0, .ref (aS 0)), (1, .int (jx_i l1))]) hx hb dX5_lookFrom_11 rfl hl (by decide) rfl (fun ls hl => ?_)
  obtain ⟨n, h⟩ := h
  refine Lo12 n sS_7 0 h _ _ hP hD hS ls (lv_sub hl [1, 0] rfl)
set_option maxRecDepth 100000 in
set_option maxHeartbeats 4000000 in
theorem ct_S_nodeSeen (l : Launch) (D : va_G) (cI cT : ClassId) (aS : Nat → Nat) (aT : Nat → Nat) (Q : Int → Prop) (sS : jx_St) (l1 : Int) (h : wp_S_nodeSeen Q sS l1) : jx_KI (Unit) l D cI cT yX5_nodeSeen cX5_nodeSeen 2 .int 1 21 [.ref (aS 0), .int (jx_i l1)] [(cp_S aS (aT 0), sS)] (fun _ => [(cp_S aS (aT 0), sS)]) (fun x _ => Q x) := by
  refine jx_ent (own := RX5) (by decide) rfl (Nat.le_of_ble_eq_true rfl) ?_
  intro p e s m args below meth c A QQ C hr hlk hK hAe hA hP hD hS ls hl hQQ
  have hl : lv_has ls 2 [(0, .ref (aS 0)), (1, .int (jx_i l1))] := hl
  have hx := C.1
  have hb := C.2.1
  unfold wp_S_nodeSeen at h
  refine lv_aload_n hx hb dX5_nodeSeen_0 rfl (lv_at hl 0 rfl) ?_
  refine jx_getR C hK hP 0 0 1 rfl rfl rfl fl_X5_9 dX5_nodeSeen_1 ?_
  refine lv_iload_n hx hb dX5_nodeSeen_4 rfl (lv_at hl 1 rfl) ?_
  refine jx_rowsAt C hK hP hD hS hA 0 1 rfl rfl rfl rfl h.1 lk_X5_27 hl.1 rfl rfl dX5_nodeSeen_5 ⟨Nat.le_refl _, Nat.le_refl _⟩ (fun H locs hP hS => ?_)
  have h := h.2
  exact jx_rI C hr hlk hAe hS hQQ () hP h dX5_nodeSeen_8
set_option maxRecDepth 100000 in
set_option maxHeartbeats 4000000 in
theorem ct_S_levelSeen (l : Launch) (D : va_G) (cI cT : ClassId) (aS : Nat → Nat) (aT : Nat → Nat) (Q : Int → Prop) (sS : jx_St) (sT : jx_St) (l1 : Int) (h : wp_S_levelSeen Q sS sT l1) : jx_KI (Unit) l D cI cT yX5_levelSeen cX5_levelSeen 2 .int 2 42 [.ref (aS 0), .int (jx_i l1)] [(cp_S aS (aT 0), sS), (cp_T aT, sT)] (fun _ => [(cp_S aS (aT 0), sS), (cp_T aT, sT)]) (fun x _ => Q x) := by
  refine jx_ent (own := RX5) (by decide) rfl (Nat.le_of_ble_eq_true rfl) ?_
  intro p e s m args below meth c A QQ C hr hlk hK hAe hA hP hD hS ls hl hQQ
  have hl : lv_has ls 2 [(0, .ref (aS 0)), (1, .int (jx_i l1))] := hl
  have hx := C.1
  have hb := C.2.1
  unfold wp_S_levelSeen at h
  refine lv_aload_n hx hb dX5_levelSeen_0 rfl (lv_at hl 0 rfl) ?_
  refine jx_getR C hK hP 0 0 0 rfl rfl rfl fl_X5_15 dX5_levelSeen_1 ?_
  refine lv_aload_n hx hb dX5_levelSeen_4 rfl (lv_at hl 0 rfl) ?_
  refine lv_iload_n hx hb dX5_levelSeen_5 rfl (lv_at hl 1 rfl) ?_
  refine jx_callVI C hK hP hD hS hA (ct_S_nodeSeen l D cI cT aS aT _ sS l1 h) ms_X5_nodeSeen lk_X5_53 [0] rfl rfl (fun _ => rfl) (cs' := (fun _ => [(cp_S aS (aT 0), sS), (cp_T aT, sT)])) (fun _ => rfl) (fun _ => rfl) 0 0 rfl rfl rfl rfl rfl hl.1 rfl rfl dX5_levelSeen_6 ⟨Nat.le_refl _, Nat.le_refl _⟩ (fun r6 _ H locs h hP hD hS => ?_)
  have hP : va_P D vwCl (jx_ws cI cT [(cp_S aS (aT 0), sS), (cp_T aT, sT)]) H := hP
  have hD : va_D A (jx_ws cI cT [(cp_S aS (aT 0), sS), (cp_T aT, sT)]) := hD
  refine jx_callVI C hK hP hD hS hA (ct_T_levelOf l D cI cT aT _ sT r6 h) ms_X6_levelOf lk_X5_33 [1] rfl rfl (fun _ => rfl) (cs' := (fun _ => [(cp_S aS (aT 0), sS), (cp_T aT, sT)])) (fun _ => rfl) (fun _ => rfl) 1 0 rfl rfl rfl rfl rfl hl.1 rfl rfl dX5_levelSeen_9 ⟨Nat.le_refl _, Nat.le_refl _⟩ (fun r9 _ H locs h hP hD hS => ?_)
  have hP : va_P D vwCl (jx_ws cI cT [(cp_S aS (aT 0), sS), (cp_T aT, sT)]) H := hP
  have hD : va_D A (jx_ws cI cT [(cp_S aS (aT 0), sS), (cp_T aT, sT)]) := hD
  exact jx_rI C hr hlk hAe hS hQQ () hP h dX5_levelSeen_12
set_option maxRecDepth 100000 in
set_option maxHeartbeats 4000000 in
theorem ct_S_boxesBelow (l : Launch) (D : va_G) (cI cT : ClassId) (aS : Nat → Nat) (aT : Nat → Nat) (Q : Int → jx_St → Prop) (sS : jx_St) (sT : jx_St) (l1 : Int) (h : wp_S_boxesBelow Q sS sT l1) : jx_KI jx_St l D cI cT yX5_boxesBelow cX5_boxesBelow 4 .int 3 68 [.ref (aS 0), .int (jx_i l1)] [(cp_S aS (aT 0), sS), (cp_T aT, sT)] (fun u => [(cp_S aS (aT 0), u), (cp_T aT, sT)]) Q := by
  refine jx_ent (own := RX5) (by decide) rfl (Nat.le_of_ble_eq_true rfl) ?_
  intro p e s m args below meth c A QQ C hr hlk hK hAe hA hP hD hS ls hl hQQ
  have hl : lv_has ls 4 [(0, .ref (aS 0)), (1, .int (jx_i l1))] := hl
  have hx := C.1
  have hb := C.2.1
  unfold wp_S_boxesBelow at h
  have Lo9 : ∀ (sS : jx_St) (n : Nat) (l2 : Int) (l3 : Int), jx_it (fun B9 v => wp_S_boxesBelow_9 Q sT l1 sS B9 v.1 v.2) n (l2, l3) → ∀ (H : Heap) (locs : List Loc), va_P D vwCl (jx_ws cI cT [(cp_S aS (aT 0), sS), (cp_T aT, sT)]) H → va_D A (jx_ws cI cT [(cp_S aS (aT 0), sS), (cp_T aT, sT)]) → va_S A s.heap H locs → ∀ ls : Array Slot, lv_has ls 4 [(0, .ref (aS 0)), (2, .int (jx_i l2)), (3, .int (jx_i l3))] → W p l e (jx_rm 3 68) s m args below meth c H locs 0 0 QQ (F0 m 9 ls []) := by
    intro sS n
    induction n with
    | zero =>
      intro l2 l3 h
      exact (show False from h).elim
    | succ n ih =>
      intro l2 l3 h H locs hP hD hS ls hl
      have h : wp_S_boxesBelow_9 Q sT l1 sS (jx_it (fun B9 v => wp_S_boxesBelow_9 Q sT l1 sS B9 v.1 v.2) n) l2 l3 := h
      have ih := fun l2 l3 h => ih l2 l3 h
      generalize jx_it (fun B9 v => wp_S_boxesBelow_9 Q sT l1 sS B9 v.1 v.2) n = B9 at h ih
      unfold wp_S_boxesBelow_9 at h
      have J40 : ∀ (l2 : Int) (l3 : Int), wp_S_boxesBelow_40 Q sT l1 B9 sS l2 l3 → ∀ (H : Heap) (locs : List Loc), va_P D vwCl (jx_ws cI cT [(cp_S aS (aT 0), sS), (cp_T aT, sT)]) H → va_D A (jx_ws cI cT [(cp_S aS (aT 0), sS), (cp_T aT, sT)]) → va_S A s.heap H locs → ∀ ls : Array Slot, lv_has ls 4 [(0, .ref (aS 0)), (2, .int (jx_i l2)), (3, .int (jx_i l3))] → W p l e (jx_rm 3 68) s m args below meth c H locs 0 0 QQ (F0 m 40 ls []) := by
        intro l2 l3 h H locs hP hD hS ls hl
        unfold wp_S_boxesBelow_40 at h
        refine jx_iinc C (lv' := [(3, .int (jx_i (l3 + 1))), (0, .ref (aS 0)), (2, .int (jx_i l2))]) dX5_boxesBelow_40 hl (k := 2) rfl (by decide) rfl (fun ls hl => ?_)
        refine lv_goto (tgt := 9) hx hb dX5_boxesBelow_43 (by decide) ?_
        exact ih l2 (l3 + 1) h _ _ hP hD hS ls (lv_sub hl [1, 2, 0] rfl)
      refine lv_iload_n hx hb dX5_boxesBelow_9 rfl (lv_at hl 2 rfl) ?_
      refine lv_aload_n hx hb dX5_boxesBelow_10 rfl (lv_at hl 0 rfl) ?_
      refine jx_getI C hK hP 0 0 2 rfl rfl rfl fl_X5_19 dX5_boxesBelow_11 ?_
      refine jx_cge C h.1 h.2.1 (tgt := 46) dX5_boxesBelow_14 (by decide) (fun hc => ?_) (fun hc => ?_)
      · have h := h.2.2.2 hc
        refine lv_iload_n hx hb dX5_boxesBelow_46 rfl (lv_at hl 1 rfl) ?_
        exact jx_rI C hr hlk hAe hS hQQ sS hP h dX5_boxesBelow_47
      · have h := h.2.2.1 hc
        refine lv_aload_n hx hb dX5_boxesBelow_17 rfl (lv_at hl 0 rfl) ?_
        refine lv_iload_n hx hb dX5_boxesBelow_18 rfl (lv_at hl 2 rfl) ?_
        refine jx_callVI C hK hP hD hS hA (ct_S_levelSeen l D cI cT aS aT _ sS sT l3 h) ms_X5_levelSeen lk_X5_62 [0, 1] rfl rfl (fun _ => rfl) (cs' := (fun _ => [(cp_S aS (aT 0), sS), (cp_T aT, sT)])) (fun _ => rfl) (fun _ => rfl) 0 0 rfl rfl rfl rfl rfl hl.1 rfl rfl dX5_boxesBelow_19 ⟨Nat.le_refl _, Nat.le_refl _⟩ (fun r19 _ H locs h hP hD hS => ?_)
        have hP : va_P D vwCl (jx_ws cI cT [(cp_S aS (aT 0), sS), (cp_T aT, sT)]) H := hP
        have hD : va_D A (jx_ws cI cT [(cp_S aS (aT 0), sS), (cp_T aT, sT)]) := hD
        refine jx_zne C h.1 (tgt := 40) dX5_boxesBelow_22 (by decide) (fun hc => ?_) (fun hc => ?_)
        · have h := h.2.2 hc
          exact J40 l2 l3 h _ _ hP hD hS ls (lv_sub hl [0, 1, 2] rfl)
        · have h := h.2.1 hc
          refine lv_iload_n hx hb dX5_boxesBelow_25 rfl (lv_at hl 1 rfl) ?_
          refine lv_aload_n hx hb dX5_boxesBelow_26 rfl (lv_at hl 0 rfl) ?_
          refine jx_getR C hK hP 0 0 0 rfl rfl rfl fl_X5_15 dX5_boxesBelow_27 ?_
          refine lv_aload_n hx hb dX5_boxesBelow_30 rfl (lv_at hl 0 rfl) ?_
          refine lv_iload_n hx hb dX5_boxesBelow_31 rfl (lv_at hl 2 rfl) ?_
          refine jx_callVI C hK hP hD hS hA (ct_S_nodeSeen l D cI cT aS aT _ sS l3 h) ms_X5_nodeSeen lk_X5_53 [0] rfl rfl (fun _ => rfl) (cs' := (fun _ => [(cp_S aS (aT 0), sS), (cp_T aT, sT)])) (fun _ => rfl) (fun _ => rfl) 0 0 rfl rfl rfl rfl rfl hl.1 rfl rfl dX5_boxesBelow_32 ⟨Nat.le_refl _, Nat.le_refl _⟩ (fun r32 _ H locs h hP hD hS => ?_)
          have hP : va_P D vwCl (jx_ws cI cT [(cp_S aS (aT 0), sS), (cp_T aT, sT)]) H := hP
          have hD : va_D A (jx_ws cI cT [(cp_S aS (aT 0), sS), (cp_T aT, sT)]) := hD
          refine jx_callVI C hK hP hD hS hA (ct_T_sizeOf l D cI cT aT _ sT r32 h) ms_X6_sizeOf lk_X5_39 [1] rfl rfl (fun _ => rfl) (cs' := (fun _ => [(cp_S aS (aT 0), sS), (cp_T aT, sT)])) (fun _ => rfl) (fun _ => rfl) 1 0 rfl rfl rfl rfl rfl hl.1 rfl rfl dX5_boxesBelow_35 ⟨Nat.le_refl _, Nat.le_refl _⟩ (fun r35 _ H locs h hP hD hS => ?_)
          have hP : va_P D vwCl (jx_ws cI cT [(cp_S aS (aT 0), sS), (cp_T aT, sT)]) H := hP
          have hD : va_D A (jx_ws cI cT [(cp_S aS (aT 0), sS), (cp_T aT, sT)]) := hD
          refine jx_iadd C dX5_boxesBelow_38 ?_
          refine lv_istore_n (lv' := [(2, .int (jx_i (l2 + r35))), (0, .ref (aS 0)), (3, .int (jx_i l3))]) hx hb dX5_boxesBelow_39 rfl hl (by decide) rfl (fun ls hl => ?_)
          exact J40 (l2 + r35) l3 h _ _ hP hD hS ls (lv_sub hl [1, 0, 2] rfl)
  refine lv_aload_n hx hb dX5_boxesBelow_0 rfl (lv_at hl 0 rfl) ?_
  refine lv_iload_n hx hb dX5_boxesBelow_1 rfl (lv_at hl 1 rfl) ?_
  refine jx_callVV C hK hP hD hS hA (ct_S_lookFrom l D cI cT aS aT _ sS sT l1 h) ms_X5_lookFrom lk_X5_59 [0, 1] rfl rfl (fun _ => rfl) (cs' := (fun u => [(cp_S aS (aT 0), u), (cp_T aT, sT)])) (fun _ => rfl) (fun _ => rfl) 0 0 rfl rfl rfl rfl rfl hl.1 rfl rfl dX5_boxesBelow_2 ⟨Nat.le_refl _, Nat.le_refl _⟩ (fun sS_2 H locs h hP hD hS => ?_)
  have hP : va_P D vwCl (jx_ws cI cT [(cp_S aS (aT 0), sS_2), (cp_T aT, sT)]) H := hP
  have hD : va_D A (jx_ws cI cT [(cp_S aS (aT 0), sS_2), (cp_T aT, sT)]) := hD
  refine jx_iconst C dX5_boxesBelow_5 ?_
  refine lv_istore_n (lv' := [(2, .int (jx_i 0)), (0, .ref (aS 0)), (1, .int (jx_i l1))]) hx hb dX5_boxesBelow_6 rfl hl (by decide) rfl (fun ls hl => ?_)
  refine jx_iconst C dX5_boxesBelow_7 ?_
  refine lv_istore_n (lv' := [(3, .int (jx_i 0)), (2, .int (jx_i 0)), (0, .ref (aS 0)), (1, .int (jx_i l1))]) hx hb dX5_boxesBelow_8 rfl hl (by decide) rfl (fun ls hl => ?_)
  obtain ⟨n, h⟩ := h
  refine Lo9 sS_2 n 0 0 h _ _ hP hD hS ls (lv_sub hl [2, 1, 0] rfl)
set_option maxRecDepth 100000 in
set_option maxHeartbeats 4000000 in
theorem ct_S_hullSeen (l : Launch) (D : va_G) (cI cT : ClassId) (aS : Nat → Nat) (aT : Nat → Nat) (Q : Int → Prop) (sS : jx_St) (sT : jx_St) (l1 : Int) (h : wp_S_hullSeen Q sS sT l1) : jx_KI (Unit) l D cI cT yX5_hullSeen cX5_hullSeen 2 .int 2 42 [.ref (aS 0), .int (jx_i l1)] [(cp_S aS (aT 0), sS), (cp_T aT, sT)] (fun _ => [(cp_S aS (aT 0), sS), (cp_T aT, sT)]) (fun x _ => Q x) := by
  refine jx_ent (own := RX5) (by decide) rfl (Nat.le_of_ble_eq_true rfl) ?_
  intro p e s m args below meth c A QQ C hr hlk hK hAe hA hP hD hS ls hl hQQ
  have hl : lv_has ls 2 [(0, .ref (aS 0)), (1, .int (jx_i l1))] := hl
  have hx := C.1
  have hb := C.2.1
  unfold wp_S_hullSeen at h
  refine lv_aload_n hx hb dX5_hullSeen_0 rfl (lv_at hl 0 rfl) ?_
  refine jx_getR C hK hP 0 0 0 rfl rfl rfl fl_X5_15 dX5_hullSeen_1 ?_
  refine jx_getNR C hK hP 1 0 4 rfl rfl rfl fn_X5_50 dX5_hullSeen_4 ?_
  refine lv_aload_n hx hb dX5_hullSeen_7 rfl (lv_at hl 0 rfl) ?_
  refine lv_iload_n hx hb dX5_hullSeen_8 rfl (lv_at hl 1 rfl) ?_
  refine jx_callVI C hK hP hD hS hA (ct_S_nodeSeen l D cI cT aS aT _ sS l1 h) ms_X5_nodeSeen lk_X5_53 [0] rfl rfl (fun _ => rfl) (cs' := (fun _ => [(cp_S aS (aT 0), sS), (cp_T aT, sT)])) (fun _ => rfl) (fun _ => rfl) 0 0 rfl rfl rfl rfl rfl hl.1 rfl rfl dX5_hullSeen_9 ⟨Nat.le_refl _, Nat.le_refl _⟩ (fun r9 _ H locs h hP hD hS => ?_)
  have hP : va_P D vwCl (jx_ws cI cT [(cp_S aS (aT 0), sS), (cp_T aT, sT)]) H := hP
  have hD : va_D A (jx_ws cI cT [(cp_S aS (aT 0), sS), (cp_T aT, sT)]) := hD
  refine jx_rowsAt C hK hP hD hS hA 1 5 rfl rfl rfl rfl h.1 lk_X5_27 hl.1 rfl rfl dX5_hullSeen_12 ⟨Nat.le_refl _, Nat.le_refl _⟩ (fun H locs hP hS => ?_)
  have h := h.2
  exact jx_rI C hr hlk hAe hS hQQ () hP h dX5_hullSeen_15
set_option maxRecDepth 100000 in
set_option maxHeartbeats 4000000 in
theorem ct_S_areaOfLeaves (l : Launch) (D : va_G) (cI cT : ClassId) (aS : Nat → Nat) (aT : Nat → Nat) (Q : Int → jx_St → Prop) (sS : jx_St) (sT : jx_St) (h : wp_S_areaOfLeaves Q sS sT) : jx_KI jx_St l D cI cT yX5_areaOfLeaves cX5_areaOfLeaves 3 .int 3 68 [.ref (aS 0)] [(cp_S aS (aT 0), sS), (cp_T aT, sT)] (fun u => [(cp_S aS (aT 0), u), (cp_T aT, sT)]) Q := by
  refine jx_ent (own := RX5) (by decide) rfl (Nat.le_of_ble_eq_true rfl) ?_
  intro p e s m args below meth c A QQ C hr hlk hK hAe hA hP hD hS ls hl hQQ
  have hl : lv_has ls 3 [(0, .ref (aS 0))] := hl
  have hx := C.1
  have hb := C.2.1
  unfold wp_S_areaOfLeaves at h
  have Lo15 : ∀ (sS : jx_St) (n : Nat) (l1 : Int) (l2 : Int), jx_it (fun B15 v => wp_S_areaOfLeaves_15 Q sT sS B15 v.1 v.2) n (l1, l2) → ∀ (H : Heap) (locs : List Loc), va_P D vwCl (jx_ws cI cT [(cp_S aS (aT 0), sS), (cp_T aT, sT)]) H → va_D A (jx_ws cI cT [(cp_S aS (aT 0), sS), (cp_T aT, sT)]) → va_S A s.heap H locs → ∀ ls : Array Slot, lv_has ls 3 [(0, .ref (aS 0)), (1, .int (jx_i l1)), (2, .int (jx_i l2))] → W p l e (jx_rm 3 68) s m args below meth c H locs 0 0 QQ (F0 m 15 ls []) := by
    intro sS n
    induction n with
    | zero =>
      intro l1 l2 h
      exact (show False from h).elim
    | succ n ih =>
      intro l1 l2 h H locs hP hD hS ls hl
      have h : wp_S_areaOfLeaves_15 Q sT sS (jx_it (fun B15 v => wp_S_areaOfLeaves_15 Q sT sS B15 v.1 v.2) n) l1 l2 := h
      have ih := fun l1 l2 h => ih l1 l2 h
      generalize jx_it (fun B15 v => wp_S_areaOfLeaves_15 Q sT sS B15 v.1 v.2) n = B15 at h ih
      unfold wp_S_areaOfLeaves_15 at h
      have J42 : ∀ (l1 : Int) (l2 : Int), wp_S_areaOfLeaves_42 Q sT B15 sS l1 l2 → ∀ (H : Heap) (locs : List Loc), va_P D vwCl (jx_ws cI cT [(cp_S aS (aT 0), sS), (cp_T aT, sT)]) H → va_D A (jx_ws cI cT [(cp_S aS (aT 0), sS), (cp_T aT, sT)]) → va_S A s.heap H locs → ∀ ls : Array Slot, lv_has ls 3 [(0, .ref (aS 0)), (1, .int (jx_i l1)), (2, .int (jx_i l2))] → W p l e (jx_rm 3 68) s m args below meth c H locs 0 0 QQ (F0 m 42 ls []) := by
        intro l1 l2 h H locs hP hD hS ls hl
        unfold wp_S_areaOfLeaves_42 at h
        refine jx_iinc C (lv' := [(2, .int (jx_i (l2 + 1))), (0, .ref (aS 0)), (1, .int (jx_i l1))]) dX5_areaOfLeaves_42 hl (k := 2) rfl (by decide) rfl (fun ls hl => ?_)
        refine lv_goto (tgt := 15) hx hb dX5_areaOfLeaves_45 (by decide) ?_
        exact ih l1 (l2 + 1) h _ _ hP hD hS ls (lv_sub hl [1, 2, 0] rfl)
      refine lv_iload_n hx hb dX5_areaOfLeaves_15 rfl (lv_at hl 2 rfl) ?_
      refine lv_aload_n hx hb dX5_areaOfLeaves_16 rfl (lv_at hl 0 rfl) ?_
      refine jx_getI C hK hP 0 0 2 rfl rfl rfl fl_X5_19 dX5_areaOfLeaves_17 ?_
      refine jx_cge C h.1 h.2.1 (tgt := 48) dX5_areaOfLeaves_20 (by decide) (fun hc => ?_) (fun hc => ?_)
      · have h := h.2.2.2 hc
        refine lv_iload_n hx hb dX5_areaOfLeaves_48 rfl (lv_at hl 1 rfl) ?_
        exact jx_rI C hr hlk hAe hS hQQ sS hP h dX5_areaOfLeaves_49
      · have h := h.2.2.1 hc
        refine lv_aload_n hx hb dX5_areaOfLeaves_23 rfl (lv_at hl 0 rfl) ?_
        refine lv_iload_n hx hb dX5_areaOfLeaves_24 rfl (lv_at hl 2 rfl) ?_
        refine jx_callVI C hK hP hD hS hA (ct_S_levelSeen l D cI cT aS aT _ sS sT l2 h) ms_X5_levelSeen lk_X5_62 [0, 1] rfl rfl (fun _ => rfl) (cs' := (fun _ => [(cp_S aS (aT 0), sS), (cp_T aT, sT)])) (fun _ => rfl) (fun _ => rfl) 0 0 rfl rfl rfl rfl rfl hl.1 rfl rfl dX5_areaOfLeaves_25 ⟨Nat.le_refl _, Nat.le_refl _⟩ (fun r25 _ H locs h hP hD hS => ?_)
        have hP : va_P D vwCl (jx_ws cI cT [(cp_S aS (aT 0), sS), (cp_T aT, sT)]) H := hP
        have hD : va_D A (jx_ws cI cT [(cp_S aS (aT 0), sS), (cp_T aT, sT)]) := hD
        refine jx_zne C h.1 (tgt := 42) dX5_areaOfLeaves_28 (by decide) (fun hc => ?_) (fun hc => ?_)
        · have h := h.2.2 hc
          exact J42 l1 l2 h _ _ hP hD hS ls (lv_sub hl [0, 1, 2] rfl)
        · have h := h.2.1 hc
          refine lv_iload_n hx hb dX5_areaOfLeaves_31 rfl (lv_at hl 1 rfl) ?_
          refine lv_aload_n hx hb dX5_areaOfLeaves_32 rfl (lv_at hl 0 rfl) ?_
          refine lv_iload_n hx hb dX5_areaOfLeaves_33 rfl (lv_at hl 2 rfl) ?_
          refine jx_callVI C hK hP hD hS hA (ct_S_hullSeen l D cI cT aS aT _ sS sT l2 h) ms_X5_hullSeen lk_X5_65 [0, 1] rfl rfl (fun _ => rfl) (cs' := (fun _ => [(cp_S aS (aT 0), sS), (cp_T aT, sT)])) (fun _ => rfl) (fun _ => rfl) 0 0 rfl rfl rfl rfl rfl hl.1 rfl rfl dX5_areaOfLeaves_34 ⟨Nat.le_refl _, Nat.le_refl _⟩ (fun r34 _ H locs h hP hD hS => ?_)
          have hP : va_P D vwCl (jx_ws cI cT [(cp_S aS (aT 0), sS), (cp_T aT, sT)]) H := hP
          have hD : va_D A (jx_ws cI cT [(cp_S aS (aT 0), sS), (cp_T aT, sT)]) := hD
          refine jx_callSI C hK hP hD hS hA (ct_Box_area l D cI cT  _  r34 h) ms_X0_area lk_X5_73 [] rfl rfl (fun _ => rfl) (cs' := (fun _ => [(cp_S aS (aT 0), sS), (cp_T aT, sT)])) (fun _ => rfl) (fun _ => rfl) rfl rfl hl.1 rfl rfl dX5_areaOfLeaves_37 ⟨Nat.le_refl _, Nat.le_refl _⟩ (fun r37 _ H locs h hP hD hS => ?_)
          have hP : va_P D vwCl (jx_ws cI cT [(cp_S aS (aT 0), sS), (cp_T aT, sT)]) H := hP
          have hD : va_D A (jx_ws cI cT [(cp_S aS (aT 0), sS), (cp_T aT, sT)]) := hD
          refine jx_iadd C dX5_areaOfLeaves_40 ?_
          refine lv_istore_n (lv' := [(1, .int (jx_i (l1 + r37))), (0, .ref (aS 0)), (2, .int (jx_i l2))]) hx hb dX5_areaOfLeaves_41 rfl hl (by decide) rfl (fun ls hl => ?_)
          exact J42 (l1 + r37) l2 h _ _ hP hD hS ls (lv_sub hl [1, 0, 2] rfl)
  refine lv_aload_n hx hb dX5_areaOfLeaves_0 rfl (lv_at hl 0 rfl) ?_
  refine lv_aload_n hx hb dX5_areaOfLeaves_1 rfl (lv_at hl 0 rfl) ?_
  refine jx_getR C hK hP 0 0 0 rfl rfl rfl fl_X5_15 dX5_areaOfLeaves_2 ?_
  refine jx_getNI C hK hP 1 0 7 rfl rfl rfl fn_X5_56 dX5_areaOfLeaves_5 ?_
  refine jx_callVV C hK hP hD hS hA (ct_S_lookFrom l D cI cT aS aT _ sS sT (sT 7 0) h) ms_X5_lookFrom lk_X5_59 [0, 1] rfl rfl (fun _ => rfl) (cs' := (fun u => [(cp_S aS (aT 0), u), (cp_T aT, sT)])) (fun _ => rfl) (fun _ => rfl) 0 0 rfl rfl rfl rfl rfl hl.1 rfl rfl dX5_areaOfLeaves_8 ⟨Nat.le_refl _, Nat.le_refl _⟩ (fun sS_8 H locs h hP hD hS => ?_)
  have hP : va_P D vwCl (jx_ws cI cT [(cp_S aS (aT 0), sS_8), (cp_T aT, sT)]) H := hP
  have hD : va_D A (jx_ws cI cT [(cp_S aS (aT 0), sS_8), (cp_T aT, sT)]) := hD
  refine jx_iconst C dX5_areaOfLeaves_11 ?_
  refine lv_istore_n (lv' := [(1, .int (jx_i 0)), (0, .ref (aS 0))]) hx hb dX5_areaOfLeaves_12 rfl hl (by decide) rfl (fun ls hl => ?_)
  refine jx_iconst C dX5_areaOfLeaves_13 ?_
  refine lv_istore_n (lv' := [(2, .int (jx_i 0)), (1, .int (jx_i 0)), (0, .ref (aS 0))]) hx hb dX5_areaOfLeaves_14 rfl hl (by decide) rfl (fun ls hl => ?_)
  obtain ⟨n, h⟩ := h
  refine Lo15 sS_8 n 0 0 h _ _ hP hD hS ls (lv_sub hl [2, 1, 0] rfl)
set_option maxRecDepth 100000 in
set_option maxHeartbeats 4000000 in
theorem ct_S_leaves (l : Launch) (D : va_G) (cI cT : ClassId) (aS : Nat → Nat) (aT : Nat → Nat) (Q : Int → jx_St → Prop) (sS : jx_St) (sT : jx_St) (h : wp_S_leaves Q sS sT) : jx_KI jx_St l D cI cT yX5_leaves cX5_leaves 3 .int 3 68 [.ref (aS 0)] [(cp_S aS (aT 0), sS), (cp_T aT, sT)] (fun u => [(cp_S aS (aT 0), u), (cp_T aT, sT)]) Q := by
  refine jx_ent (own := RX5) (by decide) rfl (Nat.le_of_ble_eq_true rfl) ?_
  intro p e s m args below meth c A QQ C hr hlk hK hAe hA hP hD hS ls hl hQQ
  have hl : lv_has ls 3 [(0, .ref (aS 0))] := hl
  have hx := C.1
  have hb := C.2.1
  unfold wp_S_leaves at h
  have Lo15 : ∀ (sS : jx_St) (n : Nat) (l1 : Int) (l2 : Int), jx_it (fun B15 v => wp_S_leaves_15 Q sT sS B15 v.1 v.2) n (l1, l2) → ∀ (H : Heap) (locs : List Loc), va_P D vwCl (jx_ws cI cT [(cp_S aS (aT 0), sS), (cp_T aT, sT)]) H → va_D A (jx_ws cI cT [(cp_S aS (aT 0), sS), (cp_T aT, sT)]) → va_S A s.heap H locs → ∀ ls : Array Slot, lv_has ls 3 [(0, .ref (aS 0)), (1, .int (jx_i l1)), (2, .int (jx_i l2))] → W p l e (jx_rm 3 68) s m args below meth c H locs 0 0 QQ (F0 m 15 ls []) := by
    intro sS n
    induction n with
    | zero =>
      intro l1 l2 h
      exact (show False from h).elim
    | succ n ih =>
      intro l1 l2 h H locs hP hD hS ls hl
      have h : wp_S_leaves_15 Q sT sS (jx_it (fun B15 v => wp_S_leaves_15 Q sT sS B15 v.1 v.2) n) l1 l2 := h
      have ih := fun l1 l2 h => ih l1 l2 h
      generalize jx_it (fun B15 v => wp_S_leaves_15 Q sT sS B15 v.1 v.2) n = B15 at h ih
      unfold wp_S_leaves_15 at h
      have J34 : ∀ (l1 : Int) (l2 : Int), wp_S_leaves_34 Q sT B15 sS l1 l2 → ∀ (H : Heap) (locs : List Loc), va_P D vwCl (jx_ws cI cT [(cp_S aS (aT 0), sS), (cp_T aT, sT)]) H → va_D A (jx_ws cI cT [(cp_S aS (aT 0), sS), (cp_T aT, sT)]) → va_S A s.heap H locs → ∀ ls : Array Slot, lv_has ls 3 [(0, .ref (aS 0)), (1, .int (jx_i l1)), (2, .int (jx_i l2))] → W p l e (jx_rm 3 68) s m args below meth c H locs 0 0 QQ (F0 m 34 ls []) := by
        intro l1 l2 h H locs hP hD hS ls hl
        unfold wp_S_leaves_34 at h
        refine jx_iinc C (lv' := [(2, .int (jx_i (l2 + 1))), (0, .ref (aS 0)), (1, .int (jx_i l1))]) dX5_leaves_34 hl (k := 2) rfl (by decide) rfl (fun ls hl => ?_)
        refine lv_goto (tgt := 15) hx hb dX5_leaves_37 (by decide) ?_
        exact ih l1 (l2 + 1) h _ _ hP hD hS ls (lv_sub hl [1, 2, 0] rfl)
      refine lv_iload_n hx hb dX5_leaves_15 rfl (lv_at hl 2 rfl) ?_
      refine lv_aload_n hx hb dX5_leaves_16 rfl (lv_at hl 0 rfl) ?_
      refine jx_getI C hK hP 0 0 2 rfl rfl rfl fl_X5_19 dX5_leaves_17 ?_
      refine jx_cge C h.1 h.2.1 (tgt := 40) dX5_leaves_20 (by decide) (fun hc => ?_) (fun hc => ?_)
      · have h := h.2.2.2 hc
        refine lv_iload_n hx hb dX5_leaves_40 rfl (lv_at hl 1 rfl) ?_
        exact jx_rI C hr hlk hAe hS hQQ sS hP h dX5_leaves_41
      · have h := h.2.2.1 hc
        refine lv_aload_n hx hb dX5_leaves_23 rfl (lv_at hl 0 rfl) ?_
        refine lv_iload_n hx hb dX5_leaves_24 rfl (lv_at hl 2 rfl) ?_
        refine jx_callVI C hK hP hD hS hA (ct_S_levelSeen l D cI cT aS aT _ sS sT l2 h) ms_X5_levelSeen lk_X5_62 [0, 1] rfl rfl (fun _ => rfl) (cs' := (fun _ => [(cp_S aS (aT 0), sS), (cp_T aT, sT)])) (fun _ => rfl) (fun _ => rfl) 0 0 rfl rfl rfl rfl rfl hl.1 rfl rfl dX5_leaves_25 ⟨Nat.le_refl _, Nat.le_refl _⟩ (fun r25 _ H locs h hP hD hS => ?_)
        have hP : va_P D vwCl (jx_ws cI cT [(cp_S aS (aT 0), sS), (cp_T aT, sT)]) H := hP
        have hD : va_D A (jx_ws cI cT [(cp_S aS (aT 0), sS), (cp_T aT, sT)]) := hD
        refine jx_zne C h.1 (tgt := 34) dX5_leaves_28 (by decide) (fun hc => ?_) (fun hc => ?_)
        · have h := h.2.2 hc
          exact J34 l1 l2 h _ _ hP hD hS ls (lv_sub hl [0, 1, 2] rfl)
        · have h := h.2.1 hc
          refine jx_iinc C (lv' := [(1, .int (jx_i (l1 + 1))), (0, .ref (aS 0)), (2, .int (jx_i l2))]) dX5_leaves_31 hl (k := 1) rfl (by decide) rfl (fun ls hl => ?_)
          exact J34 (l1 + 1) l2 h _ _ hP hD hS ls (lv_sub hl [1, 0, 2] rfl)
  refine lv_aload_n hx hb dX5_leaves_0 rfl (lv_at hl 0 rfl) ?_
  refine lv_aload_n hx hb dX5_leaves_1 rfl (lv_at hl 0 rfl) ?_
  refine jx_getR C hK hP 0 0 0 rfl rfl rfl fl_X5_15 dX5_leaves_2 ?_
  refine jx_getNI C hK hP 1 0 7 rfl rfl rfl fn_X5_56 dX5_leaves_5 ?_
  refine jx_callVV C hK hP hD hS hA (ct_S_lookFrom l D cI cT aS aT _ sS sT (sT 7 0) h) ms_X5_lookFrom lk_X5_59 [0, 1] rfl rfl (fun _ => rfl) (cs' := (fun u => [(cp_S aS (aT 0), u), (cp_T aT, sT)])) (fun _ => rfl) (fun _ => rfl) 0 0 rfl rfl rfl rfl rfl hl.1 rfl rfl dX5_leaves_8 ⟨Nat.le_refl _, Nat.le_refl _⟩ (fun sS_8 H locs h hP hD hS => ?_)
  have hP : va_P D vwCl (jx_ws cI cT [(cp_S aS (aT 0), sS_8), (cp_T aT, sT)]) H := hP
  have hD : va_D A (jx_ws cI cT [(cp_S aS (aT 0), sS_8), (cp_T aT, sT)]) := hD
  refine jx_iconst C dX5_leaves_11 ?_
  refine lv_istore_n (lv' := [(1, .int (jx_i 0)), (0, .ref (aS 0))]) hx hb dX5_leaves_12 rfl hl (by decide) rfl (fun ls hl => ?_)
  refine jx_iconst C dX5_leaves_13 ?_
  refine lv_istore_n (lv' := [(2, .int (jx_i 0)), (1, .int (jx_i 0)), (0, .ref (aS 0))]) hx hb dX5_leaves_14 rfl hl (by decide) rfl (fun ls hl => ?_)
  obtain ⟨n, h⟩ := h
  refine Lo15 sS_8 n 0 0 h _ _ hP hD hS ls (lv_sub hl [2, 1, 0] rfl)
set_option maxRecDepth 100000 in
set_option maxHeartbeats 4000000 in
theorem ct_S_nodeAt (l : Launch) (D : va_G) (cI cT : ClassId) (aS : Nat → Nat) (aT : Nat → Nat) (Q : Int → jx_St → Prop) (sS : jx_St) (sT : jx_St) (l1 : Int) (l2 : Int) (h : wp_S_nodeAt Q sS sT l1 l2) : jx_KI jx_St l D cI cT yX5_nodeAt cX5_nodeAt 5 .int 3 68 [.ref (aS 0), .int (jx_i l1), .int (jx_i l2)] [(cp_S aS (aT 0), sS), (cp_T aT, sT)] (fun u => [(cp_S aS (aT 0), u), (cp_T aT, sT)]) Q := by
  refine jx_ent (own := RX5) (by decide) rfl (Nat.le_of_ble_eq_true rfl) ?_
  intro p e s m args below meth c A QQ C hr hlk hK hAe hA hP hD hS ls hl hQQ
  have hl : lv_has ls 5 [(0, .ref (aS 0)), (1, .int (jx_i l1)), (2, .int (jx_i l2))] := hl
  have hx := C.1
  have hb := C.2.1
  unfold wp_S_nodeAt at h
  have Lo16 : ∀ (sS : jx_St) (K40 : Int → Prop) (n : Nat) (l3 : Int) (l4 : Int), jx_it (fun B16 v => wp_S_nodeAt_16 Q sT l1 l2 K40 sS B16 v.1 v.2) n (l3, l4) → (∀ (l4 : Int), K40 l4 → ∀ (H : Heap) (locs : List Loc), va_P D vwCl (jx_ws cI cT [(cp_S aS (aT 0), sS), (cp_T aT, sT)]) H → va_D A (jx_ws cI cT [(cp_S aS (aT 0), sS), (cp_T aT, sT)]) → va_S A s.heap H locs → ∀ ls : Array Slot, lv_has ls 5 [(0, .ref (aS 0)), (4, .int (jx_i l4))] → W p l e (jx_rm 3 68) s m args below meth c H locs 0 0 QQ (F0 m 40 ls [])) → ∀ (H : Heap) (locs : List Loc), va_P D vwCl (jx_ws cI cT [(cp_S aS (aT 0), sS), (cp_T aT, sT)]) H → va_D A (jx_ws cI cT [(cp_S aS (aT 0), sS), (cp_T aT, sT)]) → va_S A s.heap H locs → ∀ ls : Array Slot, lv_has ls 5 [(0, .ref (aS 0)), (1, .int (jx_i l1)), (2, .int (jx_i l2)), (3, .int (jx_i l3)), (4, .int (jx_i l4))] → W p l e (jx_rm 3 68) s m args below meth c H locs 0 0 QQ (F0 m 16 ls []) := by
    intro sS K40 n
    induction n with
    | zero =>
      intro l3 l4 h
      exact (show False from h).elim
    | succ n ih =>
      intro l3 l4 h K40E H locs hP hD hS ls hl
      have h : wp_S_nodeAt_16 Q sT l1 l2 K40 sS (jx_it (fun B16 v => wp_S_nodeAt_16 Q sT l1 l2 K40 sS B16 v.1 v.2) n) l3 l4 := h
      have ih := fun l3 l4 h => ih l3 l4 h K40E
      generalize jx_it (fun B16 v => wp_S_nodeAt_16 Q sT l1 l2 K40 sS B16 v.1 v.2) n = B16 at h ih
      unfold wp_S_nodeAt_16 at h
      have J50 : ∀ (l3 : Int) (l4 : Int), wp_S_nodeAt_50 Q sT l1 l2 B16 K40 sS l3 l4 → ∀ (H : Heap) (locs : List Loc), va_P D vwCl (jx_ws cI cT [(cp_S aS (aT 0), sS), (cp_T aT, sT)]) H → va_D A (jx_ws cI cT [(cp_S aS (aT 0), sS), (cp_T aT, sT)]) → va_S A s.heap H locs → ∀ ls : Array Slot, lv_has ls 5 [(0, .ref (aS 0)), (1, .int (jx_i l1)), (2, .int (jx_i l2)), (3, .int (jx_i l3)), (4, .int (jx_i l4))] → W p l e (jx_rm 3 68) s m args below meth c H locs 0 0 QQ (F0 m 50 ls []) := by
        intro l3 l4 h H locs hP hD hS ls hl
        unfold wp_S_nodeAt_50 at h
        refine jx_iinc C (lv' := [(4, .int (jx_i (l4 + 1))), (0, .ref (aS 0)), (1, .int (jx_i l1)), (2, .int (jx_i l2)), (3, .int (jx_i l3))]) dX5_nodeAt_50 hl (k := 4) rfl (by decide) rfl (fun ls hl => ?_)
        refine lv_goto (tgt := 16) hx hb dX5_nodeAt_53 (by decide) ?_
        exact ih l3 (l4 + 1) h _ _ hP hD hS ls (lv_sub hl [1, 2, 3, 4, 0] rfl)
      refine lv_iload hx hb dX5_nodeAt_16 (lv_at hl 4 rfl) ?_
      refine lv_aload_n hx hb dX5_nodeAt_18 rfl (lv_at hl 0 rfl) ?_
      refine jx_getI C hK hP 0 0 2 rfl rfl rfl fl_X5_19 dX5_nodeAt_19 ?_
      refine jx_cge C h.1 h.2.1 (tgt := 56) dX5_nodeAt_22 (by decide) (fun hc => ?_) (fun hc => ?_)
      · have h := h.2.2.2 hc
        refine jx_iconst C dX5_nodeAt_56 ?_
        exact jx_rI C hr hlk hAe hS hQQ sS hP h dX5_nodeAt_57
      · have h := h.2.2.1 hc
        refine lv_aload_n hx hb dX5_nodeAt_25 rfl (lv_at hl 0 rfl) ?_
        refine lv_iload hx hb dX5_nodeAt_26 (lv_at hl 4 rfl) ?_
        refine jx_callVI C hK hP hD hS hA (ct_S_levelSeen l D cI cT aS aT _ sS sT l4 h) ms_X5_levelSeen lk_X5_62 [0, 1] rfl rfl (fun _ => rfl) (cs' := (fun _ => [(cp_S aS (aT 0), sS), (cp_T aT, sT)])) (fun _ => rfl) (fun _ => rfl) 0 0 rfl rfl rfl rfl rfl hl.1 rfl rfl dX5_nodeAt_28 ⟨Nat.le_refl _, Nat.le_refl _⟩ (fun r28 _ H locs h hP hD hS => ?_)
        have hP : va_P D vwCl (jx_ws cI cT [(cp_S aS (aT 0), sS), (cp_T aT, sT)]) H := hP
        have hD : va_D A (jx_ws cI cT [(cp_S aS (aT 0), sS), (cp_T aT, sT)]) := hD
        refine lv_iload_n hx hb dX5_nodeAt_31 rfl (lv_at hl 1 rfl) ?_
        refine jx_cne C h.1 h.2.1 (tgt := 50) dX5_nodeAt_32 (by decide) (fun hc => ?_) (fun hc => ?_)
        · have h := h.2.2.2 hc
          exact J50 l3 l4 h _ _ hP hD hS ls (lv_sub hl [0, 1, 2, 3, 4] rfl)
        · have h := h.2.2.1 hc
          refine lv_iload_n hx hb dX5_nodeAt_35 rfl (lv_at hl 3 rfl) ?_
          refine lv_iload_n hx hb dX5_nodeAt_36 rfl (lv_at hl 2 rfl) ?_
          refine jx_cne C h.1 h.2.1 (tgt := 47) dX5_nodeAt_37 (by decide) (fun hc => ?_) (fun hc => ?_)
          · have h := h.2.2.2 hc
            refine jx_iinc C (lv' := [(3, .int (jx_i (l3 + 1))), (0, .ref (aS 0)), (1, .int (jx_i l1)), (2, .int (jx_i l2)), (4, .int (jx_i l4))]) dX5_nodeAt_47 hl (k := 3) rfl (by decide) rfl (fun ls hl => ?_)
            exact J50 (l3 + 1) l4 h _ _ hP hD hS ls (lv_sub hl [1, 2, 3, 0, 4] rfl)
          · have h := h.2.2.1 hc
            exact K40E l4 h _ _ hP hD hS ls (lv_sub hl [0, 4] rfl)
  have J40 : ∀ (sS : jx_St) (l4 : Int), wp_S_nodeAt_40 Q sT l1 l2 sS l4 → ∀ (H : Heap) (locs : List Loc), va_P D vwCl (jx_ws cI cT [(cp_S aS (aT 0), sS), (cp_T aT, sT)]) H → va_D A (jx_ws cI cT [(cp_S aS (aT 0), sS), (cp_T aT, sT)]) → va_S A s.heap H locs → ∀ ls : Array Slot, lv_has ls 5 [(0, .ref (aS 0)), (4, .int (jx_i l4))] → W p l e (jx_rm 3 68) s m args below meth c H locs 0 0 QQ (F0 m 40 ls []) := by
    intro sS l4 h H locs hP hD hS ls hl
    unfold wp_S_nodeAt_40 at h
    refine lv_aload_n hx hb dX5_nodeAt_40 rfl (lv_at hl 0 rfl) ?_
    refine lv_iload hx hb dX5_nodeAt_41 (lv_at hl 1 rfl) ?_
    refine jx_callVI C hK hP hD hS hA (ct_S_nodeSeen l D cI cT aS aT _ sS l4 h) ms_X5_nodeSeen lk_X5_53 [0] rfl rfl (fun _ => rfl) (cs' := (fun _ => [(cp_S aS (aT 0), sS), (cp_T aT, sT)])) (fun _ => rfl) (fun _ => rfl) 0 0 rfl rfl rfl rfl rfl hl.1 rfl rfl dX5_nodeAt_43 ⟨Nat.le_refl _, Nat.le_refl _⟩ (fun r43 _ H locs h hP hD hS => ?_)
    have hP : va_P D vwCl (jx_ws cI cT [(cp_S aS (aT 0), sS), (cp_T aT, sT)]) H := hP
    have hD : va_D A (jx_ws cI cT [(cp_S aS (aT 0), sS), (cp_T aT, sT)]) := hD
    exact jx_rI C hr hlk hAe hS hQQ sS hP h dX5_nodeAt_46
  refine lv_aload_n hx hb dX5_nodeAt_0 rfl (lv_at hl 0 rfl) ?_
  refine lv_aload_n hx hb dX5_nodeAt_1 rfl (lv_at hl 0 rfl) ?_
  refine jx_getR C hK hP 0 0 0 rfl rfl rfl fl_X5_15 dX5_nodeAt_2 ?_
  refine jx_getNI C hK hP 1 0 7 rfl rfl rfl fn_X5_56 dX5_nodeAt_5 ?_
  refine jx_callVV C hK hP hD hS hA (ct_S_lookFrom l D cI cT aS aT _ sS sT (sT 7 0) h) ms_X5_lookFrom lk_X5_59 [0, 1] rfl rfl (fun _ => rfl) (cs' := (fun u => [(cp_S aS (aT 0), u), (cp_T aT, sT)])) (fun _ => rfl) (fun _ => rfl) 0 0 rfl rfl rfl rfl rfl hl.1 rfl rfl dX5_nodeAt_8 ⟨Nat.le_refl _, Nat.le_refl _⟩ (fun sS_8 H locs h hP hD hS => ?_)
  have hP : va_P D vwCl (jx_ws cI cT [(cp_S aS (aT 0), sS_8), (cp_T aT, sT)]) H := hP
  have hD : va_D A (jx_ws cI cT [(cp_S aS (aT 0), sS_8), (cp_T aT, sT)]) := hD
  refine jx_iconst C dX5_nodeAt_11 ?_
  refine lv_istore_n (lv' := [(3, .int (jx_i 0)), (0, .ref (aS 0)), (1, .int (jx_i l1)), (2, .int (jx_i l2))]) hx hb dX5_nodeAt_12 rfl hl (by decide) rfl (fun ls hl => ?_)
  refine jx_iconst C dX5_nodeAt_13 ?_
  refine lv_istore (lv' := [(4, .int (jx_i 0)), (3, .int (jx_i 0)), (0, .ref (aS 0)), (1, .int (jx_i l1)), (2, .int (jx_i l2))]) hx hb dX5_nodeAt_14 hl (by decide) rfl (fun ls hl => ?_)
  obtain ⟨n, h⟩ := h
  refine Lo16 sS_8 _ n 0 0 h ?_ _ _ hP hD hS ls (lv_sub hl [2, 3, 4, 1, 0] rfl)
  · intro l4 h H locs hP hD hS ls hl
    exact J40 sS_8 l4 h _ _ hP hD hS ls (lv_sub hl [0, 1] rfl)
set_option maxRecDepth 100000 in
set_option maxHeartbeats 4000000 in
theorem ct_S_nodes (l : Launch) (D : va_G) (cI cT : ClassId) (aS : Nat → Nat) (aT : Nat → Nat) (Q : Int → jx_St → Prop) (sS : jx_St) (sT : jx_St) (h : wp_S_nodes Q sS sT) : jx_KI jx_St l D cI cT yX5_nodes cX5_nodes 1 .int 3 68 [.ref (aS 0)] [(cp_S aS (aT 0), sS), (cp_T aT, sT)] (fun u => [(cp_S aS (aT 0), u), (cp_T aT, sT)]) Q := by
  refine jx_ent (own := RX5) (by decide) rfl (Nat.le_of_ble_eq_true rfl) ?_
  intro p e s m args below meth c A QQ C hr hlk hK hAe hA hP hD hS ls hl hQQ
  have hl : lv_has ls 1 [(0, .ref (aS 0))] := hl
  have hx := C.1
  have hb := C.2.1
  unfold wp_S_nodes at h
  refine lv_aload_n hx hb dX5_nodes_0 rfl (lv_at hl 0 rfl) ?_
  refine lv_aload_n hx hb dX5_nodes_1 rfl (lv_at hl 0 rfl) ?_
  refine jx_getR C hK hP 0 0 0 rfl rfl rfl fl_X5_15 dX5_nodes_2 ?_
  refine jx_getNI C hK hP 1 0 7 rfl rfl rfl fn_X5_56 dX5_nodes_5 ?_
  refine jx_callVV C hK hP hD hS hA (ct_S_lookFrom l D cI cT aS aT _ sS sT (sT 7 0) h) ms_X5_lookFrom lk_X5_59 [0, 1] rfl rfl (fun _ => rfl) (cs' := (fun u => [(cp_S aS (aT 0), u), (cp_T aT, sT)])) (fun _ => rfl) (fun _ => rfl) 0 0 rfl rfl rfl rfl rfl hl.1 rfl rfl dX5_nodes_8 ⟨Nat.le_refl _, Nat.le_refl _⟩ (fun sS_8 H locs h hP hD hS => ?_)
  have hP : va_P D vwCl (jx_ws cI cT [(cp_S aS (aT 0), sS_8), (cp_T aT, sT)]) H := hP
  have hD : va_D A (jx_ws cI cT [(cp_S aS (aT 0), sS_8), (cp_T aT, sT)]) := hD
  refine lv_aload_n hx hb dX5_nodes_11 rfl (lv_at hl 0 rfl) ?_
  refine jx_getI C hK hP 0 0 2 rfl rfl rfl fl_X5_19 dX5_nodes_12 ?_
  exact jx_rI C hr hlk hAe hS hQQ sS_8 hP h dX5_nodes_15
set_option maxRecDepth 100000 in
set_option maxHeartbeats 4000000 in
theorem ct_S_nodesTouching (l : Launch) (D : va_G) (cI cT : ClassId) (aS : Nat → Nat) (aT : Nat → Nat) (Q : Int → jx_St → Prop) (sS : jx_St) (sT : jx_St) (l1 : Int) (h : wp_S_nodesTouching Q sS sT l1) : jx_KI jx_St l D cI cT yX5_nodesTouching cX5_nodesTouching 4 .int 3 68 [.ref (aS 0), .int (jx_i l1)] [(cp_S aS (aT 0), sS), (cp_T aT, sT)] (fun u => [(cp_S aS (aT 0), u), (cp_T aT, sT)]) Q := by
  refine jx_ent (own := RX5) (by decide) rfl (Nat.le_of_ble_eq_true rfl) ?_
  intro p e s m args below meth c A QQ C hr hlk hK hAe hA hP hD hS ls hl hQQ
  have hl : lv_has ls 4 [(0, .ref (aS 0)), (1, .int (jx_i l1))] := hl
  have hx := C.1
  have hb := C.2.1
  unfold wp_S_nodesTouching at h
  have Lo15 : ∀ (sS : jx_St) (n : Nat) (l2 : Int) (l3 : Int), jx_it (fun B15 v => wp_S_nodesTouching_15 Q sT l1 sS B15 v.1 v.2) n (l2, l3) → ∀ (H : Heap) (locs : List Loc), va_P D vwCl (jx_ws cI cT [(cp_S aS (aT 0), sS), (cp_T aT, sT)]) H → va_D A (jx_ws cI cT [(cp_S aS (aT 0), sS), (cp_T aT, sT)]) → va_S A s.heap H locs → ∀ ls : Array Slot, lv_has ls 4 [(0, .ref (aS 0)), (1, .int (jx_i l1)), (2, .int (jx_i l2)), (3, .int (jx_i l3))] → W p l e (jx_rm 3 68) s m args below meth c H locs 0 0 QQ (F0 m 15 ls []) := by
    intro sS n
    induction n with
    | zero =>
      intro l2 l3 h
      exact (show False from h).elim
    | succ n ih =>
      intro l2 l3 h H locs hP hD hS ls hl
      have h : wp_S_nodesTouching_15 Q sT l1 sS (jx_it (fun B15 v => wp_S_nodesTouching_15 Q sT l1 sS B15 v.1 v.2) n) l2 l3 := h
      have ih := fun l2 l3 h => ih l2 l3 h
      generalize jx_it (fun B15 v => wp_S_nodesTouching_15 Q sT l1 sS B15 v.1 v.2) n = B15 at h ih
      unfold wp_S_nodesTouching_15 at h
      have J38 : ∀ (l2 : Int) (l3 : Int), wp_S_nodesTouching_38 Q sT l1 B15 sS l2 l3 → ∀ (H : Heap) (locs : List Loc), va_P D vwCl (jx_ws cI cT [(cp_S aS (aT 0), sS), (cp_T aT, sT)]) H → va_D A (jx_ws cI cT [(cp_S aS (aT 0), sS), (cp_T aT, sT)]) → va_S A s.heap H locs → ∀ ls : Array Slot, lv_has ls 4 [(0, .ref (aS 0)), (1, .int (jx_i l1)), (2, .int (jx_i l2)), (3, .int (jx_i l3))] → W p l e (jx_rm 3 68) s m args below meth c H locs 0 0 QQ (F0 m 38 ls []) := by
        intro l2 l3 h H locs hP hD hS ls hl
        unfold wp_S_nodesTouching_38 at h
        refine jx_iinc C (lv' := [(3, .int (jx_i (l3 + 1))), (0, .ref (aS 0)), (1, .int (jx_i l1)), (2, .int (jx_i l2))]) dX5_nodesTouching_38 hl (k := 3) rfl (by decide) rfl (fun ls hl => ?_)
        refine lv_goto (tgt := 15) hx hb dX5_nodesTouching_41 (by decide) ?_
        exact ih l2 (l3 + 1) h _ _ hP hD hS ls (lv_sub hl [1, 2, 3, 0] rfl)
      refine lv_iload_n hx hb dX5_nodesTouching_15 rfl (lv_at hl 3 rfl) ?_
      refine lv_aload_n hx hb dX5_nodesTouching_16 rfl (lv_at hl 0 rfl) ?_
      refine jx_getI C hK hP 0 0 2 rfl rfl rfl fl_X5_19 dX5_nodesTouching_17 ?_
      refine jx_cge C h.1 h.2.1 (tgt := 44) dX5_nodesTouching_20 (by decide) (fun hc => ?_) (fun hc => ?_)
      · have h := h.2.2.2 hc
        refine lv_iload_n hx hb dX5_nodesTouching_44 rfl (lv_at hl 2 rfl) ?_
        exact jx_rI C hr hlk hAe hS hQQ sS hP h dX5_nodesTouching_45
      · have h := h.2.2.1 hc
        refine lv_aload_n hx hb dX5_nodesTouching_23 rfl (lv_at hl 0 rfl) ?_
        refine lv_iload_n hx hb dX5_nodesTouching_24 rfl (lv_at hl 3 rfl) ?_
        refine jx_callVI C hK hP hD hS hA (ct_S_hullSeen l D cI cT aS aT _ sS sT l3 h) ms_X5_hullSeen lk_X5_65 [0, 1] rfl rfl (fun _ => rfl) (cs' := (fun _ => [(cp_S aS (aT 0), sS), (cp_T aT, sT)])) (fun _ => rfl) (fun _ => rfl) 0 0 rfl rfl rfl rfl rfl hl.1 rfl rfl dX5_nodesTouching_25 ⟨Nat.le_refl _, Nat.le_refl _⟩ (fun r25 _ H locs h hP hD hS => ?_)
        have hP : va_P D vwCl (jx_ws cI cT [(cp_S aS (aT 0), sS), (cp_T aT, sT)]) H := hP
        have hD : va_D A (jx_ws cI cT [(cp_S aS (aT 0), sS), (cp_T aT, sT)]) := hD
        refine lv_iload_n hx hb dX5_nodesTouching_28 rfl (lv_at hl 1 rfl) ?_
        refine jx_callSI C hK hP hD hS hA (ct_Box_touch l D cI cT  _  r25 l1 h) ms_X0_touch lk_X5_76 [] rfl rfl (fun _ => rfl) (cs' := (fun _ => [(cp_S aS (aT 0), sS), (cp_T aT, sT)])) (fun _ => rfl) (fun _ => rfl) rfl rfl hl.1 rfl rfl dX5_nodesTouching_29 ⟨Nat.le_refl _, Nat.le_refl _⟩ (fun r29 _ H locs h hP hD hS => ?_)
        have hP : va_P D vwCl (jx_ws cI cT [(cp_S aS (aT 0), sS), (cp_T aT, sT)]) H := hP
        have hD : va_D A (jx_ws cI cT [(cp_S aS (aT 0), sS), (cp_T aT, sT)]) := hD
        refine jx_zeq C h.1 (tgt := 38) dX5_nodesTouching_32 (by decide) (fun hc => ?_) (fun hc => ?_)
        · have h := h.2.1 hc
          exact J38 l2 l3 h _ _ hP hD hS ls (lv_sub hl [0, 1, 2, 3] rfl)
        · have h := h.2.2 hc
          refine jx_iinc C (lv' := [(2, .int (jx_i (l2 + 1))), (0, .ref (aS 0)), (1, .int (jx_i l1)), (3, .int (jx_i l3))]) dX5_nodesTouching_35 hl (k := 2) rfl (by decide) rfl (fun ls hl => ?_)
          exact J38 (l2 + 1) l3 h _ _ hP hD hS ls (lv_sub hl [1, 2, 0, 3] rfl)
  refine lv_aload_n hx hb dX5_nodesTouching_0 rfl (lv_at hl 0 rfl) ?_
  refine lv_aload_n hx hb dX5_nodesTouching_1 rfl (lv_at hl 0 rfl) ?_
  refine jx_getR C hK hP 0 0 0 rfl rfl rfl fl_X5_15 dX5_nodesTouching_2 ?_
  refine jx_getNI C hK hP 1 0 7 rfl rfl rfl fn_X5_56 dX5_nodesTouching_5 ?_
  refine jx_callVV C hK hP hD hS hA (ct_S_lookFrom l D cI cT aS aT _ sS sT (sT 7 0) h) ms_X5_lookFrom lk_X5_59 [0, 1] rfl rfl (fun _ => rfl) (cs' := (fun u => [(cp_S aS (aT 0), u), (cp_T aT, sT)])) (fun _ => rfl) (fun _ => rfl) 0 0 rfl rfl rfl rfl rfl hl.1 rfl rfl dX5_nodesTouching_8 ⟨Nat.le_refl _, Nat.le_refl _⟩ (fun sS_8 H locs h hP hD hS => ?_)
  have hP : va_P D vwCl (jx_ws cI cT [(cp_S aS (aT 0), sS_8), (cp_T aT, sT)]) H := hP
  have hD : va_D A (jx_ws cI cT [(cp_S aS (aT 0), sS_8), (cp_T aT, sT)]) := hD
  refine jx_iconst C dX5_nodesTouching_11 ?_
  refine lv_istore_n (lv' := [(2, .int (jx_i 0)), (0, .ref (aS 0)), (1, .int (jx_i l1))]) hx hb dX5_nodesTouching_12 rfl hl (by decide) rfl (fun ls hl => ?_)
  refine jx_iconst C dX5_nodesTouching_13 ?_
  refine lv_istore_n (lv' := [(3, .int (jx_i 0)), (2, .int (jx_i 0)), (0, .ref (aS 0)), (1, .int (jx_i l1))]) hx hb dX5_nodesTouching_14 rfl hl (by decide) rfl (fun ls hl => ?_)
  obtain ⟨n, h⟩ := h
  refine Lo15 sS_8 n 0 0 h _ _ hP hD hS ls (lv_sub hl [2, 3, 1, 0] rfl)
set_option maxRecDepth 100000 in
set_option maxHeartbeats 4000000 in
theorem ct_S_nodesWithin (l : Launch) (D : va_G) (cI cT : ClassId) (aS : Nat → Nat) (aT : Nat → Nat) (Q : Int → jx_St → Prop) (sS : jx_St) (sT : jx_St) (l1 : Int) (l2 : Int) (l3 : Int) (h : wp_S_nodesWithin Q sS sT l1 l2 l3) : jx_KI jx_St l D cI cT yX5_nodesWithin cX5_nodesWithin 6 .int 3 68 [.ref (aS 0), .int (jx_i l1), .int (jx_i l2), .int (jx_i l3)] [(cp_S aS (aT 0), sS), (cp_T aT, sT)] (fun u => [(cp_S aS (aT 0), u), (cp_T aT, sT)]) Q := by
  refine jx_ent (own := RX5) (by decide) rfl (Nat.le_of_ble_eq_true rfl) ?_
  intro p e s m args below meth c A QQ C hr hlk hK hAe hA hP hD hS ls hl hQQ
  have hl : lv_has ls 6 [(0, .ref (aS 0)), (1, .int (jx_i l1)), (2, .int (jx_i l2)), (3, .int (jx_i l3))] := hl
  have hx := C.1
  have hb := C.2.1
  unfold wp_S_nodesWithin at h
  have Lo17 : ∀ (sS : jx_St) (n : Nat) (l4 : Int) (l5 : Int), jx_it (fun B17 v => wp_S_nodesWithin_17 Q sT l1 l2 l3 sS B17 v.1 v.2) n (l4, l5) → ∀ (H : Heap) (locs : List Loc), va_P D vwCl (jx_ws cI cT [(cp_S aS (aT 0), sS), (cp_T aT, sT)]) H → va_D A (jx_ws cI cT [(cp_S aS (aT 0), sS), (cp_T aT, sT)]) → va_S A s.heap H locs → ∀ ls : Array Slot, lv_has ls 6 [(0, .ref (aS 0)), (1, .int (jx_i l1)), (2, .int (jx_i l2)), (3, .int (jx_i l3)), (4, .int (jx_i l4)), (5, .int (jx_i l5))] → W p l e (jx_rm 3 68) s m args below meth c H locs 0 0 QQ (F0 m 17 ls []) := by
    intro sS n
    induction n with
    | zero =>
      intro l4 l5 h
      exact (show False from h).elim
    | succ n ih =>
      intro l4 l5 h H locs hP hD hS ls hl
      have h : wp_S_nodesWithin_17 Q sT l1 l2 l3 sS (jx_it (fun B17 v => wp_S_nodesWithin_17 Q sT l1 l2 l3 sS B17 v.1 v.2) n) l4 l5 := h
      have ih := fun l4 l5 h => ih l4 l5 h
      generalize jx_it (fun B17 v => wp_S_nodesWithin_17 Q sT l1 l2 l3 sS B17 v.1 v.2) n = B17 at h ih
      unfold wp_S_nodesWithin_17 at h
      have J54 : ∀ (l4 : Int) (l5 : Int), wp_S_nodesWithin_54 Q sT l1 l2 l3 B17 sS l4 l5 → ∀ (H : Heap) (locs : List Loc), va_P D vwCl (jx_ws cI cT [(cp_S aS (aT 0), sS), (cp_T aT, sT)]) H → va_D A (jx_ws cI cT [(cp_S aS (aT 0), sS), (cp_T aT, sT)]) → va_S A s.heap H locs → ∀ ls : Array Slot, lv_has ls 6 [(0, .ref (aS 0)), (1, .int (jx_i l1)), (2, .int (jx_i l2)), (3, .int (jx_i l3)), (4, .int (jx_i l4)), (5, .int (jx_i l5))] → W p l e (jx_rm 3 68) s m args below meth c H locs 0 0 QQ (F0 m 54 ls []) := by
        intro l4 l5 h H locs hP hD hS ls hl
        unfold wp_S_nodesWithin_54 at h
        refine jx_iinc C (lv' := [(5, .int (jx_i (l5 + 1))), (0, .ref (aS 0)), (1, .int (jx_i l1)), (2, .int (jx_i l2)), (3, .int (jx_i l3)), (4, .int (jx_i l4))]) dX5_nodesWithin_54 hl (k := 5) rfl (by decide) rfl (fun ls hl => ?_)
        refine lv_goto (tgt := 17) hx hb dX5_nodesWithin_57 (by decide) ?_
        exact ih l4 (l5 + 1) h _ _ hP hD hS ls (lv_sub hl [1, 2, 3, 4, 5, 0] rfl)
      refine lv_iload hx hb dX5_nodesWithin_17 (lv_at hl 5 rfl) ?_
      refine lv_aload_n hx hb dX5_nodesWithin_19 rfl (lv_at hl 0 rfl) ?_
      refine jx_getI C hK hP 0 0 2 rfl rfl rfl fl_X5_19 dX5_nodesWithin_20 ?_
      refine jx_cge C h.1 h.2.1 (tgt := 60) dX5_nodesWithin_23 (by decide) (fun hc => ?_) (fun hc => ?_)
      · have h := h.2.2.2 hc
        refine lv_iload hx hb dX5_nodesWithin_60 (lv_at hl 4 rfl) ?_
        exact jx_rI C hr hlk hAe hS hQQ sS hP h dX5_nodesWithin_62
      · have h := h.2.2.1 hc
        refine lv_aload_n hx hb dX5_nodesWithin_26 rfl (lv_at hl 0 rfl) ?_
        refine lv_iload hx hb dX5_nodesWithin_27 (lv_at hl 5 rfl) ?_
        refine jx_callVI C hK hP hD hS hA (ct_S_hullSeen l D cI cT aS aT _ sS sT l5 h) ms_X5_hullSeen lk_X5_65 [0, 1] rfl rfl (fun _ => rfl) (cs' := (fun _ => [(cp_S aS (aT 0), sS), (cp_T aT, sT)])) (fun _ => rfl) (fun _ => rfl) 0 0 rfl rfl rfl rfl rfl hl.1 rfl rfl dX5_nodesWithin_29 ⟨Nat.le_refl _, Nat.le_refl _⟩ (fun r29 _ H locs h hP hD hS => ?_)
        have hP : va_P D vwCl (jx_ws cI cT [(cp_S aS (aT 0), sS), (cp_T aT, sT)]) H := hP
        have hD : va_D A (jx_ws cI cT [(cp_S aS (aT 0), sS), (cp_T aT, sT)]) := hD
        refine jx_iconst C dX5_nodesWithin_32 ?_
        refine jx_ceq C h.1 (jx_inR (by decide) (by decide)) (tgt := 54) dX5_nodesWithin_33 (by decide) (fun hc => ?_) (fun hc => ?_)
        · have h := h.2.1 hc
          exact J54 l4 l5 h _ _ hP hD hS ls (lv_sub hl [0, 1, 2, 3, 4, 5] rfl)
        · have h := h.2.2 hc
          refine lv_aload_n hx hb dX5_nodesWithin_36 rfl (lv_at hl 0 rfl) ?_
          refine lv_iload hx hb dX5_nodesWithin_37 (lv_at hl 5 rfl) ?_
          refine jx_callVI C hK hP hD hS hA (ct_S_hullSeen l D cI cT aS aT _ sS sT l5 h) ms_X5_hullSeen lk_X5_65 [0, 1] rfl rfl (fun _ => rfl) (cs' := (fun _ => [(cp_S aS (aT 0), sS), (cp_T aT, sT)])) (fun _ => rfl) (fun _ => rfl) 0 0 rfl rfl rfl rfl rfl hl.1 rfl rfl dX5_nodesWithin_39 ⟨Nat.le_refl _, Nat.le_refl _⟩ (fun r39 _ H locs h hP hD hS => ?_)
          have hP : va_P D vwCl (jx_ws cI cT [(cp_S aS (aT 0), sS), (cp_T aT, sT)]) H := hP
          have hD : va_D A (jx_ws cI cT [(cp_S aS (aT 0), sS), (cp_T aT, sT)]) := hD
          refine lv_iload_n hx hb dX5_nodesWithin_42 rfl (lv_at hl 1 rfl) ?_
          refine lv_iload_n hx hb dX5_nodesWithin_43 rfl (lv_at hl 2 rfl) ?_
          refine jx_callSI C hK hP hD hS hA (ct_Box_distance l D cI cT  _  r39 l1 l2 h) ms_X0_distance lk_X5_80 [] rfl rfl (fun _ => rfl) (cs' := (fun _ => [(cp_S aS (aT 0), sS), (cp_T aT, sT)])) (fun _ => rfl) (fun _ => rfl) rfl rfl hl.1 rfl rfl dX5_nodesWithin_44 ⟨Nat.le_refl _, Nat.le_refl _⟩ (fun r44 _ H locs h hP hD hS => ?_)
          have hP : va_P D vwCl (jx_ws cI cT [(cp_S aS (aT 0), sS), (cp_T aT, sT)]) H := hP
          have hD : va_D A (jx_ws cI cT [(cp_S aS (aT 0), sS), (cp_T aT, sT)]) := hD
          refine lv_iload_n hx hb dX5_nodesWithin_47 rfl (lv_at hl 3 rfl) ?_
          refine jx_cgt C h.1 h.2.1 (tgt := 54) dX5_nodesWithin_48 (by decide) (fun hc => ?_) (fun hc => ?_)
          · have h := h.2.2.2 hc
            exact J54 l4 l5 h _ _ hP hD hS ls (lv_sub hl [0, 1, 2, 3, 4, 5] rfl)
          · have h := h.2.2.1 hc
            refine jx_iinc C (lv' := [(4, .int (jx_i (l4 + 1))), (0, .ref (aS 0)), (1, .int (jx_i l1)), (2, .int (jx_i l2)), (3, .int (jx_i l3)), (5, .int (jx_i l5))]) dX5_nodesWithin_51 hl (k := 4) rfl (by decide) rfl (fun ls hl => ?_)
            exact J54 (l4 + 1) l5 h _ _ hP hD hS ls (lv_sub hl [1, 2, 3, 4, 0, 5] rfl)
  refine lv_aload_n hx hb dX5_nodesWithin_0 rfl (lv_at hl 0 rfl) ?_
  refine lv_aload_n hx hb dX5_nodesWithin_1 rfl (lv_at hl 0 rfl) ?_
  refine jx_getR C hK hP 0 0 0 rfl rfl rfl fl_X5_15 dX5_nodesWithin_2 ?_
  refine jx_getNI C hK hP 1 0 7 rfl rfl rfl fn_X5_56 dX5_nodesWithin_5 ?_
  refine jx_callVV C hK hP hD hS hA (ct_S_lookFrom l D cI cT aS aT _ sS sT (sT 7 0) h) ms_X5_lookFrom lk_X5_59 [0, 1] rfl rfl (fun _ => rfl) (cs' := (fun u => [(cp_S aS (aT 0), u), (cp_T aT, sT)])) (fun _ => rfl) (fun _ => rfl) 0 0 rfl rfl rfl rfl rfl hl.1 rfl rfl dX5_nodesWithin_8 ⟨Nat.le_refl _, Nat.le_refl _⟩ (fun sS_8 H locs h hP hD hS => ?_)
  have hP : va_P D vwCl (jx_ws cI cT [(cp_S aS (aT 0), sS_8), (cp_T aT, sT)]) H := hP
  have hD : va_D A (jx_ws cI cT [(cp_S aS (aT 0), sS_8), (cp_T aT, sT)]) := hD
  refine jx_iconst C dX5_nodesWithin_11 ?_
  refine lv_istore (lv' := [(4, .int (jx_i 0)), (0, .ref (aS 0)), (1, .int (jx_i l1)), (2, .int (jx_i l2)), (3, .int (jx_i l3))]) hx hb dX5_nodesWithin_12 hl (by decide) rfl (fun ls hl => ?_)
  refine jx_iconst C dX5_nodesWithin_14 ?_
  refine lv_istore (lv' := [(5, .int (jx_i 0)), (4, .int (jx_i 0)), (0, .ref (aS 0)), (1, .int (jx_i l1)), (2, .int (jx_i l2)), (3, .int (jx_i l3))]) hx hb dX5_nodesWithin_15 hl (by decide) rfl (fun ls hl => ?_)
  obtain ⟨n, h⟩ := h
  refine Lo17 sS_8 n 0 0 h _ _ hP hD hS ls (lv_sub hl [2, 3, 4, 5, 1, 0] rfl)
set_option maxRecDepth 100000 in
set_option maxHeartbeats 4000000 in
theorem ct_S_overlapsOf (l : Launch) (D : va_G) (cI cT : ClassId) (aS : Nat → Nat) (aT : Nat → Nat) (Q : Int → jx_St → Prop) (sS : jx_St) (sT : jx_St) (l1 : Int) (h : wp_S_overlapsOf Q sS sT l1) : jx_KI jx_St l D cI cT yX5_overlapsOf cX5_overlapsOf 5 .int 3 68 [.ref (aS 0), .int (jx_i l1)] [(cp_S aS (aT 0), sS), (cp_T aT, sT)] (fun u => [(cp_S aS (aT 0), u), (cp_T aT, sT)]) Q := by
  refine jx_ent (own := RX5) (by decide) rfl (Nat.le_of_ble_eq_true rfl) ?_
  intro p e s m args below meth c A QQ C hr hlk hK hAe hA hP hD hS ls hl hQQ
  have hl : lv_has ls 5 [(0, .ref (aS 0)), (1, .int (jx_i l1))] := hl
  have hx := C.1
  have hb := C.2.1
  unfold wp_S_overlapsOf at h
  have Lo15 : ∀ (sS : jx_St) (n : Nat) (l2 : Int) (l3 : Int), jx_it (fun B15 v => wp_S_overlapsOf_15 Q sT l1 sS B15 v.1 v.2) n (l2, l3) → ∀ (H : Heap) (locs : List Loc), va_P D vwCl (jx_ws cI cT [(cp_S aS (aT 0), sS), (cp_T aT, sT)]) H → va_D A (jx_ws cI cT [(cp_S aS (aT 0), sS), (cp_T aT, sT)]) → va_S A s.heap H locs → ∀ ls : Array Slot, lv_has ls 5 [(0, .ref (aS 0)), (1, .int (jx_i l1)), (2, .int (jx_i l2)), (3, .int (jx_i l3))] → W p l e (jx_rm 3 68) s m args below meth c H locs 0 0 QQ (F0 m 15 ls []) := by
    intro sS n
    induction n with
    | zero =>
      intro l2 l3 h
      exact (show False from h).elim
    | succ n ih =>
      intro l2 l3 h H locs hP hD hS ls hl
      have h : wp_S_overlapsOf_15 Q sT l1 sS (jx_it (fun B15 v => wp_S_overlapsOf_15 Q sT l1 sS B15 v.1 v.2) n) l2 l3 := h
      have ih := fun l2 l3 h => ih l2 l3 h
      generalize jx_it (fun B15 v => wp_S_overlapsOf_15 Q sT l1 sS B15 v.1 v.2) n = B15 at h ih
      unfold wp_S_overlapsOf_15 at h
      have Lo28 : ∀ (sS : jx_St) (l3 : Int) (K79 : Int → Prop) (n : Nat) (l2 : Int) (l4 : Int), jx_it (fun B28 v => wp_S_overlapsOf_28 Q sT l1 K79 sS l3 B28 v.1 v.2) n (l2, l4) → (∀ (l2 : Int), K79 l2 → ∀ (H : Heap) (locs : List Loc), va_P D vwCl (jx_ws cI cT [(cp_S aS (aT 0), sS), (cp_T aT, sT)]) H → va_D A (jx_ws cI cT [(cp_S aS (aT 0), sS), (cp_T aT, sT)]) → va_S A s.heap H locs → ∀ ls : Array Slot, lv_has ls 5 [(0, .ref (aS 0)), (1, .int (jx_i l1)), (2, .int (jx_i l2)), (3, .int (jx_i l3))] → W p l e (jx_rm 3 68) s m args below meth c H locs 0 0 QQ (F0 m 79 ls [])) → ∀ (H : Heap) (locs : List Loc), va_P D vwCl (jx_ws cI cT [(cp_S aS (aT 0), sS), (cp_T aT, sT)]) H → va_D A (jx_ws cI cT [(cp_S aS (aT 0), sS), (cp_T aT, sT)]) → va_S A s.heap H locs → ∀ ls : Array Slot, lv_has ls 5 [(0, .ref (aS 0)), (1, .int (jx_i l1)), (2, .int (jx_i l2)), (3, .int (jx_i l3)), (4, .int (jx_i l4))] → W p l e (jx_rm 3 68) s m args below meth c H locs 0 0 QQ (F0 m 28 ls []) := by
        intro sS l3 K79 n
        induction n with
        | zero =>
          intro l2 l4 h
          exact (show False from h).elim
        | succ n ih =>
          intro l2 l4 h K79E H locs hP hD hS ls hl
          have h : wp_S_overlapsOf_28 Q sT l1 K79 sS l3 (jx_it (fun B28 v => wp_S_overlapsOf_28 Q sT l1 K79 sS l3 B28 v.1 v.2) n) l2 l4 := h
          have ih := fun l2 l4 h => ih l2 l4 h K79E
          generalize jx_it (fun B28 v => wp_S_overlapsOf_28 Q sT l1 K79 sS l3 B28 v.1 v.2) n = B28 at h ih
          unfold wp_S_overlapsOf_28 at h
          have J73 : ∀ (l2 : Int) (l4 : Int), wp_S_overlapsOf_73 Q sT l1 B28 K79 sS l2 l3 l4 → ∀ (H : Heap) (locs : List Loc), va_P D vwCl (jx_ws cI cT [(cp_S aS (aT 0), sS), (cp_T aT, sT)]) H → va_D A (jx_ws cI cT [(cp_S aS (aT 0), sS), (cp_T aT, sT)]) → va_S A s.heap H locs → ∀ ls : Array Slot, lv_has ls 5 [(0, .ref (aS 0)), (1, .int (jx_i l1)), (2, .int (jx_i l2)), (3, .int (jx_i l3)), (4, .int (jx_i l4))] → W p l e (jx_rm 3 68) s m args below meth c H locs 0 0 QQ (F0 m 73 ls []) := by
            intro l2 l4 h H locs hP hD hS ls hl
            unfold wp_S_overlapsOf_73 at h
            refine jx_iinc C (lv' := [(4, .int (jx_i (l4 + 1))), (0, .ref (aS 0)), (1, .int (jx_i l1)), (2, .int (jx_i l2)), (3, .int (jx_i l3))]) dX5_overlapsOf_73 hl (k := 4) rfl (by decide) rfl (fun ls hl => ?_)
            refine lv_goto (tgt := 28) hx hb dX5_overlapsOf_76 (by decide) ?_
            exact ih l2 (l4 + 1) h _ _ hP hD hS ls (lv_sub hl [1, 2, 3, 4, 0] rfl)
          refine lv_iload hx hb dX5_overlapsOf_28 (lv_at hl 4 rfl) ?_
          refine lv_aload_n hx hb dX5_overlapsOf_30 rfl (lv_at hl 0 rfl) ?_
          refine jx_getI C hK hP 0 0 2 rfl rfl rfl fl_X5_19 dX5_overlapsOf_31 ?_
          refine jx_cge C h.1 h.2.1 (tgt := 79) dX5_overlapsOf_34 (by decide) (fun hc => ?_) (fun hc => ?_)
          · have h := h.2.2.2 hc
            exact K79E l2 h _ _ hP hD hS ls (lv_sub hl [0, 1, 2, 3] rfl)
          · have h := h.2.2.1 hc
            refine lv_aload_n hx hb dX5_overlapsOf_37 rfl (lv_at hl 0 rfl) ?_
            refine lv_iload_n hx hb dX5_overlapsOf_38 rfl (lv_at hl 3 rfl) ?_
            refine jx_callVI C hK hP hD hS hA (ct_S_levelSeen l D cI cT aS aT _ sS sT l3 h) ms_X5_levelSeen lk_X5_62 [0, 1] rfl rfl (fun _ => rfl) (cs' := (fun _ => [(cp_S aS (aT 0), sS), (cp_T aT, sT)])) (fun _ => rfl) (fun _ => rfl) 0 0 rfl rfl rfl rfl rfl hl.1 rfl rfl dX5_overlapsOf_39 ⟨Nat.le_refl _, Nat.le_refl _⟩ (fun r39 _ H locs h hP hD hS => ?_)
            have hP : va_P D vwCl (jx_ws cI cT [(cp_S aS (aT 0), sS), (cp_T aT, sT)]) H := hP
            have hD : va_D A (jx_ws cI cT [(cp_S aS (aT 0), sS), (cp_T aT, sT)]) := hD
            refine lv_iload_n hx hb dX5_overlapsOf_42 rfl (lv_at hl 1 rfl) ?_
            refine jx_cne C h.1 h.2.1 (tgt := 79) dX5_overlapsOf_43 (by decide) (fun hc => ?_) (fun hc => ?_)
            · have h := h.2.2.2 hc
              exact K79E l2 h _ _ hP hD hS ls (lv_sub hl [0, 1, 2, 3] rfl)
            · have h := h.2.2.1 hc
              refine lv_aload_n hx hb dX5_overlapsOf_46 rfl (lv_at hl 0 rfl) ?_
              refine lv_iload hx hb dX5_overlapsOf_47 (lv_at hl 4 rfl) ?_
              refine jx_callVI C hK hP hD hS hA (ct_S_levelSeen l D cI cT aS aT _ sS sT l4 h) ms_X5_levelSeen lk_X5_62 [0, 1] rfl rfl (fun _ => rfl) (cs' := (fun _ => [(cp_S aS (aT 0), sS), (cp_T aT, sT)])) (fun _ => rfl) (fun _ => rfl) 0 0 rfl rfl rfl rfl rfl hl.1 rfl rfl dX5_overlapsOf_49 ⟨Nat.le_refl _, Nat.le_refl _⟩ (fun r49 _ H locs h hP hD hS => ?_)
              have hP : va_P D vwCl (jx_ws cI cT [(cp_S aS (aT 0), sS), (cp_T aT, sT)]) H := hP
              have hD : va_D A (jx_ws cI cT [(cp_S aS (aT 0), sS), (cp_T aT, sT)]) := hD
              refine lv_iload_n hx hb dX5_overlapsOf_52 rfl (lv_at hl 1 rfl) ?_
              refine jx_cne C h.1 h.2.1 (tgt := 73) dX5_overlapsOf_53 (by decide) (fun hc => ?_) (fun hc => ?_)
              · have h := h.2.2.2 hc
                exact J73 l2 l4 h _ _ hP hD hS ls (lv_sub hl [0, 1, 2, 3, 4] rfl)
              · have h := h.2.2.1 hc
                refine lv_iload_n hx hb dX5_overlapsOf_56 rfl (lv_at hl 2 rfl) ?_
                refine lv_aload_n hx hb dX5_overlapsOf_57 rfl (lv_at hl 0 rfl) ?_
                refine lv_iload_n hx hb dX5_overlapsOf_58 rfl (lv_at hl 3 rfl) ?_
                refine jx_callVI C hK hP hD hS hA (ct_S_hullSeen l D cI cT aS aT _ sS sT l3 h) ms_X5_hullSeen lk_X5_65 [0, 1] rfl rfl (fun _ => rfl) (cs' := (fun _ => [(cp_S aS (aT 0), sS), (cp_T aT, sT)])) (fun _ => rfl) (fun _ => rfl) 0 0 rfl rfl rfl rfl rfl hl.1 rfl rfl dX5_overlapsOf_59 ⟨Nat.le_refl _, Nat.le_refl _⟩ (fun r59 _ H locs h hP hD hS => ?_)
                have hP : va_P D vwCl (jx_ws cI cT [(cp_S aS (aT 0), sS), (cp_T aT, sT)]) H := hP
                have hD : va_D A (jx_ws cI cT [(cp_S aS (aT 0), sS), (cp_T aT, sT)]) := hD
                refine lv_aload_n hx hb dX5_overlapsOf_62 rfl (lv_at hl 0 rfl) ?_
                refine lv_iload hx hb dX5_overlapsOf_63 (lv_at hl 4 rfl) ?_
                refine jx_callVI C hK hP hD hS hA (ct_S_hullSeen l D cI cT aS aT _ sS sT l4 h) ms_X5_hullSeen lk_X5_65 [0, 1] rfl rfl (fun _ => rfl) (cs' := (fun _ => [(cp_S aS (aT 0), sS), (cp_T aT, sT)])) (fun _ => rfl) (fun _ => rfl) 0 0 rfl rfl rfl rfl rfl hl.1 rfl rfl dX5_overlapsOf_65 ⟨Nat.le_refl _, Nat.le_refl _⟩ (fun r65 _ H locs h hP hD hS => ?_)
                have hP : va_P D vwCl (jx_ws cI cT [(cp_S aS (aT 0), sS), (cp_T aT, sT)]) H := hP
                have hD : va_D A (jx_ws cI cT [(cp_S aS (aT 0), sS), (cp_T aT, sT)]) := hD
                refine jx_callSI C hK hP hD hS hA (ct_Box_common l D cI cT  _  r59 r65 h) ms_X0_common lk_X5_68 [] rfl rfl (fun _ => rfl) (cs' := (fun _ => [(cp_S aS (aT 0), sS), (cp_T aT, sT)])) (fun _ => rfl) (fun _ => rfl) rfl rfl hl.1 rfl rfl dX5_overlapsOf_68 ⟨Nat.le_refl _, Nat.le_refl _⟩ (fun r68 _ H locs h hP hD hS => ?_)
                have hP : va_P D vwCl (jx_ws cI cT [(cp_S aS (aT 0), sS), (cp_T aT, sT)]) H := hP
                have hD : va_D A (jx_ws cI cT [(cp_S aS (aT 0), sS), (cp_T aT, sT)]) := hD
                refine jx_iadd C dX5_overlapsOf_71 ?_
                refine lv_istore_n (lv' := [(2, .int (jx_i (l2 + r68))), (0, .ref (aS 0)), (1, .int (jx_i l1)), (3, .int (jx_i l3)), (4, .int (jx_i l4))]) hx hb dX5_overlapsOf_72 rfl hl (by decide) rfl (fun ls hl => ?_)
                exact J73 (l2 + r68) l4 h _ _ hP hD hS ls (lv_sub hl [1, 2, 0, 3, 4] rfl)
      have J79 : ∀ (l2 : Int) (l3 : Int), wp_S_overlapsOf_79 Q sT l1 B15 sS l2 l3 → ∀ (H : Heap) (locs : List Loc), va_P D vwCl (jx_ws cI cT [(cp_S aS (aT 0), sS), (cp_T aT, sT)]) H → va_D A (jx_ws cI cT [(cp_S aS (aT 0), sS), (cp_T aT, sT)]) → va_S A s.heap H locs → ∀ ls : Array Slot, lv_has ls 5 [(0, .ref (aS 0)), (1, .int (jx_i l1)), (2, .int (jx_i l2)), (3, .int (jx_i l3))] → W p l e (jx_rm 3 68) s m args below meth c H locs 0 0 QQ (F0 m 79 ls []) := by
        intro l2 l3 h H locs hP hD hS ls hl
        unfold wp_S_overlapsOf_79 at h
        refine jx_iinc C (lv' := [(3, .int (jx_i (l3 + 1))), (0, .ref (aS 0)), (1, .int (jx_i l1)), (2, .int (jx_i l2))]) dX5_overlapsOf_79 hl (k := 3) rfl (by decide) rfl (fun ls hl => ?_)
        refine lv_goto (tgt := 15) hx hb dX5_overlapsOf_82 (by decide) ?_
        exact ih l2 (l3 + 1) h _ _ hP hD hS ls (lv_sub hl [1, 2, 3, 0] rfl)
      refine lv_iload_n hx hb dX5_overlapsOf_15 rfl (lv_at hl 3 rfl) ?_
      refine lv_aload_n hx hb dX5_overlapsOf_16 rfl (lv_at hl 0 rfl) ?_
      refine jx_getI C hK hP 0 0 2 rfl rfl rfl fl_X5_19 dX5_overlapsOf_17 ?_
      refine jx_cge C h.1 h.2.1 (tgt := 85) dX5_overlapsOf_20 (by decide) (fun hc => ?_) (fun hc => ?_)
      · have h := h.2.2.2 hc
        refine lv_iload_n hx hb dX5_overlapsOf_85 rfl (lv_at hl 2 rfl) ?_
        exact jx_rI C hr hlk hAe hS hQQ sS hP h dX5_overlapsOf_86
      · have h := h.2.2.1 hc
        refine lv_iload_n hx hb dX5_overlapsOf_23 rfl (lv_at hl 3 rfl) ?_
        refine jx_iconst C dX5_overlapsOf_24 ?_
        refine jx_iadd C dX5_overlapsOf_25 ?_
        refine lv_istore (lv' := [(4, .int (jx_i (l3 + 1))), (0, .ref (aS 0)), (1, .int (jx_i l1)), (2, .int (jx_i l2)), (3, .int (jx_i l3))]) hx hb dX5_overlapsOf_26 hl (by decide) rfl (fun ls hl => ?_)
        obtain ⟨n, h⟩ := h
        refine Lo28 sS l3 _ n l2 (l3 + 1) h ?_ _ _ hP hD hS ls (lv_sub hl [1, 2, 3, 4, 0] rfl)
        · intro l2 h H locs hP hD hS ls hl
          exact J79 l2 l3 h _ _ hP hD hS ls (lv_sub hl [0, 1, 2, 3] rfl)
  refine lv_aload_n hx hb dX5_overlapsOf_0 rfl (lv_at hl 0 rfl) ?_
  refine lv_aload_n hx hb dX5_overlapsOf_1 rfl (lv_at hl 0 rfl) ?_
  refine jx_getR C hK hP 0 0 0 rfl rfl rfl fl_X5_15 dX5_overlapsOf_2 ?_
  refine jx_getNI C hK hP 1 0 7 rfl rfl rfl fn_X5_56 dX5_overlapsOf_5 ?_
  refine jx_callVV C hK hP hD hS hA (ct_S_lookFrom l D cI cT aS aT _ sS sT (sT 7 0) h) ms_X5_lookFrom lk_X5_59 [0, 1] rfl rfl (fun _ => rfl) (cs' := (fun u => [(cp_S aS (aT 0), u), (cp_T aT, sT)])) (fun _ => rfl) (fun _ => rfl) 0 0 rfl rfl rfl rfl rfl hl.1 rfl rfl dX5_overlapsOf_8 ⟨Nat.le_refl _, Nat.le_refl _⟩ (fun sS_8 H locs h hP hD hS => ?_)
  have hP : va_P D vwCl (jx_ws cI cT [(cp_S aS (aT 0), sS_8), (cp_T aT, sT)]) H := hP
  have hD : va_D A (jx_ws cI cT [(cp_S aS (aT 0), sS_8), (cp_T aT, sT)]) := hD
  refine jx_iconst C dX5_overlapsOf_11 ?_
  refine lv_istore_n (lv' := [(2, .int (jx_i 0)), (0, .ref (aS 0)), (1, .int (jx_i l1))]) hx hb dX5_overlapsOf_12 rfl hl (by decide) rfl (fun ls hl => ?_)
  refine jx_iconst C dX5_overlapsOf_13 ?_
  refine lv_istore_n (lv' := [(3, .int (jx_i 0)), (2, .int (jx_i 0)), (0, .ref (aS 0)), (1, .int (jx_i l1))]) hx hb dX5_overlapsOf_14 rfl hl (by decide) rfl (fun ls hl => ?_)
  obtain ⟨n, h⟩ := h
  refine Lo15 sS_8 n 0 0 h _ _ hP hD hS ls (lv_sub hl [2, 3, 1, 0] rfl)
set_option maxRecDepth 100000 in
set_option maxHeartbeats 4000000 in
theorem ct_S_placeOf (l : Launch) (D : va_G) (cI cT : ClassId) (aS : Nat → Nat) (aT : Nat → Nat) (Q : Int → jx_St → Prop) (sS : jx_St) (sT : jx_St) (l1 : Int) (h : wp_S_placeOf Q sS sT l1) : jx_KI jx_St l D cI cT yX5_placeOf cX5_placeOf 5 .int 3 68 [.ref (aS 0), .int (jx_i l1)] [(cp_S aS (aT 0), sS), (cp_T aT, sT)] (fun u => [(cp_S aS (aT 0), u), (cp_T aT, sT)]) Q := by
  refine jx_ent (own := RX5) (by decide) rfl (Nat.le_of_ble_eq_true rfl) ?_
  intro p e s m args below meth c A QQ C hr hlk hK hAe hA hP hD hS ls hl hQQ
  have hl : lv_has ls 5 [(0, .ref (aS 0)), (1, .int (jx_i l1))] := hl
  have hx := C.1
  have hb := C.2.1
  unfold wp_S_placeOf at h
  have Lo25 : ∀ (sS : jx_St) (l2 : Int) (n : Nat) (l3 : Int) (l4 : Int), jx_it (fun B25 v => wp_S_placeOf_25 Q sT l1 sS l2 B25 v.1 v.2) n (l3, l4) → ∀ (H : Heap) (locs : List Loc), va_P D vwCl (jx_ws cI cT [(cp_S aS (aT 0), sS), (cp_T aT, sT)]) H → va_D A (jx_ws cI cT [(cp_S aS (aT 0), sS), (cp_T aT, sT)]) → va_S A s.heap H locs → ∀ ls : Array Slot, lv_has ls 5 [(0, .ref (aS 0)), (1, .int (jx_i l1)), (2, .int (jx_i l2)), (3, .int (jx_i l3)), (4, .int (jx_i l4))] → W p l e (jx_rm 3 68) s m args below meth c H locs 0 0 QQ (F0 m 25 ls []) := by
    intro sS l2 n
    induction n with
    | zero =>
      intro l3 l4 h
      exact (show False from h).elim
    | succ n ih =>
      intro l3 l4 h H locs hP hD hS ls hl
      have h : wp_S_placeOf_25 Q sT l1 sS l2 (jx_it (fun B25 v => wp_S_placeOf_25 Q sT l1 sS l2 B25 v.1 v.2) n) l3 l4 := h
      have ih := fun l3 l4 h => ih l3 l4 h
      generalize jx_it (fun B25 v => wp_S_placeOf_25 Q sT l1 sS l2 B25 v.1 v.2) n = B25 at h ih
      unfold wp_S_placeOf_25 at h
      have J57 : ∀ (l3 : Int) (l4 : Int), wp_S_placeOf_57 Q sT l1 B25 sS l2 l3 l4 → ∀ (H : Heap) (locs : List Loc), va_P D vwCl (jx_ws cI cT [(cp_S aS (aT 0), sS), (cp_T aT, sT)]) H → va_D A (jx_ws cI cT [(cp_S aS (aT 0), sS), (cp_T aT, sT)]) → va_S A s.heap H locs → ∀ ls : Array Slot, lv_has ls 5 [(0, .ref (aS 0)), (1, .int (jx_i l1)), (2, .int (jx_i l2)), (3, .int (jx_i l3)), (4, .int (jx_i l4))] → W p l e (jx_rm 3 68) s m args below meth c H locs 0 0 QQ (F0 m 57 ls []) := by
        intro l3 l4 h H locs hP hD hS ls hl
        unfold wp_S_placeOf_57 at h
        refine jx_iinc C (lv' := [(4, .int (jx_i (l4 + 1))), (0, .ref (aS 0)), (1, .int (jx_i l1)), (2, .int (jx_i l2)), (3, .int (jx_i l3))]) dX5_placeOf_57 hl (k := 4) rfl (by decide) rfl (fun ls hl => ?_)
        refine lv_goto (tgt := 25) hx hb dX5_placeOf_60 (by decide) ?_
        exact ih l3 (l4 + 1) h _ _ hP hD hS ls (lv_sub hl [1, 2, 3, 4, 0] rfl)
      refine lv_iload hx hb dX5_placeOf_25 (lv_at hl 4 rfl) ?_
      refine lv_aload_n hx hb dX5_placeOf_27 rfl (lv_at hl 0 rfl) ?_
      refine jx_getI C hK hP 0 0 2 rfl rfl rfl fl_X5_19 dX5_placeOf_28 ?_
      refine jx_cge C h.1 h.2.1 (tgt := 63) dX5_placeOf_31 (by decide) (fun hc => ?_) (fun hc => ?_)
      · have h := h.2.2.2 hc
        refine lv_iload_n hx hb dX5_placeOf_63 rfl (lv_at hl 3 rfl) ?_
        exact jx_rI C hr hlk hAe hS hQQ sS hP h dX5_placeOf_64
      · have h := h.2.2.1 hc
        refine lv_aload_n hx hb dX5_placeOf_34 rfl (lv_at hl 0 rfl) ?_
        refine lv_iload hx hb dX5_placeOf_35 (lv_at hl 4 rfl) ?_
        refine jx_callVI C hK hP hD hS hA (ct_S_nodeSeen l D cI cT aS aT _ sS l4 h) ms_X5_nodeSeen lk_X5_53 [0] rfl rfl (fun _ => rfl) (cs' := (fun _ => [(cp_S aS (aT 0), sS), (cp_T aT, sT)])) (fun _ => rfl) (fun _ => rfl) 0 0 rfl rfl rfl rfl rfl hl.1 rfl rfl dX5_placeOf_37 ⟨Nat.le_refl _, Nat.le_refl _⟩ (fun r37 _ H locs h hP hD hS => ?_)
        have hP : va_P D vwCl (jx_ws cI cT [(cp_S aS (aT 0), sS), (cp_T aT, sT)]) H := hP
        have hD : va_D A (jx_ws cI cT [(cp_S aS (aT 0), sS), (cp_T aT, sT)]) := hD
        refine lv_iload_n hx hb dX5_placeOf_40 rfl (lv_at hl 1 rfl) ?_
        refine jx_ceq C h.1 h.2.1 (tgt := 63) dX5_placeOf_41 (by decide) (fun hc => ?_) (fun hc => ?_)
        · have h := h.2.2.1 hc
          refine lv_iload_n hx hb dX5_placeOf_63 rfl (lv_at hl 3 rfl) ?_
          exact jx_rI C hr hlk hAe hS hQQ sS hP h dX5_placeOf_64
        · have h := h.2.2.2 hc
          refine lv_aload_n hx hb dX5_placeOf_44 rfl (lv_at hl 0 rfl) ?_
          refine lv_iload hx hb dX5_placeOf_45 (lv_at hl 4 rfl) ?_
          refine jx_callVI C hK hP hD hS hA (ct_S_levelSeen l D cI cT aS aT _ sS sT l4 h) ms_X5_levelSeen lk_X5_62 [0, 1] rfl rfl (fun _ => rfl) (cs' := (fun _ => [(cp_S aS (aT 0), sS), (cp_T aT, sT)])) (fun _ => rfl) (fun _ => rfl) 0 0 rfl rfl rfl rfl rfl hl.1 rfl rfl dX5_placeOf_47 ⟨Nat.le_refl _, Nat.le_refl _⟩ (fun r47 _ H locs h hP hD hS => ?_)
          have hP : va_P D vwCl (jx_ws cI cT [(cp_S aS (aT 0), sS), (cp_T aT, sT)]) H := hP
          have hD : va_D A (jx_ws cI cT [(cp_S aS (aT 0), sS), (cp_T aT, sT)]) := hD
          refine lv_iload_n hx hb dX5_placeOf_50 rfl (lv_at hl 2 rfl) ?_
          refine jx_cne C h.1 h.2.1 (tgt := 57) dX5_placeOf_51 (by decide) (fun hc => ?_) (fun hc => ?_)
          · have h := h.2.2.2 hc
            exact J57 l3 l4 h _ _ hP hD hS ls (lv_sub hl [0, 1, 2, 3, 4] rfl)
          · have h := h.2.2.1 hc
            refine jx_iinc C (lv' := [(3, .int (jx_i (l3 + 1))), (0, .ref (aS 0)), (1, .int (jx_i l1)), (2, .int (jx_i l2)), (4, .int (jx_i l4))]) dX5_placeOf_54 hl (k := 3) rfl (by decide) rfl (fun ls hl => ?_)
            exact J57 (l3 + 1) l4 h _ _ hP hD hS ls (lv_sub hl [1, 2, 3, 0, 4] rfl)
  refine lv_aload_n hx hb dX5_placeOf_0 rfl (lv_at hl 0 rfl) ?_
  refine lv_aload_n hx hb dX5_placeOf_1 rfl (lv_at hl 0 rfl) ?_
  refine jx_getR C hK hP 0 0 0 rfl rfl rfl fl_X5_15 dX5_placeOf_2 ?_
  refine jx_getNI C hK hP 1 0 7 rfl rfl rfl fn_X5_56 dX5_placeOf_5 ?_
  refine jx_callVV C hK hP hD hS hA (ct_S_lookFrom l D cI cT aS aT _ sS sT (sT 7 0) h) ms_X5_lookFrom lk_X5_59 [0, 1] rfl rfl (fun _ => rfl) (cs' := (fun u => [(cp_S aS (aT 0), u), (cp_T aT, sT)])) (fun _ => rfl) (fun _ => rfl) 0 0 rfl rfl rfl rfl rfl hl.1 rfl rfl dX5_placeOf_8 ⟨Nat.le_refl _, Nat.le_refl _⟩ (fun sS_8 H locs h hP hD hS => ?_)
  have hP : va_P D vwCl (jx_ws cI cT [(cp_S aS (aT 0), sS_8), (cp_T aT, sT)]) H := hP
  have hD : va_D A (jx_ws cI cT [(cp_S aS (aT 0), sS_8), (cp_T aT, sT)]) := hD
  refine lv_aload_n hx hb dX5_placeOf_11 rfl (lv_at hl 0 rfl) ?_
  refine jx_getR C hK hP 0 0 0 rfl rfl rfl fl_X5_15 dX5_placeOf_12 ?_
  refine lv_iload_n hx hb dX5_placeOf_15 rfl (lv_at hl 1 rfl) ?_
  refine jx_callVI C hK hP hD hS hA (ct_T_levelOf l D cI cT aT _ sT l1 h) ms_X6_levelOf lk_X5_33 [1] rfl rfl (fun _ => rfl) (cs' := (fun _ => [(cp_S aS (aT 0), sS_8), (cp_T aT, sT)])) (fun _ => rfl) (fun _ => rfl) 1 0 rfl rfl rfl rfl rfl hl.1 rfl rfl dX5_placeOf_16 ⟨Nat.le_refl _, Nat.le_refl _⟩ (fun r16 _ H locs h hP hD hS => ?_)
  have hP : va_P D vwCl (jx_ws cI cT [(cp_S aS (aT 0), sS_8), (cp_T aT, sT)]) H := hP
  have hD : va_D A (jx_ws cI cT [(cp_S aS (aT 0), sS_8), (cp_T aT, sT)]) := hD
  refine lv_istore_n (lv' := [(2, .int (jx_i r16)), (0, .ref (aS 0)), (1, .int (jx_i l1))]) hx hb dX5_placeOf_19 rfl hl (by decide) rfl (fun ls hl => ?_)
  refine jx_iconst C dX5_placeOf_20 ?_
  refine lv_istore_n (lv' := [(3, .int (jx_i 0)), (2, .int (jx_i r16)), (0, .ref (aS 0)), (1, .int (jx_i l1))]) hx hb dX5_placeOf_21 rfl hl (by decide) rfl (fun ls hl => ?_)
  refine jx_iconst C dX5_placeOf_22 ?_
  refine lv_istore (lv' := [(4, .int (jx_i 0)), (3, .int (jx_i 0)), (2, .int (jx_i r16)), (0, .ref (aS 0)), (1, .int (jx_i l1))]) hx hb dX5_placeOf_23 hl (by decide) rfl (fun ls hl => ?_)
  obtain ⟨n, h⟩ := h
  refine Lo25 sS_8 r16 n 0 0 h _ _ hP hD hS ls (lv_sub hl [3, 4, 2, 1, 0] rfl)
