set_option maxRecDepth 100000 in
set_option maxHeartbeats 4000000 in
theorem ct_H_stateAt (l : Launch) (D : va_G) (cI cT : ClassId) (aH : Nat → Nat) (hT : Nat → Nat → Nat) (Q : Int → Prop) (sH : jx_St) (l1 : Int) (h : wp_H_stateAt Q sH l1) : jx_KQ (Unit) l D cI cT (fun j => hT j 0) yX2_stateAt cX2_stateAt 3 0 0 [.ref (aH 0), .int (jx_i l1)] [(cp_H aH (fun j => hT j 0), sH)] (fun _ => [(cp_H aH (fun j => hT j 0), sH)]) (fun x _ => Q x) := by
  refine jx_ent (own := RX2) (by decide) rfl (Nat.le_of_ble_eq_true rfl) ?_
  intro p e s m args below meth c A QQ C hr hlk hK hAe hA hP hD hS ls hl hQQ
  have hl : lv_has ls 3 [(0, .ref (aH 0)), (1, .int (jx_i l1))] := hl
  have hx := C.1
  have hb := C.2.1
  unfold wp_H_stateAt at h
  have J35 : wp_H_stateAt_35 Q sH l1 → ∀ (H : Heap) (locs : List Loc), va_P D vwCl (jx_ws cI cT [(cp_H aH (fun j => hT j 0), sH)]) H → va_D A (jx_ws cI cT [(cp_H aH (fun j => hT j 0), sH)]) → va_S A s.heap H locs → ∀ ls : Array Slot, lv_has ls 3 [] → W p l e (jx_rm 0 0) s m args below meth c H locs 0 0 QQ (F0 m 35 ls []) := by
    intro h H locs hP hD hS ls hl
    unfold wp_H_stateAt_35 at h
    refine lv_null hx hb dX2_stateAt_35 ?_
    exact jx_rQ C hr hlk hAe hS hQQ (-1) (Or.inl rfl) rfl () hP h dX2_stateAt_36
  refine lv_aload_n hx hb dX2_stateAt_0 rfl (lv_at hl 0 rfl) ?_
  refine jx_getI C hK hP 0 0 1 rfl rfl rfl fl_X2_22 dX2_stateAt_1 ?_
  refine lv_iload_n hx hb dX2_stateAt_4 rfl (lv_at hl 1 rfl) ?_
  refine jx_iadd C dX2_stateAt_5 ?_
  refine jx_iconst C dX2_stateAt_6 ?_
  refine jx_irem C (by decide) dX2_stateAt_7 ?_
  refine lv_istore_n (lv' := [(2, .int (jx_i (jx_rem ((sH 1 0) + l1) 4))), (0, .ref (aH 0)), (1, .int (jx_i l1))]) hx hb dX2_stateAt_8 rfl hl (by decide) rfl (fun ls hl => ?_)
  refine lv_iload_n hx hb dX2_stateAt_9 rfl (lv_at hl 2 rfl) ?_
  refine jx_zlt C h.1 (tgt := 35) dX2_stateAt_10 (by decide) (fun hc => ?_) (fun hc => ?_)
  · have h := h.2.1 hc
    exact J35  h _ _ hP hD hS ls (lv_sub hl [] rfl)
  · have h := h.2.2 hc
    refine lv_iload_n hx hb dX2_stateAt_13 rfl (lv_at hl 0 rfl) ?_
    refine jx_zlt C h.1 (tgt := 35) dX2_stateAt_14 (by decide) (fun hc => ?_) (fun hc => ?_)
    · have h := h.2.1 hc
      exact J35  h _ _ hP hD hS ls (lv_sub hl [] rfl)
    · have h := h.2.2 hc
      refine lv_iload_n hx hb dX2_stateAt_17 rfl (lv_at hl 0 rfl) ?_
      refine lv_aload_n hx hb dX2_stateAt_18 rfl (lv_at hl 1 rfl) ?_
      refine jx_getR C hK hP 0 0 0 rfl rfl rfl fl_X2_11 dX2_stateAt_19 ?_
      refine jx_alenR (n := 4) C hK hP 0 1 rfl rfl rfl dX2_stateAt_22 ?_
      refine jx_cge C h.1 (jx_inR (by decide) (by decide)) (tgt := 35) dX2_stateAt_23 (by decide) (fun hc => ?_) (fun hc => ?_)
      · have h := h.2.2 hc
        exact J35  h _ _ hP hD hS ls (lv_sub hl [] rfl)
      · have h := h.2.1 hc
        refine lv_aload_n hx hb dX2_stateAt_26 rfl (lv_at hl 1 rfl) ?_
        refine jx_getR C hK hP 0 0 0 rfl rfl rfl fl_X2_11 dX2_stateAt_27 ?_
        refine lv_iload_n hx hb dX2_stateAt_30 rfl (lv_at hl 0 rfl) ?_
        refine jx_aald (h := fun j => hT j 0) C hK hP 0 1 rfl rfl h.1 dX2_stateAt_31 ?_
        have hB4 := h.1
        have h := h.2
        refine lv_goto (tgt := 36) hx hb dX2_stateAt_32 (by decide) ?_
        exact jx_rQ C hr hlk hAe hS hQQ (jx_rem ((sH 1 0) + l1) 4) (Or.inr hB4) rfl () hP h dX2_stateAt_36
set_option maxRecDepth 100000 in
set_option maxHeartbeats 4000000 in
theorem ct_H_record (l : Launch) (D : va_G) (cI cT : ClassId) (aH : Nat → Nat) (hT : Nat → Nat → Nat) (aT : Nat → Nat) (Q : jx_St → jx_St → jx_St → jx_St → jx_St → Prop) (sT : jx_St) (sH : jx_St) (sH0 : jx_St) (sH1 : jx_St) (sH2 : jx_St) (sH3 : jx_St) (h : wp_H_record Q sT sH sH0 sH1 sH2 sH3) : jx_KV (jx_St × jx_St × jx_St × jx_St × jx_St) l D cI cT yX2_record cX2_record 3 2 61 [.ref (aH 0), .ref (aT 0)] [(cp_T aT, sT), (cp_H aH (fun j => hT j 0), sH), (cp_T (hT 0), sH0), (cp_T (hT 1), sH1), (cp_T (hT 2), sH2), (cp_T (hT 3), sH3)] (fun u => [(cp_T aT, sT), (cp_H aH (fun j => hT j 0), u.1), (cp_T (hT 0), u.2.1), (cp_T (hT 1), u.2.2.1), (cp_T (hT 2), u.2.2.2.1), (cp_T (hT 3), u.2.2.2.2)]) (fun u => Q u.1 u.2.1 u.2.2.1 u.2.2.2.1 u.2.2.2.2) := by
  refine jx_ent (own := RX2) (by decide) rfl (Nat.le_of_ble_eq_true rfl) ?_
  intro p e s m args below meth c A QQ C hr hlk hK hAe hA hP hD hS ls hl hQQ
  have hl : lv_has ls 3 [(0, .ref (aH 0)), (1, .ref (aT 0))] := hl
  have hx := C.1
  have hb := C.2.1
  unfold wp_H_record at h
  have J30 : ∀ (sH : jx_St) (sH0 : jx_St) (sH1 : jx_St) (sH2 : jx_St) (sH3 : jx_St), wp_H_record_30 Q sT sH sH0 sH1 sH2 sH3 → ∀ (H : Heap) (locs : List Loc), va_P D vwCl (jx_ws cI cT [(cp_T aT, sT), (cp_H aH (fun j => hT j 0), sH), (cp_T (hT 0), sH0), (cp_T (hT 1), sH1), (cp_T (hT 2), sH2), (cp_T (hT 3), sH3)]) H → va_D A (jx_ws cI cT [(cp_T aT, sT), (cp_H aH (fun j => hT j 0), sH), (cp_T (hT 0), sH0), (cp_T (hT 1), sH1), (cp_T (hT 2), sH2), (cp_T (hT 3), sH3)]) → va_S A s.heap H locs → ∀ ls : Array Slot, lv_has ls 3 [(0, .ref (aH 0)), (1, .ref (aT 0))] → W p l e (jx_rm 2 61) s m args below meth c H locs 0 0 QQ (F0 m 30 ls []) := by
    intro sH sH0 sH1 sH2 sH3 h H locs hP hD hS ls hl
    unfold wp_H_record_30 at h
    refine lv_aload_n hx hb dX2_record_30 rfl (lv_at hl 0 rfl) ?_
    refine lv_aload_n hx hb dX2_record_31 rfl (lv_at hl 0 rfl) ?_
    refine jx_getI C hK hP 1 0 2 rfl rfl rfl fl_X2_18 dX2_record_32 ?_
    refine jx_callVQ C hK hP hD hS hA (ct_H_stateAt l D cI cT aH hT _ sH (sH 2 0) h) ms_X2_stateAt lk_X2_25 [1] rfl rfl (fun _ => rfl) (cs' := (fun _ => [(cp_T aT, sT), (cp_H aH (fun j => hT j 0), sH), (cp_T (hT 0), sH0), (cp_T (hT 1), sH1), (cp_T (hT 2), sH2), (cp_T (hT 3), sH3)])) (fun _ => rfl) (fun _ => rfl) 1 0 rfl rfl rfl rfl rfl hl.1 rfl rfl dX2_record_35 ⟨Nat.le_refl _, Nat.le_refl _⟩ (fun r35 _ H locs hx4 h hP hD hS => ?_)
    have hP : va_P D vwCl (jx_ws cI cT [(cp_T aT, sT), (cp_H aH (fun j => hT j 0), sH), (cp_T (hT 0), sH0), (cp_T (hT 1), sH1), (cp_T (hT 2), sH2), (cp_T (hT 3), sH3)]) H := hP
    have hD : va_D A (jx_ws cI cT [(cp_T aT, sT), (cp_H aH (fun j => hT j 0), sH), (cp_T (hT 0), sH0), (cp_T (hT 1), sH1), (cp_T (hT 2), sH2), (cp_T (hT 3), sH3)]) := hD
    have hx5 : r35 = -1 ∨ r35 = 0 ∨ r35 = 1 ∨ r35 = 2 ∨ r35 = 3 := by
      rcases hx4 with hx4 | hx4
      · exact Or.inl hx4
      · have h1 := hx4.1
        have h2 := hx4.2
        omega
    rcases hx5 with hc | hc | hc | hc | hc
    · subst hc
      have h := h.1 rfl
      refine W.eq (g2 := F0 m 38 ls [.null]) rfl ?_
      refine lv_astore_nN (lv' := [(2, .null), (0, .ref (aH 0)), (1, .ref (aT 0))]) hx hb dX2_record_38 rfl hl (by decide) rfl (fun ls hl => ?_)
      refine lv_aload_nN hx hb dX2_record_39 rfl (lv_at hl 0 rfl) ?_
      refine lv_ifnullN hx hb dX2_record_40 (tgt := 58) (by decide) ?_
      exact jx_rV C hr hlk hAe hS hQQ (sH, sH0, sH1, sH2, sH3) hP h dX2_record_58
    · subst hc
      have h := h.2.1 rfl
      refine W.eq (g2 := F0 m 38 ls [.ref ((hT 0) 0)]) rfl ?_
      refine lv_astore_n (lv' := [(2, .ref ((hT 0) 0)), (0, .ref (aH 0)), (1, .ref (aT 0))]) hx hb dX2_record_38 rfl hl (by decide) rfl (fun ls hl => ?_)
      refine lv_aload_n hx hb dX2_record_39 rfl (lv_at hl 0 rfl) ?_
      refine lv_ifnull hx hb dX2_record_40 ?_
      refine lv_aload_n hx hb dX2_record_43 rfl (lv_at hl 0 rfl) ?_
      refine lv_aload_n hx hb dX2_record_44 rfl (lv_at hl 2 rfl) ?_
      refine jx_callVV C hK hP hD hS hA (ct_T_copy l D cI cT (hT 0) aT _ sH0 sT  h) ms_X6_copy lk_X2_29 [2, 0] rfl rfl (fun _ => rfl) (cs' := (fun u => [(cp_T aT, sT), (cp_H aH (fun j => hT j 0), sH), (cp_T (hT 0), u), (cp_T (hT 1), sH1), (cp_T (hT 2), sH2), (cp_T (hT 3), sH3)])) (fun _ => rfl) (fun _ => rfl) 2 0 rfl rfl rfl rfl rfl hl.1 rfl rfl dX2_record_45 ⟨Nat.le_refl _, Nat.le_refl _⟩ (fun sH0_45 H locs h hP hD hS => ?_)
      have hP : va_P D vwCl (jx_ws cI cT [(cp_T aT, sT), (cp_H aH (fun j => hT j 0), sH), (cp_T (hT 0), sH0_45), (cp_T (hT 1), sH1), (cp_T (hT 2), sH2), (cp_T (hT 3), sH3)]) H := hP
      have hD : va_D A (jx_ws cI cT [(cp_T aT, sT), (cp_H aH (fun j => hT j 0), sH), (cp_T (hT 0), sH0_45), (cp_T (hT 1), sH1), (cp_T (hT 2), sH2), (cp_T (hT 3), sH3)]) := hD
      refine lv_aload_n hx hb dX2_record_48 rfl (lv_at hl 1 rfl) ?_
      refine lv_dup hx hb dX2_record_49 rfl ?_
      refine jx_getI C hK hP 1 0 2 rfl rfl rfl fl_X2_18 dX2_record_50 ?_
      refine jx_iconst C dX2_record_53 ?_
      refine jx_iadd C dX2_record_54 ?_
      refine jx_putI C hK hP hD hS 1 0 2 rfl rfl rfl rfl rfl fl_X2_18 fw_X2_2 ⟨rfl, rfl⟩ rfl dX2_record_55 (fun H locs hP hD hS => ?_)
      have hP : va_P D vwCl (jx_ws cI cT [(cp_T aT, sT), (cp_H aH (fun j => hT j 0), (jx_su sH 2 0 ((sH 2 0) + 1))), (cp_T (hT 0), sH0_45), (cp_T (hT 1), sH1), (cp_T (hT 2), sH2), (cp_T (hT 3), sH3)]) H := hP
      have hD : va_D A (jx_ws cI cT [(cp_T aT, sT), (cp_H aH (fun j => hT j 0), (jx_su sH 2 0 ((sH 2 0) + 1))), (cp_T (hT 0), sH0_45), (cp_T (hT 1), sH1), (cp_T (hT 2), sH2), (cp_T (hT 3), sH3)]) := hD
      exact jx_rV C hr hlk hAe hS hQQ ((jx_su sH 2 0 ((sH 2 0) + 1)), sH0_45, sH1, sH2, sH3) hP h dX2_record_58
    · subst hc
      have h := h.2.2.1 rfl
      refine W.eq (g2 := F0 m 38 ls [.ref ((hT 1) 0)]) rfl ?_
      refine lv_astore_n (lv' := [(2, .ref ((hT 1) 0)), (0, .ref (aH 0)), (1, .ref (aT 0))]) hx hb dX2_record_38 rfl hl (by decide) rfl (fun ls hl => ?_)
      refine lv_aload_n hx hb dX2_record_39 rfl (lv_at hl 0 rfl) ?_
      refine lv_ifnull hx hb dX2_record_40 ?_
      refine lv_aload_n hx hb dX2_record_43 rfl (lv_at hl 0 rfl) ?_
      refine lv_aload_n hx hb dX2_record_44 rfl (lv_at hl 2 rfl) ?_
      refine jx_callVV C hK hP hD hS hA (ct_T_copy l D cI cT (hT 1) aT _ sH1 sT  h) ms_X6_copy lk_X2_29 [3, 0] rfl rfl (fun _ => rfl) (cs' := (fun u => [(cp_T aT, sT), (cp_H aH (fun j => hT j 0), sH), (cp_T (hT 0), sH0), (cp_T (hT 1), u), (cp_T (hT 2), sH2), (cp_T (hT 3), sH3)])) (fun _ => rfl) (fun _ => rfl) 3 0 rfl rfl rfl rfl rfl hl.1 rfl rfl dX2_record_45 ⟨Nat.le_refl _, Nat.le_refl _⟩ (fun sH1_45 H locs h hP hD hS => ?_)
      have hP : va_P D vwCl (jx_ws cI cT [(cp_T aT, sT), (cp_H aH (fun j => hT j 0), sH), (cp_T (hT 0), sH0), (cp_T (hT 1), sH1_45), (cp_T (hT 2), sH2), (cp_T (hT 3), sH3)]) H := hP
      have hD : va_D A (jx_ws cI cT [(cp_T aT, sT), (cp_H aH (fun j => hT j 0), sH), (cp_T (hT 0), sH0), (cp_T (hT 1), sH1_45), (cp_T (hT 2), sH2), (cp_T (hT 3), sH3)]) := hD
      refine lv_aload_n hx hb dX2_record_48 rfl (lv_at hl 1 rfl) ?_
      refine lv_dup hx hb dX2_record_49 rfl ?_
      refine jx_getI C hK hP 1 0 2 rfl rfl rfl fl_X2_18 dX2_record_50 ?_
      refine jx_iconst C dX2_record_53 ?_
      refine jx_iadd C dX2_record_54 ?_
      refine jx_putI C hK hP hD hS 1 0 2 rfl rfl rfl rfl rfl fl_X2_18 fw_X2_2 ⟨rfl, rfl⟩ rfl dX2_record_55 (fun H locs hP hD hS => ?_)
      have hP : va_P D vwCl (jx_ws cI cT [(cp_T aT, sT), (cp_H aH (fun j => hT j 0), (jx_su sH 2 0 ((sH 2 0) + 1))), (cp_T (hT 0), sH0), (cp_T (hT 1), sH1_45), (cp_T (hT 2), sH2), (cp_T (hT 3), sH3)]) H := hP
      have hD : va_D A (jx_ws cI cT [(cp_T aT, sT), (cp_H aH (fun j => hT j 0), (jx_su sH 2 0 ((sH 2 0) + 1))), (cp_T (hT 0), sH0), (cp_T (hT 1), sH1_45), (cp_T (hT 2), sH2), (cp_T (hT 3), sH3)]) := hD
      exact jx_rV C hr hlk hAe hS hQQ ((jx_su sH 2 0 ((sH 2 0) + 1)), sH0, sH1_45, sH2, sH3) hP h dX2_record_58
    · subst hc
      have h := h.2.2.2.1 rfl
      refine W.eq (g2 := F0 m 38 ls [.ref ((hT 2) 0)]) rfl ?_
      refine lv_astore_n (lv' := [(2, .ref ((hT 2) 0)), (0, .ref (aH 0)), (1, .ref (aT 0))]) hx hb dX2_record_38 rfl hl (by decide) rfl (fun ls hl => ?_)
      refine lv_aload_n hx hb dX2_record_39 rfl (lv_at hl 0 rfl) ?_
      refine lv_ifnull hx hb dX2_record_40 ?_
      refine lv_aload_n hx hb dX2_record_43 rfl (lv_at hl 0 rfl) ?_
      refine lv_aload_n hx hb dX2_record_44 rfl (lv_at hl 2 rfl) ?_
      refine jx_callVV C hK hP hD hS hA (ct_T_copy l D cI cT (hT 2) aT _ sH2 sT  h) ms_X6_copy lk_X2_29 [4, 0] rfl rfl (fun _ => rfl) (cs' := (fun u => [(cp_T aT, sT), (cp_H aH (fun j => hT j 0), sH), (cp_T (hT 0), sH0), (cp_T (hT 1), sH1), (cp_T (hT 2), u), (cp_T (hT 3), sH3)])) (fun _ => rfl) (fun _ => rfl) 4 0 rfl rfl rfl rfl rfl hl.1 rfl rfl dX2_record_45 ⟨Nat.le_refl _, Nat.le_refl _⟩ (fun sH2_45 H locs h hP hD hS => ?_)
      have hP : va_P D vwCl (jx_ws cI cT [(cp_T aT, sT), (cp_H aH (fun j => hT j 0), sH), (cp_T (hT 0), sH0), (cp_T (hT 1), sH1), (cp_T (hT 2), sH2_45), (cp_T (hT 3), sH3)]) H := hP
      have hD : va_D A (jx_ws cI cT [(cp_T aT, sT), (cp_H aH (fun j => hT j 0), sH), (cp_T (hT 0), sH0), (cp_T (hT 1), sH1), (cp_T (hT 2), sH2_45), (cp_T (hT 3), sH3)]) := hD
      refine lv_aload_n hx hb dX2_record_48 rfl (lv_at hl 1 rfl) ?_
      refine lv_dup hx hb dX2_record_49 rfl ?_
      refine jx_getI C hK hP 1 0 2 rfl rfl rfl fl_X2_18 dX2_record_50 ?_
      refine jx_iconst C dX2_record_53 ?_
      refine jx_iadd C dX2_record_54 ?_
      refine jx_putI C hK hP hD hS 1 0 2 rfl rfl rfl rfl rfl fl_X2_18 fw_X2_2 ⟨rfl, rfl⟩ rfl dX2_record_55 (fun H locs hP hD hS => ?_)
      have hP : va_P D vwCl (jx_ws cI cT [(cp_T aT, sT), (cp_H aH (fun j => hT j 0), (jx_su sH 2 0 ((sH 2 0) + 1))), (cp_T (hT 0), sH0), (cp_T (hT 1), sH1), (cp_T (hT 2), sH2_45), (cp_T (hT 3), sH3)]) H := hP
      have hD : va_D A (jx_ws cI cT [(cp_T aT, sT), (cp_H aH (fun j => hT j 0), (jx_su sH 2 0 ((sH 2 0) + 1))), (cp_T (hT 0), sH0), (cp_T (hT 1), sH1), (cp_T (hT 2), sH2_45), (cp_T (hT 3), sH3)]) := hD
      exact jx_rV C hr hlk hAe hS hQQ ((jx_su sH 2 0 ((sH 2 0) + 1)), sH0, sH1, sH2_45, sH3) hP h dX2_record_58
    · subst hc
      have h := h.2.2.2.2 rfl
      refine W.eq (g2 := F0 m 38 ls [.ref ((hT 3) 0)]) rfl ?_
      refine lv_astore_n (lv' := [(2, .ref ((hT 3) 0)), (0, .ref (aH 0)), (1, .ref (aT 0))]) hx hb dX2_record_38 rfl hl (by decide) rfl (fun ls hl => ?_)
      refine lv_aload_n hx hb dX2_record_39 rfl (lv_at hl 0 rfl) ?_
      refine lv_ifnull hx hb dX2_record_40 ?_
      refine lv_aload_n hx hb dX2_record_43 rfl (lv_at hl 0 rfl) ?_
      refine lv_aload_n hx hb dX2_record_44 rfl (lv_at hl 2 rfl) ?_
      refine jx_callVV C hK hP hD hS hA (ct_T_copy l D cI cT (hT 3) aT _ sH3 sT  h) ms_X6_copy lk_X2_29 [5, 0] rfl rfl (fun _ => rfl) (cs' := (fun u => [(cp_T aT, sT), (cp_H aH (fun j => hT j 0), sH), (cp_T (hT 0), sH0), (cp_T (hT 1), sH1), (cp_T (hT 2), sH2), (cp_T (hT 3), u)])) (fun _ => rfl) (fun _ => rfl) 5 0 rfl rfl rfl rfl rfl hl.1 rfl rfl dX2_record_45 ⟨Nat.le_refl _, Nat.le_refl _⟩ (fun sH3_45 H locs h hP hD hS => ?_)
      have hP : va_P D vwCl (jx_ws cI cT [(cp_T aT, sT), (cp_H aH (fun j => hT j 0), sH), (cp_T (hT 0), sH0), (cp_T (hT 1), sH1), (cp_T (hT 2), sH2), (cp_T (hT 3), sH3_45)]) H := hP
      have hD : va_D A (jx_ws cI cT [(cp_T aT, sT), (cp_H aH (fun j => hT j 0), sH), (cp_T (hT 0), sH0), (cp_T (hT 1), sH1), (cp_T (hT 2), sH2), (cp_T (hT 3), sH3_45)]) := hD
      refine lv_aload_n hx hb dX2_record_48 rfl (lv_at hl 1 rfl) ?_
      refine lv_dup hx hb dX2_record_49 rfl ?_
      refine jx_getI C hK hP 1 0 2 rfl rfl rfl fl_X2_18 dX2_record_50 ?_
      refine jx_iconst C dX2_record_53 ?_
      refine jx_iadd C dX2_record_54 ?_
      refine jx_putI C hK hP hD hS 1 0 2 rfl rfl rfl rfl rfl fl_X2_18 fw_X2_2 ⟨rfl, rfl⟩ rfl dX2_record_55 (fun H locs hP hD hS => ?_)
      have hP : va_P D vwCl (jx_ws cI cT [(cp_T aT, sT), (cp_H aH (fun j => hT j 0), (jx_su sH 2 0 ((sH 2 0) + 1))), (cp_T (hT 0), sH0), (cp_T (hT 1), sH1), (cp_T (hT 2), sH2), (cp_T (hT 3), sH3_45)]) H := hP
      have hD : va_D A (jx_ws cI cT [(cp_T aT, sT), (cp_H aH (fun j => hT j 0), (jx_su sH 2 0 ((sH 2 0) + 1))), (cp_T (hT 0), sH0), (cp_T (hT 1), sH1), (cp_T (hT 2), sH2), (cp_T (hT 3), sH3_45)]) := hD
      exact jx_rV C hr hlk hAe hS hQQ ((jx_su sH 2 0 ((sH 2 0) + 1)), sH0, sH1, sH2, sH3_45) hP h dX2_record_58
  refine lv_aload_n hx hb dX2_record_0 rfl (lv_at hl 0 rfl) ?_
  refine jx_getI C hK hP 1 0 2 rfl rfl rfl fl_X2_18 dX2_record_1 ?_
  refine jx_iconst C dX2_record_4 ?_
  refine jx_cne C h.1 (jx_inR (by decide) (by decide)) (tgt := 30) dX2_record_5 (by decide) (fun hc => ?_) (fun hc => ?_)
  · have h := h.2.2 hc
    exact J30 sH sH0 sH1 sH2 sH3 h _ _ hP hD hS ls (lv_sub hl [0, 1] rfl)
  · have h := h.2.1 hc
    refine lv_aload_n hx hb dX2_record_8 rfl (lv_at hl 0 rfl) ?_
    refine lv_aload_n hx hb dX2_record_9 rfl (lv_at hl 0 rfl) ?_
    refine jx_getI C hK hP 1 0 1 rfl rfl rfl fl_X2_22 dX2_record_10 ?_
    refine jx_iconst C dX2_record_13 ?_
    refine jx_iadd C dX2_record_14 ?_
    refine jx_iconst C dX2_record_15 ?_
    refine jx_irem C (by decide) dX2_record_16 ?_
    refine jx_putI C hK hP hD hS 1 0 1 rfl rfl rfl rfl rfl fl_X2_22 fw_X2_1 ⟨rfl, rfl⟩ rfl dX2_record_17 (fun H locs hP hD hS => ?_)
    have hP : va_P D vwCl (jx_ws cI cT [(cp_T aT, sT), (cp_H aH (fun j => hT j 0), (jx_su sH 1 0 (jx_rem ((sH 1 0) + 1) 4))), (cp_T (hT 0), sH0), (cp_T (hT 1), sH1), (cp_T (hT 2), sH2), (cp_T (hT 3), sH3)]) H := hP
    have hD : va_D A (jx_ws cI cT [(cp_T aT, sT), (cp_H aH (fun j => hT j 0), (jx_su sH 1 0 (jx_rem ((sH 1 0) + 1) 4))), (cp_T (hT 0), sH0), (cp_T (hT 1), sH1), (cp_T (hT 2), sH2), (cp_T (hT 3), sH3)]) := hD
    refine lv_aload_n hx hb dX2_record_20 rfl (lv_at hl 0 rfl) ?_
    refine lv_dup hx hb dX2_record_21 rfl ?_
    refine jx_getI C hK hP 1 0 2 rfl rfl rfl fl_X2_18 dX2_record_22 ?_
    refine jx_iconst C dX2_record_25 ?_
    refine jx_isub C dX2_record_26 ?_
    refine jx_putI C hK hP hD hS 1 0 2 rfl rfl rfl rfl rfl fl_X2_18 fw_X2_2 ⟨rfl, rfl⟩ rfl dX2_record_27 (fun H locs hP hD hS => ?_)
    have hP : va_P D vwCl (jx_ws cI cT [(cp_T aT, sT), (cp_H aH (fun j => hT j 0), (jx_su (jx_su sH 1 0 (jx_rem ((sH 1 0) + 1) 4)) 2 0 (((jx_su sH 1 0 (jx_rem ((sH 1 0) + 1) 4)) 2 0) - 1))), (cp_T (hT 0), sH0), (cp_T (hT 1), sH1), (cp_T (hT 2), sH2), (cp_T (hT 3), sH3)]) H := hP
    have hD : va_D A (jx_ws cI cT [(cp_T aT, sT), (cp_H aH (fun j => hT j 0), (jx_su (jx_su sH 1 0 (jx_rem ((sH 1 0) + 1) 4)) 2 0 (((jx_su sH 1 0 (jx_rem ((sH 1 0) + 1) 4)) 2 0) - 1))), (cp_T (hT 0), sH0), (cp_T (hT 1), sH1), (cp_T (hT 2), sH2), (cp_T (hT 3), sH3)]) := hD
    exact J30 (jx_su (jx_su sH 1 0 (jx_rem ((sH 1 0) + 1) 4)) 2 0 (((jx_su sH 1 0 (jx_rem ((sH 1 0) + 1) 4)) 2 0) - 1)) sH0 sH1 sH2 sH3 h _ _ hP hD hS ls (lv_sub hl [0, 1] rfl)
set_option maxRecDepth 100000 in
set_option maxHeartbeats 4000000 in
theorem ct_H_restore (l : Launch) (D : va_G) (cI cT : ClassId) (aH : Nat → Nat) (hT : Nat → Nat → Nat) (aT : Nat → Nat) (Q : jx_St → jx_St → Prop) (sT : jx_St) (sH : jx_St) (sH0 : jx_St) (sH1 : jx_St) (sH2 : jx_St) (sH3 : jx_St) (h : wp_H_restore Q sT sH sH0 sH1 sH2 sH3) : jx_KV (jx_St × jx_St) l D cI cT yX2_restore cX2_restore 3 2 61 [.ref (aH 0), .ref (aT 0)] [(cp_T aT, sT), (cp_H aH (fun j => hT j 0), sH), (cp_T (hT 0), sH0), (cp_T (hT 1), sH1), (cp_T (hT 2), sH2), (cp_T (hT 3), sH3)] (fun u => [(cp_T aT, u.1), (cp_H aH (fun j => hT j 0), u.2), (cp_T (hT 0), sH0), (cp_T (hT 1), sH1), (cp_T (hT 2), sH2), (cp_T (hT 3), sH3)]) (fun u => Q u.1 u.2) := by
  refine jx_ent (own := RX2) (by decide) rfl (Nat.le_of_ble_eq_true rfl) ?_
  intro p e s m args below meth c A QQ C hr hlk hK hAe hA hP hD hS ls hl hQQ
  have hl : lv_has ls 3 [(0, .ref (aH 0)), (1, .ref (aT 0))] := hl
  have hx := C.1
  have hb := C.2.1
  unfold wp_H_restore at h
  refine lv_aload_n hx hb dX2_restore_0 rfl (lv_at hl 0 rfl) ?_
  refine lv_aload_n hx hb dX2_restore_1 rfl (lv_at hl 0 rfl) ?_
  refine jx_getI C hK hP 1 0 2 rfl rfl rfl fl_X2_18 dX2_restore_2 ?_
  refine jx_iconst C dX2_restore_5 ?_
  refine jx_isub C dX2_restore_6 ?_
  refine jx_callVQ C hK hP hD hS hA (ct_H_stateAt l D cI cT aH hT _ sH ((sH 2 0) - 1) h) ms_X2_stateAt lk_X2_25 [1] rfl rfl (fun _ => rfl) (cs' := (fun _ => [(cp_T aT, sT), (cp_H aH (fun j => hT j 0), sH), (cp_T (hT 0), sH0), (cp_T (hT 1), sH1), (cp_T (hT 2), sH2), (cp_T (hT 3), sH3)])) (fun _ => rfl) (fun _ => rfl) 1 0 rfl rfl rfl rfl rfl hl.1 rfl rfl dX2_restore_7 ⟨Nat.le_refl _, Nat.le_refl _⟩ (fun r7 _ H locs hx4 h hP hD hS => ?_)
  have hP : va_P D vwCl (jx_ws cI cT [(cp_T aT, sT), (cp_H aH (fun j => hT j 0), sH), (cp_T (hT 0), sH0), (cp_T (hT 1), sH1), (cp_T (hT 2), sH2), (cp_T (hT 3), sH3)]) H := hP
  have hD : va_D A (jx_ws cI cT [(cp_T aT, sT), (cp_H aH (fun j => hT j 0), sH), (cp_T (hT 0), sH0), (cp_T (hT 1), sH1), (cp_T (hT 2), sH2), (cp_T (hT 3), sH3)]) := hD
  have hx5 : r7 = -1 ∨ r7 = 0 ∨ r7 = 1 ∨ r7 = 2 ∨ r7 = 3 := by
    rcases hx4 with hx4 | hx4
    · exact Or.inl hx4
    · have h1 := hx4.1
      have h2 := hx4.2
      omega
  rcases hx5 with hc | hc | hc | hc | hc
  · subst hc
    have h := h.1 rfl
    refine W.eq (g2 := F0 m 10 ls [.null]) rfl ?_
    refine lv_astore_nN (lv' := [(2, .null), (0, .ref (aH 0)), (1, .ref (aT 0))]) hx hb dX2_restore_10 rfl hl (by decide) rfl (fun ls hl => ?_)
    refine lv_aload_nN hx hb dX2_restore_11 rfl (lv_at hl 0 rfl) ?_
    refine lv_ifnullN hx hb dX2_restore_12 (tgt := 30) (by decide) ?_
    exact jx_rV C hr hlk hAe hS hQQ (sT, sH) hP h dX2_restore_30
  · subst hc
    have h := h.2.1 rfl
    refine W.eq (g2 := F0 m 10 ls [.ref ((hT 0) 0)]) rfl ?_
    refine lv_astore_n (lv' := [(2, .ref ((hT 0) 0)), (0, .ref (aH 0)), (1, .ref (aT 0))]) hx hb dX2_restore_10 rfl hl (by decide) rfl (fun ls hl => ?_)
    refine lv_aload_n hx hb dX2_restore_11 rfl (lv_at hl 0 rfl) ?_
    refine lv_ifnull hx hb dX2_restore_12 ?_
    refine lv_aload_n hx hb dX2_restore_15 rfl (lv_at hl 2 rfl) ?_
    refine lv_aload_n hx hb dX2_restore_16 rfl (lv_at hl 0 rfl) ?_
    refine jx_callVV C hK hP hD hS hA (ct_T_copy l D cI cT aT (hT 0) _ sT sH0  h) ms_X6_copy lk_X2_29 [0, 2] rfl rfl (fun _ => rfl) (cs' := (fun u => [(cp_T aT, u), (cp_H aH (fun j => hT j 0), sH), (cp_T (hT 0), sH0), (cp_T (hT 1), sH1), (cp_T (hT 2), sH2), (cp_T (hT 3), sH3)])) (fun _ => rfl) (fun _ => rfl) 0 0 rfl rfl rfl rfl rfl hl.1 rfl rfl dX2_restore_17 ⟨Nat.le_refl _, Nat.le_refl _⟩ (fun sT_17 H locs h hP hD hS => ?_)
    have hP : va_P D vwCl (jx_ws cI cT [(cp_T aT, sT_17), (cp_H aH (fun j => hT j 0), sH), (cp_T (hT 0), sH0), (cp_T (hT 1), sH1), (cp_T (hT 2), sH2), (cp_T (hT 3), sH3)]) H := hP
    have hD : va_D A (jx_ws cI cT [(cp_T aT, sT_17), (cp_H aH (fun j => hT j 0), sH), (cp_T (hT 0), sH0), (cp_T (hT 1), sH1), (cp_T (hT 2), sH2), (cp_T (hT 3), sH3)]) := hD
    refine lv_aload_n hx hb dX2_restore_20 rfl (lv_at hl 1 rfl) ?_
    refine lv_dup hx hb dX2_restore_21 rfl ?_
    refine jx_getI C hK hP 1 0 2 rfl rfl rfl fl_X2_18 dX2_restore_22 ?_
    refine jx_iconst C dX2_restore_25 ?_
    refine jx_isub C dX2_restore_26 ?_
    refine jx_putI C hK hP hD hS 1 0 2 rfl rfl rfl rfl rfl fl_X2_18 fw_X2_2 ⟨rfl, rfl⟩ rfl dX2_restore_27 (fun H locs hP hD hS => ?_)
    have hP : va_P D vwCl (jx_ws cI cT [(cp_T aT, sT_17), (cp_H aH (fun j => hT j 0), (jx_su sH 2 0 ((sH 2 0) - 1))), (cp_T (hT 0), sH0), (cp_T (hT 1), sH1), (cp_T (hT 2), sH2), (cp_T (hT 3), sH3)]) H := hP
    have hD : va_D A (jx_ws cI cT [(cp_T aT, sT_17), (cp_H aH (fun j => hT j 0), (jx_su sH 2 0 ((sH 2 0) - 1))), (cp_T (hT 0), sH0), (cp_T (hT 1), sH1), (cp_T (hT 2), sH2), (cp_T (hT 3), sH3)]) := hD
    exact jx_rV C hr hlk hAe hS hQQ (sT_17, (jx_su sH 2 0 ((sH 2 0) - 1))) hP h dX2_restore_30
  · subst hc
    have h := h.2.2.1 rfl
    refine W.eq (g2 := F0 m 10 ls [.ref ((hT 1) 0)]) rfl ?_
    refine lv_astore_n (lv' := [(2, .ref ((hT 1) 0)), (0, .ref (aH 0)), (1, .ref (aT 0))]) hx hb dX2_restore_10 rfl hl (by decide) rfl (fun ls hl => ?_)
    refine lv_aload_n hx hb dX2_restore_11 rfl (lv_at hl 0 rfl) ?_
    refine lv_ifnull hx hb dX2_restore_12 ?_
    refine lv_aload_n hx hb dX2_restore_15 rfl (lv_at hl 2 rfl) ?_
    refine lv_aload_n hx hb dX2_restore_16 rfl (lv_at hl 0 rfl) ?_
    refine jx_callVV C hK hP hD hS hA (ct_T_copy l D cI cT aT (hT 1) _ sT sH1  h) ms_X6_copy lk_X2_29 [0, 3] rfl rfl (fun _ => rfl) (cs' := (fun u => [(cp_T aT, u), (cp_H aH (fun j => hT j 0), sH), (cp_T (hT 0), sH0), (cp_T (hT 1), sH1), (cp_T (hT 2), sH2), (cp_T (hT 3), sH3)])) (fun _ => rfl) (fun _ => rfl) 0 0 rfl rfl rfl rfl rfl hl.1 rfl rfl dX2_restore_17 ⟨Nat.le_refl _, Nat.le_refl _⟩ (fun sT_17 H locs h hP hD hS => ?_)
    have hP : va_P D vwCl (jx_ws cI cT [(cp_T aT, sT_17), (cp_H aH (fun j => hT j 0), sH), (cp_T (hT 0), sH0), (cp_T (hT 1), sH1), (cp_T (hT 2), sH2), (cp_T (hT 3), sH3)]) H := hP
    have hD : va_D A (jx_ws cI cT [(cp_T aT, sT_17), (cp_H aH (fun j => hT j 0), sH), (cp_T (hT 0), sH0), (cp_T (hT 1), sH1), (cp_T (hT 2), sH2), (cp_T (hT 3), sH3)]) := hD
    refine lv_aload_n hx hb dX2_restore_20 rfl (lv_at hl 1 rfl) ?_
    refine lv_dup hx hb dX2_restore_21 rfl ?_
    refine jx_getI C hK hP 1 0 2 rfl rfl rfl fl_X2_18 dX2_restore_22 ?_
    refine jx_iconst C dX2_restore_25 ?_
    refine jx_isub C dX2_restore_26 ?_
    refine jx_putI C hK hP hD hS 1 0 2 rfl rfl rfl rfl rfl fl_X2_18 fw_X2_2 ⟨rfl, rfl⟩ rfl dX2_restore_27 (fun H locs hP hD hS => ?_)
    have hP : va_P D vwCl (jx_ws cI cT [(cp_T aT, sT_17), (cp_H aH (fun j => hT j 0), (jx_su sH 2 0 ((sH 2 0) - 1))), (cp_T (hT 0), sH0), (cp_T (hT 1), sH1), (cp_T (hT 2), sH2), (cp_T (hT 3), sH3)]) H := hP
    have hD : va_D A (jx_ws cI cT [(cp_T aT, sT_17), (cp_H aH (fun j => hT j 0), (jx_su sH 2 0 ((sH 2 0) - 1))), (cp_T (hT 0), sH0), (cp_T (hT 1), sH1), (cp_T (hT 2), sH2), (cp_T (hT 3), sH3)]) := hD
    exact jx_rV C hr hlk hAe hS hQQ (sT_17, (jx_su sH 2 0 ((sH 2 0) - 1))) hP h dX2_restore_30
  · subst hc
    have h := h.2.2.2.1 rfl
    refine W.eq (g2 := F0 m 10 ls [.ref ((hT 2) 0)]) rfl ?_
    refine lv_astore_n (lv' := [(2, .ref ((hT 2) 0)), (0, .ref (aH 0)), (1, .ref (aT 0))]) hx hb dX2_restore_10 rfl hl (by decide) rfl (fun ls hl => ?_)
    refine lv_aload_n hx hb dX2_restore_11 rfl (lv_at hl 0 rfl) ?_
    refine lv_ifnull hx hb dX2_restore_12 ?_
    refine lv_aload_n hx hb dX2_restore_15 rfl (lv_at hl 2 rfl) ?_
    refine lv_aload_n hx hb dX2_restore_16 rfl (lv_at hl 0 rfl) ?_
    refine jx_callVV C hK hP hD hS hA (ct_T_copy l D cI cT aT (hT 2) _ sT sH2  h) ms_X6_copy lk_X2_29 [0, 4] rfl rfl (fun _ => rfl) (cs' := (fun u => [(cp_T aT, u), (cp_H aH (fun j => hT j 0), sH), (cp_T (hT 0), sH0), (cp_T (hT 1), sH1), (cp_T (hT 2), sH2), (cp_T (hT 3), sH3)])) (fun _ => rfl) (fun _ => rfl) 0 0 rfl rfl rfl rfl rfl hl.1 rfl rfl dX2_restore_17 ⟨Nat.le_refl _, Nat.le_refl _⟩ (fun sT_17 H locs h hP hD hS => ?_)
    have hP : va_P D vwCl (jx_ws cI cT [(cp_T aT, sT_17), (cp_H aH (fun j => hT j 0), sH), (cp_T (hT 0), sH0), (cp_T (hT 1), sH1), (cp_T (hT 2), sH2), (cp_T (hT 3), sH3)]) H := hP
    have hD : va_D A (jx_ws cI cT [(cp_T aT, sT_17), (cp_H aH (fun j => hT j 0), sH), (cp_T (hT 0), sH0), (cp_T (hT 1), sH1), (cp_T (hT 2), sH2), (cp_T (hT 3), sH3)]) := hD
    refine lv_aload_n hx hb dX2_restore_20 rfl (lv_at hl 1 rfl) ?_
    refine lv_dup hx hb dX2_restore_21 rfl ?_
    refine jx_getI C hK hP 1 0 2 rfl rfl rfl fl_X2_18 dX2_restore_22 ?_
    refine jx_iconst C dX2_restore_25 ?_
    refine jx_isub C dX2_restore_26 ?_
    refine jx_putI C hK hP hD hS 1 0 2 rfl rfl rfl rfl rfl fl_X2_18 fw_X2_2 ⟨rfl, rfl⟩ rfl dX2_restore_27 (fun H locs hP hD hS => ?_)
    have hP : va_P D vwCl (jx_ws cI cT [(cp_T aT, sT_17), (cp_H aH (fun j => hT j 0), (jx_su sH 2 0 ((sH 2 0) - 1))), (cp_T (hT 0), sH0), (cp_T (hT 1), sH1), (cp_T (hT 2), sH2), (cp_T (hT 3), sH3)]) H := hP
    have hD : va_D A (jx_ws cI cT [(cp_T aT, sT_17), (cp_H aH (fun j => hT j 0), (jx_su sH 2 0 ((sH 2 0) - 1))), (cp_T (hT 0), sH0), (cp_T (hT 1), sH1), (cp_T (hT 2), sH2), (cp_T (hT 3), sH3)]) := hD
    exact jx_rV C hr hlk hAe hS hQQ (sT_17, (jx_su sH 2 0 ((sH 2 0) - 1))) hP h dX2_restore_30
  · subst hc
    have h := h.2.2.2.2 rfl
    refine W.eq (g2 := F0 m 10 ls [.ref ((hT 3) 0)]) rfl ?_
    refine lv_astore_n (lv' := [(2, .ref ((hT 3) 0)), (0, .ref (aH 0)), (1, .ref (aT 0))]) hx hb dX2_restore_10 rfl hl (by decide) rfl (fun ls hl => ?_)
    refine lv_aload_n hx hb dX2_restore_11 rfl (lv_at hl 0 rfl) ?_
    refine lv_ifnull hx hb dX2_restore_12 ?_
    refine lv_aload_n hx hb dX2_restore_15 rfl (lv_at hl 2 rfl) ?_
    refine lv_aload_n hx hb dX2_restore_16 rfl (lv_at hl 0 rfl) ?_
    refine jx_callVV C hK hP hD hS hA (ct_T_copy l D cI cT aT (hT 3) _ sT sH3  h) ms_X6_copy lk_X2_29 [0, 5] rfl rfl (fun _ => rfl) (cs' := (fun u => [(cp_T aT, u), (cp_H aH (fun j => hT j 0), sH), (cp_T (hT 0), sH0), (cp_T (hT 1), sH1), (cp_T (hT 2), sH2), (cp_T (hT 3), sH3)])) (fun _ => rfl) (fun _ => rfl) 0 0 rfl rfl rfl rfl rfl hl.1 rfl rfl dX2_restore_17 ⟨Nat.le_refl _, Nat.le_refl _⟩ (fun sT_17 H locs h hP hD hS => ?_)
    have hP : va_P D vwCl (jx_ws cI cT [(cp_T aT, sT_17), (cp_H aH (fun j => hT j 0), sH), (cp_T (hT 0), sH0), (cp_T (hT 1), sH1), (cp_T (hT 2), sH2), (cp_T (hT 3), sH3)]) H := hP
    have hD : va_D A (jx_ws cI cT [(cp_T aT, sT_17), (cp_H aH (fun j => hT j 0), sH), (cp_T (hT 0), sH0), (cp_T (hT 1), sH1), (cp_T (hT 2), sH2), (cp_T (hT 3), sH3)]) := hD
    refine lv_aload_n hx hb dX2_restore_20 rfl (lv_at hl 1 rfl) ?_
    refine lv_dup hx hb dX2_restore_21 rfl ?_
    refine jx_getI C hK hP 1 0 2 rfl rfl rfl fl_X2_18 dX2_restore_22 ?_
    refine jx_iconst C dX2_restore_25 ?_
    refine jx_isub C dX2_restore_26 ?_
    refine jx_putI C hK hP hD hS 1 0 2 rfl rfl rfl rfl rfl fl_X2_18 fw_X2_2 ⟨rfl, rfl⟩ rfl dX2_restore_27 (fun H locs hP hD hS => ?_)
    have hP : va_P D vwCl (jx_ws cI cT [(cp_T aT, sT_17), (cp_H aH (fun j => hT j 0), (jx_su sH 2 0 ((sH 2 0) - 1))), (cp_T (hT 0), sH0), (cp_T (hT 1), sH1), (cp_T (hT 2), sH2), (cp_T (hT 3), sH3)]) H := hP
    have hD : va_D A (jx_ws cI cT [(cp_T aT, sT_17), (cp_H aH (fun j => hT j 0), (jx_su sH 2 0 ((sH 2 0) - 1))), (cp_T (hT 0), sH0), (cp_T (hT 1), sH1), (cp_T (hT 2), sH2), (cp_T (hT 3), sH3)]) := hD
    exact jx_rV C hr hlk hAe hS hQQ (sT_17, (jx_su sH 2 0 ((sH 2 0) - 1))) hP h dX2_restore_30
