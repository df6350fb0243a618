set_option maxRecDepth 100000 in
set_option maxHeartbeats 4000000 in
theorem ct_C_arrange (l : Launch) (D : va_G) (cI cT : ClassId) (aC : Nat → Nat) (aS : Nat → Nat) (aT : Nat → Nat) (Q : jx_St → Prop) (sC : jx_St) (sT : jx_St) (l1 : Int) (l2 : Int) (h : wp_C_arrange Q sC sT l1 l2) : jx_KV jx_St l D cI cT yX1_arrange cX1_arrange 8 2 43 [.ref (aC 0), .int (jx_i l1), .int (jx_i l2)] [(cp_C aC (aT 0) (aS 0), sC), (cp_T aT, sT)] (fun u => [(cp_C aC (aT 0) (aS 0), u), (cp_T aT, sT)]) Q := by
  refine jx_ent (own := RX1) (by decide) rfl (Nat.le_of_ble_eq_true rfl) ?_
  intro p e s m args below meth c A QQ C hr hlk hK hAe hA hP hD hS ls hl hQQ
  have hl : lv_has ls 8 [(0, .ref (aC 0)), (1, .int (jx_i l1)), (2, .int (jx_i l2))] := hl
  have hx := C.1
  have hb := C.2.1
  unfold wp_C_arrange at h
  have Lo12 : ∀ (l3 : Int) (n : Nat) (sC : jx_St) (l4 : Int), jx_it (fun B12 v => wp_C_arrange_12 Q sT l1 l2 l3 B12 v.1 v.2) n (sC, l4) → ∀ (H : Heap) (locs : List Loc), va_P D vwCl (jx_ws cI cT [(cp_C aC (aT 0) (aS 0), sC), (cp_T aT, sT)]) H → va_D A (jx_ws cI cT [(cp_C aC (aT 0) (aS 0), sC), (cp_T aT, sT)]) → va_S A s.heap H locs → ∀ ls : Array Slot, lv_has ls 8 [(0, .ref (aC 0)), (1, .int (jx_i l1)), (2, .int (jx_i l2)), (3, .int (jx_i l3)), (4, .int (jx_i l4))] → W p l e (jx_rm 2 43) s m args below meth c H locs 0 0 QQ (F0 m 12 ls []) := by
    intro l3 n
    induction n with
    | zero =>
      intro sC l4 h
      exact (show False from h).elim
    | succ n ih =>
      intro sC l4 h H locs hP hD hS ls hl
      have h : wp_C_arrange_12 Q sT l1 l2 l3 (jx_it (fun B12 v => wp_C_arrange_12 Q sT l1 l2 l3 B12 v.1 v.2) n) sC l4 := h
      have ih := fun sC l4 h => ih sC l4 h
      generalize jx_it (fun B12 v => wp_C_arrange_12 Q sT l1 l2 l3 B12 v.1 v.2) n = B12 at h ih
      unfold wp_C_arrange_12 at h
      have Lo46 : ∀ (l3 : Int) (l4 : Int) (l5 : Int) (l6 : Int) (K121 : jx_St × Int → Prop) (n : Nat) (sC : jx_St) (l7 : Int), jx_it (fun B46 v => wp_C_arrange_46 Q sT l1 l2 K121 l3 l4 l5 l6 B46 v.1 v.2) n (sC, l7) → (∀ (sC : jx_St) (l7 : Int), K121 (sC, l7) → ∀ (H : Heap) (locs : List Loc), va_P D vwCl (jx_ws cI cT [(cp_C aC (aT 0) (aS 0), sC), (cp_T aT, sT)]) H → va_D A (jx_ws cI cT [(cp_C aC (aT 0) (aS 0), sC), (cp_T aT, sT)]) → va_S A s.heap H locs → ∀ ls : Array Slot, lv_has ls 8 [(0, .ref (aC 0)), (1, .int (jx_i l1)), (2, .int (jx_i l2)), (3, .int (jx_i l3)), (4, .int (jx_i l4)), (5, .int (jx_i l5)), (6, .int (jx_i l6)), (7, .int (jx_i l7))] → W p l e (jx_rm 2 43) s m args below meth c H locs 0 0 QQ (F0 m 121 ls [])) → ∀ (H : Heap) (locs : List Loc), va_P D vwCl (jx_ws cI cT [(cp_C aC (aT 0) (aS 0), sC), (cp_T aT, sT)]) H → va_D A (jx_ws cI cT [(cp_C aC (aT 0) (aS 0), sC), (cp_T aT, sT)]) → va_S A s.heap H locs → ∀ ls : Array Slot, lv_has ls 8 [(0, .ref (aC 0)), (1, .int (jx_i l1)), (2, .int (jx_i l2)), (3, .int (jx_i l3)), (4, .int (jx_i l4)), (5, .int (jx_i l5)), (6, .int (jx_i l6)), (7, .int (jx_i l7))] → W p l e (jx_rm 2 43) s m args below meth c H locs 0 0 QQ (F0 m 46 ls []) := by
        intro l3 l4 l5 l6 K121 n
        induction n with
        | zero =>
          intro sC l7 h
          exact (show False from h).elim
        | succ n ih =>
          intro sC l7 h K121E H locs hP hD hS ls hl
          have h : wp_C_arrange_46 Q sT l1 l2 K121 l3 l4 l5 l6 (jx_it (fun B46 v => wp_C_arrange_46 Q sT l1 l2 K121 l3 l4 l5 l6 B46 v.1 v.2) n) sC l7 := h
          have ih := fun sC l7 h => ih sC l7 h K121E
          generalize jx_it (fun B46 v => wp_C_arrange_46 Q sT l1 l2 K121 l3 l4 l5 l6 B46 v.1 v.2) n = B46 at h ih
          unfold wp_C_arrange_46 at h
          refine lv_iload hx hb dX1_arrange_46 (lv_at hl 7 rfl) ?_
          refine jx_zle C h.1 (tgt := 121) dX1_arrange_48 (by decide) (fun hc => ?_) (fun hc => ?_)
          · have h := h.2.1 hc
            exact K121E sC l7 h _ _ hP hD hS ls (lv_sub hl [0, 1, 2, 3, 4, 5, 6, 7] rfl)
          · have h := h.2.2 hc
            refine lv_aload_n hx hb dX1_arrange_51 rfl (lv_at hl 0 rfl) ?_
            refine jx_getR C hK hP 0 0 11 rfl rfl rfl fl_X1_30 dX1_arrange_52 ?_
            refine lv_iload hx hb dX1_arrange_55 (lv_at hl 7 rfl) ?_
            refine jx_iconst C dX1_arrange_57 ?_
            refine jx_isub C dX1_arrange_58 ?_
            refine jx_rowsAt C hK hP hD hS hA 0 7 rfl rfl rfl rfl h.1 lk_X1_41 hl.1 rfl rfl dX1_arrange_59 ⟨Nat.le_refl _, Nat.le_refl _⟩ (fun H locs hP hS => ?_)
            have h := h.2
            refine lv_iload_n hx hb dX1_arrange_62 rfl (lv_at hl 2 rfl) ?_
            refine jx_callSI C hK hP hD hS hA (ct_Box_key l D cI cT  _  (jx_at 5 (sC 11) (l7 - 1)) l2 h) ms_X0_key lk_X1_202 [] rfl rfl (fun _ => rfl) (cs' := (fun _ => [(cp_C aC (aT 0) (aS 0), sC), (cp_T aT, sT)])) (fun _ => rfl) (fun _ => rfl) rfl rfl hl.1 rfl rfl dX1_arrange_63 ⟨Nat.le_refl _, Nat.le_refl _⟩ (fun r63 _ H locs h hP hD hS => ?_)
            have hP : va_P D vwCl (jx_ws cI cT [(cp_C aC (aT 0) (aS 0), sC), (cp_T aT, sT)]) H := hP
            have hD : va_D A (jx_ws cI cT [(cp_C aC (aT 0) (aS 0), sC), (cp_T aT, sT)]) := hD
            refine lv_iload hx hb dX1_arrange_66 (lv_at hl 6 rfl) ?_
            refine lv_iload_n hx hb dX1_arrange_68 rfl (lv_at hl 2 rfl) ?_
            refine jx_callSI C hK hP hD hS hA (ct_Box_key l D cI cT  _  l6 l2 h) ms_X0_key lk_X1_202 [] rfl rfl (fun _ => rfl) (cs' := (fun _ => [(cp_C aC (aT 0) (aS 0), sC), (cp_T aT, sT)])) (fun _ => rfl) (fun _ => rfl) rfl rfl hl.1 rfl rfl dX1_arrange_69 ⟨Nat.le_refl _, Nat.le_refl _⟩ (fun r69 _ H locs h hP hD hS => ?_)
            have hP : va_P D vwCl (jx_ws cI cT [(cp_C aC (aT 0) (aS 0), sC), (cp_T aT, sT)]) H := hP
            have hD : va_D A (jx_ws cI cT [(cp_C aC (aT 0) (aS 0), sC), (cp_T aT, sT)]) := hD
            refine jx_cle C h.1 h.2.1 (tgt := 121) dX1_arrange_72 (by decide) (fun hc => ?_) (fun hc => ?_)
            · have h := h.2.2.1 hc
              exact K121E sC l7 h _ _ hP hD hS ls (lv_sub hl [0, 1, 2, 3, 4, 5, 6, 7] rfl)
            · have h := h.2.2.2 hc
              refine lv_aload_n hx hb dX1_arrange_75 rfl (lv_at hl 0 rfl) ?_
              refine jx_getR C hK hP 0 0 10 rfl rfl rfl fl_X1_27 dX1_arrange_76 ?_
              refine lv_iload hx hb dX1_arrange_79 (lv_at hl 7 rfl) ?_
              refine lv_aload_n hx hb dX1_arrange_81 rfl (lv_at hl 0 rfl) ?_
              refine jx_getR C hK hP 0 0 10 rfl rfl rfl fl_X1_27 dX1_arrange_82 ?_
              refine lv_iload hx hb dX1_arrange_85 (lv_at hl 7 rfl) ?_
              refine jx_iconst C dX1_arrange_87 ?_
              refine jx_isub C dX1_arrange_88 ?_
              refine jx_rowsAt C hK hP hD hS hA 0 6 rfl rfl rfl rfl h.1 lk_X1_41 hl.1 rfl rfl dX1_arrange_89 ⟨Nat.le_refl _, Nat.le_refl _⟩ (fun H locs hP hS => ?_)
              have h := h.2
              refine jx_rowsSet C hK hP hD hS hA 0 6 rfl rfl rfl rfl h.1 lk_X1_104 rfl hl.1 rfl rfl dX1_arrange_92 ⟨Nat.le_refl _, Nat.le_refl _⟩ (fun H locs hP hD hS => ?_)
              have h := h.2
              have hP : va_P D vwCl (jx_ws cI cT [(cp_C aC (aT 0) (aS 0), (jx_se 5 sC 10 l7 (jx_at 5 (sC 10) (l7 - 1)))), (cp_T aT, sT)]) H := hP
              have hD : va_D A (jx_ws cI cT [(cp_C aC (aT 0) (aS 0), (jx_se 5 sC 10 l7 (jx_at 5 (sC 10) (l7 - 1)))), (cp_T aT, sT)]) := hD
              refine lv_aload_n hx hb dX1_arrange_95 rfl (lv_at hl 0 rfl) ?_
              refine jx_getR C hK hP 0 0 11 rfl rfl rfl fl_X1_30 dX1_arrange_96 ?_
              refine lv_iload hx hb dX1_arrange_99 (lv_at hl 7 rfl) ?_
              refine lv_aload_n hx hb dX1_arrange_101 rfl (lv_at hl 0 rfl) ?_
              refine jx_getR C hK hP 0 0 11 rfl rfl rfl fl_X1_30 dX1_arrange_102 ?_
              refine lv_iload hx hb dX1_arrange_105 (lv_at hl 7 rfl) ?_
              refine jx_iconst C dX1_arrange_107 ?_
              refine jx_isub C dX1_arrange_108 ?_
              refine jx_rowsAt C hK hP hD hS hA 0 7 rfl rfl rfl rfl h.1 lk_X1_41 hl.1 rfl rfl dX1_arrange_109 ⟨Nat.le_refl _, Nat.le_refl _⟩ (fun H locs hP hS => ?_)
              have h := h.2
              refine jx_rowsSet C hK hP hD hS hA 0 7 rfl rfl rfl rfl h.1 lk_X1_104 rfl hl.1 rfl rfl dX1_arrange_112 ⟨Nat.le_refl _, Nat.le_refl _⟩ (fun H locs hP hD hS => ?_)
              have h := h.2
              have hP : va_P D vwCl (jx_ws cI cT [(cp_C aC (aT 0) (aS 0), (jx_se 5 (jx_se 5 sC 10 l7 (jx_at 5 (sC 10) (l7 - 1))) 11 l7 (jx_at 5 ((jx_se 5 sC 10 l7 (jx_at 5 (sC 10) (l7 - 1))) 11) (l7 - 1)))), (cp_T aT, sT)]) H := hP
              have hD : va_D A (jx_ws cI cT [(cp_C aC (aT 0) (aS 0), (jx_se 5 (jx_se 5 sC 10 l7 (jx_at 5 (sC 10) (l7 - 1))) 11 l7 (jx_at 5 ((jx_se 5 sC 10 l7 (jx_at 5 (sC 10) (l7 - 1))) 11) (l7 - 1)))), (cp_T aT, sT)]) := hD
              refine jx_iinc C (lv' := [(7, .int (jx_i (l7 + (-1)))), (0, .ref (aC 0)), (1, .int (jx_i l1)), (2, .int (jx_i l2)), (3, .int (jx_i l3)), (4, .int (jx_i l4)), (5, .int (jx_i l5)), (6, .int (jx_i l6))]) dX1_arrange_115 hl (k := 7) rfl (by decide) rfl (fun ls hl => ?_)
              refine lv_goto (tgt := 46) hx hb dX1_arrange_118 (by decide) ?_
              exact ih (jx_se 5 (jx_se 5 sC 10 l7 (jx_at 5 (sC 10) (l7 - 1))) 11 l7 (jx_at 5 ((jx_se 5 sC 10 l7 (jx_at 5 (sC 10) (l7 - 1))) 11) (l7 - 1))) (l7 + (-1)) h _ _ hP hD hS ls (lv_sub hl [1, 2, 3, 4, 5, 6, 7, 0] rfl)
      have J121 : ∀ (sC : jx_St) (l4 : Int) (l5 : Int) (l6 : Int) (l7 : Int), wp_C_arrange_121 Q sT l1 l2 B12 sC l3 l4 l5 l6 l7 → ∀ (H : Heap) (locs : List Loc), va_P D vwCl (jx_ws cI cT [(cp_C aC (aT 0) (aS 0), sC), (cp_T aT, sT)]) H → va_D A (jx_ws cI cT [(cp_C aC (aT 0) (aS 0), sC), (cp_T aT, sT)]) → va_S A s.heap H locs → ∀ ls : Array Slot, lv_has ls 8 [(0, .ref (aC 0)), (1, .int (jx_i l1)), (2, .int (jx_i l2)), (3, .int (jx_i l3)), (4, .int (jx_i l4)), (5, .int (jx_i l5)), (6, .int (jx_i l6)), (7, .int (jx_i l7))] → W p l e (jx_rm 2 43) s m args below meth c H locs 0 0 QQ (F0 m 121 ls []) := by
        intro sC l4 l5 l6 l7 h H locs hP hD hS ls hl
        unfold wp_C_arrange_121 at h
        refine lv_aload_n hx hb dX1_arrange_121 rfl (lv_at hl 0 rfl) ?_
        refine jx_getR C hK hP 0 0 10 rfl rfl rfl fl_X1_27 dX1_arrange_122 ?_
        refine lv_iload hx hb dX1_arrange_125 (lv_at hl 7 rfl) ?_
        refine lv_iload hx hb dX1_arrange_127 (lv_at hl 5 rfl) ?_
        refine jx_rowsSet C hK hP hD hS hA 0 6 rfl rfl rfl rfl h.1 lk_X1_104 rfl hl.1 rfl rfl dX1_arrange_129 ⟨Nat.le_refl _, Nat.le_refl _⟩ (fun H locs hP hD hS => ?_)
        have h := h.2
        have hP : va_P D vwCl (jx_ws cI cT [(cp_C aC (aT 0) (aS 0), (jx_se 5 sC 10 l7 l5)), (cp_T aT, sT)]) H := hP
        have hD : va_D A (jx_ws cI cT [(cp_C aC (aT 0) (aS 0), (jx_se 5 sC 10 l7 l5)), (cp_T aT, sT)]) := hD
        refine lv_aload_n hx hb dX1_arrange_132 rfl (lv_at hl 0 rfl) ?_
        refine jx_getR C hK hP 0 0 11 rfl rfl rfl fl_X1_30 dX1_arrange_133 ?_
        refine lv_iload hx hb dX1_arrange_136 (lv_at hl 7 rfl) ?_
        refine lv_iload hx hb dX1_arrange_138 (lv_at hl 6 rfl) ?_
        refine jx_rowsSet C hK hP hD hS hA 0 7 rfl rfl rfl rfl h.1 lk_X1_104 rfl hl.1 rfl rfl dX1_arrange_140 ⟨Nat.le_refl _, Nat.le_refl _⟩ (fun H locs hP hD hS => ?_)
        have h := h.2
        have hP : va_P D vwCl (jx_ws cI cT [(cp_C aC (aT 0) (aS 0), (jx_se 5 (jx_se 5 sC 10 l7 l5) 11 l7 l6)), (cp_T aT, sT)]) H := hP
        have hD : va_D A (jx_ws cI cT [(cp_C aC (aT 0) (aS 0), (jx_se 5 (jx_se 5 sC 10 l7 l5) 11 l7 l6)), (cp_T aT, sT)]) := hD
        refine jx_iinc C (lv' := [(4, .int (jx_i (l4 + 1))), (0, .ref (aC 0)), (1, .int (jx_i l1)), (2, .int (jx_i l2)), (3, .int (jx_i l3)), (5, .int (jx_i l5)), (6, .int (jx_i l6)), (7, .int (jx_i l7))]) dX1_arrange_143 hl (k := 4) rfl (by decide) rfl (fun ls hl => ?_)
        refine lv_goto (tgt := 12) hx hb dX1_arrange_146 (by decide) ?_
        exact ih (jx_se 5 (jx_se 5 sC 10 l7 l5) 11 l7 l6) (l4 + 1) h _ _ hP hD hS ls (lv_sub hl [1, 2, 3, 4, 0] rfl)
      refine lv_iload hx hb dX1_arrange_12 (lv_at hl 4 rfl) ?_
      refine jx_iconst C dX1_arrange_14 ?_
      refine jx_cge C h.1 (jx_inR (by decide) (by decide)) (tgt := 149) dX1_arrange_15 (by decide) (fun hc => ?_) (fun hc => ?_)
      · have h := h.2.2 hc
        exact jx_rV C hr hlk hAe hS hQQ sC hP h dX1_arrange_149
      · have h := h.2.1 hc
        refine lv_aload_n hx hb dX1_arrange_18 rfl (lv_at hl 0 rfl) ?_
        refine jx_getR C hK hP 0 0 0 rfl rfl rfl fl_X1_33 dX1_arrange_19 ?_
        refine lv_iload_n hx hb dX1_arrange_22 rfl (lv_at hl 1 rfl) ?_
        refine lv_iload hx hb dX1_arrange_23 (lv_at hl 4 rfl) ?_
        refine jx_callVI C hK hP hD hS hA (ct_T_thingAt l D cI cT aT _ sT l1 l4 h) ms_X6_thingAt lk_X1_101 [1] rfl rfl (fun _ => rfl) (cs' := (fun _ => [(cp_C aC (aT 0) (aS 0), sC), (cp_T aT, sT)])) (fun _ => rfl) (fun _ => rfl) 1 0 rfl rfl rfl rfl rfl hl.1 rfl rfl dX1_arrange_25 ⟨Nat.le_refl _, Nat.le_refl _⟩ (fun r25 _ H locs h hP hD hS => ?_)
        have hP : va_P D vwCl (jx_ws cI cT [(cp_C aC (aT 0) (aS 0), sC), (cp_T aT, sT)]) H := hP
        have hD : va_D A (jx_ws cI cT [(cp_C aC (aT 0) (aS 0), sC), (cp_T aT, sT)]) := hD
        refine lv_istore (lv' := [(5, .int (jx_i r25)), (0, .ref (aC 0)), (1, .int (jx_i l1)), (2, .int (jx_i l2)), (3, .int (jx_i l3)), (4, .int (jx_i l4))]) hx hb dX1_arrange_28 hl (by decide) rfl (fun ls hl => ?_)
        refine lv_aload_n hx hb dX1_arrange_30 rfl (lv_at hl 1 rfl) ?_
        refine jx_getR C hK hP 0 0 0 rfl rfl rfl fl_X1_33 dX1_arrange_31 ?_
        refine lv_iload hx hb dX1_arrange_34 (lv_at hl 0 rfl) ?_
        refine lv_iload_n hx hb dX1_arrange_36 rfl (lv_at hl 4 rfl) ?_
        refine jx_callVI C hK hP hD hS hA (ct_T_hull l D cI cT aT _ sT r25 l3 h) ms_X6_hull lk_X1_120 [1] rfl rfl (fun _ => rfl) (cs' := (fun _ => [(cp_C aC (aT 0) (aS 0), sC), (cp_T aT, sT)])) (fun _ => rfl) (fun _ => rfl) 1 0 rfl rfl rfl rfl rfl hl.1 rfl rfl dX1_arrange_37 ⟨Nat.le_refl _, Nat.le_refl _⟩ (fun r37 _ H locs h hP hD hS => ?_)
        have hP : va_P D vwCl (jx_ws cI cT [(cp_C aC (aT 0) (aS 0), sC), (cp_T aT, sT)]) H := hP
        have hD : va_D A (jx_ws cI cT [(cp_C aC (aT 0) (aS 0), sC), (cp_T aT, sT)]) := hD
        refine lv_istore (lv' := [(6, .int (jx_i r37)), (5, .int (jx_i r25)), (0, .ref (aC 0)), (1, .int (jx_i l1)), (2, .int (jx_i l2)), (3, .int (jx_i l3)), (4, .int (jx_i l4))]) hx hb dX1_arrange_40 hl (by decide) rfl (fun ls hl => ?_)
        refine lv_iload hx hb dX1_arrange_42 (lv_at hl 6 rfl) ?_
        refine lv_istore (lv' := [(7, .int (jx_i l4)), (6, .int (jx_i r37)), (5, .int (jx_i r25)), (0, .ref (aC 0)), (1, .int (jx_i l1)), (2, .int (jx_i l2)), (3, .int (jx_i l3)), (4, .int (jx_i l4))]) hx hb dX1_arrange_44 hl (by decide) rfl (fun ls hl => ?_)
        obtain ⟨n, h⟩ := h
        refine Lo46 l3 l4 r25 r37 _ n sC l4 h ?_ _ _ hP hD hS ls (lv_sub hl [3, 4, 5, 6, 7, 2, 1, 0] rfl)
        · intro sC l7 h H locs hP hD hS ls hl
          exact J121 sC l4 r25 r37 l7 h _ _ hP hD hS ls (lv_sub hl [0, 1, 2, 3, 4, 5, 6, 7] rfl)
  refine lv_aload_n hx hb dX1_arrange_0 rfl (lv_at hl 0 rfl) ?_
  refine jx_getR C hK hP 0 0 0 rfl rfl rfl fl_X1_33 dX1_arrange_1 ?_
  refine lv_iload_n hx hb dX1_arrange_4 rfl (lv_at hl 1 rfl) ?_
  refine jx_callVI C hK hP hD hS hA (ct_T_levelOf l D cI cT aT _ sT l1 h) ms_X6_levelOf lk_X1_98 [1] rfl rfl (fun _ => rfl) (cs' := (fun _ => [(cp_C aC (aT 0) (aS 0), sC), (cp_T aT, sT)])) (fun _ => rfl) (fun _ => rfl) 1 0 rfl rfl rfl rfl rfl hl.1 rfl rfl dX1_arrange_5 ⟨Nat.le_refl _, Nat.le_refl _⟩ (fun r5 _ H locs h hP hD hS => ?_)
  have hP : va_P D vwCl (jx_ws cI cT [(cp_C aC (aT 0) (aS 0), sC), (cp_T aT, sT)]) H := hP
  have hD : va_D A (jx_ws cI cT [(cp_C aC (aT 0) (aS 0), sC), (cp_T aT, sT)]) := hD
  refine lv_istore_n (lv' := [(3, .int (jx_i r5)), (0, .ref (aC 0)), (1, .int (jx_i l1)), (2, .int (jx_i l2))]) hx hb dX1_arrange_8 rfl hl (by decide) rfl (fun ls hl => ?_)
  refine jx_iconst C dX1_arrange_9 ?_
  refine lv_istore (lv' := [(4, .int (jx_i 0)), (3, .int (jx_i r5)), (0, .ref (aC 0)), (1, .int (jx_i l1)), (2, .int (jx_i l2))]) hx hb dX1_arrange_10 hl (by decide) rfl (fun ls hl => ?_)
  obtain ⟨n, h⟩ := h
  refine Lo12 r5 n sC 0 h _ _ hP hD hS ls (lv_sub hl [2, 3, 4, 1, 0] rfl)
set_option maxRecDepth 100000 in
set_option maxHeartbeats 4000000 in
theorem ct_C_await (l : Launch) (D : va_G) (cI cT : ClassId) (aC : Nat → Nat) (aS : Nat → Nat) (aT : Nat → Nat) (Q : jx_St → Prop) (sC : jx_St) (l1 : Int) (l2 : Int) (h : wp_C_await Q sC l1 l2) : jx_KV jx_St l D cI cT yX1_await cX1_await 3 1 22 [.ref (aC 0), .int (jx_i l1), .int (jx_i l2)] [(cp_C aC (aT 0) (aS 0), sC)] (fun u => [(cp_C aC (aT 0) (aS 0), u)]) Q := by
  refine jx_ent (own := RX1) (by decide) rfl (Nat.le_of_ble_eq_true rfl) ?_
  intro p e s m args below meth c A QQ C hr hlk hK hAe hA hP hD hS ls hl hQQ
  have hl : lv_has ls 3 [(0, .ref (aC 0)), (1, .int (jx_i l1)), (2, .int (jx_i l2))] := hl
  have hx := C.1
  have hb := C.2.1
  unfold wp_C_await at h
  refine lv_aload_n hx hb dX1_await_0 rfl (lv_at hl 0 rfl) ?_
  refine jx_getI C hK hP 0 0 4 rfl rfl rfl fl_X1_114 dX1_await_1 ?_
  refine jx_bipush C dX1_await_4 (by decide) ?_
  refine jx_cge C h.1 (jx_inR (by decide) (by decide)) (tgt := 43) dX1_await_6 (by decide) (fun hc => ?_) (fun hc => ?_)
  · have h := h.2.2 hc
    exact jx_rV C hr hlk hAe hS hQQ sC hP h dX1_await_43
  · have h := h.2.1 hc
    refine lv_aload_n hx hb dX1_await_9 rfl (lv_at hl 0 rfl) ?_
    refine jx_getR C hK hP 0 0 2 rfl rfl rfl fl_X1_9 dX1_await_10 ?_
    refine lv_aload_n hx hb dX1_await_13 rfl (lv_at hl 0 rfl) ?_
    refine jx_getI C hK hP 0 0 4 rfl rfl rfl fl_X1_114 dX1_await_14 ?_
    refine lv_iload_n hx hb dX1_await_17 rfl (lv_at hl 1 rfl) ?_
    refine jx_rowsSet C hK hP hD hS hA 0 1 rfl rfl rfl rfl h.1 lk_X1_104 rfl hl.1 rfl rfl dX1_await_18 ⟨Nat.le_refl _, Nat.le_refl _⟩ (fun H locs hP hD hS => ?_)
    have h := h.2
    have hP : va_P D vwCl (jx_ws cI cT [(cp_C aC (aT 0) (aS 0), (jx_se 64 sC 2 (sC 4 0) l1))]) H := hP
    have hD : va_D A (jx_ws cI cT [(cp_C aC (aT 0) (aS 0), (jx_se 64 sC 2 (sC 4 0) l1))]) := hD
    refine lv_aload_n hx hb dX1_await_21 rfl (lv_at hl 0 rfl) ?_
    refine jx_getR C hK hP 0 0 3 rfl rfl rfl fl_X1_15 dX1_await_22 ?_
    refine lv_aload_n hx hb dX1_await_25 rfl (lv_at hl 0 rfl) ?_
    refine jx_getI C hK hP 0 0 4 rfl rfl rfl fl_X1_114 dX1_await_26 ?_
    refine lv_iload_n hx hb dX1_await_29 rfl (lv_at hl 2 rfl) ?_
    refine jx_rowsSet C hK hP hD hS hA 0 2 rfl rfl rfl rfl h.1 lk_X1_104 rfl hl.1 rfl rfl dX1_await_30 ⟨Nat.le_refl _, Nat.le_refl _⟩ (fun H locs hP hD hS => ?_)
    have h := h.2
    have hP : va_P D vwCl (jx_ws cI cT [(cp_C aC (aT 0) (aS 0), (jx_se 64 (jx_se 64 sC 2 (sC 4 0) l1) 3 ((jx_se 64 sC 2 (sC 4 0) l1) 4 0) l2))]) H := hP
    have hD : va_D A (jx_ws cI cT [(cp_C aC (aT 0) (aS 0), (jx_se 64 (jx_se 64 sC 2 (sC 4 0) l1) 3 ((jx_se 64 sC 2 (sC 4 0) l1) 4 0) l2))]) := hD
    refine lv_aload_n hx hb dX1_await_33 rfl (lv_at hl 0 rfl) ?_
    refine lv_dup hx hb dX1_await_34 rfl ?_
    refine jx_getI C hK hP 0 0 4 rfl rfl rfl fl_X1_114 dX1_await_35 ?_
    refine jx_iconst C dX1_await_38 ?_
    refine jx_iadd C dX1_await_39 ?_
    refine jx_putI C hK hP hD hS 0 0 4 rfl rfl rfl rfl rfl fl_X1_114 fw_X1_4 ⟨rfl, rfl⟩ rfl dX1_await_40 (fun H locs hP hD hS => ?_)
    have hP : va_P D vwCl (jx_ws cI cT [(cp_C aC (aT 0) (aS 0), (jx_su (jx_se 64 (jx_se 64 sC 2 (sC 4 0) l1) 3 ((jx_se 64 sC 2 (sC 4 0) l1) 4 0) l2) 4 0 (((jx_se 64 (jx_se 64 sC 2 (sC 4 0) l1) 3 ((jx_se 64 sC 2 (sC 4 0) l1) 4 0) l2) 4 0) + 1)))]) H := hP
    have hD : va_D A (jx_ws cI cT [(cp_C aC (aT 0) (aS 0), (jx_su (jx_se 64 (jx_se 64 sC 2 (sC 4 0) l1) 3 ((jx_se 64 sC 2 (sC 4 0) l1) 4 0) l2) 4 0 (((jx_se 64 (jx_se 64 sC 2 (sC 4 0) l1) 3 ((jx_se 64 sC 2 (sC 4 0) l1) 4 0) l2) 4 0) + 1)))]) := hD
    exact jx_rV C hr hlk hAe hS hQQ (jx_su (jx_se 64 (jx_se 64 sC 2 (sC 4 0) l1) 3 ((jx_se 64 sC 2 (sC 4 0) l1) 4 0) l2) 4 0 (((jx_se 64 (jx_se 64 sC 2 (sC 4 0) l1) 3 ((jx_se 64 sC 2 (sC 4 0) l1) 4 0) l2) 4 0) + 1)) hP h dX1_await_43
set_option maxRecDepth 100000 in
set_option maxHeartbeats 4000000 in
theorem ct_C_axisOf (l : Launch) (D : va_G) (cI cT : ClassId) (Q : Int → Prop) (l0 : Int) (h : wp_C_axisOf Q l0) : jx_KI (Unit) l D cI cT yX1_axisOf cX1_axisOf 1 .int 0 0 [.int (jx_i l0)] [] (fun _ => []) (fun x _ => Q x) := by
  refine jx_ent (own := RX1) (by decide) rfl (Nat.le_of_ble_eq_true rfl) ?_
  intro p e s m args below meth c A QQ C hr hlk hK hAe hA hP hD hS ls hl hQQ
  have hl : lv_has ls 1 [(0, .int (jx_i l0))] := hl
  have hx := C.1
  have hb := C.2.1
  unfold wp_C_axisOf at h
  refine lv_iload_n hx hb dX1_axisOf_0 rfl (lv_at hl 0 rfl) ?_
  refine jx_iconst C dX1_axisOf_1 ?_
  refine jx_ishr C dX1_axisOf_2 ?_
  exact jx_rI C hr hlk hAe hS hQQ () hP h dX1_axisOf_3
set_option maxRecDepth 100000 in
set_option maxHeartbeats 4000000 in
theorem ct_C_cutOf (l : Launch) (D : va_G) (cI cT : ClassId) (Q : Int → Prop) (l0 : Int) (h : wp_C_cutOf Q l0) : jx_KI (Unit) l D cI cT yX1_cutOf cX1_cutOf 1 .int 0 0 [.int (jx_i l0)] [] (fun _ => []) (fun x _ => Q x) := by
  refine jx_ent (own := RX1) (by decide) rfl (Nat.le_of_ble_eq_true rfl) ?_
  intro p e s m args below meth c A QQ C hr hlk hK hAe hA hP hD hS ls hl hQQ
  have hl : lv_has ls 1 [(0, .int (jx_i l0))] := hl
  have hx := C.1
  have hb := C.2.1
  unfold wp_C_cutOf at h
  refine jx_iconst C dX1_cutOf_0 ?_
  refine lv_iload_n hx hb dX1_cutOf_1 rfl (lv_at hl 0 rfl) ?_
  refine jx_iconst C dX1_cutOf_2 ?_
  refine jx_iand C dX1_cutOf_3 ?_
  refine jx_iadd C dX1_cutOf_4 ?_
  exact jx_rI C hr hlk hAe hS hQQ () hP h dX1_cutOf_5
set_option maxRecDepth 100000 in
set_option maxHeartbeats 4000000 in
theorem ct_C_hullOfPart (l : Launch) (D : va_G) (cI cT : ClassId) (aC : Nat → Nat) (aS : Nat → Nat) (aT : Nat → Nat) (Q : Int → Prop) (sC : jx_St) (l1 : Int) (l2 : Int) (h : wp_C_hullOfPart Q sC l1 l2) : jx_KI (Unit) l D cI cT yX1_hullOfPart cX1_hullOfPart 5 .int 2 44 [.ref (aC 0), .int (jx_i l1), .int (jx_i l2)] [(cp_C aC (aT 0) (aS 0), sC)] (fun _ => [(cp_C aC (aT 0) (aS 0), sC)]) (fun x _ => Q x) := by
  refine jx_ent (own := RX1) (by decide) rfl (Nat.le_of_ble_eq_true rfl) ?_
  intro p e s m args below meth c A QQ C hr hlk hK hAe hA hP hD hS ls hl hQQ
  have hl : lv_has ls 5 [(0, .ref (aC 0)), (1, .int (jx_i l1)), (2, .int (jx_i l2))] := hl
  have hx := C.1
  have hb := C.2.1
  unfold wp_C_hullOfPart at h
  have Lo5 : ∀ (n : Nat) (l3 : Int) (l4 : Int), jx_it (fun B5 v => wp_C_hullOfPart_5 Q sC l1 l2 B5 v.1 v.2) n (l3, l4) → ∀ (H : Heap) (locs : List Loc), va_P D vwCl (jx_ws cI cT [(cp_C aC (aT 0) (aS 0), sC)]) H → va_D A (jx_ws cI cT [(cp_C aC (aT 0) (aS 0), sC)]) → va_S A s.heap H locs → ∀ ls : Array Slot, lv_has ls 5 [(0, .ref (aC 0)), (2, .int (jx_i l2)), (3, .int (jx_i l3)), (4, .int (jx_i l4))] → W p l e (jx_rm 2 44) s m args below meth c H locs 0 0 QQ (F0 m 5 ls []) := by
    intro n
    induction n with
    | zero =>
      intro l3 l4 h
      exact (show False from h).elim
    | succ n ih =>
      intro l3 l4 h H locs hP hD hS ls hl
      have h : wp_C_hullOfPart_5 Q sC l1 l2 (jx_it (fun B5 v => wp_C_hullOfPart_5 Q sC l1 l2 B5 v.1 v.2) n) l3 l4 := h
      have ih := fun l3 l4 h => ih l3 l4 h
      generalize jx_it (fun B5 v => wp_C_hullOfPart_5 Q sC l1 l2 B5 v.1 v.2) n = B5 at h ih
      unfold wp_C_hullOfPart_5 at h
      refine lv_iload hx hb dX1_hullOfPart_5 (lv_at hl 3 rfl) ?_
      refine lv_iload_n hx hb dX1_hullOfPart_7 rfl (lv_at hl 1 rfl) ?_
      refine jx_cge C h.1 h.2.1 (tgt := 31) dX1_hullOfPart_8 (by decide) (fun hc => ?_) (fun hc => ?_)
      · have h := h.2.2.2 hc
        refine lv_iload_n hx hb dX1_hullOfPart_31 rfl (lv_at hl 2 rfl) ?_
        exact jx_rI C hr hlk hAe hS hQQ () hP h dX1_hullOfPart_32
      · have h := h.2.2.1 hc
        refine lv_iload_n hx hb dX1_hullOfPart_11 rfl (lv_at hl 2 rfl) ?_
        refine lv_aload_n hx hb dX1_hullOfPart_12 rfl (lv_at hl 0 rfl) ?_
        refine jx_getR C hK hP 0 0 11 rfl rfl rfl fl_X1_30 dX1_hullOfPart_13 ?_
        refine lv_iload hx hb dX1_hullOfPart_16 (lv_at hl 3 rfl) ?_
        refine jx_rowsAt C hK hP hD hS hA 0 7 rfl rfl rfl rfl h.1 lk_X1_41 hl.1 rfl rfl dX1_hullOfPart_18 ⟨Nat.le_refl _, Nat.le_refl _⟩ (fun H locs hP hS => ?_)
        have h := h.2
        refine jx_callSI C hK hP hD hS hA (ct_Box_around l D cI cT  _  l3 (jx_at 5 (sC 11) l4) h) ms_X0_around lk_X1_199 [] rfl rfl (fun _ => rfl) (cs' := (fun _ => [(cp_C aC (aT 0) (aS 0), sC)])) (fun _ => rfl) (fun _ => rfl) rfl rfl hl.1 rfl rfl dX1_hullOfPart_21 ⟨Nat.le_refl _, Nat.le_refl _⟩ (fun r21 _ H locs h hP hD hS => ?_)
        have hP : va_P D vwCl (jx_ws cI cT [(cp_C aC (aT 0) (aS 0), sC)]) H := hP
        have hD : va_D A (jx_ws cI cT [(cp_C aC (aT 0) (aS 0), sC)]) := hD
        refine lv_istore_n (lv' := [(3, .int (jx_i r21)), (0, .ref (aC 0)), (2, .int (jx_i l2)), (4, .int (jx_i l4))]) hx hb dX1_hullOfPart_24 rfl hl (by decide) rfl (fun ls hl => ?_)
        refine jx_iinc C (lv' := [(4, .int (jx_i (l4 + 1))), (3, .int (jx_i r21)), (0, .ref (aC 0)), (2, .int (jx_i l2))]) dX1_hullOfPart_25 hl (k := 3) rfl (by decide) rfl (fun ls hl => ?_)
        refine lv_goto (tgt := 5) hx hb dX1_hullOfPart_28 (by decide) ?_
        exact ih r21 (l4 + 1) h _ _ hP hD hS ls (lv_sub hl [2, 3, 1, 0] rfl)
  refine jx_iconst C dX1_hullOfPart_0 ?_
  refine lv_istore_n (lv' := [(3, .int (jx_i (-1))), (0, .ref (aC 0)), (1, .int (jx_i l1)), (2, .int (jx_i l2))]) hx hb dX1_hullOfPart_1 rfl hl (by decide) rfl (fun ls hl => ?_)
  refine lv_iload_n hx hb dX1_hullOfPart_2 rfl (lv_at hl 2 rfl) ?_
  refine lv_istore (lv' := [(4, .int (jx_i l1)), (3, .int (jx_i (-1))), (0, .ref (aC 0)), (1, .int (jx_i l1)), (2, .int (jx_i l2))]) hx hb dX1_hullOfPart_3 hl (by decide) rfl (fun ls hl => ?_)
  obtain ⟨n, h⟩ := h
  refine Lo5 n (-1) l1 h _ _ hP hD hS ls (lv_sub hl [2, 4, 1, 0] rfl)
set_option maxRecDepth 100000 in
set_option maxHeartbeats 4000000 in
theorem ct_C_bestWay (l : Launch) (D : va_G) (cI cT : ClassId) (aC : Nat → Nat) (aS : Nat → Nat) (aT : Nat → Nat) (Q : Int → jx_St → Prop) (sC : jx_St) (sT : jx_St) (l1 : Int) (h : wp_C_bestWay Q sC sT l1) : jx_KI jx_St l D cI cT yX1_bestWay cX1_bestWay 10 .int 3 70 [.ref (aC 0), .int (jx_i l1)] [(cp_C aC (aT 0) (aS 0), sC), (cp_T aT, sT)] (fun u => [(cp_C aC (aT 0) (aS 0), u), (cp_T aT, sT)]) Q := by
  refine jx_ent (own := RX1) (by decide) rfl (Nat.le_of_ble_eq_true rfl) ?_
  intro p e s m args below meth c A QQ C hr hlk hK hAe hA hP hD hS ls hl hQQ
  have hl : lv_has ls 10 [(0, .ref (aC 0)), (1, .int (jx_i l1))] := hl
  have hx := C.1
  have hb := C.2.1
  unfold wp_C_bestWay at h
  have Lo10 : ∀ (n : Nat) (sC : jx_St) (l2 : Int) (l3 : Int) (l4 : Int) (l5 : Int), jx_it (fun B10 v => wp_C_bestWay_10 Q sT l1 B10 v.1 v.2.1 v.2.2.1 v.2.2.2.1 v.2.2.2.2) n (sC, l2, l3, l4, l5) → ∀ (H : Heap) (locs : List Loc), va_P D vwCl (jx_ws cI cT [(cp_C aC (aT 0) (aS 0), sC), (cp_T aT, sT)]) H → va_D A (jx_ws cI cT [(cp_C aC (aT 0) (aS 0), sC), (cp_T aT, sT)]) → va_S A s.heap H locs → ∀ ls : Array Slot, lv_has ls 10 [(0, .ref (aC 0)), (1, .int (jx_i l1)), (2, .int (jx_i l2)), (3, .int (jx_i l3)), (4, .int (jx_i l4)), (5, .int (jx_i l5))] → W p l e (jx_rm 3 70) s m args below meth c H locs 0 0 QQ (F0 m 10 ls []) := by
    intro n
    induction n with
    | zero =>
      intro sC l2 l3 l4 l5 h
      exact (show False from h).elim
    | succ n ih =>
      intro sC l2 l3 l4 l5 h H locs hP hD hS ls hl
      have h : wp_C_bestWay_10 Q sT l1 (jx_it (fun B10 v => wp_C_bestWay_10 Q sT l1 B10 v.1 v.2.1 v.2.2.1 v.2.2.2.1 v.2.2.2.2) n) sC l2 l3 l4 l5 := h
      have ih := fun sC l2 l3 l4 l5 h => ih sC l2 l3 l4 l5 h
      generalize jx_it (fun B10 v => wp_C_bestWay_10 Q sT l1 B10 v.1 v.2.1 v.2.2.1 v.2.2.2.1 v.2.2.2.2) n = B10 at h ih
      unfold wp_C_bestWay_10 at h
      have J106 : ∀ (sC : jx_St) (l2 : Int) (l3 : Int) (l4 : Int) (l5 : Int), wp_C_bestWay_106 Q sT l1 B10 sC l2 l3 l4 l5 → ∀ (H : Heap) (locs : List Loc), va_P D vwCl (jx_ws cI cT [(cp_C aC (aT 0) (aS 0), sC), (cp_T aT, sT)]) H → va_D A (jx_ws cI cT [(cp_C aC (aT 0) (aS 0), sC), (cp_T aT, sT)]) → va_S A s.heap H locs → ∀ ls : Array Slot, lv_has ls 10 [(0, .ref (aC 0)), (1, .int (jx_i l1)), (2, .int (jx_i l2)), (3, .int (jx_i l3)), (4, .int (jx_i l4)), (5, .int (jx_i l5))] → W p l e (jx_rm 3 70) s m args below meth c H locs 0 0 QQ (F0 m 106 ls []) := by
        intro sC l2 l3 l4 l5 h H locs hP hD hS ls hl
        unfold wp_C_bestWay_106 at h
        refine jx_iinc C (lv' := [(5, .int (jx_i (l5 + 1))), (0, .ref (aC 0)), (1, .int (jx_i l1)), (2, .int (jx_i l2)), (3, .int (jx_i l3)), (4, .int (jx_i l4))]) dX1_bestWay_106 hl (k := 5) rfl (by decide) rfl (fun ls hl => ?_)
        refine lv_goto (tgt := 10) hx hb dX1_bestWay_109 (by decide) ?_
        exact ih sC l2 l3 l4 (l5 + 1) h _ _ hP hD hS ls (lv_sub hl [1, 2, 3, 4, 5, 0] rfl)
      have J96 : ∀ (sC : jx_St) (l5 : Int) (l8 : Int) (l9 : Int), wp_C_bestWay_96 Q sT l1 B10 sC l5 l8 l9 → ∀ (H : Heap) (locs : List Loc), va_P D vwCl (jx_ws cI cT [(cp_C aC (aT 0) (aS 0), sC), (cp_T aT, sT)]) H → va_D A (jx_ws cI cT [(cp_C aC (aT 0) (aS 0), sC), (cp_T aT, sT)]) → va_S A s.heap H locs → ∀ ls : Array Slot, lv_has ls 10 [(0, .ref (aC 0)), (1, .int (jx_i l1)), (5, .int (jx_i l5)), (8, .int (jx_i l8)), (9, .int (jx_i l9))] → W p l e (jx_rm 3 70) s m args below meth c H locs 0 0 QQ (F0 m 96 ls []) := by
        intro sC l5 l8 l9 h H locs hP hD hS ls hl
        unfold wp_C_bestWay_96 at h
        refine lv_iload hx hb dX1_bestWay_96 (lv_at hl 2 rfl) ?_
        refine lv_istore_n (lv' := [(2, .int (jx_i l5)), (0, .ref (aC 0)), (1, .int (jx_i l1)), (5, .int (jx_i l5)), (8, .int (jx_i l8)), (9, .int (jx_i l9))]) hx hb dX1_bestWay_98 rfl hl (by decide) rfl (fun ls hl => ?_)
        refine lv_iload hx hb dX1_bestWay_99 (lv_at hl 4 rfl) ?_
        refine lv_istore_n (lv' := [(3, .int (jx_i l8)), (2, .int (jx_i l5)), (0, .ref (aC 0)), (1, .int (jx_i l1)), (5, .int (jx_i l5)), (8, .int (jx_i l8)), (9, .int (jx_i l9))]) hx hb dX1_bestWay_101 rfl hl (by decide) rfl (fun ls hl => ?_)
        refine lv_iload hx hb dX1_bestWay_102 (lv_at hl 6 rfl) ?_
        refine lv_istore (lv' := [(4, .int (jx_i l9)), (3, .int (jx_i l8)), (2, .int (jx_i l5)), (0, .ref (aC 0)), (1, .int (jx_i l1)), (5, .int (jx_i l5)), (8, .int (jx_i l8)), (9, .int (jx_i l9))]) hx hb dX1_bestWay_104 hl (by decide) rfl (fun ls hl => ?_)
        exact J106 sC l5 l8 l9 l5 h _ _ hP hD hS ls (lv_sub hl [3, 4, 2, 1, 0, 5] rfl)
      refine lv_iload hx hb dX1_bestWay_10 (lv_at hl 5 rfl) ?_
      refine jx_iconst C dX1_bestWay_12 ?_
      refine jx_cge C h.1 (jx_inR (by decide) (by decide)) (tgt := 112) dX1_bestWay_13 (by decide) (fun hc => ?_) (fun hc => ?_)
      · have h := h.2.2 hc
        refine lv_iload_n hx hb dX1_bestWay_112 rfl (lv_at hl 2 rfl) ?_
        exact jx_rI C hr hlk hAe hS hQQ sC hP h dX1_bestWay_113
      · have h := h.2.1 hc
        refine lv_aload_n hx hb dX1_bestWay_16 rfl (lv_at hl 0 rfl) ?_
        refine lv_iload_n hx hb dX1_bestWay_17 rfl (lv_at hl 1 rfl) ?_
        refine lv_iload hx hb dX1_bestWay_18 (lv_at hl 5 rfl) ?_
        refine jx_callSI C hK hP hD hS hA (ct_C_axisOf l D cI cT  _  l5 h) ms_X1_axisOf lk_X1_172 [] rfl rfl (fun _ => rfl) (cs' := (fun _ => [(cp_C aC (aT 0) (aS 0), sC), (cp_T aT, sT)])) (fun _ => rfl) (fun _ => rfl) rfl rfl hl.1 rfl rfl dX1_bestWay_20 ⟨Nat.le_refl _, Nat.le_refl _⟩ (fun r20 _ H locs h hP hD hS => ?_)
        have hP : va_P D vwCl (jx_ws cI cT [(cp_C aC (aT 0) (aS 0), sC), (cp_T aT, sT)]) H := hP
        have hD : va_D A (jx_ws cI cT [(cp_C aC (aT 0) (aS 0), sC), (cp_T aT, sT)]) := hD
        refine jx_callVV C hK hP hD hS hA (ct_C_arrange l D cI cT aC aS aT _ sC sT l1 r20 h) ms_X1_arrange lk_X1_175 [0, 1] rfl rfl (fun _ => rfl) (cs' := (fun u => [(cp_C aC (aT 0) (aS 0), u), (cp_T aT, sT)])) (fun _ => rfl) (fun _ => rfl) 0 0 rfl rfl rfl rfl rfl hl.1 rfl rfl dX1_bestWay_23 ⟨Nat.le_refl _, Nat.le_refl _⟩ (fun sC_23 H locs h hP hD hS => ?_)
        have hP : va_P D vwCl (jx_ws cI cT [(cp_C aC (aT 0) (aS 0), sC_23), (cp_T aT, sT)]) H := hP
        have hD : va_D A (jx_ws cI cT [(cp_C aC (aT 0) (aS 0), sC_23), (cp_T aT, sT)]) := hD
        refine lv_aload_n hx hb dX1_bestWay_26 rfl (lv_at hl 0 rfl) ?_
        refine jx_iconst C dX1_bestWay_27 ?_
        refine lv_iload hx hb dX1_bestWay_28 (lv_at hl 5 rfl) ?_
        refine jx_callSI C hK hP hD hS hA (ct_C_cutOf l D cI cT  _  l5 h) ms_X1_cutOf lk_X1_169 [] rfl rfl (fun _ => rfl) (cs' := (fun _ => [(cp_C aC (aT 0) (aS 0), sC_23), (cp_T aT, sT)])) (fun _ => rfl) (fun _ => rfl) rfl rfl hl.1 rfl rfl dX1_bestWay_30 ⟨Nat.le_refl _, Nat.le_refl _⟩ (fun r30 _ H locs h hP hD hS => ?_)
        have hP : va_P D vwCl (jx_ws cI cT [(cp_C aC (aT 0) (aS 0), sC_23), (cp_T aT, sT)]) H := hP
        have hD : va_D A (jx_ws cI cT [(cp_C aC (aT 0) (aS 0), sC_23), (cp_T aT, sT)]) := hD
        refine jx_callVI C hK hP hD hS hA (ct_C_hullOfPart l D cI cT aC aS aT _ sC_23 0 r30 h) ms_X1_hullOfPart lk_X1_190 [0] rfl rfl (fun _ => rfl) (cs' := (fun _ => [(cp_C aC (aT 0) (aS 0), sC_23), (cp_T aT, sT)])) (fun _ => rfl) (fun _ => rfl) 0 0 rfl rfl rfl rfl rfl hl.1 rfl rfl dX1_bestWay_33 ⟨Nat.le_refl _, Nat.le_refl _⟩ (fun r33 _ H locs h hP hD hS => ?_)
        have hP : va_P D vwCl (jx_ws cI cT [(cp_C aC (aT 0) (aS 0), sC_23), (cp_T aT, sT)]) H := hP
        have hD : va_D A (jx_ws cI cT [(cp_C aC (aT 0) (aS 0), sC_23), (cp_T aT, sT)]) := hD
        refine lv_istore (lv' := [(6, .int (jx_i r33)), (0, .ref (aC 0)), (1, .int (jx_i l1)), (2, .int (jx_i l2)), (3, .int (jx_i l3)), (4, .int (jx_i l4)), (5, .int (jx_i l5))]) hx hb dX1_bestWay_36 hl (by decide) rfl (fun ls hl => ?_)
        refine lv_aload_n hx hb dX1_bestWay_38 rfl (lv_at hl 1 rfl) ?_
        refine lv_iload hx hb dX1_bestWay_39 (lv_at hl 6 rfl) ?_
        refine jx_callSI C hK hP hD hS hA (ct_C_cutOf l D cI cT  _  l5 h) ms_X1_cutOf lk_X1_169 [] rfl rfl (fun _ => rfl) (cs' := (fun _ => [(cp_C aC (aT 0) (aS 0), sC_23), (cp_T aT, sT)])) (fun _ => rfl) (fun _ => rfl) rfl rfl hl.1 rfl rfl dX1_bestWay_41 ⟨Nat.le_refl _, Nat.le_refl _⟩ (fun r41 _ H locs h hP hD hS => ?_)
        have hP : va_P D vwCl (jx_ws cI cT [(cp_C aC (aT 0) (aS 0), sC_23), (cp_T aT, sT)]) H := hP
        have hD : va_D A (jx_ws cI cT [(cp_C aC (aT 0) (aS 0), sC_23), (cp_T aT, sT)]) := hD
        refine jx_iconst C dX1_bestWay_44 ?_
        refine jx_callVI C hK hP hD hS hA (ct_C_hullOfPart l D cI cT aC aS aT _ sC_23 r41 5 h) ms_X1_hullOfPart lk_X1_190 [0] rfl rfl (fun _ => rfl) (cs' := (fun _ => [(cp_C aC (aT 0) (aS 0), sC_23), (cp_T aT, sT)])) (fun _ => rfl) (fun _ => rfl) 0 0 rfl rfl rfl rfl rfl hl.1 rfl rfl dX1_bestWay_45 ⟨Nat.le_refl _, Nat.le_refl _⟩ (fun r45 _ H locs h hP hD hS => ?_)
        have hP : va_P D vwCl (jx_ws cI cT [(cp_C aC (aT 0) (aS 0), sC_23), (cp_T aT, sT)]) H := hP
        have hD : va_D A (jx_ws cI cT [(cp_C aC (aT 0) (aS 0), sC_23), (cp_T aT, sT)]) := hD
        refine lv_istore (lv' := [(7, .int (jx_i r45)), (6, .int (jx_i r33)), (0, .ref (aC 0)), (1, .int (jx_i l1)), (2, .int (jx_i l2)), (3, .int (jx_i l3)), (4, .int (jx_i l4)), (5, .int (jx_i l5))]) hx hb dX1_bestWay_48 hl (by decide) rfl (fun ls hl => ?_)
        refine lv_iload hx hb dX1_bestWay_50 (lv_at hl 1 rfl) ?_
        refine lv_iload hx hb dX1_bestWay_52 (lv_at hl 0 rfl) ?_
        refine jx_callSI C hK hP hD hS hA (ct_Box_common l D cI cT  _  r33 r45 h) ms_X0_common lk_X1_193 [] rfl rfl (fun _ => rfl) (cs' := (fun _ => [(cp_C aC (aT 0) (aS 0), sC_23), (cp_T aT, sT)])) (fun _ => rfl) (fun _ => rfl) rfl rfl hl.1 rfl rfl dX1_bestWay_54 ⟨Nat.le_refl _, Nat.le_refl _⟩ (fun r54 _ H locs h hP hD hS => ?_)
        have hP : va_P D vwCl (jx_ws cI cT [(cp_C aC (aT 0) (aS 0), sC_23), (cp_T aT, sT)]) H := hP
        have hD : va_D A (jx_ws cI cT [(cp_C aC (aT 0) (aS 0), sC_23), (cp_T aT, sT)]) := hD
        refine lv_istore (lv' := [(8, .int (jx_i r54)), (7, .int (jx_i r45)), (6, .int (jx_i r33)), (0, .ref (aC 0)), (1, .int (jx_i l1)), (2, .int (jx_i l2)), (3, .int (jx_i l3)), (4, .int (jx_i l4)), (5, .int (jx_i l5))]) hx hb dX1_bestWay_57 hl (by decide) rfl (fun ls hl => ?_)
        refine lv_iload hx hb dX1_bestWay_59 (lv_at hl 2 rfl) ?_
        refine jx_callSI C hK hP hD hS hA (ct_Box_area l D cI cT  _  r33 h) ms_X0_area lk_X1_196 [] rfl rfl (fun _ => rfl) (cs' := (fun _ => [(cp_C aC (aT 0) (aS 0), sC_23), (cp_T aT, sT)])) (fun _ => rfl) (fun _ => rfl) rfl rfl hl.1 rfl rfl dX1_bestWay_61 ⟨Nat.le_refl _, Nat.le_refl _⟩ (fun r61 _ H locs h hP hD hS => ?_)
        have hP : va_P D vwCl (jx_ws cI cT [(cp_C aC (aT 0) (aS 0), sC_23), (cp_T aT, sT)]) H := hP
        have hD : va_D A (jx_ws cI cT [(cp_C aC (aT 0) (aS 0), sC_23), (cp_T aT, sT)]) := hD
        refine lv_iload hx hb dX1_bestWay_64 (lv_at hl 1 rfl) ?_
        refine jx_callSI C hK hP hD hS hA (ct_Box_area l D cI cT  _  r45 h) ms_X0_area lk_X1_196 [] rfl rfl (fun _ => rfl) (cs' := (fun _ => [(cp_C aC (aT 0) (aS 0), sC_23), (cp_T aT, sT)])) (fun _ => rfl) (fun _ => rfl) rfl rfl hl.1 rfl rfl dX1_bestWay_66 ⟨Nat.le_refl _, Nat.le_refl _⟩ (fun r66 _ H locs h hP hD hS => ?_)
        have hP : va_P D vwCl (jx_ws cI cT [(cp_C aC (aT 0) (aS 0), sC_23), (cp_T aT, sT)]) H := hP
        have hD : va_D A (jx_ws cI cT [(cp_C aC (aT 0) (aS 0), sC_23), (cp_T aT, sT)]) := hD
        refine jx_iadd C dX1_bestWay_69 ?_
        refine lv_istore (lv' := [(9, .int (jx_i (r61 + r66))), (8, .int (jx_i r54)), (7, .int (jx_i r45)), (6, .int (jx_i r33)), (0, .ref (aC 0)), (1, .int (jx_i l1)), (2, .int (jx_i l2)), (3, .int (jx_i l3)), (4, .int (jx_i l4)), (5, .int (jx_i l5))]) hx hb dX1_bestWay_70 hl (by decide) rfl (fun ls hl => ?_)
        refine lv_iload_n hx hb dX1_bestWay_72 rfl (lv_at hl 6 rfl) ?_
        refine jx_iconst C dX1_bestWay_73 ?_
        refine jx_ceq C h.1 (jx_inR (by decide) (by decide)) (tgt := 96) dX1_bestWay_74 (by decide) (fun hc => ?_) (fun hc => ?_)
        · have h := h.2.1 hc
          exact J96 sC_23 l5 r54 (r61 + r66) h _ _ hP hD hS ls (lv_sub hl [4, 5, 9, 1, 0] rfl)
        · have h := h.2.2 hc
          refine lv_iload hx hb dX1_bestWay_77 (lv_at hl 1 rfl) ?_
          refine lv_iload_n hx hb dX1_bestWay_79 rfl (lv_at hl 7 rfl) ?_
          refine jx_clt C h.1 h.2.1 (tgt := 96) dX1_bestWay_80 (by decide) (fun hc => ?_) (fun hc => ?_)
          · have h := h.2.2.1 hc
            exact J96 sC_23 l5 r54 (r61 + r66) h _ _ hP hD hS ls (lv_sub hl [4, 5, 9, 1, 0] rfl)
          · have h := h.2.2.2 hc
            refine lv_iload hx hb dX1_bestWay_83 (lv_at hl 1 rfl) ?_
            refine lv_iload_n hx hb dX1_bestWay_85 rfl (lv_at hl 7 rfl) ?_
            refine jx_cne C h.1 h.2.1 (tgt := 106) dX1_bestWay_86 (by decide) (fun hc => ?_) (fun hc => ?_)
            · have h := h.2.2.2 hc
              exact J106 sC_23 l2 l3 l4 l5 h _ _ hP hD hS ls (lv_sub hl [4, 5, 6, 7, 8, 9] rfl)
            · have h := h.2.2.1 hc
              refine lv_iload hx hb dX1_bestWay_89 (lv_at hl 0 rfl) ?_
              refine lv_iload hx hb dX1_bestWay_91 (lv_at hl 8 rfl) ?_
              refine jx_cge C h.1 h.2.1 (tgt := 106) dX1_bestWay_93 (by decide) (fun hc => ?_) (fun hc => ?_)
              · have h := h.2.2.2 hc
                exact J106 sC_23 l2 l3 l4 l5 h _ _ hP hD hS ls (lv_sub hl [4, 5, 6, 7, 8, 9] rfl)
              · have h := h.2.2.1 hc
                exact J96 sC_23 l5 r54 (r61 + r66) h _ _ hP hD hS ls (lv_sub hl [4, 5, 9, 1, 0] rfl)
  refine jx_iconst C dX1_bestWay_0 ?_
  refine lv_istore_n (lv' := [(2, .int (jx_i (-1))), (0, .ref (aC 0)), (1, .int (jx_i l1))]) hx hb dX1_bestWay_1 rfl hl (by decide) rfl (fun ls hl => ?_)
  refine jx_iconst C dX1_bestWay_2 ?_
  refine lv_istore_n (lv' := [(3, .int (jx_i 0)), (2, .int (jx_i (-1))), (0, .ref (aC 0)), (1, .int (jx_i l1))]) hx hb dX1_bestWay_3 rfl hl (by decide) rfl (fun ls hl => ?_)
  refine jx_iconst C dX1_bestWay_4 ?_
  refine lv_istore (lv' := [(4, .int (jx_i 0)), (3, .int (jx_i 0)), (2, .int (jx_i (-1))), (0, .ref (aC 0)), (1, .int (jx_i l1))]) hx hb dX1_bestWay_5 hl (by decide) rfl (fun ls hl => ?_)
  refine jx_iconst C dX1_bestWay_7 ?_
  refine lv_istore (lv' := [(5, .int (jx_i 0)), (4, .int (jx_i 0)), (3, .int (jx_i 0)), (2, .int (jx_i (-1))), (0, .ref (aC 0)), (1, .int (jx_i l1))]) hx hb dX1_bestWay_8 hl (by decide) rfl (fun ls hl => ?_)
  obtain ⟨n, h⟩ := h
  refine Lo10 n sC (-1) 0 0 0 h _ _ hP hD hS ls (lv_sub hl [4, 5, 3, 2, 1, 0] rfl)
set_option maxRecDepth 100000 in
set_option maxHeartbeats 4000000 in
theorem ct_C_courtIsDue (l : Launch) (D : va_G) (cI cT : ClassId) (aC : Nat → Nat) (aS : Nat → Nat) (aT : Nat → Nat) (Q : Int → Prop) (sC : jx_St) (sT : jx_St) (l1 : Int) (h : wp_C_courtIsDue Q sC sT l1) : jx_KI (Unit) l D cI cT yX1_courtIsDue cX1_courtIsDue 2 .boolean 2 42 [.ref (aC 0), .int (jx_i l1)] [(cp_C aC (aT 0) (aS 0), sC), (cp_T aT, sT)] (fun _ => [(cp_C aC (aT 0) (aS 0), sC), (cp_T aT, sT)]) (fun x _ => Q x) := by
  refine jx_ent (own := RX1) (by decide) rfl (Nat.le_of_ble_eq_true rfl) ?_
  intro p e s m args below meth c A QQ C hr hlk hK hAe hA hP hD hS ls hl hQQ
  have hl : lv_has ls 2 [(0, .ref (aC 0)), (1, .int (jx_i l1))] := hl
  have hx := C.1
  have hb := C.2.1
  unfold wp_C_courtIsDue at h
  refine lv_iload_n hx hb dX1_courtIsDue_0 rfl (lv_at hl 1 rfl) ?_
  refine lv_aload_n hx hb dX1_courtIsDue_1 rfl (lv_at hl 0 rfl) ?_
  refine jx_getR C hK hP 0 0 0 rfl rfl rfl fl_X1_33 dX1_courtIsDue_2 ?_
  refine jx_getNI C hK hP 1 0 7 rfl rfl rfl fn_X1_89 dX1_courtIsDue_5 ?_
  refine jx_ceq C h.1 h.2.1 (tgt := 33) dX1_courtIsDue_8 (by decide) (fun hc => ?_) (fun hc => ?_)
  · have h := h.2.2.1 hc
    refine jx_iconst C dX1_courtIsDue_33 ?_
    exact jx_rZ C hr hlk hAe hS hQQ (by decide) () hP h dX1_courtIsDue_34
  · have h := h.2.2.2 hc
    refine lv_aload_n hx hb dX1_courtIsDue_11 rfl (lv_at hl 0 rfl) ?_
    refine jx_getI C hK hP 0 0 5 rfl rfl rfl fl_X1_111 dX1_courtIsDue_12 ?_
    refine lv_aload_n hx hb dX1_courtIsDue_15 rfl (lv_at hl 0 rfl) ?_
    refine jx_getR C hK hP 0 0 0 rfl rfl rfl fl_X1_33 dX1_courtIsDue_16 ?_
    refine lv_iload_n hx hb dX1_courtIsDue_19 rfl (lv_at hl 1 rfl) ?_
    refine jx_callVI C hK hP hD hS hA (ct_T_levelOf l D cI cT aT _ sT l1 h) ms_X6_levelOf lk_X1_98 [1] rfl rfl (fun _ => rfl) (cs' := (fun _ => [(cp_C aC (aT 0) (aS 0), sC), (cp_T aT, sT)])) (fun _ => rfl) (fun _ => rfl) 1 0 rfl rfl rfl rfl rfl hl.1 rfl rfl dX1_courtIsDue_20 ⟨Nat.le_refl _, Nat.le_refl _⟩ (fun r20 _ H locs h hP hD hS => ?_)
    have hP : va_P D vwCl (jx_ws cI cT [(cp_C aC (aT 0) (aS 0), sC), (cp_T aT, sT)]) H := hP
    have hD : va_D A (jx_ws cI cT [(cp_C aC (aT 0) (aS 0), sC), (cp_T aT, sT)]) := hD
    refine jx_ishr C dX1_courtIsDue_23 ?_
    refine jx_iconst C dX1_courtIsDue_24 ?_
    refine jx_iand C dX1_courtIsDue_25 ?_
    refine jx_zne C h.1 (tgt := 33) dX1_courtIsDue_26 (by decide) (fun hc => ?_) (fun hc => ?_)
    · have h := h.2.2 hc
      refine jx_iconst C dX1_courtIsDue_33 ?_
      exact jx_rZ C hr hlk hAe hS hQQ (by decide) () hP h dX1_courtIsDue_34
    · have h := h.2.1 hc
      refine jx_iconst C dX1_courtIsDue_29 ?_
      refine lv_goto (tgt := 34) hx hb dX1_courtIsDue_30 (by decide) ?_
      exact jx_rZ C hr hlk hAe hS hQQ (by decide) () hP h dX1_courtIsDue_34
set_option maxRecDepth 100000 in
set_option maxHeartbeats 4000000 in
theorem ct_C_split (l : Launch) (D : va_G) (cI cT : ClassId) (aC : Nat → Nat) (aS : Nat → Nat) (aT : Nat → Nat) (Q : Int → jx_St → jx_St → Prop) (sC : jx_St) (sT : jx_St) (l1 : Int) (h : wp_C_split Q sC sT l1) : jx_KI (jx_St × jx_St) l D cI cT yX1_split cX1_split 7 .int 4 99 [.ref (aC 0), .int (jx_i l1)] [(cp_C aC (aT 0) (aS 0), sC), (cp_T aT, sT)] (fun u => [(cp_C aC (aT 0) (aS 0), u.1), (cp_T aT, u.2)]) (fun x u => Q x u.1 u.2) := by
  refine jx_ent (own := RX1) (by decide) rfl (Nat.le_of_ble_eq_true rfl) ?_
  intro p e s m args below meth c A QQ C hr hlk hK hAe hA hP hD hS ls hl hQQ
  have hl : lv_has ls 7 [(0, .ref (aC 0)), (1, .int (jx_i l1))] := hl
  have hx := C.1
  have hb := C.2.1
  unfold wp_C_split at h
  have Lo48 : ∀ (sC : jx_St) (l3 : Int) (l4 : Int) (K101 : jx_St → Prop) (n : Nat) (sT : jx_St) (l5 : Int), jx_it (fun B48 v => wp_C_split_48 Q l1 K101 sC l3 l4 B48 v.1 v.2) n (sT, l5) → (∀ (sT : jx_St), K101 sT → ∀ (H : Heap) (locs : List Loc), va_P D vwCl (jx_ws cI cT [(cp_C aC (aT 0) (aS 0), sC), (cp_T aT, sT)]) H → va_D A (jx_ws cI cT [(cp_C aC (aT 0) (aS 0), sC), (cp_T aT, sT)]) → va_S A s.heap H locs → ∀ ls : Array Slot, lv_has ls 7 [(0, .ref (aC 0)), (1, .int (jx_i l1)), (4, .int (jx_i l4))] → W p l e (jx_rm 4 99) s m args below meth c H locs 0 0 QQ (F0 m 101 ls [])) → ∀ (H : Heap) (locs : List Loc), va_P D vwCl (jx_ws cI cT [(cp_C aC (aT 0) (aS 0), sC), (cp_T aT, sT)]) H → va_D A (jx_ws cI cT [(cp_C aC (aT 0) (aS 0), sC), (cp_T aT, sT)]) → va_S A s.heap H locs → ∀ ls : Array Slot, lv_has ls 7 [(0, .ref (aC 0)), (1, .int (jx_i l1)), (3, .int (jx_i l3)), (4, .int (jx_i l4)), (5, .int (jx_i l5))] → W p l e (jx_rm 4 99) s m args below meth c H locs 0 0 QQ (F0 m 48 ls []) := by
    intro sC l3 l4 K101 n
    induction n with
    | zero =>
      intro sT l5 h
      exact (show False from h).elim
    | succ n ih =>
      intro sT l5 h K101E H locs hP hD hS ls hl
      have h : wp_C_split_48 Q l1 K101 sC l3 l4 (jx_it (fun B48 v => wp_C_split_48 Q l1 K101 sC l3 l4 B48 v.1 v.2) n) sT l5 := h
      have ih := fun sT l5 h => ih sT l5 h K101E
      generalize jx_it (fun B48 v => wp_C_split_48 Q l1 K101 sC l3 l4 B48 v.1 v.2) n = B48 at h ih
      unfold wp_C_split_48 at h
      have J66 : ∀ (sT : jx_St) (l5 : Int) (t0 : Int), wp_C_split_66 Q l1 B48 K101 sC sT l3 l4 l5 t0 → ∀ (H : Heap) (locs : List Loc), va_P D vwCl (jx_ws cI cT [(cp_C aC (aT 0) (aS 0), sC), (cp_T aT, sT)]) H → va_D A (jx_ws cI cT [(cp_C aC (aT 0) (aS 0), sC), (cp_T aT, sT)]) → va_S A s.heap H locs → ∀ ls : Array Slot, lv_has ls 7 [(0, .ref (aC 0)), (1, .int (jx_i l1)), (3, .int (jx_i l3)), (4, .int (jx_i l4)), (5, .int (jx_i l5))] → W p l e (jx_rm 4 99) s m args below meth c H locs 0 0 QQ (F0 m 66 ls [.int (jx_i t0)]) := by
        intro sT l5 t0 h H locs hP hD hS ls hl
        unfold wp_C_split_66 at h
        refine lv_istore (lv' := [(6, .int (jx_i t0)), (0, .ref (aC 0)), (1, .int (jx_i l1)), (3, .int (jx_i l3)), (4, .int (jx_i l4)), (5, .int (jx_i l5))]) hx hb dX1_split_66 hl (by decide) rfl (fun ls hl => ?_)
        refine lv_aload_n hx hb dX1_split_68 rfl (lv_at hl 1 rfl) ?_
        refine jx_getR C hK hP 0 0 0 rfl rfl rfl fl_X1_33 dX1_split_69 ?_
        refine lv_iload hx hb dX1_split_72 (lv_at hl 0 rfl) ?_
        refine lv_aload_n hx hb dX1_split_74 rfl (lv_at hl 1 rfl) ?_
        refine jx_getR C hK hP 0 0 0 rfl rfl rfl fl_X1_33 dX1_split_75 ?_
        refine lv_iload hx hb dX1_split_78 (lv_at hl 0 rfl) ?_
        refine jx_callVI C hK hP hD hS hA (ct_T_sizeOf l D cI cT aT _ sT t0 h) ms_X6_sizeOf lk_X1_95 [1] rfl rfl (fun _ => rfl) (cs' := (fun _ => [(cp_C aC (aT 0) (aS 0), sC), (cp_T aT, sT)])) (fun _ => rfl) (fun _ => rfl) 1 0 rfl rfl rfl rfl rfl hl.1 rfl rfl dX1_split_80 ⟨Nat.le_refl _, Nat.le_refl _⟩ (fun r80 _ H locs h hP hD hS => ?_)
        have hP : va_P D vwCl (jx_ws cI cT [(cp_C aC (aT 0) (aS 0), sC), (cp_T aT, sT)]) H := hP
        have hD : va_D A (jx_ws cI cT [(cp_C aC (aT 0) (aS 0), sC), (cp_T aT, sT)]) := hD
        refine lv_aload_n hx hb dX1_split_83 rfl (lv_at hl 1 rfl) ?_
        refine jx_getR C hK hP 0 0 10 rfl rfl rfl fl_X1_27 dX1_split_84 ?_
        refine lv_iload hx hb dX1_split_87 (lv_at hl 5 rfl) ?_
        refine jx_rowsAt C hK hP hD hS hA 0 6 rfl rfl rfl rfl h.1 lk_X1_41 hl.1 rfl rfl dX1_split_89 ⟨Nat.le_refl _, Nat.le_refl _⟩ (fun H locs hP hS => ?_)
        have h := h.2
        refine jx_callVV C hK hP hD hS hA (ct_T_add l D cI cT aT _ sT t0 r80 (jx_at 5 (sC 10) l5) h) ms_X6_add lk_X1_126 [1] rfl rfl (fun _ => rfl) (cs' := (fun u => [(cp_C aC (aT 0) (aS 0), sC), (cp_T aT, u)])) (fun _ => rfl) (fun _ => rfl) 1 0 rfl rfl rfl rfl rfl hl.1 rfl rfl dX1_split_92 ⟨Nat.le_refl _, Nat.le_refl _⟩ (fun sT_92 H locs h hP hD hS => ?_)
        have hP : va_P D vwCl (jx_ws cI cT [(cp_C aC (aT 0) (aS 0), sC), (cp_T aT, sT_92)]) H := hP
        have hD : va_D A (jx_ws cI cT [(cp_C aC (aT 0) (aS 0), sC), (cp_T aT, sT_92)]) := hD
        refine jx_iinc C (lv' := [(5, .int (jx_i (l5 + 1))), (6, .int (jx_i t0)), (0, .ref (aC 0)), (1, .int (jx_i l1)), (3, .int (jx_i l3)), (4, .int (jx_i l4))]) dX1_split_95 hl (k := 5) rfl (by decide) rfl (fun ls hl => ?_)
        refine lv_goto (tgt := 48) hx hb dX1_split_98 (by decide) ?_
        exact ih sT_92 (l5 + 1) h _ _ hP hD hS ls (lv_sub hl [2, 3, 4, 5, 0] rfl)
      refine lv_iload hx hb dX1_split_48 (lv_at hl 4 rfl) ?_
      refine jx_iconst C dX1_split_50 ?_
      refine jx_cge C h.1 (jx_inR (by decide) (by decide)) (tgt := 101) dX1_split_51 (by decide) (fun hc => ?_) (fun hc => ?_)
      · have h := h.2.2 hc
        exact K101E sT h _ _ hP hD hS ls (lv_sub hl [0, 1, 3] rfl)
      · have h := h.2.1 hc
        refine lv_iload hx hb dX1_split_54 (lv_at hl 4 rfl) ?_
        refine lv_iload_n hx hb dX1_split_56 rfl (lv_at hl 2 rfl) ?_
        refine jx_cge C h.1 h.2.1 (tgt := 64) dX1_split_57 (by decide) (fun hc => ?_) (fun hc => ?_)
        · have h := h.2.2.2 hc
          refine lv_iload hx hb dX1_split_64 (lv_at hl 3 rfl) ?_
          exact J66 sT l5 l4 h _ _ hP hD hS ls (lv_sub hl [0, 1, 2, 3, 4] rfl)
        · have h := h.2.2.1 hc
          refine lv_iload_n hx hb dX1_split_60 rfl (lv_at hl 1 rfl) ?_
          refine lv_goto (tgt := 66) hx hb dX1_split_61 (by decide) ?_
          exact J66 sT l5 l1 h _ _ hP hD hS ls (lv_sub hl [0, 1, 2, 3, 4] rfl)
  have J119 : ∀ (sC : jx_St) (sT : jx_St) (l4 : Int), wp_C_split_119 Q l1 sC sT l4 → ∀ (H : Heap) (locs : List Loc), va_P D vwCl (jx_ws cI cT [(cp_C aC (aT 0) (aS 0), sC), (cp_T aT, sT)]) H → va_D A (jx_ws cI cT [(cp_C aC (aT 0) (aS 0), sC), (cp_T aT, sT)]) → va_S A s.heap H locs → ∀ ls : Array Slot, lv_has ls 7 [(0, .ref (aC 0)), (1, .int (jx_i l1)), (4, .int (jx_i l4))] → W p l e (jx_rm 4 99) s m args below meth c H locs 0 0 QQ (F0 m 119 ls []) := by
    intro sC sT l4 h H locs hP hD hS ls hl
    unfold wp_C_split_119 at h
    refine lv_aload_n hx hb dX1_split_119 rfl (lv_at hl 0 rfl) ?_
    refine jx_getR C hK hP 0 0 0 rfl rfl rfl fl_X1_33 dX1_split_120 ?_
    refine lv_iload_n hx hb dX1_split_123 rfl (lv_at hl 1 rfl) ?_
    refine jx_callVI C hK hP hD hS hA (ct_T_aboveOf l D cI cT aT _ sT l1 h) ms_X6_aboveOf lk_X1_92 [1] rfl rfl (fun _ => rfl) (cs' := (fun _ => [(cp_C aC (aT 0) (aS 0), sC), (cp_T aT, sT)])) (fun _ => rfl) (fun _ => rfl) 1 0 rfl rfl rfl rfl rfl hl.1 rfl rfl dX1_split_124 ⟨Nat.le_refl _, Nat.le_refl _⟩ (fun r124 _ H locs h hP hD hS => ?_)
    have hP : va_P D vwCl (jx_ws cI cT [(cp_C aC (aT 0) (aS 0), sC), (cp_T aT, sT)]) H := hP
    have hD : va_D A (jx_ws cI cT [(cp_C aC (aT 0) (aS 0), sC), (cp_T aT, sT)]) := hD
    refine lv_istore (lv' := [(5, .int (jx_i r124)), (0, .ref (aC 0)), (1, .int (jx_i l1)), (4, .int (jx_i l4))]) hx hb dX1_split_127 hl (by decide) rfl (fun ls hl => ?_)
    refine lv_aload_n hx hb dX1_split_129 rfl (lv_at hl 1 rfl) ?_
    refine jx_getR C hK hP 0 0 0 rfl rfl rfl fl_X1_33 dX1_split_130 ?_
    refine lv_iload hx hb dX1_split_133 (lv_at hl 0 rfl) ?_
    refine lv_aload_n hx hb dX1_split_135 rfl (lv_at hl 1 rfl) ?_
    refine jx_getR C hK hP 0 0 0 rfl rfl rfl fl_X1_33 dX1_split_136 ?_
    refine lv_iload hx hb dX1_split_139 (lv_at hl 0 rfl) ?_
    refine lv_iload_n hx hb dX1_split_141 rfl (lv_at hl 2 rfl) ?_
    refine jx_callVI C hK hP hD hS hA (ct_T_placeIn l D cI cT aT _ sT r124 l1 h) ms_X6_placeIn lk_X1_64 [1] rfl rfl (fun _ => rfl) (cs' := (fun _ => [(cp_C aC (aT 0) (aS 0), sC), (cp_T aT, sT)])) (fun _ => rfl) (fun _ => rfl) 1 0 rfl rfl rfl rfl rfl hl.1 rfl rfl dX1_split_142 ⟨Nat.le_refl _, Nat.le_refl _⟩ (fun r142 _ H locs h hP hD hS => ?_)
    have hP : va_P D vwCl (jx_ws cI cT [(cp_C aC (aT 0) (aS 0), sC), (cp_T aT, sT)]) H := hP
    have hD : va_D A (jx_ws cI cT [(cp_C aC (aT 0) (aS 0), sC), (cp_T aT, sT)]) := hD
    refine jx_iconst C dX1_split_145 ?_
    refine jx_iadd C dX1_split_146 ?_
    refine lv_iload hx hb dX1_split_147 (lv_at hl 3 rfl) ?_
    refine jx_callVV C hK hP hD hS hA (ct_T_add l D cI cT aT _ sT r124 (r142 + 1) l4 h) ms_X6_add lk_X1_126 [1] rfl rfl (fun _ => rfl) (cs' := (fun u => [(cp_C aC (aT 0) (aS 0), sC), (cp_T aT, u)])) (fun _ => rfl) (fun _ => rfl) 1 0 rfl rfl rfl rfl rfl hl.1 rfl rfl dX1_split_149 ⟨Nat.le_refl _, Nat.le_refl _⟩ (fun sT_149 H locs h hP hD hS => ?_)
    have hP : va_P D vwCl (jx_ws cI cT [(cp_C aC (aT 0) (aS 0), sC), (cp_T aT, sT_149)]) H := hP
    have hD : va_D A (jx_ws cI cT [(cp_C aC (aT 0) (aS 0), sC), (cp_T aT, sT_149)]) := hD
    refine lv_aload_n hx hb dX1_split_152 rfl (lv_at hl 1 rfl) ?_
    refine jx_getR C hK hP 0 0 0 rfl rfl rfl fl_X1_33 dX1_split_153 ?_
    refine lv_iload_n hx hb dX1_split_156 rfl (lv_at hl 2 rfl) ?_
    refine jx_callVV C hK hP hD hS hA (ct_T_refresh l D cI cT aT _ sT_149 l1 h) ms_X6_refresh lk_X1_71 [1] rfl rfl (fun _ => rfl) (cs' := (fun u => [(cp_C aC (aT 0) (aS 0), sC), (cp_T aT, u)])) (fun _ => rfl) (fun _ => rfl) 1 0 rfl rfl rfl rfl rfl hl.1 rfl rfl dX1_split_157 ⟨Nat.le_refl _, Nat.le_refl _⟩ (fun sT_157 H locs h hP hD hS => ?_)
    have hP : va_P D vwCl (jx_ws cI cT [(cp_C aC (aT 0) (aS 0), sC), (cp_T aT, sT_157)]) H := hP
    have hD : va_D A (jx_ws cI cT [(cp_C aC (aT 0) (aS 0), sC), (cp_T aT, sT_157)]) := hD
    refine lv_aload_n hx hb dX1_split_160 rfl (lv_at hl 1 rfl) ?_
    refine jx_getR C hK hP 0 0 0 rfl rfl rfl fl_X1_33 dX1_split_161 ?_
    refine lv_iload hx hb dX1_split_164 (lv_at hl 3 rfl) ?_
    refine jx_callVV C hK hP hD hS hA (ct_T_refresh l D cI cT aT _ sT_157 l4 h) ms_X6_refresh lk_X1_71 [1] rfl rfl (fun _ => rfl) (cs' := (fun u => [(cp_C aC (aT 0) (aS 0), sC), (cp_T aT, u)])) (fun _ => rfl) (fun _ => rfl) 1 0 rfl rfl rfl rfl rfl hl.1 rfl rfl dX1_split_166 ⟨Nat.le_refl _, Nat.le_refl _⟩ (fun sT_166 H locs h hP hD hS => ?_)
    have hP : va_P D vwCl (jx_ws cI cT [(cp_C aC (aT 0) (aS 0), sC), (cp_T aT, sT_166)]) H := hP
    have hD : va_D A (jx_ws cI cT [(cp_C aC (aT 0) (aS 0), sC), (cp_T aT, sT_166)]) := hD
    refine lv_aload_n hx hb dX1_split_169 rfl (lv_at hl 1 rfl) ?_
    refine jx_getR C hK hP 0 0 0 rfl rfl rfl fl_X1_33 dX1_split_170 ?_
    refine lv_dup hx hb dX1_split_173 rfl ?_
    refine jx_getNI C hK hP 1 0 9 rfl rfl rfl fn_X1_187 dX1_split_174 ?_
    refine jx_iconst C dX1_split_177 ?_
    refine jx_iadd C dX1_split_178 ?_
    refine jx_putNI C hK hP hD hS 1 0 9 rfl rfl rfl rfl rfl fn_X1_187 fw_X6_9 ⟨rfl, rfl⟩ rfl dX1_split_179 (fun H locs hP hD hS => ?_)
    have hP : va_P D vwCl (jx_ws cI cT [(cp_C aC (aT 0) (aS 0), sC), (cp_T aT, (jx_su sT_166 9 0 ((sT_166 9 0) + 1)))]) H := hP
    have hD : va_D A (jx_ws cI cT [(cp_C aC (aT 0) (aS 0), sC), (cp_T aT, (jx_su sT_166 9 0 ((sT_166 9 0) + 1)))]) := hD
    refine lv_iload hx hb dX1_split_182 (lv_at hl 0 rfl) ?_
    exact jx_rI C hr hlk hAe hS hQQ (sC, (jx_su sT_166 9 0 ((sT_166 9 0) + 1))) hP h dX1_split_184
  have J101 : ∀ (sC : jx_St) (sT : jx_St) (l4 : Int), wp_C_split_101 Q l1 sC sT l4 → ∀ (H : Heap) (locs : List Loc), va_P D vwCl (jx_ws cI cT [(cp_C aC (aT 0) (aS 0), sC), (cp_T aT, sT)]) H → va_D A (jx_ws cI cT [(cp_C aC (aT 0) (aS 0), sC), (cp_T aT, sT)]) → va_S A s.heap H locs → ∀ ls : Array Slot, lv_has ls 7 [(0, .ref (aC 0)), (1, .int (jx_i l1)), (4, .int (jx_i l4))] → W p l e (jx_rm 4 99) s m args below meth c H locs 0 0 QQ (F0 m 101 ls []) := by
    intro sC sT l4 h H locs hP hD hS ls hl
    unfold wp_C_split_101 at h
    refine lv_iload_n hx hb dX1_split_101 rfl (lv_at hl 1 rfl) ?_
    refine lv_aload_n hx hb dX1_split_102 rfl (lv_at hl 0 rfl) ?_
    refine jx_getR C hK hP 0 0 0 rfl rfl rfl fl_X1_33 dX1_split_103 ?_
    refine jx_getNI C hK hP 1 0 7 rfl rfl rfl fn_X1_89 dX1_split_106 ?_
    refine jx_cne C h.1 h.2.1 (tgt := 119) dX1_split_109 (by decide) (fun hc => ?_) (fun hc => ?_)
    · have h := h.2.2.2 hc
      exact J119 sC sT l4 h _ _ hP hD hS ls (lv_sub hl [0, 1, 2] rfl)
    · have h := h.2.2.1 hc
      refine lv_aload_n hx hb dX1_split_112 rfl (lv_at hl 0 rfl) ?_
      refine jx_getR C hK hP 0 0 0 rfl rfl rfl fl_X1_33 dX1_split_113 ?_
      refine jx_callVV C hK hP hD hS hA (ct_T_raiseRoot l D cI cT aT _ sT  h) ms_X6_raiseRoot lk_X1_184 [1] rfl rfl (fun _ => rfl) (cs' := (fun u => [(cp_C aC (aT 0) (aS 0), sC), (cp_T aT, u)])) (fun _ => rfl) (fun _ => rfl) 1 0 rfl rfl rfl rfl rfl hl.1 rfl rfl dX1_split_116 ⟨Nat.le_refl _, Nat.le_refl _⟩ (fun sT_116 H locs h hP hD hS => ?_)
      have hP : va_P D vwCl (jx_ws cI cT [(cp_C aC (aT 0) (aS 0), sC), (cp_T aT, sT_116)]) H := hP
      have hD : va_D A (jx_ws cI cT [(cp_C aC (aT 0) (aS 0), sC), (cp_T aT, sT_116)]) := hD
      exact J119 sC sT_116 l4 h _ _ hP hD hS ls (lv_sub hl [0, 1, 2] rfl)
  refine lv_aload_n hx hb dX1_split_0 rfl (lv_at hl 0 rfl) ?_
  refine lv_iload_n hx hb dX1_split_1 rfl (lv_at hl 1 rfl) ?_
  refine jx_callVI C hK hP hD hS hA (ct_C_bestWay l D cI cT aC aS aT _ sC sT l1 h) ms_X1_bestWay lk_X1_166 [0, 1] rfl rfl (fun _ => rfl) (cs' := (fun u => [(cp_C aC (aT 0) (aS 0), u), (cp_T aT, sT)])) (fun _ => rfl) (fun _ => rfl) 0 0 rfl rfl rfl rfl rfl hl.1 rfl rfl dX1_split_2 ⟨Nat.le_refl _, Nat.le_refl _⟩ (fun r2 sC_2 H locs h hP hD hS => ?_)
  have hP : va_P D vwCl (jx_ws cI cT [(cp_C aC (aT 0) (aS 0), sC_2), (cp_T aT, sT)]) H := hP
  have hD : va_D A (jx_ws cI cT [(cp_C aC (aT 0) (aS 0), sC_2), (cp_T aT, sT)]) := hD
  refine lv_istore_n (lv' := [(2, .int (jx_i r2)), (0, .ref (aC 0)), (1, .int (jx_i l1))]) hx hb dX1_split_5 rfl hl (by decide) rfl (fun ls hl => ?_)
  refine lv_iload_n hx hb dX1_split_6 rfl (lv_at hl 0 rfl) ?_
  refine jx_callSI C hK hP hD hS hA (ct_C_cutOf l D cI cT  _  r2 h) ms_X1_cutOf lk_X1_169 [] rfl rfl (fun _ => rfl) (cs' := (fun _ => [(cp_C aC (aT 0) (aS 0), sC_2), (cp_T aT, sT)])) (fun _ => rfl) (fun _ => rfl) rfl rfl hl.1 rfl rfl dX1_split_7 ⟨Nat.le_refl _, Nat.le_refl _⟩ (fun r7 _ H locs h hP hD hS => ?_)
  have hP : va_P D vwCl (jx_ws cI cT [(cp_C aC (aT 0) (aS 0), sC_2), (cp_T aT, sT)]) H := hP
  have hD : va_D A (jx_ws cI cT [(cp_C aC (aT 0) (aS 0), sC_2), (cp_T aT, sT)]) := hD
  refine lv_istore_n (lv' := [(3, .int (jx_i r7)), (2, .int (jx_i r2)), (0, .ref (aC 0)), (1, .int (jx_i l1))]) hx hb dX1_split_10 rfl hl (by decide) rfl (fun ls hl => ?_)
  refine lv_aload_n hx hb dX1_split_11 rfl (lv_at hl 2 rfl) ?_
  refine lv_iload_n hx hb dX1_split_12 rfl (lv_at hl 3 rfl) ?_
  refine lv_iload_n hx hb dX1_split_13 rfl (lv_at hl 1 rfl) ?_
  refine jx_callSI C hK hP hD hS hA (ct_C_axisOf l D cI cT  _  r2 h) ms_X1_axisOf lk_X1_172 [] rfl rfl (fun _ => rfl) (cs' := (fun _ => [(cp_C aC (aT 0) (aS 0), sC_2), (cp_T aT, sT)])) (fun _ => rfl) (fun _ => rfl) rfl rfl hl.1 rfl rfl dX1_split_14 ⟨Nat.le_refl _, Nat.le_refl _⟩ (fun r14 _ H locs h hP hD hS => ?_)
  have hP : va_P D vwCl (jx_ws cI cT [(cp_C aC (aT 0) (aS 0), sC_2), (cp_T aT, sT)]) H := hP
  have hD : va_D A (jx_ws cI cT [(cp_C aC (aT 0) (aS 0), sC_2), (cp_T aT, sT)]) := hD
  refine jx_callVV C hK hP hD hS hA (ct_C_arrange l D cI cT aC aS aT _ sC_2 sT l1 r14 h) ms_X1_arrange lk_X1_175 [0, 1] rfl rfl (fun _ => rfl) (cs' := (fun u => [(cp_C aC (aT 0) (aS 0), u), (cp_T aT, sT)])) (fun _ => rfl) (fun _ => rfl) 0 0 rfl rfl rfl rfl rfl hl.1 rfl rfl dX1_split_17 ⟨Nat.le_refl _, Nat.le_refl _⟩ (fun sC_17 H locs h hP hD hS => ?_)
  have hP : va_P D vwCl (jx_ws cI cT [(cp_C aC (aT 0) (aS 0), sC_17), (cp_T aT, sT)]) H := hP
  have hD : va_D A (jx_ws cI cT [(cp_C aC (aT 0) (aS 0), sC_17), (cp_T aT, sT)]) := hD
  refine lv_aload_n hx hb dX1_split_20 rfl (lv_at hl 2 rfl) ?_
  refine jx_getR C hK hP 0 0 0 rfl rfl rfl fl_X1_33 dX1_split_21 ?_
  refine lv_aload_n hx hb dX1_split_24 rfl (lv_at hl 2 rfl) ?_
  refine jx_getR C hK hP 0 0 0 rfl rfl rfl fl_X1_33 dX1_split_25 ?_
  refine lv_iload_n hx hb dX1_split_28 rfl (lv_at hl 3 rfl) ?_
  refine jx_callVI C hK hP hD hS hA (ct_T_levelOf l D cI cT aT _ sT l1 h) ms_X6_levelOf lk_X1_98 [1] rfl rfl (fun _ => rfl) (cs' := (fun _ => [(cp_C aC (aT 0) (aS 0), sC_17), (cp_T aT, sT)])) (fun _ => rfl) (fun _ => rfl) 1 0 rfl rfl rfl rfl rfl hl.1 rfl rfl dX1_split_29 ⟨Nat.le_refl _, Nat.le_refl _⟩ (fun r29 _ H locs h hP hD hS => ?_)
  have hP : va_P D vwCl (jx_ws cI cT [(cp_C aC (aT 0) (aS 0), sC_17), (cp_T aT, sT)]) H := hP
  have hD : va_D A (jx_ws cI cT [(cp_C aC (aT 0) (aS 0), sC_17), (cp_T aT, sT)]) := hD
  refine jx_callVI C hK hP hD hS hA (ct_T_newNode l D cI cT aT _ sT r29 h) ms_X6_newNode lk_X1_178 [1] rfl rfl (fun _ => rfl) (cs' := (fun u => [(cp_C aC (aT 0) (aS 0), sC_17), (cp_T aT, u)])) (fun _ => rfl) (fun _ => rfl) 1 0 rfl rfl rfl rfl rfl hl.1 rfl rfl dX1_split_32 ⟨Nat.le_refl _, Nat.le_refl _⟩ (fun r32 sT_32 H locs h hP hD hS => ?_)
  have hP : va_P D vwCl (jx_ws cI cT [(cp_C aC (aT 0) (aS 0), sC_17), (cp_T aT, sT_32)]) H := hP
  have hD : va_D A (jx_ws cI cT [(cp_C aC (aT 0) (aS 0), sC_17), (cp_T aT, sT_32)]) := hD
  refine lv_istore (lv' := [(4, .int (jx_i r32)), (3, .int (jx_i r7)), (2, .int (jx_i r2)), (0, .ref (aC 0)), (1, .int (jx_i l1))]) hx hb dX1_split_35 hl (by decide) rfl (fun ls hl => ?_)
  refine lv_aload_n hx hb dX1_split_37 rfl (lv_at hl 3 rfl) ?_
  refine jx_getR C hK hP 0 0 0 rfl rfl rfl fl_X1_33 dX1_split_38 ?_
  refine lv_iload_n hx hb dX1_split_41 rfl (lv_at hl 4 rfl) ?_
  refine jx_callVV C hK hP hD hS hA (ct_T_clearRow l D cI cT aT _ sT_32 l1 h) ms_X6_clearRow lk_X1_181 [1] rfl rfl (fun _ => rfl) (cs' := (fun u => [(cp_C aC (aT 0) (aS 0), sC_17), (cp_T aT, u)])) (fun _ => rfl) (fun _ => rfl) 1 0 rfl rfl rfl rfl rfl hl.1 rfl rfl dX1_split_42 ⟨Nat.le_refl _, Nat.le_refl _⟩ (fun sT_42 H locs h hP hD hS => ?_)
  have hP : va_P D vwCl (jx_ws cI cT [(cp_C aC (aT 0) (aS 0), sC_17), (cp_T aT, sT_42)]) H := hP
  have hD : va_D A (jx_ws cI cT [(cp_C aC (aT 0) (aS 0), sC_17), (cp_T aT, sT_42)]) := hD
  refine jx_iconst C dX1_split_45 ?_
  refine lv_istore (lv' := [(5, .int (jx_i 0)), (4, .int (jx_i r32)), (3, .int (jx_i r7)), (2, .int (jx_i r2)), (0, .ref (aC 0)), (1, .int (jx_i l1))]) hx hb dX1_split_46 hl (by decide) rfl (fun ls hl => ?_)
  obtain ⟨n, h⟩ := h
  refine Lo48 sC_17 r7 r32 _ n sT_42 0 h ?_ _ _ hP hD hS ls (lv_sub hl [4, 5, 2, 1, 0] rfl)
  · intro sT h H locs hP hD hS ls hl
    exact J101 sC_17 sT r32 h _ _ hP hD hS ls (lv_sub hl [0, 1, 2] rfl)
set_option maxRecDepth 100000 in
set_option maxHeartbeats 4000000 in
theorem ct_C_farthest (l : Launch) (D : va_G) (cI cT : ClassId) (aC : Nat → Nat) (aS : Nat → Nat) (aT : Nat → Nat) (Q : Int → Prop) (sC : jx_St) (sT : jx_St) (l1 : Int) (l2 : Int) (h : wp_C_farthest Q sC sT l1 l2) : jx_KI (Unit) l D cI cT yX1_farthest cX1_farthest 9 .int 2 44 [.ref (aC 0), .int (jx_i l1), .int (jx_i l2)] [(cp_C aC (aT 0) (aS 0), sC), (cp_T aT, sT)] (fun _ => [(cp_C aC (aT 0) (aS 0), sC), (cp_T aT, sT)]) (fun x _ => Q x) := by
  refine jx_ent (own := RX1) (by decide) rfl (Nat.le_of_ble_eq_true rfl) ?_
  intro p e s m args below meth c A QQ C hr hlk hK hAe hA hP hD hS ls hl hQQ
  have hl : lv_has ls 9 [(0, .ref (aC 0)), (1, .int (jx_i l1)), (2, .int (jx_i l2))] := hl
  have hx := C.1
  have hb := C.2.1
  unfold wp_C_farthest at h
  have Lo31 : ∀ (l3 : Int) (l4 : Int) (n : Nat) (l5 : Int) (l6 : Int) (l7 : Int), jx_it (fun B31 v => wp_C_farthest_31 Q sC sT l1 l2 l3 l4 B31 v.1 v.2.1 v.2.2) n (l5, l6, l7) → ∀ (H : Heap) (locs : List Loc), va_P D vwCl (jx_ws cI cT [(cp_C aC (aT 0) (aS 0), sC), (cp_T aT, sT)]) H → va_D A (jx_ws cI cT [(cp_C aC (aT 0) (aS 0), sC), (cp_T aT, sT)]) → va_S A s.heap H locs → ∀ ls : Array Slot, lv_has ls 9 [(0, .ref (aC 0)), (1, .int (jx_i l1)), (2, .int (jx_i l2)), (3, .int (jx_i l3)), (4, .int (jx_i l4)), (5, .int (jx_i l5)), (6, .int (jx_i l6)), (7, .int (jx_i l7))] → W p l e (jx_rm 2 44) s m args below meth c H locs 0 0 QQ (F0 m 31 ls []) := by
    intro l3 l4 n
    induction n with
    | zero =>
      intro l5 l6 l7 h
      exact (show False from h).elim
    | succ n ih =>
      intro l5 l6 l7 h H locs hP hD hS ls hl
      have h : wp_C_farthest_31 Q sC sT l1 l2 l3 l4 (jx_it (fun B31 v => wp_C_farthest_31 Q sC sT l1 l2 l3 l4 B31 v.1 v.2.1 v.2.2) n) l5 l6 l7 := h
      have ih := fun l5 l6 l7 h => ih l5 l6 l7 h
      generalize jx_it (fun B31 v => wp_C_farthest_31 Q sC sT l1 l2 l3 l4 B31 v.1 v.2.1 v.2.2) n = B31 at h ih
      unfold wp_C_farthest_31 at h
      have J90 : ∀ (l5 : Int) (l6 : Int) (l7 : Int), wp_C_farthest_90 Q sC sT l1 l2 B31 l3 l4 l5 l6 l7 → ∀ (H : Heap) (locs : List Loc), va_P D vwCl (jx_ws cI cT [(cp_C aC (aT 0) (aS 0), sC), (cp_T aT, sT)]) H → va_D A (jx_ws cI cT [(cp_C aC (aT 0) (aS 0), sC), (cp_T aT, sT)]) → va_S A s.heap H locs → ∀ ls : Array Slot, lv_has ls 9 [(0, .ref (aC 0)), (1, .int (jx_i l1)), (2, .int (jx_i l2)), (3, .int (jx_i l3)), (4, .int (jx_i l4)), (5, .int (jx_i l5)), (6, .int (jx_i l6)), (7, .int (jx_i l7))] → W p l e (jx_rm 2 44) s m args below meth c H locs 0 0 QQ (F0 m 90 ls []) := by
        intro l5 l6 l7 h H locs hP hD hS ls hl
        unfold wp_C_farthest_90 at h
        refine jx_iinc C (lv' := [(7, .int (jx_i (l7 + 1))), (0, .ref (aC 0)), (1, .int (jx_i l1)), (2, .int (jx_i l2)), (3, .int (jx_i l3)), (4, .int (jx_i l4)), (5, .int (jx_i l5)), (6, .int (jx_i l6))]) dX1_farthest_90 hl (k := 7) rfl (by decide) rfl (fun ls hl => ?_)
        refine lv_goto (tgt := 31) hx hb dX1_farthest_93 (by decide) ?_
        exact ih l5 l6 (l7 + 1) h _ _ hP hD hS ls (lv_sub hl [1, 2, 3, 4, 5, 6, 7, 0] rfl)
      refine lv_iload hx hb dX1_farthest_31 (lv_at hl 7 rfl) ?_
      refine lv_aload_n hx hb dX1_farthest_33 rfl (lv_at hl 0 rfl) ?_
      refine jx_getR C hK hP 0 0 0 rfl rfl rfl fl_X1_33 dX1_farthest_34 ?_
      refine lv_iload_n hx hb dX1_farthest_37 rfl (lv_at hl 1 rfl) ?_
      refine jx_callVI C hK hP hD hS hA (ct_T_sizeOf l D cI cT aT _ sT l1 h) ms_X6_sizeOf lk_X1_95 [1] rfl rfl (fun _ => rfl) (cs' := (fun _ => [(cp_C aC (aT 0) (aS 0), sC), (cp_T aT, sT)])) (fun _ => rfl) (fun _ => rfl) 1 0 rfl rfl rfl rfl rfl hl.1 rfl rfl dX1_farthest_38 ⟨Nat.le_refl _, Nat.le_refl _⟩ (fun r38 _ H locs h hP hD hS => ?_)
      have hP : va_P D vwCl (jx_ws cI cT [(cp_C aC (aT 0) (aS 0), sC), (cp_T aT, sT)]) H := hP
      have hD : va_D A (jx_ws cI cT [(cp_C aC (aT 0) (aS 0), sC), (cp_T aT, sT)]) := hD
      refine jx_cge C h.1 h.2.1 (tgt := 96) dX1_farthest_41 (by decide) (fun hc => ?_) (fun hc => ?_)
      · have h := h.2.2.2 hc
        refine lv_iload hx hb dX1_farthest_96 (lv_at hl 5 rfl) ?_
        exact jx_rI C hr hlk hAe hS hQQ () hP h dX1_farthest_98
      · have h := h.2.2.1 hc
        refine lv_aload_n hx hb dX1_farthest_44 rfl (lv_at hl 0 rfl) ?_
        refine jx_getR C hK hP 0 0 0 rfl rfl rfl fl_X1_33 dX1_farthest_45 ?_
        refine lv_aload_n hx hb dX1_farthest_48 rfl (lv_at hl 0 rfl) ?_
        refine jx_getR C hK hP 0 0 0 rfl rfl rfl fl_X1_33 dX1_farthest_49 ?_
        refine lv_iload_n hx hb dX1_farthest_52 rfl (lv_at hl 1 rfl) ?_
        refine lv_iload hx hb dX1_farthest_53 (lv_at hl 7 rfl) ?_
        refine jx_callVI C hK hP hD hS hA (ct_T_thingAt l D cI cT aT _ sT l1 l7 h) ms_X6_thingAt lk_X1_101 [1] rfl rfl (fun _ => rfl) (cs' := (fun _ => [(cp_C aC (aT 0) (aS 0), sC), (cp_T aT, sT)])) (fun _ => rfl) (fun _ => rfl) 1 0 rfl rfl rfl rfl rfl hl.1 rfl rfl dX1_farthest_55 ⟨Nat.le_refl _, Nat.le_refl _⟩ (fun r55 _ H locs h hP hD hS => ?_)
        have hP : va_P D vwCl (jx_ws cI cT [(cp_C aC (aT 0) (aS 0), sC), (cp_T aT, sT)]) H := hP
        have hD : va_D A (jx_ws cI cT [(cp_C aC (aT 0) (aS 0), sC), (cp_T aT, sT)]) := hD
        refine lv_iload_n hx hb dX1_farthest_58 rfl (lv_at hl 3 rfl) ?_
        refine jx_callVI C hK hP hD hS hA (ct_T_hull l D cI cT aT _ sT r55 l3 h) ms_X6_hull lk_X1_120 [1] rfl rfl (fun _ => rfl) (cs' := (fun _ => [(cp_C aC (aT 0) (aS 0), sC), (cp_T aT, sT)])) (fun _ => rfl) (fun _ => rfl) 1 0 rfl rfl rfl rfl rfl hl.1 rfl rfl dX1_farthest_59 ⟨Nat.le_refl _, Nat.le_refl _⟩ (fun r59 _ H locs h hP hD hS => ?_)
        have hP : va_P D vwCl (jx_ws cI cT [(cp_C aC (aT 0) (aS 0), sC), (cp_T aT, sT)]) H := hP
        have hD : va_D A (jx_ws cI cT [(cp_C aC (aT 0) (aS 0), sC), (cp_T aT, sT)]) := hD
        refine lv_iload hx hb dX1_farthest_62 (lv_at hl 4 rfl) ?_
        refine jx_callSI C hK hP hD hS hA (ct_Box_apart l D cI cT  _  r59 l4 h) ms_X0_apart lk_X1_160 [] rfl rfl (fun _ => rfl) (cs' := (fun _ => [(cp_C aC (aT 0) (aS 0), sC), (cp_T aT, sT)])) (fun _ => rfl) (fun _ => rfl) rfl rfl hl.1 rfl rfl dX1_farthest_64 ⟨Nat.le_refl _, Nat.le_refl _⟩ (fun r64 _ H locs h hP hD hS => ?_)
        have hP : va_P D vwCl (jx_ws cI cT [(cp_C aC (aT 0) (aS 0), sC), (cp_T aT, sT)]) H := hP
        have hD : va_D A (jx_ws cI cT [(cp_C aC (aT 0) (aS 0), sC), (cp_T aT, sT)]) := hD
        refine lv_istore (lv' := [(8, .int (jx_i r64)), (0, .ref (aC 0)), (1, .int (jx_i l1)), (2, .int (jx_i l2)), (3, .int (jx_i l3)), (4, .int (jx_i l4)), (5, .int (jx_i l5)), (6, .int (jx_i l6)), (7, .int (jx_i l7))]) hx hb dX1_farthest_67 hl (by decide) rfl (fun ls hl => ?_)
        refine lv_iload hx hb dX1_farthest_69 (lv_at hl 8 rfl) ?_
        refine lv_iload_n hx hb dX1_farthest_71 rfl (lv_at hl 3 rfl) ?_
        refine jx_ceq C h.1 h.2.1 (tgt := 90) dX1_farthest_72 (by decide) (fun hc => ?_) (fun hc => ?_)
        · have h := h.2.2.1 hc
          exact J90 l5 l6 l7 h _ _ hP hD hS ls (lv_sub hl [1, 2, 3, 4, 5, 6, 7, 8] rfl)
        · have h := h.2.2.2 hc
          refine lv_iload hx hb dX1_farthest_75 (lv_at hl 0 rfl) ?_
          refine lv_iload hx hb dX1_farthest_77 (lv_at hl 7 rfl) ?_
          refine jx_clt C h.1 h.2.1 (tgt := 90) dX1_farthest_79 (by decide) (fun hc => ?_) (fun hc => ?_)
          · have h := h.2.2.1 hc
            exact J90 l5 l6 l7 h _ _ hP hD hS ls (lv_sub hl [1, 2, 3, 4, 5, 6, 7, 8] rfl)
          · have h := h.2.2.2 hc
            refine lv_iload hx hb dX1_farthest_82 (lv_at hl 8 rfl) ?_
            refine lv_istore (lv' := [(5, .int (jx_i l7)), (8, .int (jx_i r64)), (0, .ref (aC 0)), (1, .int (jx_i l1)), (2, .int (jx_i l2)), (3, .int (jx_i l3)), (4, .int (jx_i l4)), (6, .int (jx_i l6)), (7, .int (jx_i l7))]) hx hb dX1_farthest_84 hl (by decide) rfl (fun ls hl => ?_)
            refine lv_iload hx hb dX1_farthest_86 (lv_at hl 1 rfl) ?_
            refine lv_istore (lv' := [(6, .int (jx_i r64)), (5, .int (jx_i l7)), (8, .int (jx_i r64)), (0, .ref (aC 0)), (1, .int (jx_i l1)), (2, .int (jx_i l2)), (3, .int (jx_i l3)), (4, .int (jx_i l4)), (7, .int (jx_i l7))]) hx hb dX1_farthest_88 hl (by decide) rfl (fun ls hl => ?_)
            exact J90 l7 r64 l7 h _ _ hP hD hS ls (lv_sub hl [3, 4, 5, 6, 7, 1, 0, 8] rfl)
  refine lv_aload_n hx hb dX1_farthest_0 rfl (lv_at hl 0 rfl) ?_
  refine jx_getR C hK hP 0 0 0 rfl rfl rfl fl_X1_33 dX1_farthest_1 ?_
  refine lv_iload_n hx hb dX1_farthest_4 rfl (lv_at hl 1 rfl) ?_
  refine jx_callVI C hK hP hD hS hA (ct_T_levelOf l D cI cT aT _ sT l1 h) ms_X6_levelOf lk_X1_98 [1] rfl rfl (fun _ => rfl) (cs' := (fun _ => [(cp_C aC (aT 0) (aS 0), sC), (cp_T aT, sT)])) (fun _ => rfl) (fun _ => rfl) 1 0 rfl rfl rfl rfl rfl hl.1 rfl rfl dX1_farthest_5 ⟨Nat.le_refl _, Nat.le_refl _⟩ (fun r5 _ H locs h hP hD hS => ?_)
  have hP : va_P D vwCl (jx_ws cI cT [(cp_C aC (aT 0) (aS 0), sC), (cp_T aT, sT)]) H := hP
  have hD : va_D A (jx_ws cI cT [(cp_C aC (aT 0) (aS 0), sC), (cp_T aT, sT)]) := hD
  refine lv_istore_n (lv' := [(3, .int (jx_i r5)), (0, .ref (aC 0)), (1, .int (jx_i l1)), (2, .int (jx_i l2))]) hx hb dX1_farthest_8 rfl hl (by decide) rfl (fun ls hl => ?_)
  refine lv_aload_n hx hb dX1_farthest_9 rfl (lv_at hl 1 rfl) ?_
  refine jx_getR C hK hP 0 0 0 rfl rfl rfl fl_X1_33 dX1_farthest_10 ?_
  refine jx_getNR C hK hP 1 0 4 rfl rfl rfl fn_X1_159 dX1_farthest_13 ?_
  refine lv_iload_n hx hb dX1_farthest_16 rfl (lv_at hl 2 rfl) ?_
  refine jx_rowsAt C hK hP hD hS hA 1 5 rfl rfl rfl rfl h.1 lk_X1_41 hl.1 rfl rfl dX1_farthest_17 ⟨Nat.le_refl _, Nat.le_refl _⟩ (fun H locs hP hS => ?_)
  have h := h.2
  refine lv_istore (lv' := [(4, .int (jx_i (jx_at 32 (sT 4) l1))), (3, .int (jx_i r5)), (0, .ref (aC 0)), (1, .int (jx_i l1)), (2, .int (jx_i l2))]) hx hb dX1_farthest_20 hl (by decide) rfl (fun ls hl => ?_)
  refine jx_iconst C dX1_farthest_22 ?_
  refine lv_istore (lv' := [(5, .int (jx_i (-1))), (4, .int (jx_i (jx_at 32 (sT 4) l1))), (3, .int (jx_i r5)), (0, .ref (aC 0)), (1, .int (jx_i l1)), (2, .int (jx_i l2))]) hx hb dX1_farthest_23 hl (by decide) rfl (fun ls hl => ?_)
  refine jx_iconst C dX1_farthest_25 ?_
  refine lv_istore (lv' := [(6, .int (jx_i 0)), (5, .int (jx_i (-1))), (4, .int (jx_i (jx_at 32 (sT 4) l1))), (3, .int (jx_i r5)), (0, .ref (aC 0)), (1, .int (jx_i l1)), (2, .int (jx_i l2))]) hx hb dX1_farthest_26 hl (by decide) rfl (fun ls hl => ?_)
  refine jx_iconst C dX1_farthest_28 ?_
  refine lv_istore (lv' := [(7, .int (jx_i 0)), (6, .int (jx_i 0)), (5, .int (jx_i (-1))), (4, .int (jx_i (jx_at 32 (sT 4) l1))), (3, .int (jx_i r5)), (0, .ref (aC 0)), (1, .int (jx_i l1)), (2, .int (jx_i l2))]) hx hb dX1_farthest_29 hl (by decide) rfl (fun ls hl => ?_)
  obtain ⟨n, h⟩ := h
  refine Lo31 r5 (jx_at 32 (sT 4) l1) n (-1) 0 0 h _ _ hP hD hS ls (lv_sub hl [5, 6, 7, 4, 3, 2, 1, 0] rfl)
set_option maxRecDepth 100000 in
set_option maxHeartbeats 4000000 in
theorem ct_C_noteCourt (l : Launch) (D : va_G) (cI cT : ClassId) (aC : Nat → Nat) (aS : Nat → Nat) (aT : Nat → Nat) (Q : jx_St → jx_St → Prop) (sC : jx_St) (sT : jx_St) (l1 : Int) (l2 : Int) (h : wp_C_noteCourt Q sC sT l1 l2) : jx_KV (jx_St × jx_St) l D cI cT yX1_noteCourt cX1_noteCourt 3 1 22 [.ref (aC 0), .int (jx_i l1), .int (jx_i l2)] [(cp_C aC (aT 0) (aS 0), sC), (cp_T aT, sT)] (fun u => [(cp_C aC (aT 0) (aS 0), u.1), (cp_T aT, u.2)]) (fun u => Q u.1 u.2) := by
  refine jx_ent (own := RX1) (by decide) rfl (Nat.le_of_ble_eq_true rfl) ?_
  intro p e s m args below meth c A QQ C hr hlk hK hAe hA hP hD hS ls hl hQQ
  have hl : lv_has ls 3 [(0, .ref (aC 0)), (1, .int (jx_i l1)), (2, .int (jx_i l2))] := hl
  have hx := C.1
  have hb := C.2.1
  unfold wp_C_noteCourt at h
  refine lv_aload_n hx hb dX1_noteCourt_0 rfl (lv_at hl 0 rfl) ?_
  refine jx_getR C hK hP 0 0 0 rfl rfl rfl fl_X1_33 dX1_noteCourt_1 ?_
  refine lv_dup hx hb dX1_noteCourt_4 rfl ?_
  refine jx_getNI C hK hP 1 0 8 rfl rfl rfl fn_X1_165 dX1_noteCourt_5 ?_
  refine jx_iconst C dX1_noteCourt_8 ?_
  refine jx_iadd C dX1_noteCourt_9 ?_
  refine jx_putNI C hK hP hD hS 1 0 8 rfl rfl rfl rfl rfl fn_X1_165 fw_X6_8 ⟨rfl, rfl⟩ rfl dX1_noteCourt_10 (fun H locs hP hD hS => ?_)
  have hP : va_P D vwCl (jx_ws cI cT [(cp_C aC (aT 0) (aS 0), sC), (cp_T aT, (jx_su sT 8 0 ((sT 8 0) + 1)))]) H := hP
  have hD : va_D A (jx_ws cI cT [(cp_C aC (aT 0) (aS 0), sC), (cp_T aT, (jx_su sT 8 0 ((sT 8 0) + 1)))]) := hD
  refine lv_aload_n hx hb dX1_noteCourt_13 rfl (lv_at hl 0 rfl) ?_
  refine jx_getI C hK hP 0 0 8 rfl rfl rfl fl_X1_47 dX1_noteCourt_14 ?_
  refine jx_bipush C dX1_noteCourt_17 (by decide) ?_
  refine jx_cge C h.1 (jx_inR (by decide) (by decide)) (tgt := 56) dX1_noteCourt_19 (by decide) (fun hc => ?_) (fun hc => ?_)
  · have h := h.2.2 hc
    exact jx_rV C hr hlk hAe hS hQQ (sC, (jx_su sT 8 0 ((sT 8 0) + 1))) hP h dX1_noteCourt_56
  · have h := h.2.1 hc
    refine lv_aload_n hx hb dX1_noteCourt_22 rfl (lv_at hl 0 rfl) ?_
    refine jx_getR C hK hP 0 0 6 rfl rfl rfl fl_X1_18 dX1_noteCourt_23 ?_
    refine lv_aload_n hx hb dX1_noteCourt_26 rfl (lv_at hl 0 rfl) ?_
    refine jx_getI C hK hP 0 0 8 rfl rfl rfl fl_X1_47 dX1_noteCourt_27 ?_
    refine lv_iload_n hx hb dX1_noteCourt_30 rfl (lv_at hl 1 rfl) ?_
    refine jx_rowsSet C hK hP hD hS hA 0 3 rfl rfl rfl rfl h.1 lk_X1_104 rfl hl.1 rfl rfl dX1_noteCourt_31 ⟨Nat.le_refl _, Nat.le_refl _⟩ (fun H locs hP hD hS => ?_)
    have h := h.2
    have hP : va_P D vwCl (jx_ws cI cT [(cp_C aC (aT 0) (aS 0), (jx_se 64 sC 6 (sC 8 0) l1)), (cp_T aT, (jx_su sT 8 0 ((sT 8 0) + 1)))]) H := hP
    have hD : va_D A (jx_ws cI cT [(cp_C aC (aT 0) (aS 0), (jx_se 64 sC 6 (sC 8 0) l1)), (cp_T aT, (jx_su sT 8 0 ((sT 8 0) + 1)))]) := hD
    refine lv_aload_n hx hb dX1_noteCourt_34 rfl (lv_at hl 0 rfl) ?_
    refine jx_getR C hK hP 0 0 7 rfl rfl rfl fl_X1_21 dX1_noteCourt_35 ?_
    refine lv_aload_n hx hb dX1_noteCourt_38 rfl (lv_at hl 0 rfl) ?_
    refine jx_getI C hK hP 0 0 8 rfl rfl rfl fl_X1_47 dX1_noteCourt_39 ?_
    refine lv_iload_n hx hb dX1_noteCourt_42 rfl (lv_at hl 2 rfl) ?_
    refine jx_rowsSet C hK hP hD hS hA 0 4 rfl rfl rfl rfl h.1 lk_X1_104 rfl hl.1 rfl rfl dX1_noteCourt_43 ⟨Nat.le_refl _, Nat.le_refl _⟩ (fun H locs hP hD hS => ?_)
    have h := h.2
    have hP : va_P D vwCl (jx_ws cI cT [(cp_C aC (aT 0) (aS 0), (jx_se 64 (jx_se 64 sC 6 (sC 8 0) l1) 7 ((jx_se 64 sC 6 (sC 8 0) l1) 8 0) l2)), (cp_T aT, (jx_su sT 8 0 ((sT 8 0) + 1)))]) H := hP
    have hD : va_D A (jx_ws cI cT [(cp_C aC (aT 0) (aS 0), (jx_se 64 (jx_se 64 sC 6 (sC 8 0) l1) 7 ((jx_se 64 sC 6 (sC 8 0) l1) 8 0) l2)), (cp_T aT, (jx_su sT 8 0 ((sT 8 0) + 1)))]) := hD
    refine lv_aload_n hx hb dX1_noteCourt_46 rfl (lv_at hl 0 rfl) ?_
    refine lv_dup hx hb dX1_noteCourt_47 rfl ?_
    refine jx_getI C hK hP 0 0 8 rfl rfl rfl fl_X1_47 dX1_noteCourt_48 ?_
    refine jx_iconst C dX1_noteCourt_51 ?_
    refine jx_iadd C dX1_noteCourt_52 ?_
    refine jx_putI C hK hP hD hS 0 0 8 rfl rfl rfl rfl rfl fl_X1_47 fw_X1_8 ⟨rfl, rfl⟩ rfl dX1_noteCourt_53 (fun H locs hP hD hS => ?_)
    have hP : va_P D vwCl (jx_ws cI cT [(cp_C aC (aT 0) (aS 0), (jx_su (jx_se 64 (jx_se 64 sC 6 (sC 8 0) l1) 7 ((jx_se 64 sC 6 (sC 8 0) l1) 8 0) l2) 8 0 (((jx_se 64 (jx_se 64 sC 6 (sC 8 0) l1) 7 ((jx_se 64 sC 6 (sC 8 0) l1) 8 0) l2) 8 0) + 1))), (cp_T aT, (jx_su sT 8 0 ((sT 8 0) + 1)))]) H := hP
    have hD : va_D A (jx_ws cI cT [(cp_C aC (aT 0) (aS 0), (jx_su (jx_se 64 (jx_se 64 sC 6 (sC 8 0) l1) 7 ((jx_se 64 sC 6 (sC 8 0) l1) 8 0) l2) 8 0 (((jx_se 64 (jx_se 64 sC 6 (sC 8 0) l1) 7 ((jx_se 64 sC 6 (sC 8 0) l1) 8 0) l2) 8 0) + 1))), (cp_T aT, (jx_su sT 8 0 ((sT 8 0) + 1)))]) := hD
    exact jx_rV C hr hlk hAe hS hQQ ((jx_su (jx_se 64 (jx_se 64 sC 6 (sC 8 0) l1) 7 ((jx_se 64 sC 6 (sC 8 0) l1) 8 0) l2) 8 0 (((jx_se 64 (jx_se 64 sC 6 (sC 8 0) l1) 7 ((jx_se 64 sC 6 (sC 8 0) l1) 8 0) l2) 8 0) + 1)), (jx_su sT 8 0 ((sT 8 0) + 1))) hP h dX1_noteCourt_56
set_option maxRecDepth 100000 in
set_option maxHeartbeats 4000000 in
theorem ct_C_holdCourt (l : Launch) (D : va_G) (cI cT : ClassId) (aC : Nat → Nat) (aS : Nat → Nat) (aT : Nat → Nat) (Q : Int → jx_St → jx_St → jx_St → Prop) (sC : jx_St) (sS : jx_St) (sT : jx_St) (l1 : Int) (h : wp_C_holdCourt Q sC sS sT l1) : jx_KI (jx_St × jx_St × jx_St) l D cI cT yX1_holdCourt cX1_holdCourt 7 .int 4 91 [.ref (aC 0), .int (jx_i l1)] [(cp_C aC (aT 0) (aS 0), sC), (cp_S aS (aT 0), sS), (cp_T aT, sT)] (fun u => [(cp_C aC (aT 0) (aS 0), u.1), (cp_S aS (aT 0), u.2.1), (cp_T aT, u.2.2)]) (fun x u => Q x u.1 u.2.1 u.2.2) := by
  refine jx_ent (own := RX1) (by decide) rfl (Nat.le_of_ble_eq_true rfl) ?_
  intro p e s m args below meth c A QQ C hr hlk hK hAe hA hP hD hS ls hl hQQ
  have hl : lv_has ls 7 [(0, .ref (aC 0)), (1, .int (jx_i l1))] := hl
  have hx := C.1
  have hb := C.2.1
  unfold wp_C_holdCourt at h
  have J88 : ∀ (sC : jx_St) (sS : jx_St) (sT : jx_St) (l2 : Int) (l3 : Int) (l4 : Int) (l5 : Int) (l6 : Int) (t1 : Int) (t2 : Int), wp_C_holdCourt_88 Q l1 sC sS sT l2 l3 l4 l5 l6 t1 t2 → ∀ (H : Heap) (locs : List Loc), va_P D vwCl (jx_ws cI cT [(cp_C aC (aT 0) (aS 0), sC), (cp_S aS (aT 0), sS), (cp_T aT, sT)]) H → va_D A (jx_ws cI cT [(cp_C aC (aT 0) (aS 0), sC), (cp_S aS (aT 0), sS), (cp_T aT, sT)]) → va_S A s.heap H locs → ∀ ls : Array Slot, lv_has ls 7 [(0, .ref (aC 0)), (1, .int (jx_i l1)), (2, .int (jx_i l2)), (3, .int (jx_i l3)), (4, .int (jx_i l4)), (5, .int (jx_i l5)), (6, .int (jx_i l6))] → W p l e (jx_rm 4 91) s m args below meth c H locs 0 0 QQ (F0 m 88 ls [.int (jx_i t2), .int (jx_i t1), .ref (aC 0)]) := by
    intro sC sS sT l2 l3 l4 l5 l6 t1 t2 h H locs hP hD hS ls hl
    unfold wp_C_holdCourt_88 at h
    refine jx_callVV C hK hP hD hS hA (ct_C_noteCourt l D cI cT aC aS aT _ sC sT t1 t2 h) ms_X1_noteCourt lk_X1_148 [0, 2] rfl rfl (fun _ => rfl) (cs' := (fun u => [(cp_C aC (aT 0) (aS 0), u.1), (cp_S aS (aT 0), sS), (cp_T aT, u.2)])) (fun _ => rfl) (fun _ => rfl) 0 0 rfl rfl rfl rfl rfl hl.1 rfl rfl dX1_holdCourt_88 ⟨Nat.le_refl _, Nat.le_refl _⟩ (fun u H locs h hP hD hS => ?_)
    obtain ⟨sC_88, sT_88⟩ := u
    dsimp only at h
    have hP : va_P D vwCl (jx_ws cI cT [(cp_C aC (aT 0) (aS 0), sC_88), (cp_S aS (aT 0), sS), (cp_T aT, sT_88)]) H := hP
    have hD : va_D A (jx_ws cI cT [(cp_C aC (aT 0) (aS 0), sC_88), (cp_S aS (aT 0), sS), (cp_T aT, sT_88)]) := hD
    refine lv_aload_n hx hb dX1_holdCourt_91 rfl (lv_at hl 0 rfl) ?_
    refine jx_getR C hK hP 0 0 0 rfl rfl rfl fl_X1_33 dX1_holdCourt_92 ?_
    refine lv_iload_n hx hb dX1_holdCourt_95 rfl (lv_at hl 1 rfl) ?_
    refine lv_iload_n hx hb dX1_holdCourt_96 rfl (lv_at hl 3 rfl) ?_
    refine lv_iload hx hb dX1_holdCourt_97 (lv_at hl 4 rfl) ?_
    refine jx_max C h.1 h.2.1 lk_X1_151 hl.1 rfl dX1_holdCourt_99 ⟨Nat.le_refl _, Nat.le_refl _⟩ jx_wMax ?_
    have h := h.2.2
    refine jx_callVV C hK hP hD hS hA (ct_T_remove l D cI cT aT _ sT_88 l1 (max l3 l4) h) ms_X6_remove lk_X1_68 [2] rfl rfl (fun _ => rfl) (cs' := (fun u => [(cp_C aC (aT 0) (aS 0), sC_88), (cp_S aS (aT 0), sS), (cp_T aT, u)])) (fun _ => rfl) (fun _ => rfl) 2 0 rfl rfl rfl rfl rfl hl.1 rfl rfl dX1_holdCourt_102 ⟨Nat.le_refl _, Nat.le_refl _⟩ (fun sT_102 H locs h hP hD hS => ?_)
    have hP : va_P D vwCl (jx_ws cI cT [(cp_C aC (aT 0) (aS 0), sC_88), (cp_S aS (aT 0), sS), (cp_T aT, sT_102)]) H := hP
    have hD : va_D A (jx_ws cI cT [(cp_C aC (aT 0) (aS 0), sC_88), (cp_S aS (aT 0), sS), (cp_T aT, sT_102)]) := hD
    refine lv_aload_n hx hb dX1_holdCourt_105 rfl (lv_at hl 0 rfl) ?_
    refine jx_getR C hK hP 0 0 0 rfl rfl rfl fl_X1_33 dX1_holdCourt_106 ?_
    refine lv_iload_n hx hb dX1_holdCourt_109 rfl (lv_at hl 1 rfl) ?_
    refine lv_iload_n hx hb dX1_holdCourt_110 rfl (lv_at hl 3 rfl) ?_
    refine lv_iload hx hb dX1_holdCourt_111 (lv_at hl 4 rfl) ?_
    refine jx_min C h.1 h.2.1 lk_X1_156 hl.1 rfl dX1_holdCourt_113 ⟨Nat.le_refl _, Nat.le_refl _⟩ jx_wMin ?_
    have h := h.2.2
    refine jx_callVV C hK hP hD hS hA (ct_T_remove l D cI cT aT _ sT_102 l1 (min l3 l4) h) ms_X6_remove lk_X1_68 [2] rfl rfl (fun _ => rfl) (cs' := (fun u => [(cp_C aC (aT 0) (aS 0), sC_88), (cp_S aS (aT 0), sS), (cp_T aT, u)])) (fun _ => rfl) (fun _ => rfl) 2 0 rfl rfl rfl rfl rfl hl.1 rfl rfl dX1_holdCourt_116 ⟨Nat.le_refl _, Nat.le_refl _⟩ (fun sT_116 H locs h hP hD hS => ?_)
    have hP : va_P D vwCl (jx_ws cI cT [(cp_C aC (aT 0) (aS 0), sC_88), (cp_S aS (aT 0), sS), (cp_T aT, sT_116)]) H := hP
    have hD : va_D A (jx_ws cI cT [(cp_C aC (aT 0) (aS 0), sC_88), (cp_S aS (aT 0), sS), (cp_T aT, sT_116)]) := hD
    refine lv_aload_n hx hb dX1_holdCourt_119 rfl (lv_at hl 0 rfl) ?_
    refine jx_getR C hK hP 0 0 0 rfl rfl rfl fl_X1_33 dX1_holdCourt_120 ?_
    refine lv_iload_n hx hb dX1_holdCourt_123 rfl (lv_at hl 1 rfl) ?_
    refine jx_callVV C hK hP hD hS hA (ct_T_refresh l D cI cT aT _ sT_116 l1 h) ms_X6_refresh lk_X1_71 [2] rfl rfl (fun _ => rfl) (cs' := (fun u => [(cp_C aC (aT 0) (aS 0), sC_88), (cp_S aS (aT 0), sS), (cp_T aT, u)])) (fun _ => rfl) (fun _ => rfl) 2 0 rfl rfl rfl rfl rfl hl.1 rfl rfl dX1_holdCourt_124 ⟨Nat.le_refl _, Nat.le_refl _⟩ (fun sT_124 H locs h hP hD hS => ?_)
    have hP : va_P D vwCl (jx_ws cI cT [(cp_C aC (aT 0) (aS 0), sC_88), (cp_S aS (aT 0), sS), (cp_T aT, sT_124)]) H := hP
    have hD : va_D A (jx_ws cI cT [(cp_C aC (aT 0) (aS 0), sC_88), (cp_S aS (aT 0), sS), (cp_T aT, sT_124)]) := hD
    refine lv_aload_n hx hb dX1_holdCourt_127 rfl (lv_at hl 0 rfl) ?_
    refine lv_iload hx hb dX1_holdCourt_128 (lv_at hl 5 rfl) ?_
    refine lv_iload_n hx hb dX1_holdCourt_130 rfl (lv_at hl 2 rfl) ?_
    refine jx_callVV C hK hP hD hS hA (ct_C_await l D cI cT aC aS aT _ sC_88 l5 l2 h) ms_X1_await lk_X1_117 [0] rfl rfl (fun _ => rfl) (cs' := (fun u => [(cp_C aC (aT 0) (aS 0), u), (cp_S aS (aT 0), sS), (cp_T aT, sT_124)])) (fun _ => rfl) (fun _ => rfl) 0 0 rfl rfl rfl rfl rfl hl.1 rfl rfl dX1_holdCourt_131 ⟨Nat.le_refl _, Nat.le_refl _⟩ (fun sC_131 H locs h hP hD hS => ?_)
    have hP : va_P D vwCl (jx_ws cI cT [(cp_C aC (aT 0) (aS 0), sC_131), (cp_S aS (aT 0), sS), (cp_T aT, sT_124)]) H := hP
    have hD : va_D A (jx_ws cI cT [(cp_C aC (aT 0) (aS 0), sC_131), (cp_S aS (aT 0), sS), (cp_T aT, sT_124)]) := hD
    refine lv_aload_n hx hb dX1_holdCourt_134 rfl (lv_at hl 0 rfl) ?_
    refine lv_iload hx hb dX1_holdCourt_135 (lv_at hl 6 rfl) ?_
    refine lv_iload_n hx hb dX1_holdCourt_137 rfl (lv_at hl 2 rfl) ?_
    refine jx_callVV C hK hP hD hS hA (ct_C_await l D cI cT aC aS aT _ sC_131 l6 l2 h) ms_X1_await lk_X1_117 [0] rfl rfl (fun _ => rfl) (cs' := (fun u => [(cp_C aC (aT 0) (aS 0), u), (cp_S aS (aT 0), sS), (cp_T aT, sT_124)])) (fun _ => rfl) (fun _ => rfl) 0 0 rfl rfl rfl rfl rfl hl.1 rfl rfl dX1_holdCourt_138 ⟨Nat.le_refl _, Nat.le_refl _⟩ (fun sC_138 H locs h hP hD hS => ?_)
    have hP : va_P D vwCl (jx_ws cI cT [(cp_C aC (aT 0) (aS 0), sC_138), (cp_S aS (aT 0), sS), (cp_T aT, sT_124)]) H := hP
    have hD : va_D A (jx_ws cI cT [(cp_C aC (aT 0) (aS 0), sC_138), (cp_S aS (aT 0), sS), (cp_T aT, sT_124)]) := hD
    refine lv_iload_n hx hb dX1_holdCourt_141 rfl (lv_at hl 1 rfl) ?_
    exact jx_rI C hr hlk hAe hS hQQ (sC_138, sS, sT_124) hP h dX1_holdCourt_142
  refine lv_aload_n hx hb dX1_holdCourt_0 rfl (lv_at hl 0 rfl) ?_
  refine jx_getR C hK hP 0 0 0 rfl rfl rfl fl_X1_33 dX1_holdCourt_1 ?_
  refine lv_iload_n hx hb dX1_holdCourt_4 rfl (lv_at hl 1 rfl) ?_
  refine jx_callVI C hK hP hD hS hA (ct_T_levelOf l D cI cT aT _ sT l1 h) ms_X6_levelOf lk_X1_98 [2] rfl rfl (fun _ => rfl) (cs' := (fun _ => [(cp_C aC (aT 0) (aS 0), sC), (cp_S aS (aT 0), sS), (cp_T aT, sT)])) (fun _ => rfl) (fun _ => rfl) 2 0 rfl rfl rfl rfl rfl hl.1 rfl rfl dX1_holdCourt_5 ⟨Nat.le_refl _, Nat.le_refl _⟩ (fun r5 _ H locs h hP hD hS => ?_)
  have hP : va_P D vwCl (jx_ws cI cT [(cp_C aC (aT 0) (aS 0), sC), (cp_S aS (aT 0), sS), (cp_T aT, sT)]) H := hP
  have hD : va_D A (jx_ws cI cT [(cp_C aC (aT 0) (aS 0), sC), (cp_S aS (aT 0), sS), (cp_T aT, sT)]) := hD
  refine lv_istore_n (lv' := [(2, .int (jx_i r5)), (0, .ref (aC 0)), (1, .int (jx_i l1))]) hx hb dX1_holdCourt_8 rfl hl (by decide) rfl (fun ls hl => ?_)
  refine lv_aload_n hx hb dX1_holdCourt_9 rfl (lv_at hl 1 rfl) ?_
  refine lv_iload_n hx hb dX1_holdCourt_10 rfl (lv_at hl 2 rfl) ?_
  refine jx_iconst C dX1_holdCourt_11 ?_
  refine jx_callVI C hK hP hD hS hA (ct_C_farthest l D cI cT aC aS aT _ sC sT l1 (-1) h) ms_X1_farthest lk_X1_140 [0, 2] rfl rfl (fun _ => rfl) (cs' := (fun _ => [(cp_C aC (aT 0) (aS 0), sC), (cp_S aS (aT 0), sS), (cp_T aT, sT)])) (fun _ => rfl) (fun _ => rfl) 0 0 rfl rfl rfl rfl rfl hl.1 rfl rfl dX1_holdCourt_12 ⟨Nat.le_refl _, Nat.le_refl _⟩ (fun r12 _ H locs h hP hD hS => ?_)
  have hP : va_P D vwCl (jx_ws cI cT [(cp_C aC (aT 0) (aS 0), sC), (cp_S aS (aT 0), sS), (cp_T aT, sT)]) H := hP
  have hD : va_D A (jx_ws cI cT [(cp_C aC (aT 0) (aS 0), sC), (cp_S aS (aT 0), sS), (cp_T aT, sT)]) := hD
  refine lv_istore_n (lv' := [(3, .int (jx_i r12)), (2, .int (jx_i r5)), (0, .ref (aC 0)), (1, .int (jx_i l1))]) hx hb dX1_holdCourt_15 rfl hl (by decide) rfl (fun ls hl => ?_)
  refine lv_aload_n hx hb dX1_holdCourt_16 rfl (lv_at hl 2 rfl) ?_
  refine lv_iload_n hx hb dX1_holdCourt_17 rfl (lv_at hl 3 rfl) ?_
  refine lv_iload_n hx hb dX1_holdCourt_18 rfl (lv_at hl 0 rfl) ?_
  refine jx_callVI C hK hP hD hS hA (ct_C_farthest l D cI cT aC aS aT _ sC sT l1 r12 h) ms_X1_farthest lk_X1_140 [0, 2] rfl rfl (fun _ => rfl) (cs' := (fun _ => [(cp_C aC (aT 0) (aS 0), sC), (cp_S aS (aT 0), sS), (cp_T aT, sT)])) (fun _ => rfl) (fun _ => rfl) 0 0 rfl rfl rfl rfl rfl hl.1 rfl rfl dX1_holdCourt_19 ⟨Nat.le_refl _, Nat.le_refl _⟩ (fun r19 _ H locs h hP hD hS => ?_)
  have hP : va_P D vwCl (jx_ws cI cT [(cp_C aC (aT 0) (aS 0), sC), (cp_S aS (aT 0), sS), (cp_T aT, sT)]) H := hP
  have hD : va_D A (jx_ws cI cT [(cp_C aC (aT 0) (aS 0), sC), (cp_S aS (aT 0), sS), (cp_T aT, sT)]) := hD
  refine lv_istore (lv' := [(4, .int (jx_i r19)), (3, .int (jx_i r12)), (2, .int (jx_i r5)), (0, .ref (aC 0)), (1, .int (jx_i l1))]) hx hb dX1_holdCourt_22 hl (by decide) rfl (fun ls hl => ?_)
  refine lv_aload_n hx hb dX1_holdCourt_24 rfl (lv_at hl 3 rfl) ?_
  refine jx_getR C hK hP 0 0 0 rfl rfl rfl fl_X1_33 dX1_holdCourt_25 ?_
  refine lv_iload_n hx hb dX1_holdCourt_28 rfl (lv_at hl 4 rfl) ?_
  refine lv_iload_n hx hb dX1_holdCourt_29 rfl (lv_at hl 1 rfl) ?_
  refine jx_callVI C hK hP hD hS hA (ct_T_thingAt l D cI cT aT _ sT l1 r12 h) ms_X6_thingAt lk_X1_101 [2] rfl rfl (fun _ => rfl) (cs' := (fun _ => [(cp_C aC (aT 0) (aS 0), sC), (cp_S aS (aT 0), sS), (cp_T aT, sT)])) (fun _ => rfl) (fun _ => rfl) 2 0 rfl rfl rfl rfl rfl hl.1 rfl rfl dX1_holdCourt_30 ⟨Nat.le_refl _, Nat.le_refl _⟩ (fun r30 _ H locs h hP hD hS => ?_)
  have hP : va_P D vwCl (jx_ws cI cT [(cp_C aC (aT 0) (aS 0), sC), (cp_S aS (aT 0), sS), (cp_T aT, sT)]) H := hP
  have hD : va_D A (jx_ws cI cT [(cp_C aC (aT 0) (aS 0), sC), (cp_S aS (aT 0), sS), (cp_T aT, sT)]) := hD
  refine lv_istore (lv' := [(5, .int (jx_i r30)), (4, .int (jx_i r19)), (3, .int (jx_i r12)), (2, .int (jx_i r5)), (0, .ref (aC 0)), (1, .int (jx_i l1))]) hx hb dX1_holdCourt_33 hl (by decide) rfl (fun ls hl => ?_)
  refine lv_aload_n hx hb dX1_holdCourt_35 rfl (lv_at hl 4 rfl) ?_
  refine jx_getR C hK hP 0 0 0 rfl rfl rfl fl_X1_33 dX1_holdCourt_36 ?_
  refine lv_iload_n hx hb dX1_holdCourt_39 rfl (lv_at hl 5 rfl) ?_
  refine lv_iload hx hb dX1_holdCourt_40 (lv_at hl 1 rfl) ?_
  refine jx_callVI C hK hP hD hS hA (ct_T_thingAt l D cI cT aT _ sT l1 r19 h) ms_X6_thingAt lk_X1_101 [2] rfl rfl (fun _ => rfl) (cs' := (fun _ => [(cp_C aC (aT 0) (aS 0), sC), (cp_S aS (aT 0), sS), (cp_T aT, sT)])) (fun _ => rfl) (fun _ => rfl) 2 0 rfl rfl rfl rfl rfl hl.1 rfl rfl dX1_holdCourt_42 ⟨Nat.le_refl _, Nat.le_refl _⟩ (fun r42 _ H locs h hP hD hS => ?_)
  have hP : va_P D vwCl (jx_ws cI cT [(cp_C aC (aT 0) (aS 0), sC), (cp_S aS (aT 0), sS), (cp_T aT, sT)]) H := hP
  have hD : va_D A (jx_ws cI cT [(cp_C aC (aT 0) (aS 0), sC), (cp_S aS (aT 0), sS), (cp_T aT, sT)]) := hD
  refine lv_istore (lv' := [(6, .int (jx_i r42)), (5, .int (jx_i r30)), (4, .int (jx_i r19)), (3, .int (jx_i r12)), (2, .int (jx_i r5)), (0, .ref (aC 0)), (1, .int (jx_i l1))]) hx hb dX1_holdCourt_45 hl (by decide) rfl (fun ls hl => ?_)
  refine lv_aload_n hx hb dX1_holdCourt_47 rfl (lv_at hl 5 rfl) ?_
  refine lv_dup hx hb dX1_holdCourt_48 rfl ?_
  refine jx_getI C hK hP 0 0 5 rfl rfl rfl fl_X1_111 dX1_holdCourt_49 ?_
  refine jx_iconst C dX1_holdCourt_52 ?_
  refine lv_iload_n hx hb dX1_holdCourt_53 rfl (lv_at hl 4 rfl) ?_
  refine jx_ishl C dX1_holdCourt_54 ?_
  refine jx_ior C dX1_holdCourt_55 ?_
  refine jx_putI C hK hP hD hS 0 0 5 rfl rfl rfl rfl rfl fl_X1_111 fw_X1_5 ⟨rfl, rfl⟩ rfl dX1_holdCourt_56 (fun H locs hP hD hS => ?_)
  have hP : va_P D vwCl (jx_ws cI cT [(cp_C aC (aT 0) (aS 0), (jx_su sC 5 0 (jx_or (sC 5 0) (jx_shl 1 r5)))), (cp_S aS (aT 0), sS), (cp_T aT, sT)]) H := hP
  have hD : va_D A (jx_ws cI cT [(cp_C aC (aT 0) (aS 0), (jx_su sC 5 0 (jx_or (sC 5 0) (jx_shl 1 r5)))), (cp_S aS (aT 0), sS), (cp_T aT, sT)]) := hD
  refine lv_aload_n hx hb dX1_holdCourt_59 rfl (lv_at hl 5 rfl) ?_
  refine lv_iload_n hx hb dX1_holdCourt_60 rfl (lv_at hl 4 rfl) ?_
  refine lv_iload_n hx hb dX1_holdCourt_61 rfl (lv_at hl 4 rfl) ?_
  refine jx_zne C h.1 (tgt := 69) dX1_holdCourt_62 (by decide) (fun hc => ?_) (fun hc => ?_)
  · have h := h.2.2 hc
    refine lv_aload_n hx hb dX1_holdCourt_69 rfl (lv_at hl 5 rfl) ?_
    refine jx_getR C hK hP 0 0 1 rfl rfl rfl fl_X1_37 dX1_holdCourt_70 ?_
    refine lv_iload hx hb dX1_holdCourt_73 (lv_at hl 1 rfl) ?_
    refine jx_callVI C hK hP hD hS hA (ct_S_boxesBelow l D cI cT aS aT _ sS sT r30 h) ms_X5_boxesBelow lk_X1_143 [1, 2] rfl rfl (fun _ => rfl) (cs' := (fun u => [(cp_C aC (aT 0) (aS 0), (jx_su sC 5 0 (jx_or (sC 5 0) (jx_shl 1 r5)))), (cp_S aS (aT 0), u), (cp_T aT, sT)])) (fun _ => rfl) (fun _ => rfl) 1 0 rfl rfl rfl rfl rfl hl.1 rfl rfl dX1_holdCourt_75 ⟨Nat.le_refl _, Nat.le_refl _⟩ (fun r75 sS_75 H locs h hP hD hS => ?_)
    have hP : va_P D vwCl (jx_ws cI cT [(cp_C aC (aT 0) (aS 0), (jx_su sC 5 0 (jx_or (sC 5 0) (jx_shl 1 r5)))), (cp_S aS (aT 0), sS_75), (cp_T aT, sT)]) H := hP
    have hD : va_D A (jx_ws cI cT [(cp_C aC (aT 0) (aS 0), (jx_su sC 5 0 (jx_or (sC 5 0) (jx_shl 1 r5)))), (cp_S aS (aT 0), sS_75), (cp_T aT, sT)]) := hD
    refine lv_aload_n hx hb dX1_holdCourt_78 rfl (lv_at hl 5 rfl) ?_
    refine jx_getR C hK hP 0 0 1 rfl rfl rfl fl_X1_37 dX1_holdCourt_79 ?_
    refine lv_iload hx hb dX1_holdCourt_82 (lv_at hl 0 rfl) ?_
    refine jx_callVI C hK hP hD hS hA (ct_S_boxesBelow l D cI cT aS aT _ sS_75 sT r42 h) ms_X5_boxesBelow lk_X1_143 [1, 2] rfl rfl (fun _ => rfl) (cs' := (fun u => [(cp_C aC (aT 0) (aS 0), (jx_su sC 5 0 (jx_or (sC 5 0) (jx_shl 1 r5)))), (cp_S aS (aT 0), u), (cp_T aT, sT)])) (fun _ => rfl) (fun _ => rfl) 1 0 rfl rfl rfl rfl rfl hl.1 rfl rfl dX1_holdCourt_84 ⟨Nat.le_refl _, Nat.le_refl _⟩ (fun r84 sS_84 H locs h hP hD hS => ?_)
    have hP : va_P D vwCl (jx_ws cI cT [(cp_C aC (aT 0) (aS 0), (jx_su sC 5 0 (jx_or (sC 5 0) (jx_shl 1 r5)))), (cp_S aS (aT 0), sS_84), (cp_T aT, sT)]) H := hP
    have hD : va_D A (jx_ws cI cT [(cp_C aC (aT 0) (aS 0), (jx_su sC 5 0 (jx_or (sC 5 0) (jx_shl 1 r5)))), (cp_S aS (aT 0), sS_84), (cp_T aT, sT)]) := hD
    refine jx_iadd C dX1_holdCourt_87 ?_
    exact J88 (jx_su sC 5 0 (jx_or (sC 5 0) (jx_shl 1 r5))) sS_84 sT r5 r12 r19 r30 r42 r5 (r75 + r84) h _ _ hP hD hS ls (lv_sub hl [5, 6, 4, 3, 2, 1, 0] rfl)
  · have h := h.2.1 hc
    refine jx_iconst C dX1_holdCourt_65 ?_
    refine lv_goto (tgt := 88) hx hb dX1_holdCourt_66 (by decide) ?_
    exact J88 (jx_su sC 5 0 (jx_or (sC 5 0) (jx_shl 1 r5))) sS sT r5 r12 r19 r30 r42 r5 2 h _ _ hP hD hS ls (lv_sub hl [5, 6, 4, 3, 2, 1, 0] rfl)
set_option maxRecDepth 100000 in
set_option maxHeartbeats 4000000 in
theorem ct_C_insert (l : Launch) (D : va_G) (cI cT : ClassId) (aC : Nat → Nat) (aS : Nat → Nat) (aT : Nat → Nat) (Q : jx_St → jx_St → jx_St → Prop) (sC : jx_St) (sS : jx_St) (sT : jx_St) (l1 : Int) (l2 : Int) (h : wp_C_insert Q sC sS sT l1 l2) : jx_KV (jx_St × jx_St × jx_St) l D cI cT yX1_insert cX1_insert 8 5 125 [.ref (aC 0), .int (jx_i l1), .int (jx_i l2)] [(cp_C aC (aT 0) (aS 0), sC), (cp_S aS (aT 0), sS), (cp_T aT, sT)] (fun u => [(cp_C aC (aT 0) (aS 0), u.1), (cp_S aS (aT 0), u.2.1), (cp_T aT, u.2.2)]) (fun u => Q u.1 u.2.1 u.2.2) := by
  refine jx_ent (own := RX1) (by decide) rfl (Nat.le_of_ble_eq_true rfl) ?_
  intro p e s m args below meth c A QQ C hr hlk hK hAe hA hP hD hS ls hl hQQ
  have hl : lv_has ls 8 [(0, .ref (aC 0)), (1, .int (jx_i l1)), (2, .int (jx_i l2))] := hl
  have hx := C.1
  have hb := C.2.1
  unfold wp_C_insert at h
  have Lo18 : ∀ (n : Nat) (sC : jx_St) (sS : jx_St) (sT : jx_St) (l3 : Int), jx_it (fun B18 v => wp_C_insert_18 Q l1 l2 B18 v.1 v.2.1 v.2.2.1 v.2.2.2) n (sC, sS, sT, l3) → ∀ (H : Heap) (locs : List Loc), va_P D vwCl (jx_ws cI cT [(cp_C aC (aT 0) (aS 0), sC), (cp_S aS (aT 0), sS), (cp_T aT, sT)]) H → va_D A (jx_ws cI cT [(cp_C aC (aT 0) (aS 0), sC), (cp_S aS (aT 0), sS), (cp_T aT, sT)]) → va_S A s.heap H locs → ∀ ls : Array Slot, lv_has ls 8 [(0, .ref (aC 0)), (3, .int (jx_i l3))] → W p l e (jx_rm 5 125) s m args below meth c H locs 0 0 QQ (F0 m 18 ls []) := by
    intro n
    induction n with
    | zero =>
      intro sC sS sT l3 h
      exact (show False from h).elim
    | succ n ih =>
      intro sC sS sT l3 h H locs hP hD hS ls hl
      have h : wp_C_insert_18 Q l1 l2 (jx_it (fun B18 v => wp_C_insert_18 Q l1 l2 B18 v.1 v.2.1 v.2.2.1 v.2.2.2) n) sC sS sT l3 := h
      have ih := fun sC sS sT l3 h => ih sC sS sT l3 h
      generalize jx_it (fun B18 v => wp_C_insert_18 Q l1 l2 B18 v.1 v.2.1 v.2.2.1 v.2.2.2) n = B18 at h ih
      unfold wp_C_insert_18 at h
      have Lo121 : ∀ (l3 : Int) (K173 : jx_St × jx_St × jx_St → Prop) (n : Nat) (sC : jx_St) (sS : jx_St) (sT : jx_St) (l6 : Int) (l7 : Int), jx_it (fun B121 v => wp_C_insert_121 Q l1 l2 K173 l3 B121 v.1 v.2.1 v.2.2.1 v.2.2.2.1 v.2.2.2.2) n (sC, sS, sT, l6, l7) → (∀ (sC : jx_St) (sS : jx_St) (sT : jx_St), K173 (sC, sS, sT) → ∀ (H : Heap) (locs : List Loc), va_P D vwCl (jx_ws cI cT [(cp_C aC (aT 0) (aS 0), sC), (cp_S aS (aT 0), sS), (cp_T aT, sT)]) H → va_D A (jx_ws cI cT [(cp_C aC (aT 0) (aS 0), sC), (cp_S aS (aT 0), sS), (cp_T aT, sT)]) → va_S A s.heap H locs → ∀ ls : Array Slot, lv_has ls 8 [(0, .ref (aC 0)), (3, .int (jx_i l3))] → W p l e (jx_rm 5 125) s m args below meth c H locs 0 0 QQ (F0 m 173 ls [])) → ∀ (H : Heap) (locs : List Loc), va_P D vwCl (jx_ws cI cT [(cp_C aC (aT 0) (aS 0), sC), (cp_S aS (aT 0), sS), (cp_T aT, sT)]) H → va_D A (jx_ws cI cT [(cp_C aC (aT 0) (aS 0), sC), (cp_S aS (aT 0), sS), (cp_T aT, sT)]) → va_S A s.heap H locs → ∀ ls : Array Slot, lv_has ls 8 [(0, .ref (aC 0)), (3, .int (jx_i l3)), (6, .int (jx_i l6)), (7, .int (jx_i l7))] → W p l e (jx_rm 5 125) s m args below meth c H locs 0 0 QQ (F0 m 121 ls []) := by
        intro l3 K173 n
        induction n with
        | zero =>
          intro sC sS sT l6 l7 h
          exact (show False from h).elim
        | succ n ih =>
          intro sC sS sT l6 l7 h K173E H locs hP hD hS ls hl
          have h : wp_C_insert_121 Q l1 l2 K173 l3 (jx_it (fun B121 v => wp_C_insert_121 Q l1 l2 K173 l3 B121 v.1 v.2.1 v.2.2.1 v.2.2.2.1 v.2.2.2.2) n) sC sS sT l6 l7 := h
          have ih := fun sC sS sT l6 l7 h => ih sC sS sT l6 l7 h K173E
          generalize jx_it (fun B121 v => wp_C_insert_121 Q l1 l2 K173 l3 B121 v.1 v.2.1 v.2.2.1 v.2.2.2.1 v.2.2.2.2) n = B121 at h ih
          unfold wp_C_insert_121 at h
          have J165 : ∀ (sC : jx_St) (sS : jx_St) (sT : jx_St) (l7 : Int) (t0 : Int), wp_C_insert_165 Q l1 l2 B121 K173 sC sS sT l3 l7 t0 → ∀ (H : Heap) (locs : List Loc), va_P D vwCl (jx_ws cI cT [(cp_C aC (aT 0) (aS 0), sC), (cp_S aS (aT 0), sS), (cp_T aT, sT)]) H → va_D A (jx_ws cI cT [(cp_C aC (aT 0) (aS 0), sC), (cp_S aS (aT 0), sS), (cp_T aT, sT)]) → va_S A s.heap H locs → ∀ ls : Array Slot, lv_has ls 8 [(0, .ref (aC 0)), (3, .int (jx_i l3)), (7, .int (jx_i l7))] → W p l e (jx_rm 5 125) s m args below meth c H locs 0 0 QQ (F0 m 165 ls [.int (jx_i t0)]) := by
            intro sC sS sT l7 t0 h H locs hP hD hS ls hl
            unfold wp_C_insert_165 at h
            refine lv_istore (lv' := [(6, .int (jx_i t0)), (0, .ref (aC 0)), (3, .int (jx_i l3)), (7, .int (jx_i l7))]) hx hb dX1_insert_165 hl (by decide) rfl (fun ls hl => ?_)
            refine jx_iinc C (lv' := [(7, .int (jx_i (l7 + 1))), (6, .int (jx_i t0)), (0, .ref (aC 0)), (3, .int (jx_i l3))]) dX1_insert_167 hl (k := 3) rfl (by decide) rfl (fun ls hl => ?_)
            refine lv_goto (tgt := 121) hx hb dX1_insert_170 (by decide) ?_
            exact ih sC sS sT t0 (l7 + 1) h _ _ hP hD hS ls (lv_sub hl [2, 3, 1, 0] rfl)
          refine lv_iload hx hb dX1_insert_121 (lv_at hl 3 rfl) ?_
          refine jx_bipush C dX1_insert_123 (by decide) ?_
          refine jx_cge C h.1 (jx_inR (by decide) (by decide)) (tgt := 173) dX1_insert_125 (by decide) (fun hc => ?_) (fun hc => ?_)
          · have h := h.2.2 hc
            exact K173E sC sS sT h _ _ hP hD hS ls (lv_sub hl [0, 1] rfl)
          · have h := h.2.1 hc
            refine lv_aload_n hx hb dX1_insert_128 rfl (lv_at hl 0 rfl) ?_
            refine jx_getR C hK hP 0 0 0 rfl rfl rfl fl_X1_33 dX1_insert_129 ?_
            refine lv_iload hx hb dX1_insert_132 (lv_at hl 2 rfl) ?_
            refine jx_callVI C hK hP hD hS hA (ct_T_sizeOf l D cI cT aT _ sT l6 h) ms_X6_sizeOf lk_X1_95 [2] rfl rfl (fun _ => rfl) (cs' := (fun _ => [(cp_C aC (aT 0) (aS 0), sC), (cp_S aS (aT 0), sS), (cp_T aT, sT)])) (fun _ => rfl) (fun _ => rfl) 2 0 rfl rfl rfl rfl rfl hl.1 rfl rfl dX1_insert_134 ⟨Nat.le_refl _, Nat.le_refl _⟩ (fun r134 _ H locs h hP hD hS => ?_)
            have hP : va_P D vwCl (jx_ws cI cT [(cp_C aC (aT 0) (aS 0), sC), (cp_S aS (aT 0), sS), (cp_T aT, sT)]) H := hP
            have hD : va_D A (jx_ws cI cT [(cp_C aC (aT 0) (aS 0), sC), (cp_S aS (aT 0), sS), (cp_T aT, sT)]) := hD
            refine jx_iconst C dX1_insert_137 ?_
            refine jx_cle C h.1 (jx_inR (by decide) (by decide)) (tgt := 173) dX1_insert_138 (by decide) (fun hc => ?_) (fun hc => ?_)
            · have h := h.2.1 hc
              exact K173E sC sS sT h _ _ hP hD hS ls (lv_sub hl [0, 1] rfl)
            · have h := h.2.2 hc
              refine lv_aload_n hx hb dX1_insert_141 rfl (lv_at hl 0 rfl) ?_
              refine lv_iload hx hb dX1_insert_142 (lv_at hl 2 rfl) ?_
              refine jx_callVI C hK hP hD hS hA (ct_C_courtIsDue l D cI cT aC aS aT _ sC sT l6 h) ms_X1_courtIsDue lk_X1_130 [0, 2] rfl rfl (fun _ => rfl) (cs' := (fun _ => [(cp_C aC (aT 0) (aS 0), sC), (cp_S aS (aT 0), sS), (cp_T aT, sT)])) (fun _ => rfl) (fun _ => rfl) 0 0 rfl rfl rfl rfl rfl hl.1 rfl rfl dX1_insert_144 ⟨Nat.le_refl _, Nat.le_refl _⟩ (fun r144 _ H locs h hP hD hS => ?_)
              have hP : va_P D vwCl (jx_ws cI cT [(cp_C aC (aT 0) (aS 0), sC), (cp_S aS (aT 0), sS), (cp_T aT, sT)]) H := hP
              have hD : va_D A (jx_ws cI cT [(cp_C aC (aT 0) (aS 0), sC), (cp_S aS (aT 0), sS), (cp_T aT, sT)]) := hD
              refine jx_zeq C h.1 (tgt := 159) dX1_insert_147 (by decide) (fun hc => ?_) (fun hc => ?_)
              · have h := h.2.1 hc
                refine lv_aload_n hx hb dX1_insert_159 rfl (lv_at hl 0 rfl) ?_
                refine lv_iload hx hb dX1_insert_160 (lv_at hl 2 rfl) ?_
                refine jx_callVI C hK hP hD hS hA (ct_C_split l D cI cT aC aS aT _ sC sT l6 h) ms_X1_split lk_X1_137 [0, 2] rfl rfl (fun _ => rfl) (cs' := (fun u => [(cp_C aC (aT 0) (aS 0), u.1), (cp_S aS (aT 0), sS), (cp_T aT, u.2)])) (fun _ => rfl) (fun _ => rfl) 0 0 rfl rfl rfl rfl rfl hl.1 rfl rfl dX1_insert_162 ⟨Nat.le_refl _, Nat.le_refl _⟩ (fun r162 u H locs h hP hD hS => ?_)
                obtain ⟨sC_162, sT_162⟩ := u
                dsimp only at h
                have hP : va_P D vwCl (jx_ws cI cT [(cp_C aC (aT 0) (aS 0), sC_162), (cp_S aS (aT 0), sS), (cp_T aT, sT_162)]) H := hP
                have hD : va_D A (jx_ws cI cT [(cp_C aC (aT 0) (aS 0), sC_162), (cp_S aS (aT 0), sS), (cp_T aT, sT_162)]) := hD
                exact J165 sC_162 sS sT_162 l7 r162 h _ _ hP hD hS ls (lv_sub hl [0, 1, 3] rfl)
              · have h := h.2.2 hc
                refine lv_aload_n hx hb dX1_insert_150 rfl (lv_at hl 0 rfl) ?_
                refine lv_iload hx hb dX1_insert_151 (lv_at hl 2 rfl) ?_
                refine jx_callVI C hK hP hD hS hA (ct_C_holdCourt l D cI cT aC aS aT _ sC sS sT l6 h) ms_X1_holdCourt lk_X1_134 [0, 1, 2] rfl rfl (fun _ => rfl) (cs' := (fun u => [(cp_C aC (aT 0) (aS 0), u.1), (cp_S aS (aT 0), u.2.1), (cp_T aT, u.2.2)])) (fun _ => rfl) (fun _ => rfl) 0 0 rfl rfl rfl rfl rfl hl.1 rfl rfl dX1_insert_153 ⟨Nat.le_refl _, Nat.le_refl _⟩ (fun r153 u H locs h hP hD hS => ?_)
                obtain ⟨sC_153, sS_153, sT_153⟩ := u
                dsimp only at h
                have hP : va_P D vwCl (jx_ws cI cT [(cp_C aC (aT 0) (aS 0), sC_153), (cp_S aS (aT 0), sS_153), (cp_T aT, sT_153)]) H := hP
                have hD : va_D A (jx_ws cI cT [(cp_C aC (aT 0) (aS 0), sC_153), (cp_S aS (aT 0), sS_153), (cp_T aT, sT_153)]) := hD
                refine lv_goto (tgt := 165) hx hb dX1_insert_156 (by decide) ?_
                exact J165 sC_153 sS_153 sT_153 l7 r153 h _ _ hP hD hS ls (lv_sub hl [0, 1, 3] rfl)
      have J173 : ∀ (sC : jx_St) (sS : jx_St) (sT : jx_St) (l3 : Int), wp_C_insert_173 Q l1 l2 B18 sC sS sT l3 → ∀ (H : Heap) (locs : List Loc), va_P D vwCl (jx_ws cI cT [(cp_C aC (aT 0) (aS 0), sC), (cp_S aS (aT 0), sS), (cp_T aT, sT)]) H → va_D A (jx_ws cI cT [(cp_C aC (aT 0) (aS 0), sC), (cp_S aS (aT 0), sS), (cp_T aT, sT)]) → va_S A s.heap H locs → ∀ ls : Array Slot, lv_has ls 8 [(0, .ref (aC 0)), (3, .int (jx_i l3))] → W p l e (jx_rm 5 125) s m args below meth c H locs 0 0 QQ (F0 m 173 ls []) := by
        intro sC sS sT l3 h H locs hP hD hS ls hl
        unfold wp_C_insert_173 at h
        refine jx_iinc C (lv' := [(3, .int (jx_i (l3 + 1))), (0, .ref (aC 0))]) dX1_insert_173 hl (k := 1) rfl (by decide) rfl (fun ls hl => ?_)
        refine lv_goto (tgt := 18) hx hb dX1_insert_176 (by decide) ?_
        exact ih sC sS sT (l3 + 1) h _ _ hP hD hS ls (lv_sub hl [1, 0] rfl)
      refine lv_iload_n hx hb dX1_insert_18 rfl (lv_at hl 1 rfl) ?_
      refine jx_bipush C dX1_insert_19 (by decide) ?_
      refine jx_cge C h.1 (jx_inR (by decide) (by decide)) (tgt := 179) dX1_insert_21 (by decide) (fun hc => ?_) (fun hc => ?_)
      · have h := h.2.2 hc
        exact jx_rV C hr hlk hAe hS hQQ (sC, sS, sT) hP h dX1_insert_179
      · have h := h.2.1 hc
        refine lv_aload_n hx hb dX1_insert_24 rfl (lv_at hl 0 rfl) ?_
        refine jx_getI C hK hP 0 0 4 rfl rfl rfl fl_X1_114 dX1_insert_25 ?_
        refine jx_zle C h.1 (tgt := 179) dX1_insert_28 (by decide) (fun hc => ?_) (fun hc => ?_)
        · have h := h.2.1 hc
          exact jx_rV C hr hlk hAe hS hQQ (sC, sS, sT) hP h dX1_insert_179
        · have h := h.2.2 hc
          refine lv_aload_n hx hb dX1_insert_31 rfl (lv_at hl 0 rfl) ?_
          refine lv_dup hx hb dX1_insert_32 rfl ?_
          refine jx_getI C hK hP 0 0 4 rfl rfl rfl fl_X1_114 dX1_insert_33 ?_
          refine jx_iconst C dX1_insert_36 ?_
          refine jx_isub C dX1_insert_37 ?_
          refine jx_putI C hK hP hD hS 0 0 4 rfl rfl rfl rfl rfl fl_X1_114 fw_X1_4 ⟨rfl, rfl⟩ rfl dX1_insert_38 (fun H locs hP hD hS => ?_)
          have hP : va_P D vwCl (jx_ws cI cT [(cp_C aC (aT 0) (aS 0), (jx_su sC 4 0 ((sC 4 0) - 1))), (cp_S aS (aT 0), sS), (cp_T aT, sT)]) H := hP
          have hD : va_D A (jx_ws cI cT [(cp_C aC (aT 0) (aS 0), (jx_su sC 4 0 ((sC 4 0) - 1))), (cp_S aS (aT 0), sS), (cp_T aT, sT)]) := hD
          refine lv_aload_n hx hb dX1_insert_41 rfl (lv_at hl 0 rfl) ?_
          refine jx_getR C hK hP 0 0 2 rfl rfl rfl fl_X1_9 dX1_insert_42 ?_
          refine lv_aload_n hx hb dX1_insert_45 rfl (lv_at hl 0 rfl) ?_
          refine jx_getI C hK hP 0 0 4 rfl rfl rfl fl_X1_114 dX1_insert_46 ?_
          refine jx_rowsAt C hK hP hD hS hA 0 1 rfl rfl rfl rfl h.1 lk_X1_41 hl.1 rfl rfl dX1_insert_49 ⟨Nat.le_refl _, Nat.le_refl _⟩ (fun H locs hP hS => ?_)
          have h := h.2
          refine lv_istore (lv' := [(4, .int (jx_i (jx_at 64 ((jx_su sC 4 0 ((sC 4 0) - 1)) 2) ((jx_su sC 4 0 ((sC 4 0) - 1)) 4 0)))), (0, .ref (aC 0)), (3, .int (jx_i l3))]) hx hb dX1_insert_52 hl (by decide) rfl (fun ls hl => ?_)
          refine lv_aload_n hx hb dX1_insert_54 rfl (lv_at hl 1 rfl) ?_
          refine jx_getR C hK hP 0 0 3 rfl rfl rfl fl_X1_15 dX1_insert_55 ?_
          refine lv_aload_n hx hb dX1_insert_58 rfl (lv_at hl 1 rfl) ?_
          refine jx_getI C hK hP 0 0 4 rfl rfl rfl fl_X1_114 dX1_insert_59 ?_
          refine jx_rowsAt C hK hP hD hS hA 0 2 rfl rfl rfl rfl h.1 lk_X1_41 hl.1 rfl rfl dX1_insert_62 ⟨Nat.le_refl _, Nat.le_refl _⟩ (fun H locs hP hS => ?_)
          have h := h.2
          refine lv_istore (lv' := [(5, .int (jx_i (jx_at 64 ((jx_su sC 4 0 ((sC 4 0) - 1)) 3) ((jx_su sC 4 0 ((sC 4 0) - 1)) 4 0)))), (4, .int (jx_i (jx_at 64 ((jx_su sC 4 0 ((sC 4 0) - 1)) 2) ((jx_su sC 4 0 ((sC 4 0) - 1)) 4 0)))), (0, .ref (aC 0)), (3, .int (jx_i l3))]) hx hb dX1_insert_65 hl (by decide) rfl (fun ls hl => ?_)
          refine lv_aload_n hx hb dX1_insert_67 rfl (lv_at hl 2 rfl) ?_
          refine jx_getR C hK hP 0 0 0 rfl rfl rfl fl_X1_33 dX1_insert_68 ?_
          refine lv_aload_n hx hb dX1_insert_71 rfl (lv_at hl 2 rfl) ?_
          refine jx_getR C hK hP 0 0 0 rfl rfl rfl fl_X1_33 dX1_insert_72 ?_
          refine lv_iload hx hb dX1_insert_75 (lv_at hl 1 rfl) ?_
          refine lv_iload hx hb dX1_insert_77 (lv_at hl 0 rfl) ?_
          refine jx_callVI C hK hP hD hS hA (ct_T_hull l D cI cT aT _ sT (jx_at 64 ((jx_su sC 4 0 ((sC 4 0) - 1)) 2) ((jx_su sC 4 0 ((sC 4 0) - 1)) 4 0)) (jx_at 64 ((jx_su sC 4 0 ((sC 4 0) - 1)) 3) ((jx_su sC 4 0 ((sC 4 0) - 1)) 4 0)) h) ms_X6_hull lk_X1_120 [2] rfl rfl (fun _ => rfl) (cs' := (fun _ => [(cp_C aC (aT 0) (aS 0), (jx_su sC 4 0 ((sC 4 0) - 1))), (cp_S aS (aT 0), sS), (cp_T aT, sT)])) (fun _ => rfl) (fun _ => rfl) 2 0 rfl rfl rfl rfl rfl hl.1 rfl rfl dX1_insert_79 ⟨Nat.le_refl _, Nat.le_refl _⟩ (fun r79 _ H locs h hP hD hS => ?_)
          have hP : va_P D vwCl (jx_ws cI cT [(cp_C aC (aT 0) (aS 0), (jx_su sC 4 0 ((sC 4 0) - 1))), (cp_S aS (aT 0), sS), (cp_T aT, sT)]) H := hP
          have hD : va_D A (jx_ws cI cT [(cp_C aC (aT 0) (aS 0), (jx_su sC 4 0 ((sC 4 0) - 1))), (cp_S aS (aT 0), sS), (cp_T aT, sT)]) := hD
          refine lv_iload hx hb dX1_insert_82 (lv_at hl 0 rfl) ?_
          refine jx_callVI C hK hP hD hS hA (ct_T_nodeFor l D cI cT aT _ sT r79 (jx_at 64 ((jx_su sC 4 0 ((sC 4 0) - 1)) 3) ((jx_su sC 4 0 ((sC 4 0) - 1)) 4 0)) h) ms_X6_nodeFor lk_X1_123 [2] rfl rfl (fun _ => rfl) (cs' := (fun _ => [(cp_C aC (aT 0) (aS 0), (jx_su sC 4 0 ((sC 4 0) - 1))), (cp_S aS (aT 0), sS), (cp_T aT, sT)])) (fun _ => rfl) (fun _ => rfl) 2 0 rfl rfl rfl rfl rfl hl.1 rfl rfl dX1_insert_84 ⟨Nat.le_refl _, Nat.le_refl _⟩ (fun r84 _ H locs h hP hD hS => ?_)
          have hP : va_P D vwCl (jx_ws cI cT [(cp_C aC (aT 0) (aS 0), (jx_su sC 4 0 ((sC 4 0) - 1))), (cp_S aS (aT 0), sS), (cp_T aT, sT)]) H := hP
          have hD : va_D A (jx_ws cI cT [(cp_C aC (aT 0) (aS 0), (jx_su sC 4 0 ((sC 4 0) - 1))), (cp_S aS (aT 0), sS), (cp_T aT, sT)]) := hD
          refine lv_istore (lv' := [(6, .int (jx_i r84)), (5, .int (jx_i (jx_at 64 ((jx_su sC 4 0 ((sC 4 0) - 1)) 3) ((jx_su sC 4 0 ((sC 4 0) - 1)) 4 0)))), (4, .int (jx_i (jx_at 64 ((jx_su sC 4 0 ((sC 4 0) - 1)) 2) ((jx_su sC 4 0 ((sC 4 0) - 1)) 4 0)))), (0, .ref (aC 0)), (3, .int (jx_i l3))]) hx hb dX1_insert_87 hl (by decide) rfl (fun ls hl => ?_)
          refine lv_aload_n hx hb dX1_insert_89 rfl (lv_at hl 3 rfl) ?_
          refine jx_getR C hK hP 0 0 0 rfl rfl rfl fl_X1_33 dX1_insert_90 ?_
          refine lv_iload hx hb dX1_insert_93 (lv_at hl 0 rfl) ?_
          refine lv_aload_n hx hb dX1_insert_95 rfl (lv_at hl 3 rfl) ?_
          refine jx_getR C hK hP 0 0 0 rfl rfl rfl fl_X1_33 dX1_insert_96 ?_
          refine lv_iload hx hb dX1_insert_99 (lv_at hl 0 rfl) ?_
          refine jx_callVI C hK hP hD hS hA (ct_T_sizeOf l D cI cT aT _ sT r84 h) ms_X6_sizeOf lk_X1_95 [2] rfl rfl (fun _ => rfl) (cs' := (fun _ => [(cp_C aC (aT 0) (aS 0), (jx_su sC 4 0 ((sC 4 0) - 1))), (cp_S aS (aT 0), sS), (cp_T aT, sT)])) (fun _ => rfl) (fun _ => rfl) 2 0 rfl rfl rfl rfl rfl hl.1 rfl rfl dX1_insert_101 ⟨Nat.le_refl _, Nat.le_refl _⟩ (fun r101 _ H locs h hP hD hS => ?_)
          have hP : va_P D vwCl (jx_ws cI cT [(cp_C aC (aT 0) (aS 0), (jx_su sC 4 0 ((sC 4 0) - 1))), (cp_S aS (aT 0), sS), (cp_T aT, sT)]) H := hP
          have hD : va_D A (jx_ws cI cT [(cp_C aC (aT 0) (aS 0), (jx_su sC 4 0 ((sC 4 0) - 1))), (cp_S aS (aT 0), sS), (cp_T aT, sT)]) := hD
          refine lv_iload hx hb dX1_insert_104 (lv_at hl 2 rfl) ?_
          refine jx_callVV C hK hP hD hS hA (ct_T_add l D cI cT aT _ sT r84 r101 (jx_at 64 ((jx_su sC 4 0 ((sC 4 0) - 1)) 2) ((jx_su sC 4 0 ((sC 4 0) - 1)) 4 0)) h) ms_X6_add lk_X1_126 [2] rfl rfl (fun _ => rfl) (cs' := (fun u => [(cp_C aC (aT 0) (aS 0), (jx_su sC 4 0 ((sC 4 0) - 1))), (cp_S aS (aT 0), sS), (cp_T aT, u)])) (fun _ => rfl) (fun _ => rfl) 2 0 rfl rfl rfl rfl rfl hl.1 rfl rfl dX1_insert_106 ⟨Nat.le_refl _, Nat.le_refl _⟩ (fun sT_106 H locs h hP hD hS => ?_)
          have hP : va_P D vwCl (jx_ws cI cT [(cp_C aC (aT 0) (aS 0), (jx_su sC 4 0 ((sC 4 0) - 1))), (cp_S aS (aT 0), sS), (cp_T aT, sT_106)]) H := hP
          have hD : va_D A (jx_ws cI cT [(cp_C aC (aT 0) (aS 0), (jx_su sC 4 0 ((sC 4 0) - 1))), (cp_S aS (aT 0), sS), (cp_T aT, sT_106)]) := hD
          refine lv_aload_n hx hb dX1_insert_109 rfl (lv_at hl 3 rfl) ?_
          refine jx_getR C hK hP 0 0 0 rfl rfl rfl fl_X1_33 dX1_insert_110 ?_
          refine lv_iload hx hb dX1_insert_113 (lv_at hl 0 rfl) ?_
          refine jx_callVV C hK hP hD hS hA (ct_T_refresh l D cI cT aT _ sT_106 r84 h) ms_X6_refresh lk_X1_71 [2] rfl rfl (fun _ => rfl) (cs' := (fun u => [(cp_C aC (aT 0) (aS 0), (jx_su sC 4 0 ((sC 4 0) - 1))), (cp_S aS (aT 0), sS), (cp_T aT, u)])) (fun _ => rfl) (fun _ => rfl) 2 0 rfl rfl rfl rfl rfl hl.1 rfl rfl dX1_insert_115 ⟨Nat.le_refl _, Nat.le_refl _⟩ (fun sT_115 H locs h hP hD hS => ?_)
          have hP : va_P D vwCl (jx_ws cI cT [(cp_C aC (aT 0) (aS 0), (jx_su sC 4 0 ((sC 4 0) - 1))), (cp_S aS (aT 0), sS), (cp_T aT, sT_115)]) H := hP
          have hD : va_D A (jx_ws cI cT [(cp_C aC (aT 0) (aS 0), (jx_su sC 4 0 ((sC 4 0) - 1))), (cp_S aS (aT 0), sS), (cp_T aT, sT_115)]) := hD
          refine jx_iconst C dX1_insert_118 ?_
          refine lv_istore (lv' := [(7, .int (jx_i 0)), (6, .int (jx_i r84)), (5, .int (jx_i (jx_at 64 ((jx_su sC 4 0 ((sC 4 0) - 1)) 3) ((jx_su sC 4 0 ((sC 4 0) - 1)) 4 0)))), (4, .int (jx_i (jx_at 64 ((jx_su sC 4 0 ((sC 4 0) - 1)) 2) ((jx_su sC 4 0 ((sC 4 0) - 1)) 4 0)))), (0, .ref (aC 0)), (3, .int (jx_i l3))]) hx hb dX1_insert_119 hl (by decide) rfl (fun ls hl => ?_)
          obtain ⟨n, h⟩ := h
          refine Lo121 l3 _ n (jx_su sC 4 0 ((sC 4 0) - 1)) sS sT_115 r84 0 h ?_ _ _ hP hD hS ls (lv_sub hl [4, 5, 1, 0] rfl)
          · intro sC sS sT h H locs hP hD hS ls hl
            exact J173 sC sS sT l3 h _ _ hP hD hS ls (lv_sub hl [0, 1] rfl)
  refine lv_aload_n hx hb dX1_insert_0 rfl (lv_at hl 0 rfl) ?_
  refine jx_iconst C dX1_insert_1 ?_
  refine jx_putI C hK hP hD hS 0 0 5 rfl rfl rfl rfl rfl fl_X1_111 fw_X1_5 ⟨rfl, rfl⟩ rfl dX1_insert_2 (fun H locs hP hD hS => ?_)
  have hP : va_P D vwCl (jx_ws cI cT [(cp_C aC (aT 0) (aS 0), (jx_su sC 5 0 0)), (cp_S aS (aT 0), sS), (cp_T aT, sT)]) H := hP
  have hD : va_D A (jx_ws cI cT [(cp_C aC (aT 0) (aS 0), (jx_su sC 5 0 0)), (cp_S aS (aT 0), sS), (cp_T aT, sT)]) := hD
  refine lv_aload_n hx hb dX1_insert_5 rfl (lv_at hl 0 rfl) ?_
  refine jx_iconst C dX1_insert_6 ?_
  refine jx_putI C hK hP hD hS 0 0 4 rfl rfl rfl rfl rfl fl_X1_114 fw_X1_4 ⟨rfl, rfl⟩ rfl dX1_insert_7 (fun H locs hP hD hS => ?_)
  have hP : va_P D vwCl (jx_ws cI cT [(cp_C aC (aT 0) (aS 0), (jx_su (jx_su sC 5 0 0) 4 0 0)), (cp_S aS (aT 0), sS), (cp_T aT, sT)]) H := hP
  have hD : va_D A (jx_ws cI cT [(cp_C aC (aT 0) (aS 0), (jx_su (jx_su sC 5 0 0) 4 0 0)), (cp_S aS (aT 0), sS), (cp_T aT, sT)]) := hD
  refine lv_aload_n hx hb dX1_insert_10 rfl (lv_at hl 0 rfl) ?_
  refine lv_iload_n hx hb dX1_insert_11 rfl (lv_at hl 1 rfl) ?_
  refine lv_iload_n hx hb dX1_insert_12 rfl (lv_at hl 2 rfl) ?_
  refine jx_callVV C hK hP hD hS hA (ct_C_await l D cI cT aC aS aT _ (jx_su (jx_su sC 5 0 0) 4 0 0) l1 l2 h) ms_X1_await lk_X1_117 [0] rfl rfl (fun _ => rfl) (cs' := (fun u => [(cp_C aC (aT 0) (aS 0), u), (cp_S aS (aT 0), sS), (cp_T aT, sT)])) (fun _ => rfl) (fun _ => rfl) 0 0 rfl rfl rfl rfl rfl hl.1 rfl rfl dX1_insert_13 ⟨Nat.le_refl _, Nat.le_refl _⟩ (fun sC_13 H locs h hP hD hS => ?_)
  have hP : va_P D vwCl (jx_ws cI cT [(cp_C aC (aT 0) (aS 0), sC_13), (cp_S aS (aT 0), sS), (cp_T aT, sT)]) H := hP
  have hD : va_D A (jx_ws cI cT [(cp_C aC (aT 0) (aS 0), sC_13), (cp_S aS (aT 0), sS), (cp_T aT, sT)]) := hD
  refine jx_iconst C dX1_insert_16 ?_
  refine lv_istore_n (lv' := [(3, .int (jx_i 0)), (0, .ref (aC 0)), (1, .int (jx_i l1)), (2, .int (jx_i l2))]) hx hb dX1_insert_17 rfl hl (by decide) rfl (fun ls hl => ?_)
  obtain ⟨n, h⟩ := h
  refine Lo18 n sC_13 sS sT 0 h _ _ hP hD hS ls (lv_sub hl [1, 0] rfl)
set_option maxRecDepth 100000 in
set_option maxHeartbeats 4000000 in
theorem ct_C_bringIn (l : Launch) (D : va_G) (cI cT : ClassId) (aC : Nat → Nat) (aS : Nat → Nat) (aT : Nat → Nat) (Q : jx_St → jx_St → jx_St → Prop) (sC : jx_St) (sS : jx_St) (sT : jx_St) (l1 : Int) (l2 : Int) (h : wp_C_bringIn Q sC sS sT l1 l2) : jx_KV (jx_St × jx_St × jx_St) l D cI cT yX1_bringIn cX1_bringIn 3 6 152 [.ref (aC 0), .int (jx_i l1), .int (jx_i l2)] [(cp_C aC (aT 0) (aS 0), sC), (cp_S aS (aT 0), sS), (cp_T aT, sT)] (fun u => [(cp_C aC (aT 0) (aS 0), u.1), (cp_S aS (aT 0), u.2.1), (cp_T aT, u.2.2)]) (fun u => Q u.1 u.2.1 u.2.2) := by
  refine jx_ent (own := RX1) (by decide) rfl (Nat.le_of_ble_eq_true rfl) ?_
  intro p e s m args below meth c A QQ C hr hlk hK hAe hA hP hD hS ls hl hQQ
  have hl : lv_has ls 3 [(0, .ref (aC 0)), (1, .int (jx_i l1)), (2, .int (jx_i l2))] := hl
  have hx := C.1
  have hb := C.2.1
  unfold wp_C_bringIn at h
  refine lv_aload_n hx hb dX1_bringIn_0 rfl (lv_at hl 0 rfl) ?_
  refine jx_iconst C dX1_bringIn_1 ?_
  refine jx_putI C hK hP hD hS 0 0 8 rfl rfl rfl rfl rfl fl_X1_47 fw_X1_8 ⟨rfl, rfl⟩ rfl dX1_bringIn_2 (fun H locs hP hD hS => ?_)
  have hP : va_P D vwCl (jx_ws cI cT [(cp_C aC (aT 0) (aS 0), (jx_su sC 8 0 0)), (cp_S aS (aT 0), sS), (cp_T aT, sT)]) H := hP
  have hD : va_D A (jx_ws cI cT [(cp_C aC (aT 0) (aS 0), (jx_su sC 8 0 0)), (cp_S aS (aT 0), sS), (cp_T aT, sT)]) := hD
  refine lv_aload_n hx hb dX1_bringIn_5 rfl (lv_at hl 0 rfl) ?_
  refine jx_getR C hK hP 0 0 0 rfl rfl rfl fl_X1_33 dX1_bringIn_6 ?_
  refine lv_iload_n hx hb dX1_bringIn_9 rfl (lv_at hl 1 rfl) ?_
  refine lv_iload_n hx hb dX1_bringIn_10 rfl (lv_at hl 2 rfl) ?_
  refine jx_callVV C hK hP hD hS hA (ct_T_setBox l D cI cT aT _ sT l1 l2 h) ms_X6_setBox lk_X1_51 [2] rfl rfl (fun _ => rfl) (cs' := (fun u => [(cp_C aC (aT 0) (aS 0), (jx_su sC 8 0 0)), (cp_S aS (aT 0), sS), (cp_T aT, u)])) (fun _ => rfl) (fun _ => rfl) 2 0 rfl rfl rfl rfl rfl hl.1 rfl rfl dX1_bringIn_11 ⟨Nat.le_refl _, Nat.le_refl _⟩ (fun sT_11 H locs h hP hD hS => ?_)
  have hP : va_P D vwCl (jx_ws cI cT [(cp_C aC (aT 0) (aS 0), (jx_su sC 8 0 0)), (cp_S aS (aT 0), sS), (cp_T aT, sT_11)]) H := hP
  have hD : va_D A (jx_ws cI cT [(cp_C aC (aT 0) (aS 0), (jx_su sC 8 0 0)), (cp_S aS (aT 0), sS), (cp_T aT, sT_11)]) := hD
  refine lv_aload_n hx hb dX1_bringIn_14 rfl (lv_at hl 0 rfl) ?_
  refine lv_iload_n hx hb dX1_bringIn_15 rfl (lv_at hl 1 rfl) ?_
  refine jx_iconst C dX1_bringIn_16 ?_
  refine jx_callVV C hK hP hD hS hA (ct_C_insert l D cI cT aC aS aT _ (jx_su sC 8 0 0) sS sT_11 l1 0 h) ms_X1_insert lk_X1_57 [0, 1, 2] rfl rfl (fun _ => rfl) (cs' := (fun u => [(cp_C aC (aT 0) (aS 0), u.1), (cp_S aS (aT 0), u.2.1), (cp_T aT, u.2.2)])) (fun _ => rfl) (fun _ => rfl) 0 0 rfl rfl rfl rfl rfl hl.1 rfl rfl dX1_bringIn_17 ⟨Nat.le_refl _, Nat.le_refl _⟩ (fun u H locs h hP hD hS => ?_)
  obtain ⟨sC_17, sS_17, sT_17⟩ := u
  dsimp only at h
  have hP : va_P D vwCl (jx_ws cI cT [(cp_C aC (aT 0) (aS 0), sC_17), (cp_S aS (aT 0), sS_17), (cp_T aT, sT_17)]) H := hP
  have hD : va_D A (jx_ws cI cT [(cp_C aC (aT 0) (aS 0), sC_17), (cp_S aS (aT 0), sS_17), (cp_T aT, sT_17)]) := hD
  exact jx_rV C hr hlk hAe hS hQQ (sC_17, sS_17, sT_17) hP h dX1_bringIn_20
set_option maxRecDepth 100000 in
set_option maxHeartbeats 4000000 in
theorem ct_C_courtBoxes (l : Launch) (D : va_G) (cI cT : ClassId) (aC : Nat → Nat) (aS : Nat → Nat) (aT : Nat → Nat) (Q : Int → Prop) (sC : jx_St) (l1 : Int) (h : wp_C_courtBoxes Q sC l1) : jx_KI (Unit) l D cI cT yX1_courtBoxes cX1_courtBoxes 2 .int 1 21 [.ref (aC 0), .int (jx_i l1)] [(cp_C aC (aT 0) (aS 0), sC)] (fun _ => [(cp_C aC (aT 0) (aS 0), sC)]) (fun x _ => Q x) := by
  refine jx_ent (own := RX1) (by decide) rfl (Nat.le_of_ble_eq_true rfl) ?_
  intro p e s m args below meth c A QQ C hr hlk hK hAe hA hP hD hS ls hl hQQ
  have hl : lv_has ls 2 [(0, .ref (aC 0)), (1, .int (jx_i l1))] := hl
  have hx := C.1
  have hb := C.2.1
  unfold wp_C_courtBoxes at h
  refine lv_aload_n hx hb dX1_courtBoxes_0 rfl (lv_at hl 0 rfl) ?_
  refine jx_getR C hK hP 0 0 7 rfl rfl rfl fl_X1_21 dX1_courtBoxes_1 ?_
  refine lv_iload_n hx hb dX1_courtBoxes_4 rfl (lv_at hl 1 rfl) ?_
  refine jx_rowsAt C hK hP hD hS hA 0 4 rfl rfl rfl rfl h.1 lk_X1_41 hl.1 rfl rfl dX1_courtBoxes_5 ⟨Nat.le_refl _, Nat.le_refl _⟩ (fun H locs hP hS => ?_)
  have h := h.2
  exact jx_rI C hr hlk hAe hS hQQ () hP h dX1_courtBoxes_8
set_option maxRecDepth 100000 in
set_option maxHeartbeats 4000000 in
theorem ct_C_courtLevel (l : Launch) (D : va_G) (cI cT : ClassId) (aC : Nat → Nat) (aS : Nat → Nat) (aT : Nat → Nat) (Q : Int → Prop) (sC : jx_St) (l1 : Int) (h : wp_C_courtLevel Q sC l1) : jx_KI (Unit) l D cI cT yX1_courtLevel cX1_courtLevel 2 .int 1 21 [.ref (aC 0), .int (jx_i l1)] [(cp_C aC (aT 0) (aS 0), sC)] (fun _ => [(cp_C aC (aT 0) (aS 0), sC)]) (fun x _ => Q x) := by
  refine jx_ent (own := RX1) (by decide) rfl (Nat.le_of_ble_eq_true rfl) ?_
  intro p e s m args below meth c A QQ C hr hlk hK hAe hA hP hD hS ls hl hQQ
  have hl : lv_has ls 2 [(0, .ref (aC 0)), (1, .int (jx_i l1))] := hl
  have hx := C.1
  have hb := C.2.1
  unfold wp_C_courtLevel at h
  refine lv_aload_n hx hb dX1_courtLevel_0 rfl (lv_at hl 0 rfl) ?_
  refine jx_getR C hK hP 0 0 6 rfl rfl rfl fl_X1_18 dX1_courtLevel_1 ?_
  refine lv_iload_n hx hb dX1_courtLevel_4 rfl (lv_at hl 1 rfl) ?_
  refine jx_rowsAt C hK hP hD hS hA 0 3 rfl rfl rfl rfl h.1 lk_X1_41 hl.1 rfl rfl dX1_courtLevel_5 ⟨Nat.le_refl _, Nat.le_refl _⟩ (fun H locs hP hS => ?_)
  have h := h.2
  exact jx_rI C hr hlk hAe hS hQQ () hP h dX1_courtLevel_8
set_option maxRecDepth 100000 in
set_option maxHeartbeats 4000000 in
theorem ct_C_dissolveFrom (l : Launch) (D : va_G) (cI cT : ClassId) (aC : Nat → Nat) (aS : Nat → Nat) (aT : Nat → Nat) (Q : jx_St → jx_St → Prop) (sC : jx_St) (sT : jx_St) (l1 : Int) (h : wp_C_dissolveFrom Q sC sT l1) : jx_KV (jx_St × jx_St) l D cI cT yX1_dissolveFrom cX1_dissolveFrom 5 5 111 [.ref (aC 0), .int (jx_i l1)] [(cp_C aC (aT 0) (aS 0), sC), (cp_T aT, sT)] (fun u => [(cp_C aC (aT 0) (aS 0), u.1), (cp_T aT, u.2)]) (fun u => Q u.1 u.2) := by
  refine jx_ent (own := RX1) (by decide) rfl (Nat.le_of_ble_eq_true rfl) ?_
  intro p e s m args below meth c A QQ C hr hlk hK hAe hA hP hD hS ls hl hQQ
  have hl : lv_has ls 5 [(0, .ref (aC 0)), (1, .int (jx_i l1))] := hl
  have hx := C.1
  have hb := C.2.1
  unfold wp_C_dissolveFrom at h
  have Lo12 : ∀ (n : Nat) (sC : jx_St) (sT : jx_St) (l2 : Int) (l3 : Int), jx_it (fun B12 v => wp_C_dissolveFrom_12 Q l1 B12 v.1 v.2.1 v.2.2.1 v.2.2.2) n (sC, sT, l2, l3) → ∀ (H : Heap) (locs : List Loc), va_P D vwCl (jx_ws cI cT [(cp_C aC (aT 0) (aS 0), sC), (cp_T aT, sT)]) H → va_D A (jx_ws cI cT [(cp_C aC (aT 0) (aS 0), sC), (cp_T aT, sT)]) → va_S A s.heap H locs → ∀ ls : Array Slot, lv_has ls 5 [(0, .ref (aC 0)), (2, .int (jx_i l2)), (3, .int (jx_i l3))] → W p l e (jx_rm 5 111) s m args below meth c H locs 0 0 QQ (F0 m 12 ls []) := by
    intro n
    induction n with
    | zero =>
      intro sC sT l2 l3 h
      exact (show False from h).elim
    | succ n ih =>
      intro sC sT l2 l3 h H locs hP hD hS ls hl
      have h : wp_C_dissolveFrom_12 Q l1 (jx_it (fun B12 v => wp_C_dissolveFrom_12 Q l1 B12 v.1 v.2.1 v.2.2.1 v.2.2.2) n) sC sT l2 l3 := h
      have ih := fun sC sT l2 l3 h => ih sC sT l2 l3 h
      generalize jx_it (fun B12 v => wp_C_dissolveFrom_12 Q l1 B12 v.1 v.2.1 v.2.2.1 v.2.2.2) n = B12 at h ih
      unfold wp_C_dissolveFrom_12 at h
      have J116 : ∀ (sC : jx_St) (sT : jx_St) (l3 : Int) (l4 : Int), wp_C_dissolveFrom_116 Q l1 B12 sC sT l3 l4 → ∀ (H : Heap) (locs : List Loc), va_P D vwCl (jx_ws cI cT [(cp_C aC (aT 0) (aS 0), sC), (cp_T aT, sT)]) H → va_D A (jx_ws cI cT [(cp_C aC (aT 0) (aS 0), sC), (cp_T aT, sT)]) → va_S A s.heap H locs → ∀ ls : Array Slot, lv_has ls 5 [(0, .ref (aC 0)), (3, .int (jx_i l3)), (4, .int (jx_i l4))] → W p l e (jx_rm 5 111) s m args below meth c H locs 0 0 QQ (F0 m 116 ls []) := by
        intro sC sT l3 l4 h H locs hP hD hS ls hl
        unfold wp_C_dissolveFrom_116 at h
        refine lv_iload hx hb dX1_dissolveFrom_116 (lv_at hl 2 rfl) ?_
        refine lv_istore_n (lv' := [(2, .int (jx_i l4)), (0, .ref (aC 0)), (3, .int (jx_i l3)), (4, .int (jx_i l4))]) hx hb dX1_dissolveFrom_118 rfl hl (by decide) rfl (fun ls hl => ?_)
        refine jx_iinc C (lv' := [(3, .int (jx_i (l3 + 1))), (2, .int (jx_i l4)), (0, .ref (aC 0)), (4, .int (jx_i l4))]) dX1_dissolveFrom_119 hl (k := 2) rfl (by decide) rfl (fun ls hl => ?_)
        refine lv_goto (tgt := 12) hx hb dX1_dissolveFrom_122 (by decide) ?_
        exact ih sC sT l4 (l3 + 1) h _ _ hP hD hS ls (lv_sub hl [2, 1, 0] rfl)
      refine lv_iload_n hx hb dX1_dissolveFrom_12 rfl (lv_at hl 2 rfl) ?_
      refine jx_bipush C dX1_dissolveFrom_13 (by decide) ?_
      refine jx_cge C h.1 (jx_inR (by decide) (by decide)) (tgt := 125) dX1_dissolveFrom_15 (by decide) (fun hc => ?_) (fun hc => ?_)
      · have h := h.2.2 hc
        exact jx_rV C hr hlk hAe hS hQQ (sC, sT) hP h dX1_dissolveFrom_125
      · have h := h.2.1 hc
        refine lv_iload_n hx hb dX1_dissolveFrom_18 rfl (lv_at hl 1 rfl) ?_
        refine jx_iconst C dX1_dissolveFrom_19 ?_
        refine jx_ceq C h.1 (jx_inR (by decide) (by decide)) (tgt := 125) dX1_dissolveFrom_20 (by decide) (fun hc => ?_) (fun hc => ?_)
        · have h := h.2.1 hc
          exact jx_rV C hr hlk hAe hS hQQ (sC, sT) hP h dX1_dissolveFrom_125
        · have h := h.2.2 hc
          refine lv_iload_n hx hb dX1_dissolveFrom_23 rfl (lv_at hl 1 rfl) ?_
          refine lv_aload_n hx hb dX1_dissolveFrom_24 rfl (lv_at hl 0 rfl) ?_
          refine jx_getR C hK hP 0 0 0 rfl rfl rfl fl_X1_33 dX1_dissolveFrom_25 ?_
          refine jx_getNI C hK hP 1 0 7 rfl rfl rfl fn_X1_89 dX1_dissolveFrom_28 ?_
          refine jx_ceq C h.1 h.2.1 (tgt := 125) dX1_dissolveFrom_31 (by decide) (fun hc => ?_) (fun hc => ?_)
          · have h := h.2.2.1 hc
            exact jx_rV C hr hlk hAe hS hQQ (sC, sT) hP h dX1_dissolveFrom_125
          · have h := h.2.2.2 hc
            refine lv_aload_n hx hb dX1_dissolveFrom_34 rfl (lv_at hl 0 rfl) ?_
            refine jx_getR C hK hP 0 0 0 rfl rfl rfl fl_X1_33 dX1_dissolveFrom_35 ?_
            refine lv_iload_n hx hb dX1_dissolveFrom_38 rfl (lv_at hl 1 rfl) ?_
            refine jx_callVI C hK hP hD hS hA (ct_T_aboveOf l D cI cT aT _ sT l2 h) ms_X6_aboveOf lk_X1_92 [1] rfl rfl (fun _ => rfl) (cs' := (fun _ => [(cp_C aC (aT 0) (aS 0), sC), (cp_T aT, sT)])) (fun _ => rfl) (fun _ => rfl) 1 0 rfl rfl rfl rfl rfl hl.1 rfl rfl dX1_dissolveFrom_39 ⟨Nat.le_refl _, Nat.le_refl _⟩ (fun r39 _ H locs h hP hD hS => ?_)
            have hP : va_P D vwCl (jx_ws cI cT [(cp_C aC (aT 0) (aS 0), sC), (cp_T aT, sT)]) H := hP
            have hD : va_D A (jx_ws cI cT [(cp_C aC (aT 0) (aS 0), sC), (cp_T aT, sT)]) := hD
            refine lv_istore (lv' := [(4, .int (jx_i r39)), (0, .ref (aC 0)), (2, .int (jx_i l2)), (3, .int (jx_i l3))]) hx hb dX1_dissolveFrom_42 hl (by decide) rfl (fun ls hl => ?_)
            refine lv_aload_n hx hb dX1_dissolveFrom_44 rfl (lv_at hl 1 rfl) ?_
            refine jx_getR C hK hP 0 0 0 rfl rfl rfl fl_X1_33 dX1_dissolveFrom_45 ?_
            refine lv_iload_n hx hb dX1_dissolveFrom_48 rfl (lv_at hl 2 rfl) ?_
            refine jx_callVI C hK hP hD hS hA (ct_T_sizeOf l D cI cT aT _ sT l2 h) ms_X6_sizeOf lk_X1_95 [1] rfl rfl (fun _ => rfl) (cs' := (fun _ => [(cp_C aC (aT 0) (aS 0), sC), (cp_T aT, sT)])) (fun _ => rfl) (fun _ => rfl) 1 0 rfl rfl rfl rfl rfl hl.1 rfl rfl dX1_dissolveFrom_49 ⟨Nat.le_refl _, Nat.le_refl _⟩ (fun r49 _ H locs h hP hD hS => ?_)
            have hP : va_P D vwCl (jx_ws cI cT [(cp_C aC (aT 0) (aS 0), sC), (cp_T aT, sT)]) H := hP
            have hD : va_D A (jx_ws cI cT [(cp_C aC (aT 0) (aS 0), sC), (cp_T aT, sT)]) := hD
            refine jx_iconst C dX1_dissolveFrom_52 ?_
            refine jx_cge C h.1 (jx_inR (by decide) (by decide)) (tgt := 116) dX1_dissolveFrom_53 (by decide) (fun hc => ?_) (fun hc => ?_)
            · have h := h.2.2 hc
              exact J116 sC sT l3 r39 h _ _ hP hD hS ls (lv_sub hl [1, 3, 0] rfl)
            · have h := h.2.1 hc
              refine lv_aload_n hx hb dX1_dissolveFrom_56 rfl (lv_at hl 1 rfl) ?_
              refine jx_getR C hK hP 0 0 9 rfl rfl rfl fl_X1_24 dX1_dissolveFrom_57 ?_
              refine lv_aload_n hx hb dX1_dissolveFrom_60 rfl (lv_at hl 1 rfl) ?_
              refine jx_getR C hK hP 0 0 0 rfl rfl rfl fl_X1_33 dX1_dissolveFrom_61 ?_
              refine lv_iload_n hx hb dX1_dissolveFrom_64 rfl (lv_at hl 2 rfl) ?_
              refine jx_callVI C hK hP hD hS hA (ct_T_levelOf l D cI cT aT _ sT l2 h) ms_X6_levelOf lk_X1_98 [1] rfl rfl (fun _ => rfl) (cs' := (fun _ => [(cp_C aC (aT 0) (aS 0), sC), (cp_T aT, sT)])) (fun _ => rfl) (fun _ => rfl) 1 0 rfl rfl rfl rfl rfl hl.1 rfl rfl dX1_dissolveFrom_65 ⟨Nat.le_refl _, Nat.le_refl _⟩ (fun r65 _ H locs h hP hD hS => ?_)
              have hP : va_P D vwCl (jx_ws cI cT [(cp_C aC (aT 0) (aS 0), sC), (cp_T aT, sT)]) H := hP
              have hD : va_D A (jx_ws cI cT [(cp_C aC (aT 0) (aS 0), sC), (cp_T aT, sT)]) := hD
              refine lv_aload_n hx hb dX1_dissolveFrom_68 rfl (lv_at hl 1 rfl) ?_
              refine jx_getR C hK hP 0 0 0 rfl rfl rfl fl_X1_33 dX1_dissolveFrom_69 ?_
              refine lv_iload_n hx hb dX1_dissolveFrom_72 rfl (lv_at hl 2 rfl) ?_
              refine jx_iconst C dX1_dissolveFrom_73 ?_
              refine jx_callVI C hK hP hD hS hA (ct_T_thingAt l D cI cT aT _ sT l2 0 h) ms_X6_thingAt lk_X1_101 [1] rfl rfl (fun _ => rfl) (cs' := (fun _ => [(cp_C aC (aT 0) (aS 0), sC), (cp_T aT, sT)])) (fun _ => rfl) (fun _ => rfl) 1 0 rfl rfl rfl rfl rfl hl.1 rfl rfl dX1_dissolveFrom_74 ⟨Nat.le_refl _, Nat.le_refl _⟩ (fun r74 _ H locs h hP hD hS => ?_)
              have hP : va_P D vwCl (jx_ws cI cT [(cp_C aC (aT 0) (aS 0), sC), (cp_T aT, sT)]) H := hP
              have hD : va_D A (jx_ws cI cT [(cp_C aC (aT 0) (aS 0), sC), (cp_T aT, sT)]) := hD
              refine jx_rowsSet C hK hP hD hS hA 0 5 rfl rfl rfl rfl h.1 lk_X1_104 rfl hl.1 rfl rfl dX1_dissolveFrom_77 ⟨Nat.le_refl _, Nat.le_refl _⟩ (fun H locs hP hD hS => ?_)
              have h := h.2
              have hP : va_P D vwCl (jx_ws cI cT [(cp_C aC (aT 0) (aS 0), (jx_se 8 sC 9 r65 r74)), (cp_T aT, sT)]) H := hP
              have hD : va_D A (jx_ws cI cT [(cp_C aC (aT 0) (aS 0), (jx_se 8 sC 9 r65 r74)), (cp_T aT, sT)]) := hD
              refine lv_aload_n hx hb dX1_dissolveFrom_80 rfl (lv_at hl 1 rfl) ?_
              refine jx_getR C hK hP 0 0 0 rfl rfl rfl fl_X1_33 dX1_dissolveFrom_81 ?_
              refine lv_iload hx hb dX1_dissolveFrom_84 (lv_at hl 0 rfl) ?_
              refine lv_aload_n hx hb dX1_dissolveFrom_86 rfl (lv_at hl 1 rfl) ?_
              refine jx_getR C hK hP 0 0 0 rfl rfl rfl fl_X1_33 dX1_dissolveFrom_87 ?_
              refine lv_iload hx hb dX1_dissolveFrom_90 (lv_at hl 0 rfl) ?_
              refine lv_iload_n hx hb dX1_dissolveFrom_92 rfl (lv_at hl 2 rfl) ?_
              refine jx_callVI C hK hP hD hS hA (ct_T_placeIn l D cI cT aT _ sT r39 l2 h) ms_X6_placeIn lk_X1_64 [1] rfl rfl (fun _ => rfl) (cs' := (fun _ => [(cp_C aC (aT 0) (aS 0), (jx_se 8 sC 9 r65 r74)), (cp_T aT, sT)])) (fun _ => rfl) (fun _ => rfl) 1 0 rfl rfl rfl rfl rfl hl.1 rfl rfl dX1_dissolveFrom_93 ⟨Nat.le_refl _, Nat.le_refl _⟩ (fun r93 _ H locs h hP hD hS => ?_)
              have hP : va_P D vwCl (jx_ws cI cT [(cp_C aC (aT 0) (aS 0), (jx_se 8 sC 9 r65 r74)), (cp_T aT, sT)]) H := hP
              have hD : va_D A (jx_ws cI cT [(cp_C aC (aT 0) (aS 0), (jx_se 8 sC 9 r65 r74)), (cp_T aT, sT)]) := hD
              refine jx_callVV C hK hP hD hS hA (ct_T_remove l D cI cT aT _ sT r39 r93 h) ms_X6_remove lk_X1_68 [1] rfl rfl (fun _ => rfl) (cs' := (fun u => [(cp_C aC (aT 0) (aS 0), (jx_se 8 sC 9 r65 r74)), (cp_T aT, u)])) (fun _ => rfl) (fun _ => rfl) 1 0 rfl rfl rfl rfl rfl hl.1 rfl rfl dX1_dissolveFrom_96 ⟨Nat.le_refl _, Nat.le_refl _⟩ (fun sT_96 H locs h hP hD hS => ?_)
              have hP : va_P D vwCl (jx_ws cI cT [(cp_C aC (aT 0) (aS 0), (jx_se 8 sC 9 r65 r74)), (cp_T aT, sT_96)]) H := hP
              have hD : va_D A (jx_ws cI cT [(cp_C aC (aT 0) (aS 0), (jx_se 8 sC 9 r65 r74)), (cp_T aT, sT_96)]) := hD
              refine lv_aload_n hx hb dX1_dissolveFrom_99 rfl (lv_at hl 1 rfl) ?_
              refine jx_getR C hK hP 0 0 0 rfl rfl rfl fl_X1_33 dX1_dissolveFrom_100 ?_
              refine lv_iload_n hx hb dX1_dissolveFrom_103 rfl (lv_at hl 2 rfl) ?_
              refine jx_callVV C hK hP hD hS hA (ct_T_drop l D cI cT aT _ sT_96 l2 h) ms_X6_drop lk_X1_108 [1] rfl rfl (fun _ => rfl) (cs' := (fun u => [(cp_C aC (aT 0) (aS 0), (jx_se 8 sC 9 r65 r74)), (cp_T aT, u)])) (fun _ => rfl) (fun _ => rfl) 1 0 rfl rfl rfl rfl rfl hl.1 rfl rfl dX1_dissolveFrom_104 ⟨Nat.le_refl _, Nat.le_refl _⟩ (fun sT_104 H locs h hP hD hS => ?_)
              have hP : va_P D vwCl (jx_ws cI cT [(cp_C aC (aT 0) (aS 0), (jx_se 8 sC 9 r65 r74)), (cp_T aT, sT_104)]) H := hP
              have hD : va_D A (jx_ws cI cT [(cp_C aC (aT 0) (aS 0), (jx_se 8 sC 9 r65 r74)), (cp_T aT, sT_104)]) := hD
              refine lv_aload_n hx hb dX1_dissolveFrom_107 rfl (lv_at hl 1 rfl) ?_
              refine jx_getR C hK hP 0 0 0 rfl rfl rfl fl_X1_33 dX1_dissolveFrom_108 ?_
              refine lv_iload hx hb dX1_dissolveFrom_111 (lv_at hl 0 rfl) ?_
              refine jx_callVV C hK hP hD hS hA (ct_T_refresh l D cI cT aT _ sT_104 r39 h) ms_X6_refresh lk_X1_71 [1] rfl rfl (fun _ => rfl) (cs' := (fun u => [(cp_C aC (aT 0) (aS 0), (jx_se 8 sC 9 r65 r74)), (cp_T aT, u)])) (fun _ => rfl) (fun _ => rfl) 1 0 rfl rfl rfl rfl rfl hl.1 rfl rfl dX1_dissolveFrom_113 ⟨Nat.le_refl _, Nat.le_refl _⟩ (fun sT_113 H locs h hP hD hS => ?_)
              have hP : va_P D vwCl (jx_ws cI cT [(cp_C aC (aT 0) (aS 0), (jx_se 8 sC 9 r65 r74)), (cp_T aT, sT_113)]) H := hP
              have hD : va_D A (jx_ws cI cT [(cp_C aC (aT 0) (aS 0), (jx_se 8 sC 9 r65 r74)), (cp_T aT, sT_113)]) := hD
              exact J116 (jx_se 8 sC 9 r65 r74) sT_113 l3 r39 h _ _ hP hD hS ls (lv_sub hl [1, 3, 0] rfl)
  refine lv_aload_n hx hb dX1_dissolveFrom_0 rfl (lv_at hl 0 rfl) ?_
  refine jx_getR C hK hP 0 0 9 rfl rfl rfl fl_X1_24 dX1_dissolveFrom_1 ?_
  refine jx_iconst C dX1_dissolveFrom_4 ?_
  refine jx_callFill C hK hP hD hS hA 0 5 rfl rfl rfl rfl lk_X1_83 rfl hl.1 rfl rfl dX1_dissolveFrom_5 ⟨Nat.le_refl _, Nat.le_refl _⟩ (fun H locs hP hD hS => ?_)
  have hP : va_P D vwCl (jx_ws cI cT [(cp_C aC (aT 0) (aS 0), (jx_fill sC 9 8 (-1))), (cp_T aT, sT)]) H := hP
  have hD : va_D A (jx_ws cI cT [(cp_C aC (aT 0) (aS 0), (jx_fill sC 9 8 (-1))), (cp_T aT, sT)]) := hD
  refine lv_iload_n hx hb dX1_dissolveFrom_8 rfl (lv_at hl 1 rfl) ?_
  refine lv_istore_n (lv' := [(2, .int (jx_i l1)), (0, .ref (aC 0)), (1, .int (jx_i l1))]) hx hb dX1_dissolveFrom_9 rfl hl (by decide) rfl (fun ls hl => ?_)
  refine jx_iconst C dX1_dissolveFrom_10 ?_
  refine lv_istore_n (lv' := [(3, .int (jx_i 0)), (2, .int (jx_i l1)), (0, .ref (aC 0)), (1, .int (jx_i l1))]) hx hb dX1_dissolveFrom_11 rfl hl (by decide) rfl (fun ls hl => ?_)
  obtain ⟨n, h⟩ := h
  refine Lo12 n (jx_fill sC 9 8 (-1)) sT l1 0 h _ _ hP hD hS ls (lv_sub hl [2, 1, 0] rfl)
set_option maxRecDepth 100000 in
set_option maxHeartbeats 4000000 in
theorem ct_C_takeOut (l : Launch) (D : va_G) (cI cT : ClassId) (aC : Nat → Nat) (aS : Nat → Nat) (aT : Nat → Nat) (Q : jx_St → jx_St → jx_St → Prop) (sC : jx_St) (sS : jx_St) (sT : jx_St) (l1 : Int) (h : wp_C_takeOut Q sC sS sT l1) : jx_KV (jx_St × jx_St × jx_St) l D cI cT yX1_takeOut cX1_takeOut 5 6 152 [.ref (aC 0), .int (jx_i l1)] [(cp_C aC (aT 0) (aS 0), sC), (cp_S aS (aT 0), sS), (cp_T aT, sT)] (fun u => [(cp_C aC (aT 0) (aS 0), u.1), (cp_S aS (aT 0), u.2.1), (cp_T aT, u.2.2)]) (fun u => Q u.1 u.2.1 u.2.2) := by
  refine jx_ent (own := RX1) (by decide) rfl (Nat.le_of_ble_eq_true rfl) ?_
  intro p e s m args below meth c A QQ C hr hlk hK hAe hA hP hD hS ls hl hQQ
  have hl : lv_has ls 5 [(0, .ref (aC 0)), (1, .int (jx_i l1))] := hl
  have hx := C.1
  have hb := C.2.1
  unfold wp_C_takeOut at h
  have Lo56 : ∀ (K102 : jx_St × jx_St × jx_St → Prop) (n : Nat) (sC : jx_St) (sS : jx_St) (sT : jx_St) (l3 : Int), jx_it (fun B56 v => wp_C_takeOut_56 Q l1 K102 B56 v.1 v.2.1 v.2.2.1 v.2.2.2) n (sC, sS, sT, l3) → (∀ (sC : jx_St) (sS : jx_St) (sT : jx_St), K102 (sC, sS, sT) → ∀ (H : Heap) (locs : List Loc), va_P D vwCl (jx_ws cI cT [(cp_C aC (aT 0) (aS 0), sC), (cp_S aS (aT 0), sS), (cp_T aT, sT)]) H → va_D A (jx_ws cI cT [(cp_C aC (aT 0) (aS 0), sC), (cp_S aS (aT 0), sS), (cp_T aT, sT)]) → va_S A s.heap H locs → ∀ ls : Array Slot, lv_has ls 5 [(0, .ref (aC 0))] → W p l e (jx_rm 6 152) s m args below meth c H locs 0 0 QQ (F0 m 102 ls [])) → ∀ (H : Heap) (locs : List Loc), va_P D vwCl (jx_ws cI cT [(cp_C aC (aT 0) (aS 0), sC), (cp_S aS (aT 0), sS), (cp_T aT, sT)]) H → va_D A (jx_ws cI cT [(cp_C aC (aT 0) (aS 0), sC), (cp_S aS (aT 0), sS), (cp_T aT, sT)]) → va_S A s.heap H locs → ∀ ls : Array Slot, lv_has ls 5 [(0, .ref (aC 0)), (3, .int (jx_i l3))] → W p l e (jx_rm 6 152) s m args below meth c H locs 0 0 QQ (F0 m 56 ls []) := by
    intro K102 n
    induction n with
    | zero =>
      intro sC sS sT l3 h
      exact (show False from h).elim
    | succ n ih =>
      intro sC sS sT l3 h K102E H locs hP hD hS ls hl
      have h : wp_C_takeOut_56 Q l1 K102 (jx_it (fun B56 v => wp_C_takeOut_56 Q l1 K102 B56 v.1 v.2.1 v.2.2.1 v.2.2.2) n) sC sS sT l3 := h
      have ih := fun sC sS sT l3 h => ih sC sS sT l3 h K102E
      generalize jx_it (fun B56 v => wp_C_takeOut_56 Q l1 K102 B56 v.1 v.2.1 v.2.2.1 v.2.2.2) n = B56 at h ih
      unfold wp_C_takeOut_56 at h
      have J96 : ∀ (sC : jx_St) (sS : jx_St) (sT : jx_St) (l3 : Int), wp_C_takeOut_96 Q l1 B56 K102 sC sS sT l3 → ∀ (H : Heap) (locs : List Loc), va_P D vwCl (jx_ws cI cT [(cp_C aC (aT 0) (aS 0), sC), (cp_S aS (aT 0), sS), (cp_T aT, sT)]) H → va_D A (jx_ws cI cT [(cp_C aC (aT 0) (aS 0), sC), (cp_S aS (aT 0), sS), (cp_T aT, sT)]) → va_S A s.heap H locs → ∀ ls : Array Slot, lv_has ls 5 [(0, .ref (aC 0)), (3, .int (jx_i l3))] → W p l e (jx_rm 6 152) s m args below meth c H locs 0 0 QQ (F0 m 96 ls []) := by
        intro sC sS sT l3 h H locs hP hD hS ls hl
        unfold wp_C_takeOut_96 at h
        refine jx_iinc C (lv' := [(3, .int (jx_i (l3 + (-1)))), (0, .ref (aC 0))]) dX1_takeOut_96 hl (k := 1) rfl (by decide) rfl (fun ls hl => ?_)
        refine lv_goto (tgt := 56) hx hb dX1_takeOut_99 (by decide) ?_
        exact ih sC sS sT (l3 + (-1)) h _ _ hP hD hS ls (lv_sub hl [1, 0] rfl)
      refine lv_iload_n hx hb dX1_takeOut_56 rfl (lv_at hl 1 rfl) ?_
      refine jx_zlt C h.1 (tgt := 102) dX1_takeOut_57 (by decide) (fun hc => ?_) (fun hc => ?_)
      · have h := h.2.1 hc
        exact K102E sC sS sT h _ _ hP hD hS ls (lv_sub hl [0] rfl)
      · have h := h.2.2 hc
        refine lv_aload_n hx hb dX1_takeOut_60 rfl (lv_at hl 0 rfl) ?_
        refine jx_getR C hK hP 0 0 9 rfl rfl rfl fl_X1_24 dX1_takeOut_61 ?_
        refine lv_iload_n hx hb dX1_takeOut_64 rfl (lv_at hl 1 rfl) ?_
        refine jx_rowsAt C hK hP hD hS hA 0 5 rfl rfl rfl rfl h.1 lk_X1_41 hl.1 rfl rfl dX1_takeOut_65 ⟨Nat.le_refl _, Nat.le_refl _⟩ (fun H locs hP hS => ?_)
        have h := h.2
        refine lv_istore (lv' := [(4, .int (jx_i (jx_at 8 (sC 9) l3))), (0, .ref (aC 0)), (3, .int (jx_i l3))]) hx hb dX1_takeOut_68 hl (by decide) rfl (fun ls hl => ?_)
        refine lv_iload hx hb dX1_takeOut_70 (lv_at hl 0 rfl) ?_
        refine jx_iconst C dX1_takeOut_72 ?_
        refine jx_ceq C h.1 (jx_inR (by decide) (by decide)) (tgt := 96) dX1_takeOut_73 (by decide) (fun hc => ?_) (fun hc => ?_)
        · have h := h.2.1 hc
          exact J96 sC sS sT l3 h _ _ hP hD hS ls (lv_sub hl [1, 2] rfl)
        · have h := h.2.2 hc
          refine lv_aload_n hx hb dX1_takeOut_76 rfl (lv_at hl 1 rfl) ?_
          refine jx_getR C hK hP 0 0 0 rfl rfl rfl fl_X1_33 dX1_takeOut_77 ?_
          refine lv_dup hx hb dX1_takeOut_80 rfl ?_
          refine jx_getNI C hK hP 2 0 10 rfl rfl rfl fn_X1_78 dX1_takeOut_81 ?_
          refine jx_iconst C dX1_takeOut_84 ?_
          refine jx_iadd C dX1_takeOut_85 ?_
          refine jx_putNI C hK hP hD hS 2 0 10 rfl rfl rfl rfl rfl fn_X1_78 fw_X6_10 ⟨rfl, rfl⟩ rfl dX1_takeOut_86 (fun H locs hP hD hS => ?_)
          have hP : va_P D vwCl (jx_ws cI cT [(cp_C aC (aT 0) (aS 0), sC), (cp_S aS (aT 0), sS), (cp_T aT, (jx_su sT 10 0 ((sT 10 0) + 1)))]) H := hP
          have hD : va_D A (jx_ws cI cT [(cp_C aC (aT 0) (aS 0), sC), (cp_S aS (aT 0), sS), (cp_T aT, (jx_su sT 10 0 ((sT 10 0) + 1)))]) := hD
          refine lv_aload_n hx hb dX1_takeOut_89 rfl (lv_at hl 1 rfl) ?_
          refine lv_iload hx hb dX1_takeOut_90 (lv_at hl 0 rfl) ?_
          refine lv_iload_n hx hb dX1_takeOut_92 rfl (lv_at hl 2 rfl) ?_
          refine jx_callVV C hK hP hD hS hA (ct_C_insert l D cI cT aC aS aT _ sC sS (jx_su sT 10 0 ((sT 10 0) + 1)) (jx_at 8 (sC 9) l3) l3 h) ms_X1_insert lk_X1_57 [0, 1, 2] rfl rfl (fun _ => rfl) (cs' := (fun u => [(cp_C aC (aT 0) (aS 0), u.1), (cp_S aS (aT 0), u.2.1), (cp_T aT, u.2.2)])) (fun _ => rfl) (fun _ => rfl) 0 0 rfl rfl rfl rfl rfl hl.1 rfl rfl dX1_takeOut_93 ⟨Nat.le_refl _, Nat.le_refl _⟩ (fun u H locs h hP hD hS => ?_)
          obtain ⟨sC_93, sS_93, sT_93⟩ := u
          dsimp only at h
          have hP : va_P D vwCl (jx_ws cI cT [(cp_C aC (aT 0) (aS 0), sC_93), (cp_S aS (aT 0), sS_93), (cp_T aT, sT_93)]) H := hP
          have hD : va_D A (jx_ws cI cT [(cp_C aC (aT 0) (aS 0), sC_93), (cp_S aS (aT 0), sS_93), (cp_T aT, sT_93)]) := hD
          exact J96 sC_93 sS_93 sT_93 l3 h _ _ hP hD hS ls (lv_sub hl [1, 2] rfl)
  have J102 : ∀ (sC : jx_St) (sS : jx_St) (sT : jx_St), wp_C_takeOut_102 Q l1 sC sS sT → ∀ (H : Heap) (locs : List Loc), va_P D vwCl (jx_ws cI cT [(cp_C aC (aT 0) (aS 0), sC), (cp_S aS (aT 0), sS), (cp_T aT, sT)]) H → va_D A (jx_ws cI cT [(cp_C aC (aT 0) (aS 0), sC), (cp_S aS (aT 0), sS), (cp_T aT, sT)]) → va_S A s.heap H locs → ∀ ls : Array Slot, lv_has ls 5 [(0, .ref (aC 0))] → W p l e (jx_rm 6 152) s m args below meth c H locs 0 0 QQ (F0 m 102 ls []) := by
    intro sC sS sT h H locs hP hD hS ls hl
    unfold wp_C_takeOut_102 at h
    refine lv_aload_n hx hb dX1_takeOut_102 rfl (lv_at hl 0 rfl) ?_
    refine jx_getR C hK hP 0 0 0 rfl rfl rfl fl_X1_33 dX1_takeOut_103 ?_
    refine jx_callVV C hK hP hD hS hA (ct_T_lowerRoot l D cI cT aT _ sT  h) ms_X6_lowerRoot lk_X1_80 [2] rfl rfl (fun _ => rfl) (cs' := (fun u => [(cp_C aC (aT 0) (aS 0), sC), (cp_S aS (aT 0), sS), (cp_T aT, u)])) (fun _ => rfl) (fun _ => rfl) 2 0 rfl rfl rfl rfl rfl hl.1 rfl rfl dX1_takeOut_106 ⟨Nat.le_refl _, Nat.le_refl _⟩ (fun sT_106 H locs h hP hD hS => ?_)
    have hP : va_P D vwCl (jx_ws cI cT [(cp_C aC (aT 0) (aS 0), sC), (cp_S aS (aT 0), sS), (cp_T aT, sT_106)]) H := hP
    have hD : va_D A (jx_ws cI cT [(cp_C aC (aT 0) (aS 0), sC), (cp_S aS (aT 0), sS), (cp_T aT, sT_106)]) := hD
    exact jx_rV C hr hlk hAe hS hQQ (sC, sS, sT_106) hP h dX1_takeOut_109
  refine lv_aload_n hx hb dX1_takeOut_0 rfl (lv_at hl 0 rfl) ?_
  refine jx_iconst C dX1_takeOut_1 ?_
  refine jx_putI C hK hP hD hS 0 0 8 rfl rfl rfl rfl rfl fl_X1_47 fw_X1_8 ⟨rfl, rfl⟩ rfl dX1_takeOut_2 (fun H locs hP hD hS => ?_)
  have hP : va_P D vwCl (jx_ws cI cT [(cp_C aC (aT 0) (aS 0), (jx_su sC 8 0 0)), (cp_S aS (aT 0), sS), (cp_T aT, sT)]) H := hP
  have hD : va_D A (jx_ws cI cT [(cp_C aC (aT 0) (aS 0), (jx_su sC 8 0 0)), (cp_S aS (aT 0), sS), (cp_T aT, sT)]) := hD
  refine lv_aload_n hx hb dX1_takeOut_5 rfl (lv_at hl 0 rfl) ?_
  refine jx_getR C hK hP 0 0 0 rfl rfl rfl fl_X1_33 dX1_takeOut_6 ?_
  refine lv_iload_n hx hb dX1_takeOut_9 rfl (lv_at hl 1 rfl) ?_
  refine jx_callVI C hK hP hD hS hA (ct_T_homeOf l D cI cT aT _ sT l1 h) ms_X6_homeOf lk_X1_60 [2] rfl rfl (fun _ => rfl) (cs' := (fun _ => [(cp_C aC (aT 0) (aS 0), (jx_su sC 8 0 0)), (cp_S aS (aT 0), sS), (cp_T aT, sT)])) (fun _ => rfl) (fun _ => rfl) 2 0 rfl rfl rfl rfl rfl hl.1 rfl rfl dX1_takeOut_10 ⟨Nat.le_refl _, Nat.le_refl _⟩ (fun r10 _ H locs h hP hD hS => ?_)
  have hP : va_P D vwCl (jx_ws cI cT [(cp_C aC (aT 0) (aS 0), (jx_su sC 8 0 0)), (cp_S aS (aT 0), sS), (cp_T aT, sT)]) H := hP
  have hD : va_D A (jx_ws cI cT [(cp_C aC (aT 0) (aS 0), (jx_su sC 8 0 0)), (cp_S aS (aT 0), sS), (cp_T aT, sT)]) := hD
  refine lv_istore_n (lv' := [(2, .int (jx_i r10)), (0, .ref (aC 0)), (1, .int (jx_i l1))]) hx hb dX1_takeOut_13 rfl hl (by decide) rfl (fun ls hl => ?_)
  refine lv_aload_n hx hb dX1_takeOut_14 rfl (lv_at hl 1 rfl) ?_
  refine jx_getR C hK hP 0 0 0 rfl rfl rfl fl_X1_33 dX1_takeOut_15 ?_
  refine lv_iload_n hx hb dX1_takeOut_18 rfl (lv_at hl 0 rfl) ?_
  refine lv_aload_n hx hb dX1_takeOut_19 rfl (lv_at hl 1 rfl) ?_
  refine jx_getR C hK hP 0 0 0 rfl rfl rfl fl_X1_33 dX1_takeOut_20 ?_
  refine lv_iload_n hx hb dX1_takeOut_23 rfl (lv_at hl 0 rfl) ?_
  refine lv_iload_n hx hb dX1_takeOut_24 rfl (lv_at hl 2 rfl) ?_
  refine jx_callVI C hK hP hD hS hA (ct_T_placeIn l D cI cT aT _ sT r10 l1 h) ms_X6_placeIn lk_X1_64 [2] rfl rfl (fun _ => rfl) (cs' := (fun _ => [(cp_C aC (aT 0) (aS 0), (jx_su sC 8 0 0)), (cp_S aS (aT 0), sS), (cp_T aT, sT)])) (fun _ => rfl) (fun _ => rfl) 2 0 rfl rfl rfl rfl rfl hl.1 rfl rfl dX1_takeOut_25 ⟨Nat.le_refl _, Nat.le_refl _⟩ (fun r25 _ H locs h hP hD hS => ?_)
  have hP : va_P D vwCl (jx_ws cI cT [(cp_C aC (aT 0) (aS 0), (jx_su sC 8 0 0)), (cp_S aS (aT 0), sS), (cp_T aT, sT)]) H := hP
  have hD : va_D A (jx_ws cI cT [(cp_C aC (aT 0) (aS 0), (jx_su sC 8 0 0)), (cp_S aS (aT 0), sS), (cp_T aT, sT)]) := hD
  refine jx_callVV C hK hP hD hS hA (ct_T_remove l D cI cT aT _ sT r10 r25 h) ms_X6_remove lk_X1_68 [2] rfl rfl (fun _ => rfl) (cs' := (fun u => [(cp_C aC (aT 0) (aS 0), (jx_su sC 8 0 0)), (cp_S aS (aT 0), sS), (cp_T aT, u)])) (fun _ => rfl) (fun _ => rfl) 2 0 rfl rfl rfl rfl rfl hl.1 rfl rfl dX1_takeOut_28 ⟨Nat.le_refl _, Nat.le_refl _⟩ (fun sT_28 H locs h hP hD hS => ?_)
  have hP : va_P D vwCl (jx_ws cI cT [(cp_C aC (aT 0) (aS 0), (jx_su sC 8 0 0)), (cp_S aS (aT 0), sS), (cp_T aT, sT_28)]) H := hP
  have hD : va_D A (jx_ws cI cT [(cp_C aC (aT 0) (aS 0), (jx_su sC 8 0 0)), (cp_S aS (aT 0), sS), (cp_T aT, sT_28)]) := hD
  refine lv_aload_n hx hb dX1_takeOut_31 rfl (lv_at hl 1 rfl) ?_
  refine jx_getR C hK hP 0 0 0 rfl rfl rfl fl_X1_33 dX1_takeOut_32 ?_
  refine lv_iload_n hx hb dX1_takeOut_35 rfl (lv_at hl 2 rfl) ?_
  refine jx_iconst C dX1_takeOut_36 ?_
  refine jx_callVV C hK hP hD hS hA (ct_T_setBox l D cI cT aT _ sT_28 l1 (-1) h) ms_X6_setBox lk_X1_51 [2] rfl rfl (fun _ => rfl) (cs' := (fun u => [(cp_C aC (aT 0) (aS 0), (jx_su sC 8 0 0)), (cp_S aS (aT 0), sS), (cp_T aT, u)])) (fun _ => rfl) (fun _ => rfl) 2 0 rfl rfl rfl rfl rfl hl.1 rfl rfl dX1_takeOut_37 ⟨Nat.le_refl _, Nat.le_refl _⟩ (fun sT_37 H locs h hP hD hS => ?_)
  have hP : va_P D vwCl (jx_ws cI cT [(cp_C aC (aT 0) (aS 0), (jx_su sC 8 0 0)), (cp_S aS (aT 0), sS), (cp_T aT, sT_37)]) H := hP
  have hD : va_D A (jx_ws cI cT [(cp_C aC (aT 0) (aS 0), (jx_su sC 8 0 0)), (cp_S aS (aT 0), sS), (cp_T aT, sT_37)]) := hD
  refine lv_aload_n hx hb dX1_takeOut_40 rfl (lv_at hl 1 rfl) ?_
  refine jx_getR C hK hP 0 0 0 rfl rfl rfl fl_X1_33 dX1_takeOut_41 ?_
  refine lv_iload_n hx hb dX1_takeOut_44 rfl (lv_at hl 0 rfl) ?_
  refine jx_callVV C hK hP hD hS hA (ct_T_refresh l D cI cT aT _ sT_37 r10 h) ms_X6_refresh lk_X1_71 [2] rfl rfl (fun _ => rfl) (cs' := (fun u => [(cp_C aC (aT 0) (aS 0), (jx_su sC 8 0 0)), (cp_S aS (aT 0), sS), (cp_T aT, u)])) (fun _ => rfl) (fun _ => rfl) 2 0 rfl rfl rfl rfl rfl hl.1 rfl rfl dX1_takeOut_45 ⟨Nat.le_refl _, Nat.le_refl _⟩ (fun sT_45 H locs h hP hD hS => ?_)
  have hP : va_P D vwCl (jx_ws cI cT [(cp_C aC (aT 0) (aS 0), (jx_su sC 8 0 0)), (cp_S aS (aT 0), sS), (cp_T aT, sT_45)]) H := hP
  have hD : va_D A (jx_ws cI cT [(cp_C aC (aT 0) (aS 0), (jx_su sC 8 0 0)), (cp_S aS (aT 0), sS), (cp_T aT, sT_45)]) := hD
  refine lv_aload_n hx hb dX1_takeOut_48 rfl (lv_at hl 1 rfl) ?_
  refine lv_iload_n hx hb dX1_takeOut_49 rfl (lv_at hl 0 rfl) ?_
  refine jx_callVV C hK hP hD hS hA (ct_C_dissolveFrom l D cI cT aC aS aT _ (jx_su sC 8 0 0) sT_45 r10 h) ms_X1_dissolveFrom lk_X1_75 [0, 2] rfl rfl (fun _ => rfl) (cs' := (fun u => [(cp_C aC (aT 0) (aS 0), u.1), (cp_S aS (aT 0), sS), (cp_T aT, u.2)])) (fun _ => rfl) (fun _ => rfl) 0 0 rfl rfl rfl rfl rfl hl.1 rfl rfl dX1_takeOut_50 ⟨Nat.le_refl _, Nat.le_refl _⟩ (fun u H locs h hP hD hS => ?_)
  obtain ⟨sC_50, sT_50⟩ := u
  dsimp only at h
  have hP : va_P D vwCl (jx_ws cI cT [(cp_C aC (aT 0) (aS 0), sC_50), (cp_S aS (aT 0), sS), (cp_T aT, sT_50)]) H := hP
  have hD : va_D A (jx_ws cI cT [(cp_C aC (aT 0) (aS 0), sC_50), (cp_S aS (aT 0), sS), (cp_T aT, sT_50)]) := hD
  refine jx_bipush C dX1_takeOut_53 (by decide) ?_
  refine lv_istore_n (lv' := [(3, .int (jx_i 7)), (2, .int (jx_i r10)), (0, .ref (aC 0)), (1, .int (jx_i l1))]) hx hb dX1_takeOut_55 rfl hl (by decide) rfl (fun ls hl => ?_)
  obtain ⟨n, h⟩ := h
  refine Lo56 _ n sC_50 sS sT_50 7 h ?_ _ _ hP hD hS ls (lv_sub hl [2, 0] rfl)
  · intro sC sS sT h H locs hP hD hS ls hl
    exact J102 sC sS sT h _ _ hP hD hS ls (lv_sub hl [0] rfl)
