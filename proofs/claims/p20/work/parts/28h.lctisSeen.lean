set_option maxRecDepth 100000 in
set_option maxHeartbeats 4000000 in
theorem ct_L_isSeen (l : Launch) (D : va_G) (cI cT : ClassId) (aB : Nat → Nat) (aC : Nat → Nat) (aS : Nat → Nat) (aT : Nat → Nat) (aW : Nat → Nat) (aV : Nat → Nat) (aU : Nat → Nat) (aH : Nat → Nat) (hT : Nat → Nat → Nat) (aO : Nat → Nat) (Q : Int → jx_St → jx_St → Prop) (sB : jx_St) (sC : jx_St) (sS : jx_St) (sT : jx_St) (sH : jx_St) (sO : jx_St) (l1 : Int) (l2 : Int) (l3 : Int) (l4 : Int) (h : wp_L_isSeen Q sB sC sS sT sH sO l1 l2 l3 l4) : jx_KI (jx_St × jx_St) l D cI cT yL_isSeen cL_isSeen 17 .boolean 5 119 [.ref (aB 0), .int (jx_i l1), .int (jx_i l2), .int (jx_i l3), .int (jx_i l4)] [(cp_B aB (aT 0) (aS 0) (aC 0) (aU 0) (aV 0) (aW 0) (aH 0) (aO 0), sB), (cp_C aC (aT 0) (aS 0), sC), (cp_S aS (aT 0), sS), (cp_T aT, sT), (cp_H aH (fun j => hT j 0), sH), (cp_O aO, sO)] (fun u => [(cp_B aB (aT 0) (aS 0) (aC 0) (aU 0) (aV 0) (aW 0) (aH 0) (aO 0), u.1), (cp_C aC (aT 0) (aS 0), sC), (cp_S aS (aT 0), u.2), (cp_T aT, sT), (cp_H aH (fun j => hT j 0), sH), (cp_O aO, sO)]) (fun x u => Q x u.1 u.2) := by
  refine jx_ent (own := RL) (by decide) rfl (Nat.le_of_ble_eq_true rfl) ?_
  intro p e s m args below meth c A QQ C hr hlk hK hAe hA hP hD hS ls hl hQQ
  have hl : lv_has ls 17 [(0, .ref (aB 0)), (1, .int (jx_i l1)), (2, .int (jx_i l2)), (3, .int (jx_i l3)), (4, .int (jx_i l4))] := hl
  have hx := C.1
  have hb := C.2.1
  unfold wp_L_isSeen at h
  have Lo43 : ∀ (sB : jx_St) (l5 : Int) (l6 : Int) (l7 : Int) (l8 : Int) (K166 : jx_St × Int → Prop) (n : Nat) (sS : jx_St) (l9 : Int) (l10 : Int), jx_it (fun B43 v => wp_L_isSeen_43 Q sC sT sH sO l1 l2 l3 l4 K166 sB l5 l6 l7 l8 B43 v.1 v.2.1 v.2.2) n (sS, l9, l10) → (∀ (sS : jx_St) (l9 : Int), K166 (sS, l9) → ∀ (H : Heap) (locs : List Loc), va_P D vwCl (jx_ws cI cT [(cp_B aB (aT 0) (aS 0) (aC 0) (aU 0) (aV 0) (aW 0) (aH 0) (aO 0), sB), (cp_C aC (aT 0) (aS 0), sC), (cp_S aS (aT 0), sS), (cp_T aT, sT), (cp_H aH (fun j => hT j 0), sH), (cp_O aO, sO)]) H → va_D A (jx_ws cI cT [(cp_B aB (aT 0) (aS 0) (aC 0) (aU 0) (aV 0) (aW 0) (aH 0) (aO 0), sB), (cp_C aC (aT 0) (aS 0), sC), (cp_S aS (aT 0), sS), (cp_T aT, sT), (cp_H aH (fun j => hT j 0), sH), (cp_O aO, sO)]) → va_S A s.heap H locs → ∀ ls : Array Slot, lv_has ls 17 [(0, .ref (aB 0)), (1, .int (jx_i l1)), (2, .int (jx_i l2)), (5, .int (jx_i l5)), (6, .int (jx_i l6)), (8, .int (jx_i l8)), (9, .int (jx_i l9))] → W p l e (jx_rm 5 119) s m args below meth c H locs 0 0 QQ (F0 m 166 ls [])) → ∀ (H : Heap) (locs : List Loc), va_P D vwCl (jx_ws cI cT [(cp_B aB (aT 0) (aS 0) (aC 0) (aU 0) (aV 0) (aW 0) (aH 0) (aO 0), sB), (cp_C aC (aT 0) (aS 0), sC), (cp_S aS (aT 0), sS), (cp_T aT, sT), (cp_H aH (fun j => hT j 0), sH), (cp_O aO, sO)]) H → va_D A (jx_ws cI cT [(cp_B aB (aT 0) (aS 0) (aC 0) (aU 0) (aV 0) (aW 0) (aH 0) (aO 0), sB), (cp_C aC (aT 0) (aS 0), sC), (cp_S aS (aT 0), sS), (cp_T aT, sT), (cp_H aH (fun j => hT j 0), sH), (cp_O aO, sO)]) → va_S A s.heap H locs → ∀ ls : Array Slot, lv_has ls 17 [(0, .ref (aB 0)), (1, .int (jx_i l1)), (2, .int (jx_i l2)), (5, .int (jx_i l5)), (6, .int (jx_i l6)), (7, .int (jx_i l7)), (8, .int (jx_i l8)), (9, .int (jx_i l9)), (10, .int (jx_i l10))] → W p l e (jx_rm 5 119) s m args below meth c H locs 0 0 QQ (F0 m 43 ls []) := by
    intro sB l5 l6 l7 l8 K166 n
    induction n with
    | zero =>
      intro sS l9 l10 h
      exact (show False from h).elim
    | succ n ih =>
      intro sS l9 l10 h K166E H locs hP hD hS ls hl
      have h : wp_L_isSeen_43 Q sC sT sH sO l1 l2 l3 l4 K166 sB l5 l6 l7 l8 (jx_it (fun B43 v => wp_L_isSeen_43 Q sC sT sH sO l1 l2 l3 l4 K166 sB l5 l6 l7 l8 B43 v.1 v.2.1 v.2.2) n) sS l9 l10 := h
      have ih := fun sS l9 l10 h => ih sS l9 l10 h K166E
      generalize jx_it (fun B43 v => wp_L_isSeen_43 Q sC sT sH sO l1 l2 l3 l4 K166 sB l5 l6 l7 l8 B43 v.1 v.2.1 v.2.2) n = B43 at h ih
      unfold wp_L_isSeen_43 at h
      have J158 : ∀ (sS : jx_St) (l10 : Int) (t0 : Int), wp_L_isSeen_158 Q sC sT sH sO l1 l2 l3 l4 B43 K166 sB sS l5 l6 l7 l8 l10 t0 → ∀ (H : Heap) (locs : List Loc), va_P D vwCl (jx_ws cI cT [(cp_B aB (aT 0) (aS 0) (aC 0) (aU 0) (aV 0) (aW 0) (aH 0) (aO 0), sB), (cp_C aC (aT 0) (aS 0), sC), (cp_S aS (aT 0), sS), (cp_T aT, sT), (cp_H aH (fun j => hT j 0), sH), (cp_O aO, sO)]) H → va_D A (jx_ws cI cT [(cp_B aB (aT 0) (aS 0) (aC 0) (aU 0) (aV 0) (aW 0) (aH 0) (aO 0), sB), (cp_C aC (aT 0) (aS 0), sC), (cp_S aS (aT 0), sS), (cp_T aT, sT), (cp_H aH (fun j => hT j 0), sH), (cp_O aO, sO)]) → va_S A s.heap H locs → ∀ ls : Array Slot, lv_has ls 17 [(0, .ref (aB 0)), (1, .int (jx_i l1)), (2, .int (jx_i l2)), (5, .int (jx_i l5)), (6, .int (jx_i l6)), (7, .int (jx_i l7)), (8, .int (jx_i l8)), (10, .int (jx_i l10))] → W p l e (jx_rm 5 119) s m args below meth c H locs 0 0 QQ (F0 m 158 ls [.int (jx_i t0)]) := by
        intro sS l10 t0 h H locs hP hD hS ls hl
        unfold wp_L_isSeen_158 at h
        refine lv_istore (lv' := [(9, .int (jx_i t0)), (0, .ref (aB 0)), (1, .int (jx_i l1)), (2, .int (jx_i l2)), (5, .int (jx_i l5)), (6, .int (jx_i l6)), (7, .int (jx_i l7)), (8, .int (jx_i l8)), (10, .int (jx_i l10))]) hx hb dL_isSeen_158 hl (by decide) rfl (fun ls hl => ?_)
        refine jx_iinc C (lv' := [(10, .int (jx_i (l10 + 1))), (9, .int (jx_i t0)), (0, .ref (aB 0)), (1, .int (jx_i l1)), (2, .int (jx_i l2)), (5, .int (jx_i l5)), (6, .int (jx_i l6)), (7, .int (jx_i l7)), (8, .int (jx_i l8))]) dL_isSeen_160 hl (k := 8) rfl (by decide) rfl (fun ls hl => ?_)
        refine lv_goto (tgt := 43) hx hb dL_isSeen_163 (by decide) ?_
        exact ih sS t0 (l10 + 1) h _ _ hP hD hS ls (lv_sub hl [2, 3, 4, 5, 6, 7, 8, 1, 0] rfl)
      have J150 : ∀ (sS : jx_St) (l10 : Int) (t0 : Int) (t1 : Int), wp_L_isSeen_150 Q sC sT sH sO l1 l2 l3 l4 B43 K166 sB sS l5 l6 l7 l8 l10 t0 t1 → ∀ (H : Heap) (locs : List Loc), va_P D vwCl (jx_ws cI cT [(cp_B aB (aT 0) (aS 0) (aC 0) (aU 0) (aV 0) (aW 0) (aH 0) (aO 0), sB), (cp_C aC (aT 0) (aS 0), sC), (cp_S aS (aT 0), sS), (cp_T aT, sT), (cp_H aH (fun j => hT j 0), sH), (cp_O aO, sO)]) H → va_D A (jx_ws cI cT [(cp_B aB (aT 0) (aS 0) (aC 0) (aU 0) (aV 0) (aW 0) (aH 0) (aO 0), sB), (cp_C aC (aT 0) (aS 0), sC), (cp_S aS (aT 0), sS), (cp_T aT, sT), (cp_H aH (fun j => hT j 0), sH), (cp_O aO, sO)]) → va_S A s.heap H locs → ∀ ls : Array Slot, lv_has ls 17 [(0, .ref (aB 0)), (1, .int (jx_i l1)), (2, .int (jx_i l2)), (5, .int (jx_i l5)), (6, .int (jx_i l6)), (7, .int (jx_i l7)), (8, .int (jx_i l8)), (10, .int (jx_i l10))] → W p l e (jx_rm 5 119) s m args below meth c H locs 0 0 QQ (F0 m 150 ls [.int (jx_i t1), .int (jx_i t0)]) := by
        intro sS l10 t0 t1 h H locs hP hD hS ls hl
        unfold wp_L_isSeen_150 at h
        refine jx_ene C h.1 (tgt := 157) dL_isSeen_150 (by decide) (fun hc => ?_) (fun hc => ?_)
        · have h := h.2.2 hc
          refine jx_iconst C dL_isSeen_157 ?_
          exact J158 sS l10 0 h _ _ hP hD hS ls (lv_sub hl [0, 1, 2, 3, 4, 5, 6, 7] rfl)
        · have h := h.2.1 hc
          refine jx_iconst C dL_isSeen_153 ?_
          refine lv_goto (tgt := 158) hx hb dL_isSeen_154 (by decide) ?_
          exact J158 sS l10 1 h _ _ hP hD hS ls (lv_sub hl [0, 1, 2, 3, 4, 5, 6, 7] rfl)
      have J130 : ∀ (sS : jx_St) (l10 : Int) (t0 : Int), wp_L_isSeen_130 Q sC sT sH sO l1 l2 l3 l4 B43 K166 sB sS l5 l6 l7 l8 l10 t0 → ∀ (H : Heap) (locs : List Loc), va_P D vwCl (jx_ws cI cT [(cp_B aB (aT 0) (aS 0) (aC 0) (aU 0) (aV 0) (aW 0) (aH 0) (aO 0), sB), (cp_C aC (aT 0) (aS 0), sC), (cp_S aS (aT 0), sS), (cp_T aT, sT), (cp_H aH (fun j => hT j 0), sH), (cp_O aO, sO)]) H → va_D A (jx_ws cI cT [(cp_B aB (aT 0) (aS 0) (aC 0) (aU 0) (aV 0) (aW 0) (aH 0) (aO 0), sB), (cp_C aC (aT 0) (aS 0), sC), (cp_S aS (aT 0), sS), (cp_T aT, sT), (cp_H aH (fun j => hT j 0), sH), (cp_O aO, sO)]) → va_S A s.heap H locs → ∀ ls : Array Slot, lv_has ls 17 [(0, .ref (aB 0)), (1, .int (jx_i l1)), (2, .int (jx_i l2)), (5, .int (jx_i l5)), (6, .int (jx_i l6)), (7, .int (jx_i l7)), (8, .int (jx_i l8)), (10, .int (jx_i l10))] → W p l e (jx_rm 5 119) s m args below meth c H locs 0 0 QQ (F0 m 130 ls [.int (jx_i t0)]) := by
        intro sS l10 t0 h H locs hP hD hS ls hl
        unfold wp_L_isSeen_130 at h
        refine lv_istore (lv' := [(12, .int (jx_i t0)), (0, .ref (aB 0)), (1, .int (jx_i l1)), (2, .int (jx_i l2)), (5, .int (jx_i l5)), (6, .int (jx_i l6)), (7, .int (jx_i l7)), (8, .int (jx_i l8)), (10, .int (jx_i l10))]) hx hb dL_isSeen_130 hl (by decide) rfl (fun ls hl => ?_)
        refine lv_iload hx hb dL_isSeen_132 (lv_at hl 0 rfl) ?_
        refine lv_iload hx hb dL_isSeen_134 (lv_at hl 6 rfl) ?_
        refine lv_iload hx hb dL_isSeen_136 (lv_at hl 8 rfl) ?_
        refine jx_ishr C dL_isSeen_138 ?_
        refine jx_iconst C dL_isSeen_139 ?_
        refine jx_iand C dL_isSeen_140 ?_
        refine jx_iconst C dL_isSeen_141 ?_
        refine jx_ene C h.1 (tgt := 149) dL_isSeen_142 (by decide) (fun hc => ?_) (fun hc => ?_)
        · have h := h.2.2 hc
          refine jx_iconst C dL_isSeen_149 ?_
          exact J150 sS l10 t0 0 h _ _ hP hD hS ls (lv_sub hl [1, 2, 3, 4, 5, 6, 7, 8] rfl)
        · have h := h.2.1 hc
          refine jx_iconst C dL_isSeen_145 ?_
          refine lv_goto (tgt := 150) hx hb dL_isSeen_146 (by decide) ?_
          exact J150 sS l10 t0 1 h _ _ hP hD hS ls (lv_sub hl [1, 2, 3, 4, 5, 6, 7, 8] rfl)
      have J129 : ∀ (sS : jx_St) (l10 : Int), wp_L_isSeen_129 Q sC sT sH sO l1 l2 l3 l4 B43 K166 sB sS l5 l6 l7 l8 l10 → ∀ (H : Heap) (locs : List Loc), va_P D vwCl (jx_ws cI cT [(cp_B aB (aT 0) (aS 0) (aC 0) (aU 0) (aV 0) (aW 0) (aH 0) (aO 0), sB), (cp_C aC (aT 0) (aS 0), sC), (cp_S aS (aT 0), sS), (cp_T aT, sT), (cp_H aH (fun j => hT j 0), sH), (cp_O aO, sO)]) H → va_D A (jx_ws cI cT [(cp_B aB (aT 0) (aS 0) (aC 0) (aU 0) (aV 0) (aW 0) (aH 0) (aO 0), sB), (cp_C aC (aT 0) (aS 0), sC), (cp_S aS (aT 0), sS), (cp_T aT, sT), (cp_H aH (fun j => hT j 0), sH), (cp_O aO, sO)]) → va_S A s.heap H locs → ∀ ls : Array Slot, lv_has ls 17 [(0, .ref (aB 0)), (1, .int (jx_i l1)), (2, .int (jx_i l2)), (5, .int (jx_i l5)), (6, .int (jx_i l6)), (7, .int (jx_i l7)), (8, .int (jx_i l8)), (10, .int (jx_i l10))] → W p l e (jx_rm 5 119) s m args below meth c H locs 0 0 QQ (F0 m 129 ls []) := by
        intro sS l10 h H locs hP hD hS ls hl
        unfold wp_L_isSeen_129 at h
        refine jx_iconst C dL_isSeen_129 ?_
        exact J130 sS l10 0 h _ _ hP hD hS ls (lv_sub hl [0, 1, 2, 3, 4, 5, 6, 7] rfl)
      have J72 : ∀ (sS : jx_St) (l10 : Int) (t0 : Int), wp_L_isSeen_72 Q sC sT sH sO l1 l2 l3 l4 B43 K166 sB sS l5 l6 l7 l8 l10 t0 → ∀ (H : Heap) (locs : List Loc), va_P D vwCl (jx_ws cI cT [(cp_B aB (aT 0) (aS 0) (aC 0) (aU 0) (aV 0) (aW 0) (aH 0) (aO 0), sB), (cp_C aC (aT 0) (aS 0), sC), (cp_S aS (aT 0), sS), (cp_T aT, sT), (cp_H aH (fun j => hT j 0), sH), (cp_O aO, sO)]) H → va_D A (jx_ws cI cT [(cp_B aB (aT 0) (aS 0) (aC 0) (aU 0) (aV 0) (aW 0) (aH 0) (aO 0), sB), (cp_C aC (aT 0) (aS 0), sC), (cp_S aS (aT 0), sS), (cp_T aT, sT), (cp_H aH (fun j => hT j 0), sH), (cp_O aO, sO)]) → va_S A s.heap H locs → ∀ ls : Array Slot, lv_has ls 17 [(0, .ref (aB 0)), (1, .int (jx_i l1)), (2, .int (jx_i l2)), (5, .int (jx_i l5)), (6, .int (jx_i l6)), (7, .int (jx_i l7)), (8, .int (jx_i l8)), (10, .int (jx_i l10))] → W p l e (jx_rm 5 119) s m args below meth c H locs 0 0 QQ (F0 m 72 ls [.int (jx_i t0)]) := by
        intro sS l10 t0 h H locs hP hD hS ls hl
        unfold wp_L_isSeen_72 at h
        refine lv_istore (lv' := [(11, .int (jx_i t0)), (0, .ref (aB 0)), (1, .int (jx_i l1)), (2, .int (jx_i l2)), (5, .int (jx_i l5)), (6, .int (jx_i l6)), (7, .int (jx_i l7)), (8, .int (jx_i l8)), (10, .int (jx_i l10))]) hx hb dL_isSeen_72 hl (by decide) rfl (fun ls hl => ?_)
        refine lv_iload hx hb dL_isSeen_74 (lv_at hl 0 rfl) ?_
        refine jx_zeq C h.1 (tgt := 129) dL_isSeen_76 (by decide) (fun hc => ?_) (fun hc => ?_)
        · have h := h.2.1 hc
          exact J129 sS l10 h _ _ hP hD hS ls (lv_sub hl [1, 2, 3, 4, 5, 6, 7, 8] rfl)
        · have h := h.2.2 hc
          refine lv_aload_n hx hb dL_isSeen_79 rfl (lv_at hl 1 rfl) ?_
          refine lv_iload hx hb dL_isSeen_80 (lv_at hl 8 rfl) ?_
          refine jx_iconst C dL_isSeen_82 ?_
          refine jx_callVI C hK hP hD hS hA (ct_B_boxOf l D cI cT aB aC aS aT aW aV aU aH hT aO _ sB sS sT l10 0 h) ms_X7_boxOf lk_L_19 [0, 2, 3] rfl rfl (fun _ => rfl) (cs' := (fun u => [(cp_B aB (aT 0) (aS 0) (aC 0) (aU 0) (aV 0) (aW 0) (aH 0) (aO 0), sB), (cp_C aC (aT 0) (aS 0), sC), (cp_S aS (aT 0), u), (cp_T aT, sT), (cp_H aH (fun j => hT j 0), sH), (cp_O aO, sO)])) (fun _ => rfl) (fun _ => rfl) 0 0 rfl rfl rfl rfl rfl hl.1 rfl rfl dL_isSeen_83 ⟨Nat.le_refl _, Nat.le_refl _⟩ (fun r83 sS_83 H locs h hP hD hS => ?_)
          have hP : va_P D vwCl (jx_ws cI cT [(cp_B aB (aT 0) (aS 0) (aC 0) (aU 0) (aV 0) (aW 0) (aH 0) (aO 0), sB), (cp_C aC (aT 0) (aS 0), sC), (cp_S aS (aT 0), sS_83), (cp_T aT, sT), (cp_H aH (fun j => hT j 0), sH), (cp_O aO, sO)]) H := hP
          have hD : va_D A (jx_ws cI cT [(cp_B aB (aT 0) (aS 0) (aC 0) (aU 0) (aV 0) (aW 0) (aH 0) (aO 0), sB), (cp_C aC (aT 0) (aS 0), sC), (cp_S aS (aT 0), sS_83), (cp_T aT, sT), (cp_H aH (fun j => hT j 0), sH), (cp_O aO, sO)]) := hD
          refine lv_iload hx hb dL_isSeen_86 (lv_at hl 4 rfl) ?_
          refine jx_cgt C h.1 h.2.1 (tgt := 129) dL_isSeen_88 (by decide) (fun hc => ?_) (fun hc => ?_)
          · have h := h.2.2.2 hc
            exact J129 sS_83 l10 h _ _ hP hD hS ls (lv_sub hl [1, 2, 3, 4, 5, 6, 7, 8] rfl)
          · have h := h.2.2.1 hc
            refine lv_aload_n hx hb dL_isSeen_91 rfl (lv_at hl 1 rfl) ?_
            refine lv_iload hx hb dL_isSeen_92 (lv_at hl 8 rfl) ?_
            refine jx_iconst C dL_isSeen_94 ?_
            refine jx_callVI C hK hP hD hS hA (ct_B_boxOf l D cI cT aB aC aS aT aW aV aU aH hT aO _ sB sS_83 sT l10 2 h) ms_X7_boxOf lk_L_19 [0, 2, 3] rfl rfl (fun _ => rfl) (cs' := (fun u => [(cp_B aB (aT 0) (aS 0) (aC 0) (aU 0) (aV 0) (aW 0) (aH 0) (aO 0), sB), (cp_C aC (aT 0) (aS 0), sC), (cp_S aS (aT 0), u), (cp_T aT, sT), (cp_H aH (fun j => hT j 0), sH), (cp_O aO, sO)])) (fun _ => rfl) (fun _ => rfl) 0 0 rfl rfl rfl rfl rfl hl.1 rfl rfl dL_isSeen_95 ⟨Nat.le_refl _, Nat.le_refl _⟩ (fun r95 sS_95 H locs h hP hD hS => ?_)
            have hP : va_P D vwCl (jx_ws cI cT [(cp_B aB (aT 0) (aS 0) (aC 0) (aU 0) (aV 0) (aW 0) (aH 0) (aO 0), sB), (cp_C aC (aT 0) (aS 0), sC), (cp_S aS (aT 0), sS_95), (cp_T aT, sT), (cp_H aH (fun j => hT j 0), sH), (cp_O aO, sO)]) H := hP
            have hD : va_D A (jx_ws cI cT [(cp_B aB (aT 0) (aS 0) (aC 0) (aU 0) (aV 0) (aW 0) (aH 0) (aO 0), sB), (cp_C aC (aT 0) (aS 0), sC), (cp_S aS (aT 0), sS_95), (cp_T aT, sT), (cp_H aH (fun j => hT j 0), sH), (cp_O aO, sO)]) := hD
            refine lv_iload_n hx hb dL_isSeen_98 rfl (lv_at hl 2 rfl) ?_
            refine jx_clt C h.1 h.2.1 (tgt := 129) dL_isSeen_99 (by decide) (fun hc => ?_) (fun hc => ?_)
            · have h := h.2.2.1 hc
              exact J129 sS_95 l10 h _ _ hP hD hS ls (lv_sub hl [1, 2, 3, 4, 5, 6, 7, 8] rfl)
            · have h := h.2.2.2 hc
              refine lv_aload_n hx hb dL_isSeen_102 rfl (lv_at hl 1 rfl) ?_
              refine lv_iload hx hb dL_isSeen_103 (lv_at hl 8 rfl) ?_
              refine jx_iconst C dL_isSeen_105 ?_
              refine jx_callVI C hK hP hD hS hA (ct_B_boxOf l D cI cT aB aC aS aT aW aV aU aH hT aO _ sB sS_95 sT l10 1 h) ms_X7_boxOf lk_L_19 [0, 2, 3] rfl rfl (fun _ => rfl) (cs' := (fun u => [(cp_B aB (aT 0) (aS 0) (aC 0) (aU 0) (aV 0) (aW 0) (aH 0) (aO 0), sB), (cp_C aC (aT 0) (aS 0), sC), (cp_S aS (aT 0), u), (cp_T aT, sT), (cp_H aH (fun j => hT j 0), sH), (cp_O aO, sO)])) (fun _ => rfl) (fun _ => rfl) 0 0 rfl rfl rfl rfl rfl hl.1 rfl rfl dL_isSeen_106 ⟨Nat.le_refl _, Nat.le_refl _⟩ (fun r106 sS_106 H locs h hP hD hS => ?_)
              have hP : va_P D vwCl (jx_ws cI cT [(cp_B aB (aT 0) (aS 0) (aC 0) (aU 0) (aV 0) (aW 0) (aH 0) (aO 0), sB), (cp_C aC (aT 0) (aS 0), sC), (cp_S aS (aT 0), sS_106), (cp_T aT, sT), (cp_H aH (fun j => hT j 0), sH), (cp_O aO, sO)]) H := hP
              have hD : va_D A (jx_ws cI cT [(cp_B aB (aT 0) (aS 0) (aC 0) (aU 0) (aV 0) (aW 0) (aH 0) (aO 0), sB), (cp_C aC (aT 0) (aS 0), sC), (cp_S aS (aT 0), sS_106), (cp_T aT, sT), (cp_H aH (fun j => hT j 0), sH), (cp_O aO, sO)]) := hD
              refine lv_iload hx hb dL_isSeen_109 (lv_at hl 5 rfl) ?_
              refine jx_cgt C h.1 h.2.1 (tgt := 129) dL_isSeen_111 (by decide) (fun hc => ?_) (fun hc => ?_)
              · have h := h.2.2.2 hc
                exact J129 sS_106 l10 h _ _ hP hD hS ls (lv_sub hl [1, 2, 3, 4, 5, 6, 7, 8] rfl)
              · have h := h.2.2.1 hc
                refine lv_aload_n hx hb dL_isSeen_114 rfl (lv_at hl 1 rfl) ?_
                refine lv_iload hx hb dL_isSeen_115 (lv_at hl 8 rfl) ?_
                refine jx_iconst C dL_isSeen_117 ?_
                refine jx_callVI C hK hP hD hS hA (ct_B_boxOf l D cI cT aB aC aS aT aW aV aU aH hT aO _ sB sS_106 sT l10 3 h) ms_X7_boxOf lk_L_19 [0, 2, 3] rfl rfl (fun _ => rfl) (cs' := (fun u => [(cp_B aB (aT 0) (aS 0) (aC 0) (aU 0) (aV 0) (aW 0) (aH 0) (aO 0), sB), (cp_C aC (aT 0) (aS 0), sC), (cp_S aS (aT 0), u), (cp_T aT, sT), (cp_H aH (fun j => hT j 0), sH), (cp_O aO, sO)])) (fun _ => rfl) (fun _ => rfl) 0 0 rfl rfl rfl rfl rfl hl.1 rfl rfl dL_isSeen_118 ⟨Nat.le_refl _, Nat.le_refl _⟩ (fun r118 sS_118 H locs h hP hD hS => ?_)
                have hP : va_P D vwCl (jx_ws cI cT [(cp_B aB (aT 0) (aS 0) (aC 0) (aU 0) (aV 0) (aW 0) (aH 0) (aO 0), sB), (cp_C aC (aT 0) (aS 0), sC), (cp_S aS (aT 0), sS_118), (cp_T aT, sT), (cp_H aH (fun j => hT j 0), sH), (cp_O aO, sO)]) H := hP
                have hD : va_D A (jx_ws cI cT [(cp_B aB (aT 0) (aS 0) (aC 0) (aU 0) (aV 0) (aW 0) (aH 0) (aO 0), sB), (cp_C aC (aT 0) (aS 0), sC), (cp_S aS (aT 0), sS_118), (cp_T aT, sT), (cp_H aH (fun j => hT j 0), sH), (cp_O aO, sO)]) := hD
                refine lv_iload_n hx hb dL_isSeen_121 rfl (lv_at hl 3 rfl) ?_
                refine jx_clt C h.1 h.2.1 (tgt := 129) dL_isSeen_122 (by decide) (fun hc => ?_) (fun hc => ?_)
                · have h := h.2.2.1 hc
                  exact J129 sS_118 l10 h _ _ hP hD hS ls (lv_sub hl [1, 2, 3, 4, 5, 6, 7, 8] rfl)
                · have h := h.2.2.2 hc
                  refine jx_iconst C dL_isSeen_125 ?_
                  refine lv_goto (tgt := 130) hx hb dL_isSeen_126 (by decide) ?_
                  exact J130 sS_118 l10 1 h _ _ hP hD hS ls (lv_sub hl [1, 2, 3, 4, 5, 6, 7, 8] rfl)
      refine lv_iload hx hb dL_isSeen_43 (lv_at hl 8 rfl) ?_
      refine jx_bipush C dL_isSeen_45 (by decide) ?_
      refine jx_cge C h.1 (jx_inR (by decide) (by decide)) (tgt := 166) dL_isSeen_47 (by decide) (fun hc => ?_) (fun hc => ?_)
      · have h := h.2.2 hc
        exact K166E sS l9 h _ _ hP hD hS ls (lv_sub hl [0, 1, 2, 3, 4, 6, 7] rfl)
      · have h := h.2.1 hc
        refine lv_iload hx hb dL_isSeen_50 (lv_at hl 7 rfl) ?_
        refine jx_zeq C h.1 (tgt := 166) dL_isSeen_52 (by decide) (fun hc => ?_) (fun hc => ?_)
        · have h := h.2.1 hc
          exact K166E sS l9 h _ _ hP hD hS ls (lv_sub hl [0, 1, 2, 3, 4, 6, 7] rfl)
        · have h := h.2.2 hc
          refine lv_aload_n hx hb dL_isSeen_55 rfl (lv_at hl 0 rfl) ?_
          refine lv_iload hx hb dL_isSeen_56 (lv_at hl 8 rfl) ?_
          refine jx_iconst C dL_isSeen_58 ?_
          refine jx_callVI C hK hP hD hS hA (ct_B_boxOf l D cI cT aB aC aS aT aW aV aU aH hT aO _ sB sS sT l10 0 h) ms_X7_boxOf lk_L_19 [0, 2, 3] rfl rfl (fun _ => rfl) (cs' := (fun u => [(cp_B aB (aT 0) (aS 0) (aC 0) (aU 0) (aV 0) (aW 0) (aH 0) (aO 0), sB), (cp_C aC (aT 0) (aS 0), sC), (cp_S aS (aT 0), u), (cp_T aT, sT), (cp_H aH (fun j => hT j 0), sH), (cp_O aO, sO)])) (fun _ => rfl) (fun _ => rfl) 0 0 rfl rfl rfl rfl rfl hl.1 rfl rfl dL_isSeen_59 ⟨Nat.le_refl _, Nat.le_refl _⟩ (fun r59 sS_59 H locs h hP hD hS => ?_)
          have hP : va_P D vwCl (jx_ws cI cT [(cp_B aB (aT 0) (aS 0) (aC 0) (aU 0) (aV 0) (aW 0) (aH 0) (aO 0), sB), (cp_C aC (aT 0) (aS 0), sC), (cp_S aS (aT 0), sS_59), (cp_T aT, sT), (cp_H aH (fun j => hT j 0), sH), (cp_O aO, sO)]) H := hP
          have hD : va_D A (jx_ws cI cT [(cp_B aB (aT 0) (aS 0) (aC 0) (aU 0) (aV 0) (aW 0) (aH 0) (aO 0), sB), (cp_C aC (aT 0) (aS 0), sC), (cp_S aS (aT 0), sS_59), (cp_T aT, sT), (cp_H aH (fun j => hT j 0), sH), (cp_O aO, sO)]) := hD
          refine jx_ldc C (-1000004) kc_L_44 dL_isSeen_62 ?_
          refine jx_eeq C h.1 (tgt := 71) dL_isSeen_64 (by decide) (fun hc => ?_) (fun hc => ?_)
          · have h := h.2.1 hc
            refine jx_iconst C dL_isSeen_71 ?_
            exact J72 sS_59 l10 0 h _ _ hP hD hS ls (lv_sub hl [0, 1, 2, 3, 4, 5, 6, 8] rfl)
          · have h := h.2.2 hc
            refine jx_iconst C dL_isSeen_67 ?_
            refine lv_goto (tgt := 72) hx hb dL_isSeen_68 (by decide) ?_
            exact J72 sS_59 l10 1 h _ _ hP hD hS ls (lv_sub hl [0, 1, 2, 3, 4, 5, 6, 8] rfl)
  have Lo169 : ∀ (sB : jx_St) (l5 : Int) (l6 : Int) (l9 : Int) (K270 : jx_St × Int → Prop) (n : Nat) (sS : jx_St) (l8 : Int) (l10 : Int), jx_it (fun B169 v => wp_L_isSeen_169 Q sC sT sH sO l1 l2 l3 l4 K270 sB l5 l6 l9 B169 v.1 v.2.1 v.2.2) n (sS, l8, l10) → (∀ (sS : jx_St) (l8 : Int), K270 (sS, l8) → ∀ (H : Heap) (locs : List Loc), va_P D vwCl (jx_ws cI cT [(cp_B aB (aT 0) (aS 0) (aC 0) (aU 0) (aV 0) (aW 0) (aH 0) (aO 0), sB), (cp_C aC (aT 0) (aS 0), sC), (cp_S aS (aT 0), sS), (cp_T aT, sT), (cp_H aH (fun j => hT j 0), sH), (cp_O aO, sO)]) H → va_D A (jx_ws cI cT [(cp_B aB (aT 0) (aS 0) (aC 0) (aU 0) (aV 0) (aW 0) (aH 0) (aO 0), sB), (cp_C aC (aT 0) (aS 0), sC), (cp_S aS (aT 0), sS), (cp_T aT, sT), (cp_H aH (fun j => hT j 0), sH), (cp_O aO, sO)]) → va_S A s.heap H locs → ∀ ls : Array Slot, lv_has ls 17 [(0, .ref (aB 0)), (1, .int (jx_i l1)), (2, .int (jx_i l2)), (5, .int (jx_i l5)), (6, .int (jx_i l6)), (8, .int (jx_i l8)), (9, .int (jx_i l9))] → W p l e (jx_rm 5 119) s m args below meth c H locs 0 0 QQ (F0 m 270 ls [])) → ∀ (H : Heap) (locs : List Loc), va_P D vwCl (jx_ws cI cT [(cp_B aB (aT 0) (aS 0) (aC 0) (aU 0) (aV 0) (aW 0) (aH 0) (aO 0), sB), (cp_C aC (aT 0) (aS 0), sC), (cp_S aS (aT 0), sS), (cp_T aT, sT), (cp_H aH (fun j => hT j 0), sH), (cp_O aO, sO)]) H → va_D A (jx_ws cI cT [(cp_B aB (aT 0) (aS 0) (aC 0) (aU 0) (aV 0) (aW 0) (aH 0) (aO 0), sB), (cp_C aC (aT 0) (aS 0), sC), (cp_S aS (aT 0), sS), (cp_T aT, sT), (cp_H aH (fun j => hT j 0), sH), (cp_O aO, sO)]) → va_S A s.heap H locs → ∀ ls : Array Slot, lv_has ls 17 [(0, .ref (aB 0)), (1, .int (jx_i l1)), (2, .int (jx_i l2)), (5, .int (jx_i l5)), (6, .int (jx_i l6)), (8, .int (jx_i l8)), (9, .int (jx_i l9)), (10, .int (jx_i l10))] → W p l e (jx_rm 5 119) s m args below meth c H locs 0 0 QQ (F0 m 169 ls []) := by
    intro sB l5 l6 l9 K270 n
    induction n with
    | zero =>
      intro sS l8 l10 h
      exact (show False from h).elim
    | succ n ih =>
      intro sS l8 l10 h K270E H locs hP hD hS ls hl
      have h : wp_L_isSeen_169 Q sC sT sH sO l1 l2 l3 l4 K270 sB l5 l6 l9 (jx_it (fun B169 v => wp_L_isSeen_169 Q sC sT sH sO l1 l2 l3 l4 K270 sB l5 l6 l9 B169 v.1 v.2.1 v.2.2) n) sS l8 l10 := h
      have ih := fun sS l8 l10 h => ih sS l8 l10 h K270E
      generalize jx_it (fun B169 v => wp_L_isSeen_169 Q sC sT sH sO l1 l2 l3 l4 K270 sB l5 l6 l9 B169 v.1 v.2.1 v.2.2) n = B169 at h ih
      unfold wp_L_isSeen_169 at h
      have Lo182 : ∀ (sB : jx_St) (l5 : Int) (l6 : Int) (l9 : Int) (l10 : Int) (K264 : jx_St × Int → Prop) (n : Nat) (sS : jx_St) (l8 : Int) (l11 : Int), jx_it (fun B182 v => wp_L_isSeen_182 Q sC sT sH sO l1 l2 l3 l4 K264 sB l5 l6 l9 l10 B182 v.1 v.2.1 v.2.2) n (sS, l8, l11) → (∀ (sS : jx_St) (l8 : Int), K264 (sS, l8) → ∀ (H : Heap) (locs : List Loc), va_P D vwCl (jx_ws cI cT [(cp_B aB (aT 0) (aS 0) (aC 0) (aU 0) (aV 0) (aW 0) (aH 0) (aO 0), sB), (cp_C aC (aT 0) (aS 0), sC), (cp_S aS (aT 0), sS), (cp_T aT, sT), (cp_H aH (fun j => hT j 0), sH), (cp_O aO, sO)]) H → va_D A (jx_ws cI cT [(cp_B aB (aT 0) (aS 0) (aC 0) (aU 0) (aV 0) (aW 0) (aH 0) (aO 0), sB), (cp_C aC (aT 0) (aS 0), sC), (cp_S aS (aT 0), sS), (cp_T aT, sT), (cp_H aH (fun j => hT j 0), sH), (cp_O aO, sO)]) → va_S A s.heap H locs → ∀ ls : Array Slot, lv_has ls 17 [(0, .ref (aB 0)), (1, .int (jx_i l1)), (2, .int (jx_i l2)), (5, .int (jx_i l5)), (6, .int (jx_i l6)), (8, .int (jx_i l8)), (9, .int (jx_i l9)), (10, .int (jx_i l10))] → W p l e (jx_rm 5 119) s m args below meth c H locs 0 0 QQ (F0 m 264 ls [])) → ∀ (H : Heap) (locs : List Loc), va_P D vwCl (jx_ws cI cT [(cp_B aB (aT 0) (aS 0) (aC 0) (aU 0) (aV 0) (aW 0) (aH 0) (aO 0), sB), (cp_C aC (aT 0) (aS 0), sC), (cp_S aS (aT 0), sS), (cp_T aT, sT), (cp_H aH (fun j => hT j 0), sH), (cp_O aO, sO)]) H → va_D A (jx_ws cI cT [(cp_B aB (aT 0) (aS 0) (aC 0) (aU 0) (aV 0) (aW 0) (aH 0) (aO 0), sB), (cp_C aC (aT 0) (aS 0), sC), (cp_S aS (aT 0), sS), (cp_T aT, sT), (cp_H aH (fun j => hT j 0), sH), (cp_O aO, sO)]) → va_S A s.heap H locs → ∀ ls : Array Slot, lv_has ls 17 [(0, .ref (aB 0)), (1, .int (jx_i l1)), (2, .int (jx_i l2)), (5, .int (jx_i l5)), (6, .int (jx_i l6)), (8, .int (jx_i l8)), (9, .int (jx_i l9)), (10, .int (jx_i l10)), (11, .int (jx_i l11))] → W p l e (jx_rm 5 119) s m args below meth c H locs 0 0 QQ (F0 m 182 ls []) := by
        intro sB l5 l6 l9 l10 K264 n
        induction n with
        | zero =>
          intro sS l8 l11 h
          exact (show False from h).elim
        | succ n ih =>
          intro sS l8 l11 h K264E H locs hP hD hS ls hl
          have h : wp_L_isSeen_182 Q sC sT sH sO l1 l2 l3 l4 K264 sB l5 l6 l9 l10 (jx_it (fun B182 v => wp_L_isSeen_182 Q sC sT sH sO l1 l2 l3 l4 K264 sB l5 l6 l9 l10 B182 v.1 v.2.1 v.2.2) n) sS l8 l11 := h
          have ih := fun sS l8 l11 h => ih sS l8 l11 h K264E
          generalize jx_it (fun B182 v => wp_L_isSeen_182 Q sC sT sH sO l1 l2 l3 l4 K264 sB l5 l6 l9 l10 B182 v.1 v.2.1 v.2.2) n = B182 at h ih
          unfold wp_L_isSeen_182 at h
          have J255 : ∀ (sS : jx_St) (l11 : Int) (t0 : Int) (t1 : Int), wp_L_isSeen_255 Q sC sT sH sO l1 l2 l3 l4 B182 K264 sB sS l5 l6 l9 l10 l11 t0 t1 → ∀ (H : Heap) (locs : List Loc), va_P D vwCl (jx_ws cI cT [(cp_B aB (aT 0) (aS 0) (aC 0) (aU 0) (aV 0) (aW 0) (aH 0) (aO 0), sB), (cp_C aC (aT 0) (aS 0), sC), (cp_S aS (aT 0), sS), (cp_T aT, sT), (cp_H aH (fun j => hT j 0), sH), (cp_O aO, sO)]) H → va_D A (jx_ws cI cT [(cp_B aB (aT 0) (aS 0) (aC 0) (aU 0) (aV 0) (aW 0) (aH 0) (aO 0), sB), (cp_C aC (aT 0) (aS 0), sC), (cp_S aS (aT 0), sS), (cp_T aT, sT), (cp_H aH (fun j => hT j 0), sH), (cp_O aO, sO)]) → va_S A s.heap H locs → ∀ ls : Array Slot, lv_has ls 17 [(0, .ref (aB 0)), (1, .int (jx_i l1)), (2, .int (jx_i l2)), (5, .int (jx_i l5)), (6, .int (jx_i l6)), (9, .int (jx_i l9)), (10, .int (jx_i l10)), (11, .int (jx_i l11))] → W p l e (jx_rm 5 119) s m args below meth c H locs 0 0 QQ (F0 m 255 ls [.int (jx_i t1), .int (jx_i t0)]) := by
            intro sS l11 t0 t1 h H locs hP hD hS ls hl
            unfold wp_L_isSeen_255 at h
            refine jx_iadd C dL_isSeen_255 ?_
            refine lv_istore (lv' := [(8, .int (jx_i (t0 + t1))), (0, .ref (aB 0)), (1, .int (jx_i l1)), (2, .int (jx_i l2)), (5, .int (jx_i l5)), (6, .int (jx_i l6)), (9, .int (jx_i l9)), (10, .int (jx_i l10)), (11, .int (jx_i l11))]) hx hb dL_isSeen_256 hl (by decide) rfl (fun ls hl => ?_)
            refine jx_iinc C (lv' := [(11, .int (jx_i (l11 + 1))), (8, .int (jx_i (t0 + t1))), (0, .ref (aB 0)), (1, .int (jx_i l1)), (2, .int (jx_i l2)), (5, .int (jx_i l5)), (6, .int (jx_i l6)), (9, .int (jx_i l9)), (10, .int (jx_i l10))]) dL_isSeen_258 hl (k := 8) rfl (by decide) rfl (fun ls hl => ?_)
            refine lv_goto (tgt := 182) hx hb dL_isSeen_261 (by decide) ?_
            exact ih sS (t0 + t1) (l11 + 1) h _ _ hP hD hS ls (lv_sub hl [2, 3, 4, 5, 6, 1, 7, 8, 0] rfl)
          have J254 : ∀ (sS : jx_St) (l11 : Int) (t0 : Int), wp_L_isSeen_254 Q sC sT sH sO l1 l2 l3 l4 B182 K264 sB sS l5 l6 l9 l10 l11 t0 → ∀ (H : Heap) (locs : List Loc), va_P D vwCl (jx_ws cI cT [(cp_B aB (aT 0) (aS 0) (aC 0) (aU 0) (aV 0) (aW 0) (aH 0) (aO 0), sB), (cp_C aC (aT 0) (aS 0), sC), (cp_S aS (aT 0), sS), (cp_T aT, sT), (cp_H aH (fun j => hT j 0), sH), (cp_O aO, sO)]) H → va_D A (jx_ws cI cT [(cp_B aB (aT 0) (aS 0) (aC 0) (aU 0) (aV 0) (aW 0) (aH 0) (aO 0), sB), (cp_C aC (aT 0) (aS 0), sC), (cp_S aS (aT 0), sS), (cp_T aT, sT), (cp_H aH (fun j => hT j 0), sH), (cp_O aO, sO)]) → va_S A s.heap H locs → ∀ ls : Array Slot, lv_has ls 17 [(0, .ref (aB 0)), (1, .int (jx_i l1)), (2, .int (jx_i l2)), (5, .int (jx_i l5)), (6, .int (jx_i l6)), (9, .int (jx_i l9)), (10, .int (jx_i l10)), (11, .int (jx_i l11))] → W p l e (jx_rm 5 119) s m args below meth c H locs 0 0 QQ (F0 m 254 ls [.int (jx_i t0)]) := by
            intro sS l11 t0 h H locs hP hD hS ls hl
            unfold wp_L_isSeen_254 at h
            refine jx_iconst C dL_isSeen_254 ?_
            exact J255 sS l11 t0 0 h _ _ hP hD hS ls (lv_sub hl [0, 1, 2, 3, 4, 5, 6, 7] rfl)
          refine lv_aload_n hx hb dL_isSeen_182 rfl (lv_at hl 0 rfl) ?_
          refine lv_iload hx hb dL_isSeen_183 (lv_at hl 7 rfl) ?_
          refine lv_iload hx hb dL_isSeen_185 (lv_at hl 8 rfl) ?_
          refine jx_iconst C dL_isSeen_187 ?_
          refine jx_callVI C hK hP hD hS hA (ct_B_nodeOf l D cI cT aB aC aS aT aW aV aU aH hT aO _ sB sS sT l10 l11 4 h) ms_X7_nodeOf lk_L_23 [0, 2, 3] rfl rfl (fun _ => rfl) (cs' := (fun u => [(cp_B aB (aT 0) (aS 0) (aC 0) (aU 0) (aV 0) (aW 0) (aH 0) (aO 0), sB), (cp_C aC (aT 0) (aS 0), sC), (cp_S aS (aT 0), u), (cp_T aT, sT), (cp_H aH (fun j => hT j 0), sH), (cp_O aO, sO)])) (fun _ => rfl) (fun _ => rfl) 0 0 rfl rfl rfl rfl rfl hl.1 rfl rfl dL_isSeen_188 ⟨Nat.le_refl _, Nat.le_refl _⟩ (fun r188 sS_188 H locs h hP hD hS => ?_)
          have hP : va_P D vwCl (jx_ws cI cT [(cp_B aB (aT 0) (aS 0) (aC 0) (aU 0) (aV 0) (aW 0) (aH 0) (aO 0), sB), (cp_C aC (aT 0) (aS 0), sC), (cp_S aS (aT 0), sS_188), (cp_T aT, sT), (cp_H aH (fun j => hT j 0), sH), (cp_O aO, sO)]) H := hP
          have hD : va_D A (jx_ws cI cT [(cp_B aB (aT 0) (aS 0) (aC 0) (aU 0) (aV 0) (aW 0) (aH 0) (aO 0), sB), (cp_C aC (aT 0) (aS 0), sC), (cp_S aS (aT 0), sS_188), (cp_T aT, sT), (cp_H aH (fun j => hT j 0), sH), (cp_O aO, sO)]) := hD
          refine jx_zle C h.1 (tgt := 264) dL_isSeen_191 (by decide) (fun hc => ?_) (fun hc => ?_)
          · have h := h.2.1 hc
            exact K264E sS_188 l8 h _ _ hP hD hS ls (lv_sub hl [0, 1, 2, 3, 4, 5, 6, 7] rfl)
          · have h := h.2.2 hc
            refine lv_iload hx hb dL_isSeen_194 (lv_at hl 5 rfl) ?_
            refine lv_aload_n hx hb dL_isSeen_196 rfl (lv_at hl 0 rfl) ?_
            refine lv_iload hx hb dL_isSeen_197 (lv_at hl 7 rfl) ?_
            refine lv_iload hx hb dL_isSeen_199 (lv_at hl 8 rfl) ?_
            refine jx_iconst C dL_isSeen_201 ?_
            refine jx_callVI C hK hP hD hS hA (ct_B_nodeOf l D cI cT aB aC aS aT aW aV aU aH hT aO _ sB sS_188 sT l10 l11 0 h) ms_X7_nodeOf lk_L_23 [0, 2, 3] rfl rfl (fun _ => rfl) (cs' := (fun u => [(cp_B aB (aT 0) (aS 0) (aC 0) (aU 0) (aV 0) (aW 0) (aH 0) (aO 0), sB), (cp_C aC (aT 0) (aS 0), sC), (cp_S aS (aT 0), u), (cp_T aT, sT), (cp_H aH (fun j => hT j 0), sH), (cp_O aO, sO)])) (fun _ => rfl) (fun _ => rfl) 0 0 rfl rfl rfl rfl rfl hl.1 rfl rfl dL_isSeen_202 ⟨Nat.le_refl _, Nat.le_refl _⟩ (fun r202 sS_202 H locs h hP hD hS => ?_)
            have hP : va_P D vwCl (jx_ws cI cT [(cp_B aB (aT 0) (aS 0) (aC 0) (aU 0) (aV 0) (aW 0) (aH 0) (aO 0), sB), (cp_C aC (aT 0) (aS 0), sC), (cp_S aS (aT 0), sS_202), (cp_T aT, sT), (cp_H aH (fun j => hT j 0), sH), (cp_O aO, sO)]) H := hP
            have hD : va_D A (jx_ws cI cT [(cp_B aB (aT 0) (aS 0) (aC 0) (aU 0) (aV 0) (aW 0) (aH 0) (aO 0), sB), (cp_C aC (aT 0) (aS 0), sC), (cp_S aS (aT 0), sS_202), (cp_T aT, sT), (cp_H aH (fun j => hT j 0), sH), (cp_O aO, sO)]) := hD
            refine lv_iload hx hb dL_isSeen_205 (lv_at hl 3 rfl) ?_
            refine jx_cgt C h.1 h.2.1 (tgt := 254) dL_isSeen_207 (by decide) (fun hc => ?_) (fun hc => ?_)
            · have h := h.2.2.2 hc
              exact J254 sS_202 l11 l8 h _ _ hP hD hS ls (lv_sub hl [0, 1, 2, 3, 4, 6, 7, 8] rfl)
            · have h := h.2.2.1 hc
              refine lv_aload_n hx hb dL_isSeen_210 rfl (lv_at hl 0 rfl) ?_
              refine lv_iload hx hb dL_isSeen_211 (lv_at hl 7 rfl) ?_
              refine lv_iload hx hb dL_isSeen_213 (lv_at hl 8 rfl) ?_
              refine jx_iconst C dL_isSeen_215 ?_
              refine jx_callVI C hK hP hD hS hA (ct_B_nodeOf l D cI cT aB aC aS aT aW aV aU aH hT aO _ sB sS_202 sT l10 l11 2 h) ms_X7_nodeOf lk_L_23 [0, 2, 3] rfl rfl (fun _ => rfl) (cs' := (fun u => [(cp_B aB (aT 0) (aS 0) (aC 0) (aU 0) (aV 0) (aW 0) (aH 0) (aO 0), sB), (cp_C aC (aT 0) (aS 0), sC), (cp_S aS (aT 0), u), (cp_T aT, sT), (cp_H aH (fun j => hT j 0), sH), (cp_O aO, sO)])) (fun _ => rfl) (fun _ => rfl) 0 0 rfl rfl rfl rfl rfl hl.1 rfl rfl dL_isSeen_216 ⟨Nat.le_refl _, Nat.le_refl _⟩ (fun r216 sS_216 H locs h hP hD hS => ?_)
              have hP : va_P D vwCl (jx_ws cI cT [(cp_B aB (aT 0) (aS 0) (aC 0) (aU 0) (aV 0) (aW 0) (aH 0) (aO 0), sB), (cp_C aC (aT 0) (aS 0), sC), (cp_S aS (aT 0), sS_216), (cp_T aT, sT), (cp_H aH (fun j => hT j 0), sH), (cp_O aO, sO)]) H := hP
              have hD : va_D A (jx_ws cI cT [(cp_B aB (aT 0) (aS 0) (aC 0) (aU 0) (aV 0) (aW 0) (aH 0) (aO 0), sB), (cp_C aC (aT 0) (aS 0), sC), (cp_S aS (aT 0), sS_216), (cp_T aT, sT), (cp_H aH (fun j => hT j 0), sH), (cp_O aO, sO)]) := hD
              refine lv_iload_n hx hb dL_isSeen_219 rfl (lv_at hl 1 rfl) ?_
              refine jx_clt C h.1 h.2.1 (tgt := 254) dL_isSeen_220 (by decide) (fun hc => ?_) (fun hc => ?_)
              · have h := h.2.2.1 hc
                exact J254 sS_216 l11 l8 h _ _ hP hD hS ls (lv_sub hl [0, 1, 2, 3, 4, 6, 7, 8] rfl)
              · have h := h.2.2.2 hc
                refine lv_aload_n hx hb dL_isSeen_223 rfl (lv_at hl 0 rfl) ?_
                refine lv_iload hx hb dL_isSeen_224 (lv_at hl 7 rfl) ?_
                refine lv_iload hx hb dL_isSeen_226 (lv_at hl 8 rfl) ?_
                refine jx_iconst C dL_isSeen_228 ?_
                refine jx_callVI C hK hP hD hS hA (ct_B_nodeOf l D cI cT aB aC aS aT aW aV aU aH hT aO _ sB sS_216 sT l10 l11 1 h) ms_X7_nodeOf lk_L_23 [0, 2, 3] rfl rfl (fun _ => rfl) (cs' := (fun u => [(cp_B aB (aT 0) (aS 0) (aC 0) (aU 0) (aV 0) (aW 0) (aH 0) (aO 0), sB), (cp_C aC (aT 0) (aS 0), sC), (cp_S aS (aT 0), u), (cp_T aT, sT), (cp_H aH (fun j => hT j 0), sH), (cp_O aO, sO)])) (fun _ => rfl) (fun _ => rfl) 0 0 rfl rfl rfl rfl rfl hl.1 rfl rfl dL_isSeen_229 ⟨Nat.le_refl _, Nat.le_refl _⟩ (fun r229 sS_229 H locs h hP hD hS => ?_)
                have hP : va_P D vwCl (jx_ws cI cT [(cp_B aB (aT 0) (aS 0) (aC 0) (aU 0) (aV 0) (aW 0) (aH 0) (aO 0), sB), (cp_C aC (aT 0) (aS 0), sC), (cp_S aS (aT 0), sS_229), (cp_T aT, sT), (cp_H aH (fun j => hT j 0), sH), (cp_O aO, sO)]) H := hP
                have hD : va_D A (jx_ws cI cT [(cp_B aB (aT 0) (aS 0) (aC 0) (aU 0) (aV 0) (aW 0) (aH 0) (aO 0), sB), (cp_C aC (aT 0) (aS 0), sC), (cp_S aS (aT 0), sS_229), (cp_T aT, sT), (cp_H aH (fun j => hT j 0), sH), (cp_O aO, sO)]) := hD
                refine lv_iload hx hb dL_isSeen_232 (lv_at hl 4 rfl) ?_
                refine jx_cgt C h.1 h.2.1 (tgt := 254) dL_isSeen_234 (by decide) (fun hc => ?_) (fun hc => ?_)
                · have h := h.2.2.2 hc
                  exact J254 sS_229 l11 l8 h _ _ hP hD hS ls (lv_sub hl [0, 1, 2, 3, 4, 6, 7, 8] rfl)
                · have h := h.2.2.1 hc
                  refine lv_aload_n hx hb dL_isSeen_237 rfl (lv_at hl 0 rfl) ?_
                  refine lv_iload hx hb dL_isSeen_238 (lv_at hl 7 rfl) ?_
                  refine lv_iload hx hb dL_isSeen_240 (lv_at hl 8 rfl) ?_
                  refine jx_iconst C dL_isSeen_242 ?_
                  refine jx_callVI C hK hP hD hS hA (ct_B_nodeOf l D cI cT aB aC aS aT aW aV aU aH hT aO _ sB sS_229 sT l10 l11 3 h) ms_X7_nodeOf lk_L_23 [0, 2, 3] rfl rfl (fun _ => rfl) (cs' := (fun u => [(cp_B aB (aT 0) (aS 0) (aC 0) (aU 0) (aV 0) (aW 0) (aH 0) (aO 0), sB), (cp_C aC (aT 0) (aS 0), sC), (cp_S aS (aT 0), u), (cp_T aT, sT), (cp_H aH (fun j => hT j 0), sH), (cp_O aO, sO)])) (fun _ => rfl) (fun _ => rfl) 0 0 rfl rfl rfl rfl rfl hl.1 rfl rfl dL_isSeen_243 ⟨Nat.le_refl _, Nat.le_refl _⟩ (fun r243 sS_243 H locs h hP hD hS => ?_)
                  have hP : va_P D vwCl (jx_ws cI cT [(cp_B aB (aT 0) (aS 0) (aC 0) (aU 0) (aV 0) (aW 0) (aH 0) (aO 0), sB), (cp_C aC (aT 0) (aS 0), sC), (cp_S aS (aT 0), sS_243), (cp_T aT, sT), (cp_H aH (fun j => hT j 0), sH), (cp_O aO, sO)]) H := hP
                  have hD : va_D A (jx_ws cI cT [(cp_B aB (aT 0) (aS 0) (aC 0) (aU 0) (aV 0) (aW 0) (aH 0) (aO 0), sB), (cp_C aC (aT 0) (aS 0), sC), (cp_S aS (aT 0), sS_243), (cp_T aT, sT), (cp_H aH (fun j => hT j 0), sH), (cp_O aO, sO)]) := hD
                  refine lv_iload_n hx hb dL_isSeen_246 rfl (lv_at hl 2 rfl) ?_
                  refine jx_clt C h.1 h.2.1 (tgt := 254) dL_isSeen_247 (by decide) (fun hc => ?_) (fun hc => ?_)
                  · have h := h.2.2.1 hc
                    exact J254 sS_243 l11 l8 h _ _ hP hD hS ls (lv_sub hl [0, 1, 2, 3, 4, 6, 7, 8] rfl)
                  · have h := h.2.2.2 hc
                    refine jx_iconst C dL_isSeen_250 ?_
                    refine lv_goto (tgt := 255) hx hb dL_isSeen_251 (by decide) ?_
                    exact J255 sS_243 l11 l8 1 h _ _ hP hD hS ls (lv_sub hl [0, 1, 2, 3, 4, 6, 7, 8] rfl)
      have J264 : ∀ (sS : jx_St) (l8 : Int) (l10 : Int), wp_L_isSeen_264 Q sC sT sH sO l1 l2 l3 l4 B169 K270 sB sS l5 l6 l8 l9 l10 → ∀ (H : Heap) (locs : List Loc), va_P D vwCl (jx_ws cI cT [(cp_B aB (aT 0) (aS 0) (aC 0) (aU 0) (aV 0) (aW 0) (aH 0) (aO 0), sB), (cp_C aC (aT 0) (aS 0), sC), (cp_S aS (aT 0), sS), (cp_T aT, sT), (cp_H aH (fun j => hT j 0), sH), (cp_O aO, sO)]) H → va_D A (jx_ws cI cT [(cp_B aB (aT 0) (aS 0) (aC 0) (aU 0) (aV 0) (aW 0) (aH 0) (aO 0), sB), (cp_C aC (aT 0) (aS 0), sC), (cp_S aS (aT 0), sS), (cp_T aT, sT), (cp_H aH (fun j => hT j 0), sH), (cp_O aO, sO)]) → va_S A s.heap H locs → ∀ ls : Array Slot, lv_has ls 17 [(0, .ref (aB 0)), (1, .int (jx_i l1)), (2, .int (jx_i l2)), (5, .int (jx_i l5)), (6, .int (jx_i l6)), (8, .int (jx_i l8)), (9, .int (jx_i l9)), (10, .int (jx_i l10))] → W p l e (jx_rm 5 119) s m args below meth c H locs 0 0 QQ (F0 m 264 ls []) := by
        intro sS l8 l10 h H locs hP hD hS ls hl
        unfold wp_L_isSeen_264 at h
        refine jx_iinc C (lv' := [(10, .int (jx_i (l10 + 1))), (0, .ref (aB 0)), (1, .int (jx_i l1)), (2, .int (jx_i l2)), (5, .int (jx_i l5)), (6, .int (jx_i l6)), (8, .int (jx_i l8)), (9, .int (jx_i l9))]) dL_isSeen_264 hl (k := 7) rfl (by decide) rfl (fun ls hl => ?_)
        refine lv_goto (tgt := 169) hx hb dL_isSeen_267 (by decide) ?_
        exact ih sS l8 (l10 + 1) h _ _ hP hD hS ls (lv_sub hl [1, 2, 3, 4, 5, 6, 7, 0] rfl)
      refine lv_iload hx hb dL_isSeen_169 (lv_at hl 7 rfl) ?_
      refine lv_aload_n hx hb dL_isSeen_171 rfl (lv_at hl 0 rfl) ?_
      refine jx_iconst C dL_isSeen_172 ?_
      refine jx_callVI C hK hP hD hS hA (ct_B_count l D cI cT aB aC aS aT aW aV aU aH hT aO _ sB sC sS sT sH sO 1 h) ms_X7_count lk_L_13 [0, 1, 2, 3, 4, 5] rfl rfl (fun _ => rfl) (cs' := (fun u => [(cp_B aB (aT 0) (aS 0) (aC 0) (aU 0) (aV 0) (aW 0) (aH 0) (aO 0), sB), (cp_C aC (aT 0) (aS 0), sC), (cp_S aS (aT 0), u), (cp_T aT, sT), (cp_H aH (fun j => hT j 0), sH), (cp_O aO, sO)])) (fun _ => rfl) (fun _ => rfl) 0 0 rfl rfl rfl rfl rfl hl.1 rfl rfl dL_isSeen_173 ⟨Nat.le_refl _, Nat.le_refl _⟩ (fun r173 sS_173 H locs h hP hD hS => ?_)
      have hP : va_P D vwCl (jx_ws cI cT [(cp_B aB (aT 0) (aS 0) (aC 0) (aU 0) (aV 0) (aW 0) (aH 0) (aO 0), sB), (cp_C aC (aT 0) (aS 0), sC), (cp_S aS (aT 0), sS_173), (cp_T aT, sT), (cp_H aH (fun j => hT j 0), sH), (cp_O aO, sO)]) H := hP
      have hD : va_D A (jx_ws cI cT [(cp_B aB (aT 0) (aS 0) (aC 0) (aU 0) (aV 0) (aW 0) (aH 0) (aO 0), sB), (cp_C aC (aT 0) (aS 0), sC), (cp_S aS (aT 0), sS_173), (cp_T aT, sT), (cp_H aH (fun j => hT j 0), sH), (cp_O aO, sO)]) := hD
      refine jx_cge C h.1 h.2.1 (tgt := 270) dL_isSeen_176 (by decide) (fun hc => ?_) (fun hc => ?_)
      · have h := h.2.2.2 hc
        exact K270E sS_173 l8 h _ _ hP hD hS ls (lv_sub hl [0, 1, 2, 3, 4, 5, 6] rfl)
      · have h := h.2.2.1 hc
        refine jx_iconst C dL_isSeen_179 ?_
        refine lv_istore (lv' := [(11, .int (jx_i 0)), (0, .ref (aB 0)), (1, .int (jx_i l1)), (2, .int (jx_i l2)), (5, .int (jx_i l5)), (6, .int (jx_i l6)), (8, .int (jx_i l8)), (9, .int (jx_i l9)), (10, .int (jx_i l10))]) hx hb dL_isSeen_180 hl (by decide) rfl (fun ls hl => ?_)
        obtain ⟨n, h⟩ := h
        refine Lo182 sB l5 l6 l9 l10 _ n sS_173 l8 0 h ?_ _ _ hP hD hS ls (lv_sub hl [1, 2, 3, 4, 5, 6, 7, 8, 0] rfl)
        · intro sS l8 h H locs hP hD hS ls hl
          exact J264 sS l8 l10 h _ _ hP hD hS ls (lv_sub hl [0, 1, 2, 3, 4, 5, 6, 7] rfl)
  have Lo304 : ∀ (n : Nat) (sB : jx_St) (sS : jx_St) (l9 : Int) (l10 : Int) (l11 : Int), jx_it (fun B304 v => wp_L_isSeen_304 Q sC sT sH sO l1 l2 l3 l4 B304 v.1 v.2.1 v.2.2.1 v.2.2.2.1 v.2.2.2.2) n (sB, sS, l9, l10, l11) → ∀ (H : Heap) (locs : List Loc), va_P D vwCl (jx_ws cI cT [(cp_B aB (aT 0) (aS 0) (aC 0) (aU 0) (aV 0) (aW 0) (aH 0) (aO 0), sB), (cp_C aC (aT 0) (aS 0), sC), (cp_S aS (aT 0), sS), (cp_T aT, sT), (cp_H aH (fun j => hT j 0), sH), (cp_O aO, sO)]) H → va_D A (jx_ws cI cT [(cp_B aB (aT 0) (aS 0) (aC 0) (aU 0) (aV 0) (aW 0) (aH 0) (aO 0), sB), (cp_C aC (aT 0) (aS 0), sC), (cp_S aS (aT 0), sS), (cp_T aT, sT), (cp_H aH (fun j => hT j 0), sH), (cp_O aO, sO)]) → va_S A s.heap H locs → ∀ ls : Array Slot, lv_has ls 17 [(0, .ref (aB 0)), (1, .int (jx_i l1)), (2, .int (jx_i l2)), (9, .int (jx_i l9)), (10, .int (jx_i l10)), (11, .int (jx_i l11))] → W p l e (jx_rm 5 119) s m args below meth c H locs 0 0 QQ (F0 m 304 ls []) := by
    intro n
    induction n with
    | zero =>
      intro sB sS l9 l10 l11 h
      exact (show False from h).elim
    | succ n ih =>
      intro sB sS l9 l10 l11 h H locs hP hD hS ls hl
      have h : wp_L_isSeen_304 Q sC sT sH sO l1 l2 l3 l4 (jx_it (fun B304 v => wp_L_isSeen_304 Q sC sT sH sO l1 l2 l3 l4 B304 v.1 v.2.1 v.2.2.1 v.2.2.2.1 v.2.2.2.2) n) sB sS l9 l10 l11 := h
      have ih := fun sB sS l9 l10 l11 h => ih sB sS l9 l10 l11 h
      generalize jx_it (fun B304 v => wp_L_isSeen_304 Q sC sT sH sO l1 l2 l3 l4 B304 v.1 v.2.1 v.2.2.1 v.2.2.2.1 v.2.2.2.2) n = B304 at h ih
      unfold wp_L_isSeen_304 at h
      have J512 : ∀ (sB : jx_St) (sS : jx_St) (l10 : Int) (l11 : Int) (l12 : Int) (t0 : Int), wp_L_isSeen_512 Q sC sT sH sO l1 l2 l3 l4 B304 sB sS l10 l11 l12 t0 → ∀ (H : Heap) (locs : List Loc), va_P D vwCl (jx_ws cI cT [(cp_B aB (aT 0) (aS 0) (aC 0) (aU 0) (aV 0) (aW 0) (aH 0) (aO 0), sB), (cp_C aC (aT 0) (aS 0), sC), (cp_S aS (aT 0), sS), (cp_T aT, sT), (cp_H aH (fun j => hT j 0), sH), (cp_O aO, sO)]) H → va_D A (jx_ws cI cT [(cp_B aB (aT 0) (aS 0) (aC 0) (aU 0) (aV 0) (aW 0) (aH 0) (aO 0), sB), (cp_C aC (aT 0) (aS 0), sC), (cp_S aS (aT 0), sS), (cp_T aT, sT), (cp_H aH (fun j => hT j 0), sH), (cp_O aO, sO)]) → va_S A s.heap H locs → ∀ ls : Array Slot, lv_has ls 17 [(0, .ref (aB 0)), (1, .int (jx_i l1)), (2, .int (jx_i l2)), (10, .int (jx_i l10)), (11, .int (jx_i l11)), (12, .int (jx_i l12))] → W p l e (jx_rm 5 119) s m args below meth c H locs 0 0 QQ (F0 m 512 ls [.int (jx_i t0)]) := by
        intro sB sS l10 l11 l12 t0 h H locs hP hD hS ls hl
        unfold wp_L_isSeen_512 at h
        refine lv_istore (lv' := [(9, .int (jx_i t0)), (0, .ref (aB 0)), (1, .int (jx_i l1)), (2, .int (jx_i l2)), (10, .int (jx_i l10)), (11, .int (jx_i l11)), (12, .int (jx_i l12))]) hx hb dL_isSeen_512 hl (by decide) rfl (fun ls hl => ?_)
        refine lv_iload hx hb dL_isSeen_514 (lv_at hl 4 rfl) ?_
        refine jx_iconst C dL_isSeen_516 ?_
        refine lv_iload hx hb dL_isSeen_517 (lv_at hl 6 rfl) ?_
        refine jx_ishl C dL_isSeen_519 ?_
        refine jx_ior C dL_isSeen_520 ?_
        refine lv_istore (lv' := [(10, .int (jx_i (jx_or l10 (jx_shl 1 l12)))), (9, .int (jx_i t0)), (0, .ref (aB 0)), (1, .int (jx_i l1)), (2, .int (jx_i l2)), (11, .int (jx_i l11)), (12, .int (jx_i l12))]) hx hb dL_isSeen_521 hl (by decide) rfl (fun ls hl => ?_)
        refine jx_iinc C (lv' := [(11, .int (jx_i (l11 + 1))), (10, .int (jx_i (jx_or l10 (jx_shl 1 l12)))), (9, .int (jx_i t0)), (0, .ref (aB 0)), (1, .int (jx_i l1)), (2, .int (jx_i l2)), (12, .int (jx_i l12))]) dL_isSeen_523 hl (k := 5) rfl (by decide) rfl (fun ls hl => ?_)
        refine lv_goto (tgt := 304) hx hb dL_isSeen_526 (by decide) ?_
        exact ih sB sS t0 (jx_or l10 (jx_shl 1 l12)) (l11 + 1) h _ _ hP hD hS ls (lv_sub hl [3, 4, 5, 2, 1, 0] rfl)
      have J511 : ∀ (sB : jx_St) (sS : jx_St) (l10 : Int) (l11 : Int) (l12 : Int), wp_L_isSeen_511 Q sC sT sH sO l1 l2 l3 l4 B304 sB sS l10 l11 l12 → ∀ (H : Heap) (locs : List Loc), va_P D vwCl (jx_ws cI cT [(cp_B aB (aT 0) (aS 0) (aC 0) (aU 0) (aV 0) (aW 0) (aH 0) (aO 0), sB), (cp_C aC (aT 0) (aS 0), sC), (cp_S aS (aT 0), sS), (cp_T aT, sT), (cp_H aH (fun j => hT j 0), sH), (cp_O aO, sO)]) H → va_D A (jx_ws cI cT [(cp_B aB (aT 0) (aS 0) (aC 0) (aU 0) (aV 0) (aW 0) (aH 0) (aO 0), sB), (cp_C aC (aT 0) (aS 0), sC), (cp_S aS (aT 0), sS), (cp_T aT, sT), (cp_H aH (fun j => hT j 0), sH), (cp_O aO, sO)]) → va_S A s.heap H locs → ∀ ls : Array Slot, lv_has ls 17 [(0, .ref (aB 0)), (1, .int (jx_i l1)), (2, .int (jx_i l2)), (10, .int (jx_i l10)), (11, .int (jx_i l11)), (12, .int (jx_i l12))] → W p l e (jx_rm 5 119) s m args below meth c H locs 0 0 QQ (F0 m 511 ls []) := by
        intro sB sS l10 l11 l12 h H locs hP hD hS ls hl
        unfold wp_L_isSeen_511 at h
        refine jx_iconst C dL_isSeen_511 ?_
        exact J512 sB sS l10 l11 l12 0 h _ _ hP hD hS ls (lv_sub hl [0, 1, 2, 3, 4, 5] rfl)
      have J473 : ∀ (sB : jx_St) (sS : jx_St) (l10 : Int) (l11 : Int) (l12 : Int), wp_L_isSeen_473 Q sC sT sH sO l1 l2 l3 l4 B304 sB sS l10 l11 l12 → ∀ (H : Heap) (locs : List Loc), va_P D vwCl (jx_ws cI cT [(cp_B aB (aT 0) (aS 0) (aC 0) (aU 0) (aV 0) (aW 0) (aH 0) (aO 0), sB), (cp_C aC (aT 0) (aS 0), sC), (cp_S aS (aT 0), sS), (cp_T aT, sT), (cp_H aH (fun j => hT j 0), sH), (cp_O aO, sO)]) H → va_D A (jx_ws cI cT [(cp_B aB (aT 0) (aS 0) (aC 0) (aU 0) (aV 0) (aW 0) (aH 0) (aO 0), sB), (cp_C aC (aT 0) (aS 0), sC), (cp_S aS (aT 0), sS), (cp_T aT, sT), (cp_H aH (fun j => hT j 0), sH), (cp_O aO, sO)]) → va_S A s.heap H locs → ∀ ls : Array Slot, lv_has ls 17 [(0, .ref (aB 0)), (1, .int (jx_i l1)), (2, .int (jx_i l2)), (10, .int (jx_i l10)), (11, .int (jx_i l11)), (12, .int (jx_i l12))] → W p l e (jx_rm 5 119) s m args below meth c H locs 0 0 QQ (F0 m 473 ls []) := by
        intro sB sS l10 l11 l12 h H locs hP hD hS ls hl
        unfold wp_L_isSeen_473 at h
        refine lv_aload_n hx hb dL_isSeen_473 rfl (lv_at hl 0 rfl) ?_
        refine lv_iload_n hx hb dL_isSeen_474 rfl (lv_at hl 1 rfl) ?_
        refine lv_iload_n hx hb dL_isSeen_475 rfl (lv_at hl 2 rfl) ?_
        refine lv_iload hx hb dL_isSeen_476 (lv_at hl 4 rfl) ?_
        refine jx_iconst C dL_isSeen_478 ?_
        refine jx_callVI C hK hP hD hS hA (ct_B_nearest l D cI cT aB aC aS aT aW aV aU aH hT aO _ sB sS sT l1 l2 l11 2 h) ms_X7_nearest lk_L_54 [0, 2, 3] rfl rfl (fun _ => rfl) (cs' := (fun u => [(cp_B aB (aT 0) (aS 0) (aC 0) (aU 0) (aV 0) (aW 0) (aH 0) (aO 0), u.1), (cp_C aC (aT 0) (aS 0), sC), (cp_S aS (aT 0), u.2), (cp_T aT, sT), (cp_H aH (fun j => hT j 0), sH), (cp_O aO, sO)])) (fun _ => rfl) (fun _ => rfl) 0 0 rfl rfl rfl rfl rfl hl.1 rfl rfl dL_isSeen_479 ⟨Nat.le_refl _, Nat.le_refl _⟩ (fun r479 u H locs h hP hD hS => ?_)
        obtain ⟨sB_479, sS_479⟩ := u
        dsimp only at h
        have hP : va_P D vwCl (jx_ws cI cT [(cp_B aB (aT 0) (aS 0) (aC 0) (aU 0) (aV 0) (aW 0) (aH 0) (aO 0), sB_479), (cp_C aC (aT 0) (aS 0), sC), (cp_S aS (aT 0), sS_479), (cp_T aT, sT), (cp_H aH (fun j => hT j 0), sH), (cp_O aO, sO)]) H := hP
        have hD : va_D A (jx_ws cI cT [(cp_B aB (aT 0) (aS 0) (aC 0) (aU 0) (aV 0) (aW 0) (aH 0) (aO 0), sB_479), (cp_C aC (aT 0) (aS 0), sC), (cp_S aS (aT 0), sS_479), (cp_T aT, sT), (cp_H aH (fun j => hT j 0), sH), (cp_O aO, sO)]) := hD
        refine lv_aload_n hx hb dL_isSeen_482 rfl (lv_at hl 0 rfl) ?_
        refine jx_iconst C dL_isSeen_483 ?_
        refine jx_callVI C hK hP hD hS hA (ct_B_count l D cI cT aB aC aS aT aW aV aU aH hT aO _ sB_479 sC sS_479 sT sH sO 1 h) ms_X7_count lk_L_13 [0, 1, 2, 3, 4, 5] rfl rfl (fun _ => rfl) (cs' := (fun u => [(cp_B aB (aT 0) (aS 0) (aC 0) (aU 0) (aV 0) (aW 0) (aH 0) (aO 0), sB_479), (cp_C aC (aT 0) (aS 0), sC), (cp_S aS (aT 0), u), (cp_T aT, sT), (cp_H aH (fun j => hT j 0), sH), (cp_O aO, sO)])) (fun _ => rfl) (fun _ => rfl) 0 0 rfl rfl rfl rfl rfl hl.1 rfl rfl dL_isSeen_484 ⟨Nat.le_refl _, Nat.le_refl _⟩ (fun r484 sS_484 H locs h hP hD hS => ?_)
        have hP : va_P D vwCl (jx_ws cI cT [(cp_B aB (aT 0) (aS 0) (aC 0) (aU 0) (aV 0) (aW 0) (aH 0) (aO 0), sB_479), (cp_C aC (aT 0) (aS 0), sC), (cp_S aS (aT 0), sS_484), (cp_T aT, sT), (cp_H aH (fun j => hT j 0), sH), (cp_O aO, sO)]) H := hP
        have hD : va_D A (jx_ws cI cT [(cp_B aB (aT 0) (aS 0) (aC 0) (aU 0) (aV 0) (aW 0) (aH 0) (aO 0), sB_479), (cp_C aC (aT 0) (aS 0), sC), (cp_S aS (aT 0), sS_484), (cp_T aT, sT), (cp_H aH (fun j => hT j 0), sH), (cp_O aO, sO)]) := hD
        refine jx_clt C h.1 h.2.1 (tgt := 511) dL_isSeen_487 (by decide) (fun hc => ?_) (fun hc => ?_)
        · have h := h.2.2.1 hc
          exact J511 sB_479 sS_484 l10 l11 l12 h _ _ hP hD hS ls (lv_sub hl [0, 1, 2, 3, 4, 5] rfl)
        · have h := h.2.2.2 hc
          refine lv_aload_n hx hb dL_isSeen_490 rfl (lv_at hl 0 rfl) ?_
          refine lv_iload_n hx hb dL_isSeen_491 rfl (lv_at hl 1 rfl) ?_
          refine lv_iload_n hx hb dL_isSeen_492 rfl (lv_at hl 2 rfl) ?_
          refine lv_iload hx hb dL_isSeen_493 (lv_at hl 4 rfl) ?_
          refine jx_iconst C dL_isSeen_495 ?_
          refine jx_callVI C hK hP hD hS hA (ct_B_nearest l D cI cT aB aC aS aT aW aV aU aH hT aO _ sB_479 sS_484 sT l1 l2 l11 2 h) ms_X7_nearest lk_L_54 [0, 2, 3] rfl rfl (fun _ => rfl) (cs' := (fun u => [(cp_B aB (aT 0) (aS 0) (aC 0) (aU 0) (aV 0) (aW 0) (aH 0) (aO 0), u.1), (cp_C aC (aT 0) (aS 0), sC), (cp_S aS (aT 0), u.2), (cp_T aT, sT), (cp_H aH (fun j => hT j 0), sH), (cp_O aO, sO)])) (fun _ => rfl) (fun _ => rfl) 0 0 rfl rfl rfl rfl rfl hl.1 rfl rfl dL_isSeen_496 ⟨Nat.le_refl _, Nat.le_refl _⟩ (fun r496 u H locs h hP hD hS => ?_)
          obtain ⟨sB_496, sS_496⟩ := u
          dsimp only at h
          have hP : va_P D vwCl (jx_ws cI cT [(cp_B aB (aT 0) (aS 0) (aC 0) (aU 0) (aV 0) (aW 0) (aH 0) (aO 0), sB_496), (cp_C aC (aT 0) (aS 0), sC), (cp_S aS (aT 0), sS_496), (cp_T aT, sT), (cp_H aH (fun j => hT j 0), sH), (cp_O aO, sO)]) H := hP
          have hD : va_D A (jx_ws cI cT [(cp_B aB (aT 0) (aS 0) (aC 0) (aU 0) (aV 0) (aW 0) (aH 0) (aO 0), sB_496), (cp_C aC (aT 0) (aS 0), sC), (cp_S aS (aT 0), sS_496), (cp_T aT, sT), (cp_H aH (fun j => hT j 0), sH), (cp_O aO, sO)]) := hD
          refine lv_aload_n hx hb dL_isSeen_499 rfl (lv_at hl 0 rfl) ?_
          refine jx_iconst C dL_isSeen_500 ?_
          refine jx_callVI C hK hP hD hS hA (ct_B_count l D cI cT aB aC aS aT aW aV aU aH hT aO _ sB_496 sC sS_496 sT sH sO 2 h) ms_X7_count lk_L_13 [0, 1, 2, 3, 4, 5] rfl rfl (fun _ => rfl) (cs' := (fun u => [(cp_B aB (aT 0) (aS 0) (aC 0) (aU 0) (aV 0) (aW 0) (aH 0) (aO 0), sB_496), (cp_C aC (aT 0) (aS 0), sC), (cp_S aS (aT 0), u), (cp_T aT, sT), (cp_H aH (fun j => hT j 0), sH), (cp_O aO, sO)])) (fun _ => rfl) (fun _ => rfl) 0 0 rfl rfl rfl rfl rfl hl.1 rfl rfl dL_isSeen_501 ⟨Nat.le_refl _, Nat.le_refl _⟩ (fun r501 sS_501 H locs h hP hD hS => ?_)
          have hP : va_P D vwCl (jx_ws cI cT [(cp_B aB (aT 0) (aS 0) (aC 0) (aU 0) (aV 0) (aW 0) (aH 0) (aO 0), sB_496), (cp_C aC (aT 0) (aS 0), sC), (cp_S aS (aT 0), sS_501), (cp_T aT, sT), (cp_H aH (fun j => hT j 0), sH), (cp_O aO, sO)]) H := hP
          have hD : va_D A (jx_ws cI cT [(cp_B aB (aT 0) (aS 0) (aC 0) (aU 0) (aV 0) (aW 0) (aH 0) (aO 0), sB_496), (cp_C aC (aT 0) (aS 0), sC), (cp_S aS (aT 0), sS_501), (cp_T aT, sT), (cp_H aH (fun j => hT j 0), sH), (cp_O aO, sO)]) := hD
          refine jx_cgt C h.1 h.2.1 (tgt := 511) dL_isSeen_504 (by decide) (fun hc => ?_) (fun hc => ?_)
          · have h := h.2.2.2 hc
            exact J511 sB_496 sS_501 l10 l11 l12 h _ _ hP hD hS ls (lv_sub hl [0, 1, 2, 3, 4, 5] rfl)
          · have h := h.2.2.1 hc
            refine jx_iconst C dL_isSeen_507 ?_
            refine lv_goto (tgt := 512) hx hb dL_isSeen_508 (by decide) ?_
            exact J512 sB_496 sS_501 l10 l11 l12 1 h _ _ hP hD hS ls (lv_sub hl [0, 1, 2, 3, 4, 5] rfl)
      have J415 : ∀ (sB : jx_St) (sS : jx_St) (l10 : Int) (l11 : Int) (l12 : Int) (l13 : Int) (l14 : Int) (l15 : Int) (t0 : Int), wp_L_isSeen_415 Q sC sT sH sO l1 l2 l3 l4 B304 sB sS l10 l11 l12 l13 l14 l15 t0 → ∀ (H : Heap) (locs : List Loc), va_P D vwCl (jx_ws cI cT [(cp_B aB (aT 0) (aS 0) (aC 0) (aU 0) (aV 0) (aW 0) (aH 0) (aO 0), sB), (cp_C aC (aT 0) (aS 0), sC), (cp_S aS (aT 0), sS), (cp_T aT, sT), (cp_H aH (fun j => hT j 0), sH), (cp_O aO, sO)]) H → va_D A (jx_ws cI cT [(cp_B aB (aT 0) (aS 0) (aC 0) (aU 0) (aV 0) (aW 0) (aH 0) (aO 0), sB), (cp_C aC (aT 0) (aS 0), sC), (cp_S aS (aT 0), sS), (cp_T aT, sT), (cp_H aH (fun j => hT j 0), sH), (cp_O aO, sO)]) → va_S A s.heap H locs → ∀ ls : Array Slot, lv_has ls 17 [(0, .ref (aB 0)), (1, .int (jx_i l1)), (2, .int (jx_i l2)), (10, .int (jx_i l10)), (11, .int (jx_i l11)), (12, .int (jx_i l12)), (13, .int (jx_i l13)), (14, .int (jx_i l14)), (15, .int (jx_i l15))] → W p l e (jx_rm 5 119) s m args below meth c H locs 0 0 QQ (F0 m 415 ls [.int (jx_i t0)]) := by
        intro sB sS l10 l11 l12 l13 l14 l15 t0 h H locs hP hD hS ls hl
        unfold wp_L_isSeen_415 at h
        refine lv_istore (lv' := [(16, .int (jx_i t0)), (0, .ref (aB 0)), (1, .int (jx_i l1)), (2, .int (jx_i l2)), (10, .int (jx_i l10)), (11, .int (jx_i l11)), (12, .int (jx_i l12)), (13, .int (jx_i l13)), (14, .int (jx_i l14)), (15, .int (jx_i l15))]) hx hb dL_isSeen_415 hl (by decide) rfl (fun ls hl => ?_)
        refine lv_iload hx hb dL_isSeen_417 (lv_at hl 4 rfl) ?_
        refine lv_iload hx hb dL_isSeen_419 (lv_at hl 6 rfl) ?_
        refine jx_ishr C dL_isSeen_421 ?_
        refine jx_iconst C dL_isSeen_422 ?_
        refine jx_iand C dL_isSeen_423 ?_
        refine jx_zne C h.1 (tgt := 511) dL_isSeen_424 (by decide) (fun hc => ?_) (fun hc => ?_)
        · have h := h.2.2 hc
          exact J511 sB sS l10 l11 l12 h _ _ hP hD hS ls (lv_sub hl [1, 2, 3, 4, 5, 6] rfl)
        · have h := h.2.1 hc
          refine lv_iload hx hb dL_isSeen_427 (lv_at hl 7 rfl) ?_
          refine lv_iload hx hb dL_isSeen_429 (lv_at hl 8 rfl) ?_
          refine lv_iload hx hb dL_isSeen_431 (lv_at hl 8 rfl) ?_
          refine jx_imul C dL_isSeen_433 ?_
          refine lv_iload hx hb dL_isSeen_434 (lv_at hl 9 rfl) ?_
          refine lv_iload hx hb dL_isSeen_436 (lv_at hl 9 rfl) ?_
          refine jx_imul C dL_isSeen_438 ?_
          refine jx_iadd C dL_isSeen_439 ?_
          refine jx_ene C h.1 (tgt := 511) dL_isSeen_440 (by decide) (fun hc => ?_) (fun hc => ?_)
          · have h := h.2.2 hc
            exact J511 sB sS l10 l11 l12 h _ _ hP hD hS ls (lv_sub hl [1, 2, 3, 4, 5, 6] rfl)
          · have h := h.2.1 hc
            refine lv_iload hx hb dL_isSeen_443 (lv_at hl 7 rfl) ?_
            refine lv_iload hx hb dL_isSeen_445 (lv_at hl 0 rfl) ?_
            refine jx_cgt C h.1 h.2.1 (tgt := 473) dL_isSeen_447 (by decide) (fun hc => ?_) (fun hc => ?_)
            · have h := h.2.2.2 hc
              exact J473 sB sS l10 l11 l12 h _ _ hP hD hS ls (lv_sub hl [1, 2, 3, 4, 5, 6] rfl)
            · have h := h.2.2.1 hc
              refine lv_iload hx hb dL_isSeen_450 (lv_at hl 7 rfl) ?_
              refine lv_iload hx hb dL_isSeen_452 (lv_at hl 0 rfl) ?_
              refine jx_ene C h.1 (tgt := 511) dL_isSeen_454 (by decide) (fun hc => ?_) (fun hc => ?_)
              · have h := h.2.2 hc
                exact J511 sB sS l10 l11 l12 h _ _ hP hD hS ls (lv_sub hl [1, 2, 3, 4, 5, 6] rfl)
              · have h := h.2.1 hc
                refine lv_iload hx hb dL_isSeen_457 (lv_at hl 6 rfl) ?_
                refine lv_aload_n hx hb dL_isSeen_459 rfl (lv_at hl 1 rfl) ?_
                refine lv_iload_n hx hb dL_isSeen_460 rfl (lv_at hl 2 rfl) ?_
                refine lv_iload_n hx hb dL_isSeen_461 rfl (lv_at hl 3 rfl) ?_
                refine lv_iload hx hb dL_isSeen_462 (lv_at hl 5 rfl) ?_
                refine jx_iconst C dL_isSeen_464 ?_
                refine jx_isub C dL_isSeen_465 ?_
                refine jx_iconst C dL_isSeen_466 ?_
                refine jx_callVI C hK hP hD hS hA (ct_B_nearest l D cI cT aB aC aS aT aW aV aU aH hT aO _ sB sS sT l1 l2 (l11 - 1) 0 h) ms_X7_nearest lk_L_54 [0, 2, 3] rfl rfl (fun _ => rfl) (cs' := (fun u => [(cp_B aB (aT 0) (aS 0) (aC 0) (aU 0) (aV 0) (aW 0) (aH 0) (aO 0), u.1), (cp_C aC (aT 0) (aS 0), sC), (cp_S aS (aT 0), u.2), (cp_T aT, sT), (cp_H aH (fun j => hT j 0), sH), (cp_O aO, sO)])) (fun _ => rfl) (fun _ => rfl) 0 0 rfl rfl rfl rfl rfl hl.1 rfl rfl dL_isSeen_467 ⟨Nat.le_refl _, Nat.le_refl _⟩ (fun r467 u H locs h hP hD hS => ?_)
                obtain ⟨sB_467, sS_467⟩ := u
                dsimp only at h
                have hP : va_P D vwCl (jx_ws cI cT [(cp_B aB (aT 0) (aS 0) (aC 0) (aU 0) (aV 0) (aW 0) (aH 0) (aO 0), sB_467), (cp_C aC (aT 0) (aS 0), sC), (cp_S aS (aT 0), sS_467), (cp_T aT, sT), (cp_H aH (fun j => hT j 0), sH), (cp_O aO, sO)]) H := hP
                have hD : va_D A (jx_ws cI cT [(cp_B aB (aT 0) (aS 0) (aC 0) (aU 0) (aV 0) (aW 0) (aH 0) (aO 0), sB_467), (cp_C aC (aT 0) (aS 0), sC), (cp_S aS (aT 0), sS_467), (cp_T aT, sT), (cp_H aH (fun j => hT j 0), sH), (cp_O aO, sO)]) := hD
                refine jx_cle C h.1 h.2.1 (tgt := 511) dL_isSeen_470 (by decide) (fun hc => ?_) (fun hc => ?_)
                · have h := h.2.2.1 hc
                  exact J511 sB_467 sS_467 l10 l11 l12 h _ _ hP hD hS ls (lv_sub hl [1, 2, 3, 4, 5, 6] rfl)
                · have h := h.2.2.2 hc
                  exact J473 sB_467 sS_467 l10 l11 l12 h _ _ hP hD hS ls (lv_sub hl [1, 2, 3, 4, 5, 6] rfl)
      refine lv_iload hx hb dL_isSeen_304 (lv_at hl 5 rfl) ?_
      refine lv_aload_n hx hb dL_isSeen_306 rfl (lv_at hl 0 rfl) ?_
      refine jx_iconst C dL_isSeen_307 ?_
      refine jx_callVI C hK hP hD hS hA (ct_B_count l D cI cT aB aC aS aT aW aV aU aH hT aO _ sB sC sS sT sH sO 0 h) ms_X7_count lk_L_13 [0, 1, 2, 3, 4, 5] rfl rfl (fun _ => rfl) (cs' := (fun u => [(cp_B aB (aT 0) (aS 0) (aC 0) (aU 0) (aV 0) (aW 0) (aH 0) (aO 0), sB), (cp_C aC (aT 0) (aS 0), sC), (cp_S aS (aT 0), u), (cp_T aT, sT), (cp_H aH (fun j => hT j 0), sH), (cp_O aO, sO)])) (fun _ => rfl) (fun _ => rfl) 0 0 rfl rfl rfl rfl rfl hl.1 rfl rfl dL_isSeen_308 ⟨Nat.le_refl _, Nat.le_refl _⟩ (fun r308 sS_308 H locs h hP hD hS => ?_)
      have hP : va_P D vwCl (jx_ws cI cT [(cp_B aB (aT 0) (aS 0) (aC 0) (aU 0) (aV 0) (aW 0) (aH 0) (aO 0), sB), (cp_C aC (aT 0) (aS 0), sC), (cp_S aS (aT 0), sS_308), (cp_T aT, sT), (cp_H aH (fun j => hT j 0), sH), (cp_O aO, sO)]) H := hP
      have hD : va_D A (jx_ws cI cT [(cp_B aB (aT 0) (aS 0) (aC 0) (aU 0) (aV 0) (aW 0) (aH 0) (aO 0), sB), (cp_C aC (aT 0) (aS 0), sC), (cp_S aS (aT 0), sS_308), (cp_T aT, sT), (cp_H aH (fun j => hT j 0), sH), (cp_O aO, sO)]) := hD
      refine jx_cge C h.1 h.2.1 (tgt := 529) dL_isSeen_311 (by decide) (fun hc => ?_) (fun hc => ?_)
      · have h := h.2.2.2 hc
        refine lv_iload hx hb dL_isSeen_529 (lv_at hl 3 rfl) ?_
        exact jx_rZ C hr hlk hAe hS hQQ h.1 (sB, sS_308) hP h.2 dL_isSeen_531
      · have h := h.2.2.1 hc
        refine lv_iload hx hb dL_isSeen_314 (lv_at hl 3 rfl) ?_
        refine jx_zeq C h.1 (tgt := 529) dL_isSeen_316 (by decide) (fun hc => ?_) (fun hc => ?_)
        · have h := h.2.1 hc
          refine lv_iload hx hb dL_isSeen_529 (lv_at hl 3 rfl) ?_
          exact jx_rZ C hr hlk hAe hS hQQ h.1 (sB, sS_308) hP h.2 dL_isSeen_531
        · have h := h.2.2 hc
          refine lv_aload_n hx hb dL_isSeen_319 rfl (lv_at hl 0 rfl) ?_
          refine lv_iload_n hx hb dL_isSeen_320 rfl (lv_at hl 1 rfl) ?_
          refine lv_iload_n hx hb dL_isSeen_321 rfl (lv_at hl 2 rfl) ?_
          refine lv_iload hx hb dL_isSeen_322 (lv_at hl 5 rfl) ?_
          refine jx_iconst C dL_isSeen_324 ?_
          refine jx_callVI C hK hP hD hS hA (ct_B_nearest l D cI cT aB aC aS aT aW aV aU aH hT aO _ sB sS_308 sT l1 l2 l11 0 h) ms_X7_nearest lk_L_54 [0, 2, 3] rfl rfl (fun _ => rfl) (cs' := (fun u => [(cp_B aB (aT 0) (aS 0) (aC 0) (aU 0) (aV 0) (aW 0) (aH 0) (aO 0), u.1), (cp_C aC (aT 0) (aS 0), sC), (cp_S aS (aT 0), u.2), (cp_T aT, sT), (cp_H aH (fun j => hT j 0), sH), (cp_O aO, sO)])) (fun _ => rfl) (fun _ => rfl) 0 0 rfl rfl rfl rfl rfl hl.1 rfl rfl dL_isSeen_325 ⟨Nat.le_refl _, Nat.le_refl _⟩ (fun r325 u H locs h hP hD hS => ?_)
          obtain ⟨sB_325, sS_325⟩ := u
          dsimp only at h
          have hP : va_P D vwCl (jx_ws cI cT [(cp_B aB (aT 0) (aS 0) (aC 0) (aU 0) (aV 0) (aW 0) (aH 0) (aO 0), sB_325), (cp_C aC (aT 0) (aS 0), sC), (cp_S aS (aT 0), sS_325), (cp_T aT, sT), (cp_H aH (fun j => hT j 0), sH), (cp_O aO, sO)]) H := hP
          have hD : va_D A (jx_ws cI cT [(cp_B aB (aT 0) (aS 0) (aC 0) (aU 0) (aV 0) (aW 0) (aH 0) (aO 0), sB_325), (cp_C aC (aT 0) (aS 0), sC), (cp_S aS (aT 0), sS_325), (cp_T aT, sT), (cp_H aH (fun j => hT j 0), sH), (cp_O aO, sO)]) := hD
          refine lv_istore (lv' := [(12, .int (jx_i r325)), (0, .ref (aB 0)), (1, .int (jx_i l1)), (2, .int (jx_i l2)), (9, .int (jx_i l9)), (10, .int (jx_i l10)), (11, .int (jx_i l11))]) hx hb dL_isSeen_328 hl (by decide) rfl (fun ls hl => ?_)
          refine lv_aload_n hx hb dL_isSeen_330 rfl (lv_at hl 1 rfl) ?_
          refine lv_iload_n hx hb dL_isSeen_331 rfl (lv_at hl 2 rfl) ?_
          refine lv_iload_n hx hb dL_isSeen_332 rfl (lv_at hl 3 rfl) ?_
          refine lv_iload hx hb dL_isSeen_333 (lv_at hl 6 rfl) ?_
          refine jx_iconst C dL_isSeen_335 ?_
          refine jx_callVI C hK hP hD hS hA (ct_B_nearest l D cI cT aB aC aS aT aW aV aU aH hT aO _ sB_325 sS_325 sT l1 l2 l11 1 h) ms_X7_nearest lk_L_54 [0, 2, 3] rfl rfl (fun _ => rfl) (cs' := (fun u => [(cp_B aB (aT 0) (aS 0) (aC 0) (aU 0) (aV 0) (aW 0) (aH 0) (aO 0), u.1), (cp_C aC (aT 0) (aS 0), sC), (cp_S aS (aT 0), u.2), (cp_T aT, sT), (cp_H aH (fun j => hT j 0), sH), (cp_O aO, sO)])) (fun _ => rfl) (fun _ => rfl) 0 0 rfl rfl rfl rfl rfl hl.1 rfl rfl dL_isSeen_336 ⟨Nat.le_refl _, Nat.le_refl _⟩ (fun r336 u H locs h hP hD hS => ?_)
          obtain ⟨sB_336, sS_336⟩ := u
          dsimp only at h
          have hP : va_P D vwCl (jx_ws cI cT [(cp_B aB (aT 0) (aS 0) (aC 0) (aU 0) (aV 0) (aW 0) (aH 0) (aO 0), sB_336), (cp_C aC (aT 0) (aS 0), sC), (cp_S aS (aT 0), sS_336), (cp_T aT, sT), (cp_H aH (fun j => hT j 0), sH), (cp_O aO, sO)]) H := hP
          have hD : va_D A (jx_ws cI cT [(cp_B aB (aT 0) (aS 0) (aC 0) (aU 0) (aV 0) (aW 0) (aH 0) (aO 0), sB_336), (cp_C aC (aT 0) (aS 0), sC), (cp_S aS (aT 0), sS_336), (cp_T aT, sT), (cp_H aH (fun j => hT j 0), sH), (cp_O aO, sO)]) := hD
          refine lv_istore (lv' := [(13, .int (jx_i r336)), (12, .int (jx_i r325)), (0, .ref (aB 0)), (1, .int (jx_i l1)), (2, .int (jx_i l2)), (9, .int (jx_i l9)), (10, .int (jx_i l10)), (11, .int (jx_i l11))]) hx hb dL_isSeen_339 hl (by decide) rfl (fun ls hl => ?_)
          refine jx_iconst C dL_isSeen_341 ?_
          refine lv_aload_n hx hb dL_isSeen_342 rfl (lv_at hl 2 rfl) ?_
          refine lv_iload hx hb dL_isSeen_343 (lv_at hl 1 rfl) ?_
          refine jx_iconst C dL_isSeen_345 ?_
          refine jx_callVI C hK hP hD hS hA (ct_B_boxOf l D cI cT aB aC aS aT aW aV aU aH hT aO _ sB_336 sS_336 sT r325 0 h) ms_X7_boxOf lk_L_19 [0, 2, 3] rfl rfl (fun _ => rfl) (cs' := (fun u => [(cp_B aB (aT 0) (aS 0) (aC 0) (aU 0) (aV 0) (aW 0) (aH 0) (aO 0), sB_336), (cp_C aC (aT 0) (aS 0), sC), (cp_S aS (aT 0), u), (cp_T aT, sT), (cp_H aH (fun j => hT j 0), sH), (cp_O aO, sO)])) (fun _ => rfl) (fun _ => rfl) 0 0 rfl rfl rfl rfl rfl hl.1 rfl rfl dL_isSeen_346 ⟨Nat.le_refl _, Nat.le_refl _⟩ (fun r346 sS_346 H locs h hP hD hS => ?_)
          have hP : va_P D vwCl (jx_ws cI cT [(cp_B aB (aT 0) (aS 0) (aC 0) (aU 0) (aV 0) (aW 0) (aH 0) (aO 0), sB_336), (cp_C aC (aT 0) (aS 0), sC), (cp_S aS (aT 0), sS_346), (cp_T aT, sT), (cp_H aH (fun j => hT j 0), sH), (cp_O aO, sO)]) H := hP
          have hD : va_D A (jx_ws cI cT [(cp_B aB (aT 0) (aS 0) (aC 0) (aU 0) (aV 0) (aW 0) (aH 0) (aO 0), sB_336), (cp_C aC (aT 0) (aS 0), sC), (cp_S aS (aT 0), sS_346), (cp_T aT, sT), (cp_H aH (fun j => hT j 0), sH), (cp_O aO, sO)]) := hD
          refine lv_iload_n hx hb dL_isSeen_349 rfl (lv_at hl 3 rfl) ?_
          refine jx_isub C dL_isSeen_350 ?_
          refine lv_iload_n hx hb dL_isSeen_351 rfl (lv_at hl 3 rfl) ?_
          refine lv_aload_n hx hb dL_isSeen_352 rfl (lv_at hl 2 rfl) ?_
          refine lv_iload hx hb dL_isSeen_353 (lv_at hl 1 rfl) ?_
          refine jx_iconst C dL_isSeen_355 ?_
          refine jx_callVI C hK hP hD hS hA (ct_B_boxOf l D cI cT aB aC aS aT aW aV aU aH hT aO _ sB_336 sS_346 sT r325 2 h) ms_X7_boxOf lk_L_19 [0, 2, 3] rfl rfl (fun _ => rfl) (cs' := (fun u => [(cp_B aB (aT 0) (aS 0) (aC 0) (aU 0) (aV 0) (aW 0) (aH 0) (aO 0), sB_336), (cp_C aC (aT 0) (aS 0), sC), (cp_S aS (aT 0), u), (cp_T aT, sT), (cp_H aH (fun j => hT j 0), sH), (cp_O aO, sO)])) (fun _ => rfl) (fun _ => rfl) 0 0 rfl rfl rfl rfl rfl hl.1 rfl rfl dL_isSeen_356 ⟨Nat.le_refl _, Nat.le_refl _⟩ (fun r356 sS_356 H locs h hP hD hS => ?_)
          have hP : va_P D vwCl (jx_ws cI cT [(cp_B aB (aT 0) (aS 0) (aC 0) (aU 0) (aV 0) (aW 0) (aH 0) (aO 0), sB_336), (cp_C aC (aT 0) (aS 0), sC), (cp_S aS (aT 0), sS_356), (cp_T aT, sT), (cp_H aH (fun j => hT j 0), sH), (cp_O aO, sO)]) H := hP
          have hD : va_D A (jx_ws cI cT [(cp_B aB (aT 0) (aS 0) (aC 0) (aU 0) (aV 0) (aW 0) (aH 0) (aO 0), sB_336), (cp_C aC (aT 0) (aS 0), sC), (cp_S aS (aT 0), sS_356), (cp_T aT, sT), (cp_H aH (fun j => hT j 0), sH), (cp_O aO, sO)]) := hD
          refine jx_isub C dL_isSeen_359 ?_
          refine jx_callSI C hK hP hD hS hA (ct_L_greater l D cI cT  _  (r346 - l1) (l1 - r356) h) ms_L_greater lk_L_74 [] rfl rfl (fun _ => rfl) (cs' := (fun _ => [(cp_B aB (aT 0) (aS 0) (aC 0) (aU 0) (aV 0) (aW 0) (aH 0) (aO 0), sB_336), (cp_C aC (aT 0) (aS 0), sC), (cp_S aS (aT 0), sS_356), (cp_T aT, sT), (cp_H aH (fun j => hT j 0), sH), (cp_O aO, sO)])) (fun _ => rfl) (fun _ => rfl) rfl rfl hl.1 rfl rfl dL_isSeen_360 ⟨Nat.le_refl _, Nat.le_refl _⟩ (fun r360 _ H locs h hP hD hS => ?_)
          have hP : va_P D vwCl (jx_ws cI cT [(cp_B aB (aT 0) (aS 0) (aC 0) (aU 0) (aV 0) (aW 0) (aH 0) (aO 0), sB_336), (cp_C aC (aT 0) (aS 0), sC), (cp_S aS (aT 0), sS_356), (cp_T aT, sT), (cp_H aH (fun j => hT j 0), sH), (cp_O aO, sO)]) H := hP
          have hD : va_D A (jx_ws cI cT [(cp_B aB (aT 0) (aS 0) (aC 0) (aU 0) (aV 0) (aW 0) (aH 0) (aO 0), sB_336), (cp_C aC (aT 0) (aS 0), sC), (cp_S aS (aT 0), sS_356), (cp_T aT, sT), (cp_H aH (fun j => hT j 0), sH), (cp_O aO, sO)]) := hD
          refine jx_callSI C hK hP hD hS hA (ct_L_greater l D cI cT  _  0 r360 h) ms_L_greater lk_L_74 [] rfl rfl (fun _ => rfl) (cs' := (fun _ => [(cp_B aB (aT 0) (aS 0) (aC 0) (aU 0) (aV 0) (aW 0) (aH 0) (aO 0), sB_336), (cp_C aC (aT 0) (aS 0), sC), (cp_S aS (aT 0), sS_356), (cp_T aT, sT), (cp_H aH (fun j => hT j 0), sH), (cp_O aO, sO)])) (fun _ => rfl) (fun _ => rfl) rfl rfl hl.1 rfl rfl dL_isSeen_363 ⟨Nat.le_refl _, Nat.le_refl _⟩ (fun r363 _ H locs h hP hD hS => ?_)
          have hP : va_P D vwCl (jx_ws cI cT [(cp_B aB (aT 0) (aS 0) (aC 0) (aU 0) (aV 0) (aW 0) (aH 0) (aO 0), sB_336), (cp_C aC (aT 0) (aS 0), sC), (cp_S aS (aT 0), sS_356), (cp_T aT, sT), (cp_H aH (fun j => hT j 0), sH), (cp_O aO, sO)]) H := hP
          have hD : va_D A (jx_ws cI cT [(cp_B aB (aT 0) (aS 0) (aC 0) (aU 0) (aV 0) (aW 0) (aH 0) (aO 0), sB_336), (cp_C aC (aT 0) (aS 0), sC), (cp_S aS (aT 0), sS_356), (cp_T aT, sT), (cp_H aH (fun j => hT j 0), sH), (cp_O aO, sO)]) := hD
          refine lv_istore (lv' := [(14, .int (jx_i r363)), (13, .int (jx_i r336)), (12, .int (jx_i r325)), (0, .ref (aB 0)), (1, .int (jx_i l1)), (2, .int (jx_i l2)), (9, .int (jx_i l9)), (10, .int (jx_i l10)), (11, .int (jx_i l11))]) hx hb dL_isSeen_366 hl (by decide) rfl (fun ls hl => ?_)
          refine jx_iconst C dL_isSeen_368 ?_
          refine lv_aload_n hx hb dL_isSeen_369 rfl (lv_at hl 3 rfl) ?_
          refine lv_iload hx hb dL_isSeen_370 (lv_at hl 2 rfl) ?_
          refine jx_iconst C dL_isSeen_372 ?_
          refine jx_callVI C hK hP hD hS hA (ct_B_boxOf l D cI cT aB aC aS aT aW aV aU aH hT aO _ sB_336 sS_356 sT r325 1 h) ms_X7_boxOf lk_L_19 [0, 2, 3] rfl rfl (fun _ => rfl) (cs' := (fun u => [(cp_B aB (aT 0) (aS 0) (aC 0) (aU 0) (aV 0) (aW 0) (aH 0) (aO 0), sB_336), (cp_C aC (aT 0) (aS 0), sC), (cp_S aS (aT 0), u), (cp_T aT, sT), (cp_H aH (fun j => hT j 0), sH), (cp_O aO, sO)])) (fun _ => rfl) (fun _ => rfl) 0 0 rfl rfl rfl rfl rfl hl.1 rfl rfl dL_isSeen_373 ⟨Nat.le_refl _, Nat.le_refl _⟩ (fun r373 sS_373 H locs h hP hD hS => ?_)
          have hP : va_P D vwCl (jx_ws cI cT [(cp_B aB (aT 0) (aS 0) (aC 0) (aU 0) (aV 0) (aW 0) (aH 0) (aO 0), sB_336), (cp_C aC (aT 0) (aS 0), sC), (cp_S aS (aT 0), sS_373), (cp_T aT, sT), (cp_H aH (fun j => hT j 0), sH), (cp_O aO, sO)]) H := hP
          have hD : va_D A (jx_ws cI cT [(cp_B aB (aT 0) (aS 0) (aC 0) (aU 0) (aV 0) (aW 0) (aH 0) (aO 0), sB_336), (cp_C aC (aT 0) (aS 0), sC), (cp_S aS (aT 0), sS_373), (cp_T aT, sT), (cp_H aH (fun j => hT j 0), sH), (cp_O aO, sO)]) := hD
          refine lv_iload_n hx hb dL_isSeen_376 rfl (lv_at hl 5 rfl) ?_
          refine jx_isub C dL_isSeen_377 ?_
          refine lv_iload_n hx hb dL_isSeen_378 rfl (lv_at hl 5 rfl) ?_
          refine lv_aload_n hx hb dL_isSeen_379 rfl (lv_at hl 3 rfl) ?_
          refine lv_iload hx hb dL_isSeen_380 (lv_at hl 2 rfl) ?_
          refine jx_iconst C dL_isSeen_382 ?_
          refine jx_callVI C hK hP hD hS hA (ct_B_boxOf l D cI cT aB aC aS aT aW aV aU aH hT aO _ sB_336 sS_373 sT r325 3 h) ms_X7_boxOf lk_L_19 [0, 2, 3] rfl rfl (fun _ => rfl) (cs' := (fun u => [(cp_B aB (aT 0) (aS 0) (aC 0) (aU 0) (aV 0) (aW 0) (aH 0) (aO 0), sB_336), (cp_C aC (aT 0) (aS 0), sC), (cp_S aS (aT 0), u), (cp_T aT, sT), (cp_H aH (fun j => hT j 0), sH), (cp_O aO, sO)])) (fun _ => rfl) (fun _ => rfl) 0 0 rfl rfl rfl rfl rfl hl.1 rfl rfl dL_isSeen_383 ⟨Nat.le_refl _, Nat.le_refl _⟩ (fun r383 sS_383 H locs h hP hD hS => ?_)
          have hP : va_P D vwCl (jx_ws cI cT [(cp_B aB (aT 0) (aS 0) (aC 0) (aU 0) (aV 0) (aW 0) (aH 0) (aO 0), sB_336), (cp_C aC (aT 0) (aS 0), sC), (cp_S aS (aT 0), sS_383), (cp_T aT, sT), (cp_H aH (fun j => hT j 0), sH), (cp_O aO, sO)]) H := hP
          have hD : va_D A (jx_ws cI cT [(cp_B aB (aT 0) (aS 0) (aC 0) (aU 0) (aV 0) (aW 0) (aH 0) (aO 0), sB_336), (cp_C aC (aT 0) (aS 0), sC), (cp_S aS (aT 0), sS_383), (cp_T aT, sT), (cp_H aH (fun j => hT j 0), sH), (cp_O aO, sO)]) := hD
          refine jx_isub C dL_isSeen_386 ?_
          refine jx_callSI C hK hP hD hS hA (ct_L_greater l D cI cT  _  (r373 - l2) (l2 - r383) h) ms_L_greater lk_L_74 [] rfl rfl (fun _ => rfl) (cs' := (fun _ => [(cp_B aB (aT 0) (aS 0) (aC 0) (aU 0) (aV 0) (aW 0) (aH 0) (aO 0), sB_336), (cp_C aC (aT 0) (aS 0), sC), (cp_S aS (aT 0), sS_383), (cp_T aT, sT), (cp_H aH (fun j => hT j 0), sH), (cp_O aO, sO)])) (fun _ => rfl) (fun _ => rfl) rfl rfl hl.1 rfl rfl dL_isSeen_387 ⟨Nat.le_refl _, Nat.le_refl _⟩ (fun r387 _ H locs h hP hD hS => ?_)
          have hP : va_P D vwCl (jx_ws cI cT [(cp_B aB (aT 0) (aS 0) (aC 0) (aU 0) (aV 0) (aW 0) (aH 0) (aO 0), sB_336), (cp_C aC (aT 0) (aS 0), sC), (cp_S aS (aT 0), sS_383), (cp_T aT, sT), (cp_H aH (fun j => hT j 0), sH), (cp_O aO, sO)]) H := hP
          have hD : va_D A (jx_ws cI cT [(cp_B aB (aT 0) (aS 0) (aC 0) (aU 0) (aV 0) (aW 0) (aH 0) (aO 0), sB_336), (cp_C aC (aT 0) (aS 0), sC), (cp_S aS (aT 0), sS_383), (cp_T aT, sT), (cp_H aH (fun j => hT j 0), sH), (cp_O aO, sO)]) := hD
          refine jx_callSI C hK hP hD hS hA (ct_L_greater l D cI cT  _  0 r387 h) ms_L_greater lk_L_74 [] rfl rfl (fun _ => rfl) (cs' := (fun _ => [(cp_B aB (aT 0) (aS 0) (aC 0) (aU 0) (aV 0) (aW 0) (aH 0) (aO 0), sB_336), (cp_C aC (aT 0) (aS 0), sC), (cp_S aS (aT 0), sS_383), (cp_T aT, sT), (cp_H aH (fun j => hT j 0), sH), (cp_O aO, sO)])) (fun _ => rfl) (fun _ => rfl) rfl rfl hl.1 rfl rfl dL_isSeen_390 ⟨Nat.le_refl _, Nat.le_refl _⟩ (fun r390 _ H locs h hP hD hS => ?_)
          have hP : va_P D vwCl (jx_ws cI cT [(cp_B aB (aT 0) (aS 0) (aC 0) (aU 0) (aV 0) (aW 0) (aH 0) (aO 0), sB_336), (cp_C aC (aT 0) (aS 0), sC), (cp_S aS (aT 0), sS_383), (cp_T aT, sT), (cp_H aH (fun j => hT j 0), sH), (cp_O aO, sO)]) H := hP
          have hD : va_D A (jx_ws cI cT [(cp_B aB (aT 0) (aS 0) (aC 0) (aU 0) (aV 0) (aW 0) (aH 0) (aO 0), sB_336), (cp_C aC (aT 0) (aS 0), sC), (cp_S aS (aT 0), sS_383), (cp_T aT, sT), (cp_H aH (fun j => hT j 0), sH), (cp_O aO, sO)]) := hD
          refine lv_istore (lv' := [(15, .int (jx_i r390)), (14, .int (jx_i r363)), (13, .int (jx_i r336)), (12, .int (jx_i r325)), (0, .ref (aB 0)), (1, .int (jx_i l1)), (2, .int (jx_i l2)), (9, .int (jx_i l9)), (10, .int (jx_i l10)), (11, .int (jx_i l11))]) hx hb dL_isSeen_393 hl (by decide) rfl (fun ls hl => ?_)
          refine lv_iload hx hb dL_isSeen_395 (lv_at hl 9 rfl) ?_
          refine jx_zne C h.1 (tgt := 404) dL_isSeen_397 (by decide) (fun hc => ?_) (fun hc => ?_)
          · have h := h.2.2 hc
            refine lv_aload_n hx hb dL_isSeen_404 rfl (lv_at hl 4 rfl) ?_
            refine lv_iload_n hx hb dL_isSeen_405 rfl (lv_at hl 5 rfl) ?_
            refine lv_iload_n hx hb dL_isSeen_406 rfl (lv_at hl 6 rfl) ?_
            refine lv_iload hx hb dL_isSeen_407 (lv_at hl 9 rfl) ?_
            refine jx_iconst C dL_isSeen_409 ?_
            refine jx_isub C dL_isSeen_410 ?_
            refine jx_iconst C dL_isSeen_411 ?_
            refine jx_callVI C hK hP hD hS hA (ct_B_nearest l D cI cT aB aC aS aT aW aV aU aH hT aO _ sB_336 sS_383 sT l1 l2 (l11 - 1) 1 h) ms_X7_nearest lk_L_54 [0, 2, 3] rfl rfl (fun _ => rfl) (cs' := (fun u => [(cp_B aB (aT 0) (aS 0) (aC 0) (aU 0) (aV 0) (aW 0) (aH 0) (aO 0), u.1), (cp_C aC (aT 0) (aS 0), sC), (cp_S aS (aT 0), u.2), (cp_T aT, sT), (cp_H aH (fun j => hT j 0), sH), (cp_O aO, sO)])) (fun _ => rfl) (fun _ => rfl) 0 0 rfl rfl rfl rfl rfl hl.1 rfl rfl dL_isSeen_412 ⟨Nat.le_refl _, Nat.le_refl _⟩ (fun r412 u H locs h hP hD hS => ?_)
            obtain ⟨sB_412, sS_412⟩ := u
            dsimp only at h
            have hP : va_P D vwCl (jx_ws cI cT [(cp_B aB (aT 0) (aS 0) (aC 0) (aU 0) (aV 0) (aW 0) (aH 0) (aO 0), sB_412), (cp_C aC (aT 0) (aS 0), sC), (cp_S aS (aT 0), sS_412), (cp_T aT, sT), (cp_H aH (fun j => hT j 0), sH), (cp_O aO, sO)]) H := hP
            have hD : va_D A (jx_ws cI cT [(cp_B aB (aT 0) (aS 0) (aC 0) (aU 0) (aV 0) (aW 0) (aH 0) (aO 0), sB_412), (cp_C aC (aT 0) (aS 0), sC), (cp_S aS (aT 0), sS_412), (cp_T aT, sT), (cp_H aH (fun j => hT j 0), sH), (cp_O aO, sO)]) := hD
            exact J415 sB_412 sS_412 l10 l11 r325 r336 r363 r390 r412 h _ _ hP hD hS ls (lv_sub hl [4, 5, 6, 8, 9, 3, 2, 1, 0] rfl)
          · have h := h.2.1 hc
            refine jx_iconst C dL_isSeen_400 ?_
            refine lv_goto (tgt := 415) hx hb dL_isSeen_401 (by decide) ?_
            exact J415 sB_336 sS_383 l10 l11 r325 r336 r363 r390 (-1) h _ _ hP hD hS ls (lv_sub hl [4, 5, 6, 8, 9, 3, 2, 1, 0] rfl)
  have J296 : ∀ (sB : jx_St) (sS : jx_St) (t0 : Int), wp_L_isSeen_296 Q sC sT sH sO l1 l2 l3 l4 sB sS t0 → ∀ (H : Heap) (locs : List Loc), va_P D vwCl (jx_ws cI cT [(cp_B aB (aT 0) (aS 0) (aC 0) (aU 0) (aV 0) (aW 0) (aH 0) (aO 0), sB), (cp_C aC (aT 0) (aS 0), sC), (cp_S aS (aT 0), sS), (cp_T aT, sT), (cp_H aH (fun j => hT j 0), sH), (cp_O aO, sO)]) H → va_D A (jx_ws cI cT [(cp_B aB (aT 0) (aS 0) (aC 0) (aU 0) (aV 0) (aW 0) (aH 0) (aO 0), sB), (cp_C aC (aT 0) (aS 0), sC), (cp_S aS (aT 0), sS), (cp_T aT, sT), (cp_H aH (fun j => hT j 0), sH), (cp_O aO, sO)]) → va_S A s.heap H locs → ∀ ls : Array Slot, lv_has ls 17 [(0, .ref (aB 0)), (1, .int (jx_i l1)), (2, .int (jx_i l2))] → W p l e (jx_rm 5 119) s m args below meth c H locs 0 0 QQ (F0 m 296 ls [.int (jx_i t0)]) := by
    intro sB sS t0 h H locs hP hD hS ls hl
    unfold wp_L_isSeen_296 at h
    refine lv_istore (lv' := [(9, .int (jx_i t0)), (0, .ref (aB 0)), (1, .int (jx_i l1)), (2, .int (jx_i l2))]) hx hb dL_isSeen_296 hl (by decide) rfl (fun ls hl => ?_)
    refine jx_iconst C dL_isSeen_298 ?_
    refine lv_istore (lv' := [(10, .int (jx_i 0)), (9, .int (jx_i t0)), (0, .ref (aB 0)), (1, .int (jx_i l1)), (2, .int (jx_i l2))]) hx hb dL_isSeen_299 hl (by decide) rfl (fun ls hl => ?_)
    refine jx_iconst C dL_isSeen_301 ?_
    refine lv_istore (lv' := [(11, .int (jx_i 0)), (10, .int (jx_i 0)), (9, .int (jx_i t0)), (0, .ref (aB 0)), (1, .int (jx_i l1)), (2, .int (jx_i l2))]) hx hb dL_isSeen_302 hl (by decide) rfl (fun ls hl => ?_)
    obtain ⟨n, h⟩ := h
    refine Lo304 n sB sS t0 0 0 h _ _ hP hD hS ls (lv_sub hl [3, 4, 5, 2, 1, 0] rfl)
  have J295 : ∀ (sB : jx_St) (sS : jx_St), wp_L_isSeen_295 Q sC sT sH sO l1 l2 l3 l4 sB sS → ∀ (H : Heap) (locs : List Loc), va_P D vwCl (jx_ws cI cT [(cp_B aB (aT 0) (aS 0) (aC 0) (aU 0) (aV 0) (aW 0) (aH 0) (aO 0), sB), (cp_C aC (aT 0) (aS 0), sC), (cp_S aS (aT 0), sS), (cp_T aT, sT), (cp_H aH (fun j => hT j 0), sH), (cp_O aO, sO)]) H → va_D A (jx_ws cI cT [(cp_B aB (aT 0) (aS 0) (aC 0) (aU 0) (aV 0) (aW 0) (aH 0) (aO 0), sB), (cp_C aC (aT 0) (aS 0), sC), (cp_S aS (aT 0), sS), (cp_T aT, sT), (cp_H aH (fun j => hT j 0), sH), (cp_O aO, sO)]) → va_S A s.heap H locs → ∀ ls : Array Slot, lv_has ls 17 [(0, .ref (aB 0)), (1, .int (jx_i l1)), (2, .int (jx_i l2))] → W p l e (jx_rm 5 119) s m args below meth c H locs 0 0 QQ (F0 m 295 ls []) := by
    intro sB sS h H locs hP hD hS ls hl
    unfold wp_L_isSeen_295 at h
    refine jx_iconst C dL_isSeen_295 ?_
    exact J296 sB sS 0 h _ _ hP hD hS ls (lv_sub hl [0, 1, 2] rfl)
  have J270 : ∀ (sB : jx_St) (sS : jx_St) (l5 : Int) (l6 : Int) (l8 : Int) (l9 : Int), wp_L_isSeen_270 Q sC sT sH sO l1 l2 l3 l4 sB sS l5 l6 l8 l9 → ∀ (H : Heap) (locs : List Loc), va_P D vwCl (jx_ws cI cT [(cp_B aB (aT 0) (aS 0) (aC 0) (aU 0) (aV 0) (aW 0) (aH 0) (aO 0), sB), (cp_C aC (aT 0) (aS 0), sC), (cp_S aS (aT 0), sS), (cp_T aT, sT), (cp_H aH (fun j => hT j 0), sH), (cp_O aO, sO)]) H → va_D A (jx_ws cI cT [(cp_B aB (aT 0) (aS 0) (aC 0) (aU 0) (aV 0) (aW 0) (aH 0) (aO 0), sB), (cp_C aC (aT 0) (aS 0), sC), (cp_S aS (aT 0), sS), (cp_T aT, sT), (cp_H aH (fun j => hT j 0), sH), (cp_O aO, sO)]) → va_S A s.heap H locs → ∀ ls : Array Slot, lv_has ls 17 [(0, .ref (aB 0)), (1, .int (jx_i l1)), (2, .int (jx_i l2)), (5, .int (jx_i l5)), (6, .int (jx_i l6)), (8, .int (jx_i l8)), (9, .int (jx_i l9))] → W p l e (jx_rm 5 119) s m args below meth c H locs 0 0 QQ (F0 m 270 ls []) := by
    intro sB sS l5 l6 l8 l9 h H locs hP hD hS ls hl
    unfold wp_L_isSeen_270 at h
    refine lv_iload hx hb dL_isSeen_270 (lv_at hl 6 rfl) ?_
    refine jx_zeq C h.1 (tgt := 295) dL_isSeen_272 (by decide) (fun hc => ?_) (fun hc => ?_)
    · have h := h.2.1 hc
      exact J295 sB sS h _ _ hP hD hS ls (lv_sub hl [0, 1, 2] rfl)
    · have h := h.2.2 hc
      refine lv_iload hx hb dL_isSeen_275 (lv_at hl 5 rfl) ?_
      refine lv_aload_n hx hb dL_isSeen_277 rfl (lv_at hl 0 rfl) ?_
      refine lv_iload_n hx hb dL_isSeen_278 rfl (lv_at hl 1 rfl) ?_
      refine lv_iload_n hx hb dL_isSeen_279 rfl (lv_at hl 2 rfl) ?_
      refine lv_iload hx hb dL_isSeen_280 (lv_at hl 3 rfl) ?_
      refine lv_iload hx hb dL_isSeen_282 (lv_at hl 4 rfl) ?_
      refine jx_iconst C dL_isSeen_284 ?_
      refine jx_callVI C hK hP hD hS hA (ct_B_window l D cI cT aB aC aS aT aW aV aU aH hT aO _ sB sS sT l1 l2 l5 l6 1 h) ms_X7_window lk_L_51 [0, 2, 3] rfl rfl (fun _ => rfl) (cs' := (fun u => [(cp_B aB (aT 0) (aS 0) (aC 0) (aU 0) (aV 0) (aW 0) (aH 0) (aO 0), sB), (cp_C aC (aT 0) (aS 0), sC), (cp_S aS (aT 0), u), (cp_T aT, sT), (cp_H aH (fun j => hT j 0), sH), (cp_O aO, sO)])) (fun _ => rfl) (fun _ => rfl) 0 0 rfl rfl rfl rfl rfl hl.1 rfl rfl dL_isSeen_285 ⟨Nat.le_refl _, Nat.le_refl _⟩ (fun r285 sS_285 H locs h hP hD hS => ?_)
      have hP : va_P D vwCl (jx_ws cI cT [(cp_B aB (aT 0) (aS 0) (aC 0) (aU 0) (aV 0) (aW 0) (aH 0) (aO 0), sB), (cp_C aC (aT 0) (aS 0), sC), (cp_S aS (aT 0), sS_285), (cp_T aT, sT), (cp_H aH (fun j => hT j 0), sH), (cp_O aO, sO)]) H := hP
      have hD : va_D A (jx_ws cI cT [(cp_B aB (aT 0) (aS 0) (aC 0) (aU 0) (aV 0) (aW 0) (aH 0) (aO 0), sB), (cp_C aC (aT 0) (aS 0), sC), (cp_S aS (aT 0), sS_285), (cp_T aT, sT), (cp_H aH (fun j => hT j 0), sH), (cp_O aO, sO)]) := hD
      refine jx_ene C h.1 (tgt := 295) dL_isSeen_288 (by decide) (fun hc => ?_) (fun hc => ?_)
      · have h := h.2.2 hc
        exact J295 sB sS_285 h _ _ hP hD hS ls (lv_sub hl [0, 1, 2] rfl)
      · have h := h.2.1 hc
        refine jx_iconst C dL_isSeen_291 ?_
        refine lv_goto (tgt := 296) hx hb dL_isSeen_292 (by decide) ?_
        exact J296 sB sS_285 1 h _ _ hP hD hS ls (lv_sub hl [0, 1, 2] rfl)
  have J166 : ∀ (sB : jx_St) (sS : jx_St) (l5 : Int) (l6 : Int) (l8 : Int) (l9 : Int), wp_L_isSeen_166 Q sC sT sH sO l1 l2 l3 l4 sB sS l5 l6 l8 l9 → ∀ (H : Heap) (locs : List Loc), va_P D vwCl (jx_ws cI cT [(cp_B aB (aT 0) (aS 0) (aC 0) (aU 0) (aV 0) (aW 0) (aH 0) (aO 0), sB), (cp_C aC (aT 0) (aS 0), sC), (cp_S aS (aT 0), sS), (cp_T aT, sT), (cp_H aH (fun j => hT j 0), sH), (cp_O aO, sO)]) H → va_D A (jx_ws cI cT [(cp_B aB (aT 0) (aS 0) (aC 0) (aU 0) (aV 0) (aW 0) (aH 0) (aO 0), sB), (cp_C aC (aT 0) (aS 0), sC), (cp_S aS (aT 0), sS), (cp_T aT, sT), (cp_H aH (fun j => hT j 0), sH), (cp_O aO, sO)]) → va_S A s.heap H locs → ∀ ls : Array Slot, lv_has ls 17 [(0, .ref (aB 0)), (1, .int (jx_i l1)), (2, .int (jx_i l2)), (5, .int (jx_i l5)), (6, .int (jx_i l6)), (8, .int (jx_i l8)), (9, .int (jx_i l9))] → W p l e (jx_rm 5 119) s m args below meth c H locs 0 0 QQ (F0 m 166 ls []) := by
    intro sB sS l5 l6 l8 l9 h H locs hP hD hS ls hl
    unfold wp_L_isSeen_166 at h
    refine jx_iconst C dL_isSeen_166 ?_
    refine lv_istore (lv' := [(10, .int (jx_i 0)), (0, .ref (aB 0)), (1, .int (jx_i l1)), (2, .int (jx_i l2)), (5, .int (jx_i l5)), (6, .int (jx_i l6)), (8, .int (jx_i l8)), (9, .int (jx_i l9))]) hx hb dL_isSeen_167 hl (by decide) rfl (fun ls hl => ?_)
    obtain ⟨n, h⟩ := h
    refine Lo169 sB l5 l6 l9 _ n sS l8 0 h ?_ _ _ hP hD hS ls (lv_sub hl [1, 2, 3, 4, 5, 6, 7, 0] rfl)
    · intro sS l8 h H locs hP hD hS ls hl
      exact J270 sB sS l5 l6 l8 l9 h _ _ hP hD hS ls (lv_sub hl [0, 1, 2, 3, 4, 5, 6] rfl)
  refine jx_bipush C dL_isSeen_0 (by decide) ?_
  refine lv_iload_n hx hb dL_isSeen_2 rfl (lv_at hl 1 rfl) ?_
  refine lv_iload_n hx hb dL_isSeen_3 rfl (lv_at hl 3 rfl) ?_
  refine jx_iadd C dL_isSeen_4 ?_
  refine jx_callSI C hK hP hD hS hA (ct_L_lesser l D cI cT  _  99 (l1 + l3) h) ms_L_lesser lk_L_71 [] rfl rfl (fun _ => rfl) (cs' := (fun _ => [(cp_B aB (aT 0) (aS 0) (aC 0) (aU 0) (aV 0) (aW 0) (aH 0) (aO 0), sB), (cp_C aC (aT 0) (aS 0), sC), (cp_S aS (aT 0), sS), (cp_T aT, sT), (cp_H aH (fun j => hT j 0), sH), (cp_O aO, sO)])) (fun _ => rfl) (fun _ => rfl) rfl rfl hl.1 rfl rfl dL_isSeen_5 ⟨Nat.le_refl _, Nat.le_refl _⟩ (fun r5 _ H locs h hP hD hS => ?_)
  have hP : va_P D vwCl (jx_ws cI cT [(cp_B aB (aT 0) (aS 0) (aC 0) (aU 0) (aV 0) (aW 0) (aH 0) (aO 0), sB), (cp_C aC (aT 0) (aS 0), sC), (cp_S aS (aT 0), sS), (cp_T aT, sT), (cp_H aH (fun j => hT j 0), sH), (cp_O aO, sO)]) H := hP
  have hD : va_D A (jx_ws cI cT [(cp_B aB (aT 0) (aS 0) (aC 0) (aU 0) (aV 0) (aW 0) (aH 0) (aO 0), sB), (cp_C aC (aT 0) (aS 0), sC), (cp_S aS (aT 0), sS), (cp_T aT, sT), (cp_H aH (fun j => hT j 0), sH), (cp_O aO, sO)]) := hD
  refine lv_istore (lv' := [(5, .int (jx_i r5)), (0, .ref (aB 0)), (1, .int (jx_i l1)), (2, .int (jx_i l2)), (3, .int (jx_i l3)), (4, .int (jx_i l4))]) hx hb dL_isSeen_8 hl (by decide) rfl (fun ls hl => ?_)
  refine jx_bipush C dL_isSeen_10 (by decide) ?_
  refine lv_iload_n hx hb dL_isSeen_12 rfl (lv_at hl 3 rfl) ?_
  refine lv_iload hx hb dL_isSeen_13 (lv_at hl 5 rfl) ?_
  refine jx_iadd C dL_isSeen_15 ?_
  refine jx_callSI C hK hP hD hS hA (ct_L_lesser l D cI cT  _  99 (l2 + l4) h) ms_L_lesser lk_L_71 [] rfl rfl (fun _ => rfl) (cs' := (fun _ => [(cp_B aB (aT 0) (aS 0) (aC 0) (aU 0) (aV 0) (aW 0) (aH 0) (aO 0), sB), (cp_C aC (aT 0) (aS 0), sC), (cp_S aS (aT 0), sS), (cp_T aT, sT), (cp_H aH (fun j => hT j 0), sH), (cp_O aO, sO)])) (fun _ => rfl) (fun _ => rfl) rfl rfl hl.1 rfl rfl dL_isSeen_16 ⟨Nat.le_refl _, Nat.le_refl _⟩ (fun r16 _ H locs h hP hD hS => ?_)
  have hP : va_P D vwCl (jx_ws cI cT [(cp_B aB (aT 0) (aS 0) (aC 0) (aU 0) (aV 0) (aW 0) (aH 0) (aO 0), sB), (cp_C aC (aT 0) (aS 0), sC), (cp_S aS (aT 0), sS), (cp_T aT, sT), (cp_H aH (fun j => hT j 0), sH), (cp_O aO, sO)]) H := hP
  have hD : va_D A (jx_ws cI cT [(cp_B aB (aT 0) (aS 0) (aC 0) (aU 0) (aV 0) (aW 0) (aH 0) (aO 0), sB), (cp_C aC (aT 0) (aS 0), sC), (cp_S aS (aT 0), sS), (cp_T aT, sT), (cp_H aH (fun j => hT j 0), sH), (cp_O aO, sO)]) := hD
  refine lv_istore (lv' := [(6, .int (jx_i r16)), (5, .int (jx_i r5)), (0, .ref (aB 0)), (1, .int (jx_i l1)), (2, .int (jx_i l2)), (3, .int (jx_i l3)), (4, .int (jx_i l4))]) hx hb dL_isSeen_19 hl (by decide) rfl (fun ls hl => ?_)
  refine lv_aload_n hx hb dL_isSeen_21 rfl (lv_at hl 2 rfl) ?_
  refine lv_iload_n hx hb dL_isSeen_22 rfl (lv_at hl 3 rfl) ?_
  refine lv_iload_n hx hb dL_isSeen_23 rfl (lv_at hl 4 rfl) ?_
  refine lv_iload hx hb dL_isSeen_24 (lv_at hl 1 rfl) ?_
  refine lv_iload hx hb dL_isSeen_26 (lv_at hl 0 rfl) ?_
  refine jx_iconst C dL_isSeen_28 ?_
  refine jx_callVI C hK hP hD hS hA (ct_B_window l D cI cT aB aC aS aT aW aV aU aH hT aO _ sB sS sT l1 l2 r5 r16 0 h) ms_X7_window lk_L_51 [0, 2, 3] rfl rfl (fun _ => rfl) (cs' := (fun u => [(cp_B aB (aT 0) (aS 0) (aC 0) (aU 0) (aV 0) (aW 0) (aH 0) (aO 0), sB), (cp_C aC (aT 0) (aS 0), sC), (cp_S aS (aT 0), u), (cp_T aT, sT), (cp_H aH (fun j => hT j 0), sH), (cp_O aO, sO)])) (fun _ => rfl) (fun _ => rfl) 0 0 rfl rfl rfl rfl rfl hl.1 rfl rfl dL_isSeen_29 ⟨Nat.le_refl _, Nat.le_refl _⟩ (fun r29 sS_29 H locs h hP hD hS => ?_)
  have hP : va_P D vwCl (jx_ws cI cT [(cp_B aB (aT 0) (aS 0) (aC 0) (aU 0) (aV 0) (aW 0) (aH 0) (aO 0), sB), (cp_C aC (aT 0) (aS 0), sC), (cp_S aS (aT 0), sS_29), (cp_T aT, sT), (cp_H aH (fun j => hT j 0), sH), (cp_O aO, sO)]) H := hP
  have hD : va_D A (jx_ws cI cT [(cp_B aB (aT 0) (aS 0) (aC 0) (aU 0) (aV 0) (aW 0) (aH 0) (aO 0), sB), (cp_C aC (aT 0) (aS 0), sC), (cp_S aS (aT 0), sS_29), (cp_T aT, sT), (cp_H aH (fun j => hT j 0), sH), (cp_O aO, sO)]) := hD
  refine lv_istore (lv' := [(7, .int (jx_i r29)), (6, .int (jx_i r16)), (5, .int (jx_i r5)), (0, .ref (aB 0)), (1, .int (jx_i l1)), (2, .int (jx_i l2)), (3, .int (jx_i l3)), (4, .int (jx_i l4))]) hx hb dL_isSeen_32 hl (by decide) rfl (fun ls hl => ?_)
  refine jx_iconst C dL_isSeen_34 ?_
  refine lv_istore (lv' := [(8, .int (jx_i 0)), (7, .int (jx_i r29)), (6, .int (jx_i r16)), (5, .int (jx_i r5)), (0, .ref (aB 0)), (1, .int (jx_i l1)), (2, .int (jx_i l2)), (3, .int (jx_i l3)), (4, .int (jx_i l4))]) hx hb dL_isSeen_35 hl (by decide) rfl (fun ls hl => ?_)
  refine jx_iconst C dL_isSeen_37 ?_
  refine lv_istore (lv' := [(9, .int (jx_i 1)), (8, .int (jx_i 0)), (7, .int (jx_i r29)), (6, .int (jx_i r16)), (5, .int (jx_i r5)), (0, .ref (aB 0)), (1, .int (jx_i l1)), (2, .int (jx_i l2)), (3, .int (jx_i l3)), (4, .int (jx_i l4))]) hx hb dL_isSeen_38 hl (by decide) rfl (fun ls hl => ?_)
  refine jx_iconst C dL_isSeen_40 ?_
  refine lv_istore (lv' := [(10, .int (jx_i 0)), (9, .int (jx_i 1)), (8, .int (jx_i 0)), (7, .int (jx_i r29)), (6, .int (jx_i r16)), (5, .int (jx_i r5)), (0, .ref (aB 0)), (1, .int (jx_i l1)), (2, .int (jx_i l2)), (3, .int (jx_i l3)), (4, .int (jx_i l4))]) hx hb dL_isSeen_41 hl (by decide) rfl (fun ls hl => ?_)
  obtain ⟨n, h⟩ := h
  refine Lo43 sB r5 r16 r29 0 _ n sS_29 1 0 h ?_ _ _ hP hD hS ls (lv_sub hl [6, 7, 8, 5, 4, 3, 2, 1, 0] rfl)
  · intro sS l9 h H locs hP hD hS ls hl
    exact J166 sB sS r5 r16 0 l9 h _ _ hP hD hS ls (lv_sub hl [0, 1, 2, 3, 4, 5, 6] rfl)
