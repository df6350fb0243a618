def jx_h4 (a b c d : Nat → Nat) : Nat → Nat → Nat := fun j => match j with
  | 0 => a
  | 1 => b
  | 2 => c
  | _ => d
theorem lk_X6_33 : Cond.methodLink RX6 33 yJ7_fill_53178 ∈ jx_T := jx_mT 52 (by decide +kernel) (by decide +kernel)
theorem lo_X6_3 : Cond.methodLink RX6 3 objectInit ∈ jx_T := jx_mT 51 (by decide +kernel) (by decide +kernel)
theorem ff_X6_0 : jx_FF RX6 4 0 (.array .int) := ⟨RX6, TX6, 11, tyX6, rfl, tyX6_ok, nmX6, rfl, rfl, by decide +kernel⟩
theorem ff_X6_1 : jx_FF RX6 4 1 (.array .int) := ⟨RX6, TX6, 11, tyX6, rfl, tyX6_ok, nmX6, rfl, rfl, by decide +kernel⟩
theorem ff_X6_2 : jx_FF RX6 4 2 (.array .int) := ⟨RX6, TX6, 11, tyX6, rfl, tyX6_ok, nmX6, rfl, rfl, by decide +kernel⟩
theorem ff_X6_3 : jx_FF RX6 4 3 (.array .int) := ⟨RX6, TX6, 11, tyX6, rfl, tyX6_ok, nmX6, rfl, rfl, by decide +kernel⟩
theorem ff_X6_4 : jx_FF RX6 4 4 (.array .int) := ⟨RX6, TX6, 11, tyX6, rfl, tyX6_ok, nmX6, rfl, rfl, by decide +kernel⟩
theorem ff_X6_5 : jx_FF RX6 4 5 (.array .int) := ⟨RX6, TX6, 11, tyX6, rfl, tyX6_ok, nmX6, rfl, rfl, by decide +kernel⟩
theorem ff_X6_6 : jx_FF RX6 4 6 (.array .int) := ⟨RX6, TX6, 11, tyX6, rfl, tyX6_ok, nmX6, rfl, rfl, by decide +kernel⟩
theorem lo_X5_3 : Cond.methodLink RX5 3 objectInit ∈ jx_T := jx_mT 119 (by decide +kernel) (by decide +kernel)
theorem ff_X5_1 : jx_FF RX5 3 1 (.array .int) := ⟨RX5, TX5, 3, tyX5, rfl, tyX5_ok, nmX5, rfl, rfl, by decide +kernel⟩
theorem ff_X5_0 : jx_FF RX5 3 0 (.object "BoxCourt$Tree") := ⟨RX5, TX5, 3, tyX5, rfl, tyX5_ok, nmX5, rfl, rfl, by decide +kernel⟩
theorem lo_X1_3 : Cond.methodLink RX1 3 objectInit ∈ jx_T := jx_mT 135 (by decide +kernel) (by decide +kernel)
theorem ff_X1_2 : jx_FF RX1 0 2 (.array .int) := ⟨RX1, TX1, 12, tyX1, rfl, tyX1_ok, nmX1, rfl, rfl, by decide +kernel⟩
theorem ff_X1_3 : jx_FF RX1 0 3 (.array .int) := ⟨RX1, TX1, 12, tyX1, rfl, tyX1_ok, nmX1, rfl, rfl, by decide +kernel⟩
theorem ff_X1_6 : jx_FF RX1 0 6 (.array .int) := ⟨RX1, TX1, 12, tyX1, rfl, tyX1_ok, nmX1, rfl, rfl, by decide +kernel⟩
theorem ff_X1_7 : jx_FF RX1 0 7 (.array .int) := ⟨RX1, TX1, 12, tyX1, rfl, tyX1_ok, nmX1, rfl, rfl, by decide +kernel⟩
theorem ff_X1_9 : jx_FF RX1 0 9 (.array .int) := ⟨RX1, TX1, 12, tyX1, rfl, tyX1_ok, nmX1, rfl, rfl, by decide +kernel⟩
theorem ff_X1_10 : jx_FF RX1 0 10 (.array .int) := ⟨RX1, TX1, 12, tyX1, rfl, tyX1_ok, nmX1, rfl, rfl, by decide +kernel⟩
theorem ff_X1_11 : jx_FF RX1 0 11 (.array .int) := ⟨RX1, TX1, 12, tyX1, rfl, tyX1_ok, nmX1, rfl, rfl, by decide +kernel⟩
theorem ff_X1_0 : jx_FF RX1 0 0 (.object "BoxCourt$Tree") := ⟨RX1, TX1, 12, tyX1, rfl, tyX1_ok, nmX1, rfl, rfl, by decide +kernel⟩
theorem ff_X1_1 : jx_FF RX1 0 1 (.object "BoxCourt$Survey") := ⟨RX1, TX1, 12, tyX1, rfl, tyX1_ok, nmX1, rfl, rfl, by decide +kernel⟩
theorem lo_X3_3 : Cond.methodLink RX3 3 objectInit ∈ jx_T := jx_mT 199 (by decide +kernel) (by decide +kernel)
theorem ff_X3_0 : jx_FF RX3 2 0 (.array .int) := ⟨RX3, TX3, 9, tyX3, rfl, tyX3_ok, nmX3, rfl, rfl, by decide +kernel⟩
theorem ff_X3_2 : jx_FF RX3 2 2 (.array .int) := ⟨RX3, TX3, 9, tyX3, rfl, tyX3_ok, nmX3, rfl, rfl, by decide +kernel⟩
theorem lo_X2_3 : Cond.methodLink RX2 3 objectInit ∈ jx_T := jx_mT 179 (by decide +kernel) (by decide +kernel)
theorem kl_X2_9 : Cond.classLink RX2 9 RX6 ∈ jx_T := jx_mT 180 (by decide +kernel) (by decide +kernel)
theorem ff_X2_0 : jx_FF RX2 1 0 (.array (.object "BoxCourt$Tree")) := ⟨RX2, TX2, 3, tyX2, rfl, tyX2_ok, nmX2, rfl, rfl, by decide +kernel⟩
theorem ne_X2_9 : jx_NE RX2 9 4 [.null, .null, .null, .null, .null, .null, .null, .int (jx_i 0), .int (jx_i 0), .int (jx_i 0), .int (jx_i 0)] := ⟨RX6, TX6, 11, tyX6, rfl, jx_inX6, tyX6_ok, jx_mT 180 (by decide +kernel) (by decide +kernel), jx_mT 47 (by decide +kernel) (by decide +kernel), jx_mT 27 (by decide +kernel) (by decide +kernel), rfl, by decide +kernel⟩
theorem lo_X2_17 : Cond.methodLink RX2 17 yX6_init ∈ jx_T := jx_mT 182 (by decide +kernel) (by decide +kernel)
theorem mi_X6 : jx_MI yX6_init cX6_init 1 0 := ⟨jx_mT 50 (by decide +kernel) (by decide +kernel), jx_mT 27 (by decide +kernel) (by decide +kernel), jx_mT 49 (by decide +kernel) (by decide +kernel), rfl, by decide +kernel⟩
theorem lo_X7_3 : Cond.methodLink RX7 3 objectInit ∈ jx_T := jx_mT 43 (by decide +kernel) (by decide +kernel)
theorem ne_X7_9 : jx_NE RX7 9 4 [.null, .null, .null, .null, .null, .null, .null, .int (jx_i 0), .int (jx_i 0), .int (jx_i 0), .int (jx_i 0)] := ⟨RX6, TX6, 11, tyX6, rfl, jx_inX6, tyX6_ok, jx_mT 46 (by decide +kernel) (by decide +kernel), jx_mT 47 (by decide +kernel) (by decide +kernel), jx_mT 27 (by decide +kernel) (by decide +kernel), rfl, by decide +kernel⟩
theorem lo_X7_11 : Cond.methodLink RX7 11 yX6_init ∈ jx_T := jx_mT 48 (by decide +kernel) (by decide +kernel)
theorem ff_X7_0 : jx_FF RX7 5 0 (.object "BoxCourt$Tree") := ⟨RX7, TX7, 9, tyX7, rfl, tyX7_ok, nmX7, rfl, rfl, by decide +kernel⟩
theorem ne_X7_16 : jx_NE RX7 16 3 [.null, .null, .int (jx_i 0)] := ⟨RX5, TX5, 3, tyX5, rfl, jx_inX5, tyX5_ok, jx_mT 114 (by decide +kernel) (by decide +kernel), jx_mT 115 (by decide +kernel) (by decide +kernel), jx_mT 30 (by decide +kernel) (by decide +kernel), rfl, by decide +kernel⟩
theorem lo_X7_18 : Cond.methodLink RX7 18 yX5_init ∈ jx_T := jx_mT 116 (by decide +kernel) (by decide +kernel)
theorem mi_X5 : jx_MI yX5_init cX5_init 2 1 := ⟨jx_mT 118 (by decide +kernel) (by decide +kernel), jx_mT 30 (by decide +kernel) (by decide +kernel), jx_mT 117 (by decide +kernel) (by decide +kernel), rfl, by decide +kernel⟩
theorem ff_X7_1 : jx_FF RX7 5 1 (.object "BoxCourt$Survey") := ⟨RX7, TX7, 9, tyX7, rfl, tyX7_ok, nmX7, rfl, rfl, by decide +kernel⟩
theorem ne_X7_25 : jx_NE RX7 25 0 [.null, .null, .null, .null, .int (jx_i 0), .int (jx_i 0), .null, .null, .int (jx_i 0), .null, .null, .null] := ⟨RX1, TX1, 12, tyX1, rfl, jx_inX1, tyX1_ok, jx_mT 130 (by decide +kernel) (by decide +kernel), jx_mT 131 (by decide +kernel) (by decide +kernel), jx_mT 31 (by decide +kernel) (by decide +kernel), rfl, by decide +kernel⟩
theorem lo_X7_27 : Cond.methodLink RX7 27 yX1_init ∈ jx_T := jx_mT 132 (by decide +kernel) (by decide +kernel)
theorem mi_X1 : jx_MI yX1_init cX1_init 3 2 := ⟨jx_mT 134 (by decide +kernel) (by decide +kernel), jx_mT 31 (by decide +kernel) (by decide +kernel), jx_mT 133 (by decide +kernel) (by decide +kernel), rfl, by decide +kernel⟩
theorem ff_X7_2 : jx_FF RX7 5 2 (.object "BoxCourt$Change") := ⟨RX7, TX7, 9, tyX7, rfl, tyX7_ok, nmX7, rfl, rfl, by decide +kernel⟩
theorem ff_X7_3 : jx_FF RX7 5 3 (.object "BoxCourt$Tree") := ⟨RX7, TX7, 9, tyX7, rfl, tyX7_ok, nmX7, rfl, rfl, by decide +kernel⟩
theorem ff_X7_4 : jx_FF RX7 5 4 (.object "BoxCourt$Survey") := ⟨RX7, TX7, 9, tyX7, rfl, tyX7_ok, nmX7, rfl, rfl, by decide +kernel⟩
theorem ff_X7_5 : jx_FF RX7 5 5 (.object "BoxCourt$Change") := ⟨RX7, TX7, 9, tyX7, rfl, tyX7_ok, nmX7, rfl, rfl, by decide +kernel⟩
theorem ne_X7_43 : jx_NE RX7 43 1 [.null, .int (jx_i 0), .int (jx_i 0)] := ⟨RX2, TX2, 3, tyX2, rfl, jx_inX2, tyX2_ok, jx_mT 174 (by decide +kernel) (by decide +kernel), jx_mT 175 (by decide +kernel) (by decide +kernel), jx_mT 32 (by decide +kernel) (by decide +kernel), rfl, by decide +kernel⟩
theorem lo_X7_45 : Cond.methodLink RX7 45 yX2_init ∈ jx_T := jx_mT 176 (by decide +kernel) (by decide +kernel)
theorem mi_X2 : jx_MI yX2_init cX2_init 2 0 := ⟨jx_mT 178 (by decide +kernel) (by decide +kernel), jx_mT 32 (by decide +kernel) (by decide +kernel), jx_mT 177 (by decide +kernel) (by decide +kernel), rfl, by decide +kernel⟩
theorem ff_X7_6 : jx_FF RX7 5 6 (.object "BoxCourt$History") := ⟨RX7, TX7, 9, tyX7, rfl, tyX7_ok, nmX7, rfl, rfl, by decide +kernel⟩
theorem ne_X7_50 : jx_NE RX7 50 2 [.null, .int (jx_i 0), .null, .int (jx_i 0), .int (jx_i 0), .int (jx_i 0), .int (jx_i 0), .int (jx_i 0), .int (jx_i 0)] := ⟨RX3, TX3, 9, tyX3, rfl, jx_inX3, tyX3_ok, jx_mT 194 (by decide +kernel) (by decide +kernel), jx_mT 195 (by decide +kernel) (by decide +kernel), jx_mT 33 (by decide +kernel) (by decide +kernel), rfl, by decide +kernel⟩
theorem lo_X7_52 : Cond.methodLinkNest RX7 52 yX3_init "BoxCourt" ∈ jx_NW := jx_mN 196 (by decide +kernel) (by decide +kernel)
theorem mi_X3 : jx_MI yX3_init cX3_init 1 0 := ⟨jx_mT 198 (by decide +kernel) (by decide +kernel), jx_mT 33 (by decide +kernel) (by decide +kernel), jx_mT 197 (by decide +kernel) (by decide +kernel), rfl, by decide +kernel⟩
theorem ff_X7_7 : jx_FF RX7 5 7 (.object "BoxCourt$Orders") := ⟨RX7, TX7, 9, tyX7, rfl, tyX7_ok, nmX7, rfl, rfl, by decide +kernel⟩
theorem ff_X7_8 : jx_FF RX7 5 8 (.array .int) := ⟨RX7, TX7, 9, tyX7, rfl, tyX7_ok, nmX7, rfl, rfl, by decide +kernel⟩
set_option maxRecDepth 100000 in
set_option maxHeartbeats 4000000 in
theorem ct_T_init (l : Launch) (D : va_G) (cI cT : ClassId) (a : Nat) (Q : jx_St → Prop) (h : ∀ sT : jx_St, sT = (fun _ _ => 0) → wp_T_init Q sT) : jx_KB (List jx_Cp) l D cI cT yX6_init cX6_init 1 3 7 350 64 [.ref a] (a, .inr (4, [.null, .null, .null, .null, .null, .null, .null, .int (jx_i 0), .int (jx_i 0), .int (jx_i 0), .int (jx_i 0)])) (fun u => u) (fun u => ∃ (aT : Nat → Nat) (sT : jx_St), u = [(cp_T aT, sT)] ∧ aT 0 = a ∧ Q sT) := by
  refine jx_entB (own := RX6) (by decide) rfl (Nat.le_of_ble_eq_true rfl) ?_
  intro p e s m args below meth c A QQ C hr hlk hin hK hAe hA hP hD hS ls hl hQQ
  have hl : lv_has ls 1 [(0, .ref a)] := hl
  have hx := C.1
  have hb := C.2.1
  have hin : meth.name = "<init>" := hin
  refine lv_aload_n hx hb dX6_init_0 rfl (lv_at hl 0 rfl) ?_
  refine jx_objI C lo_X6_3 jx_wObj hl.1 rfl dX6_init_1 ?_
  refine lv_aload_n hx hb dX6_init_4 rfl (lv_at hl 0 rfl) ?_
  refine jx_bipush C dX6_init_5 (by decide) ?_
  refine jx_newa C hK hP hD hS hA jx_wArr 31 rfl rfl rfl rfl dX6_init_7 (fun q1 H hP hD hS => ?_)
  have hP : va_P D vwCl ([(a, .inr (4, [.null, .null, .null, .null, .null, .null, .null, .int (jx_i 0), .int (jx_i 0), .int (jx_i 0), .int (jx_i 0)])), (q1, .inl (cI, 31, .inl (fun _ => jx_i 0)))]) H := hP
  have hD : va_D A ([(a, .inr (4, [.null, .null, .null, .null, .null, .null, .null, .int (jx_i 0), .int (jx_i 0), .int (jx_i 0), .int (jx_i 0)])), (q1, .inl (cI, 31, .inl (fun _ => jx_i 0)))]) := hD
  refine jx_putB (v := .ref q1) C hK hP hD hS hin 0 0 rfl fl_X6_9 ff_X6_0 ⟨rfl, rfl⟩ rfl dX6_init_9 (fun H locs hP hD hS => ?_)
  have hP : va_P D vwCl ([(a, .inr (4, [.ref q1, .null, .null, .null, .null, .null, .null, .int (jx_i 0), .int (jx_i 0), .int (jx_i 0), .int (jx_i 0)])), (q1, .inl (cI, 31, .inl (fun _ => jx_i 0)))]) H := hP
  have hD : va_D A ([(a, .inr (4, [.ref q1, .null, .null, .null, .null, .null, .null, .int (jx_i 0), .int (jx_i 0), .int (jx_i 0), .int (jx_i 0)])), (q1, .inl (cI, 31, .inl (fun _ => jx_i 0)))]) := hD
  refine lv_aload_n hx hb dX6_init_12 rfl (lv_at hl 0 rfl) ?_
  refine jx_bipush C dX6_init_13 (by decide) ?_
  refine jx_newa C hK hP hD hS hA jx_wArr 31 rfl rfl rfl rfl dX6_init_15 (fun q2 H hP hD hS => ?_)
  have hP : va_P D vwCl ([(a, .inr (4, [.ref q1, .null, .null, .null, .null, .null, .null, .int (jx_i 0), .int (jx_i 0), .int (jx_i 0), .int (jx_i 0)])), (q1, .inl (cI, 31, .inl (fun _ => jx_i 0))), (q2, .inl (cI, 31, .inl (fun _ => jx_i 0)))]) H := hP
  have hD : va_D A ([(a, .inr (4, [.ref q1, .null, .null, .null, .null, .null, .null, .int (jx_i 0), .int (jx_i 0), .int (jx_i 0), .int (jx_i 0)])), (q1, .inl (cI, 31, .inl (fun _ => jx_i 0))), (q2, .inl (cI, 31, .inl (fun _ => jx_i 0)))]) := hD
  refine jx_putB (v := .ref q2) C hK hP hD hS hin 0 1 rfl fl_X6_15 ff_X6_1 ⟨rfl, rfl⟩ rfl dX6_init_17 (fun H locs hP hD hS => ?_)
  have hP : va_P D vwCl ([(a, .inr (4, [.ref q1, .ref q2, .null, .null, .null, .null, .null, .int (jx_i 0), .int (jx_i 0), .int (jx_i 0), .int (jx_i 0)])), (q1, .inl (cI, 31, .inl (fun _ => jx_i 0))), (q2, .inl (cI, 31, .inl (fun _ => jx_i 0)))]) H := hP
  have hD : va_D A ([(a, .inr (4, [.ref q1, .ref q2, .null, .null, .null, .null, .null, .int (jx_i 0), .int (jx_i 0), .int (jx_i 0), .int (jx_i 0)])), (q1, .inl (cI, 31, .inl (fun _ => jx_i 0))), (q2, .inl (cI, 31, .inl (fun _ => jx_i 0)))]) := hD
  refine lv_aload_n hx hb dX6_init_20 rfl (lv_at hl 0 rfl) ?_
  refine jx_bipush C dX6_init_21 (by decide) ?_
  refine jx_newa C hK hP hD hS hA jx_wArr 32 rfl rfl rfl rfl dX6_init_23 (fun q3 H hP hD hS => ?_)
  have hP : va_P D vwCl ([(a, .inr (4, [.ref q1, .ref q2, .null, .null, .null, .null, .null, .int (jx_i 0), .int (jx_i 0), .int (jx_i 0), .int (jx_i 0)])), (q1, .inl (cI, 31, .inl (fun _ => jx_i 0))), (q2, .inl (cI, 31, .inl (fun _ => jx_i 0))), (q3, .inl (cI, 32, .inl (fun _ => jx_i 0)))]) H := hP
  have hD : va_D A ([(a, .inr (4, [.ref q1, .ref q2, .null, .null, .null, .null, .null, .int (jx_i 0), .int (jx_i 0), .int (jx_i 0), .int (jx_i 0)])), (q1, .inl (cI, 31, .inl (fun _ => jx_i 0))), (q2, .inl (cI, 31, .inl (fun _ => jx_i 0))), (q3, .inl (cI, 32, .inl (fun _ => jx_i 0)))]) := hD
  refine jx_putB (v := .ref q3) C hK hP hD hS hin 0 2 rfl fl_X6_18 ff_X6_2 ⟨rfl, rfl⟩ rfl dX6_init_25 (fun H locs hP hD hS => ?_)
  have hP : va_P D vwCl ([(a, .inr (4, [.ref q1, .ref q2, .ref q3, .null, .null, .null, .null, .int (jx_i 0), .int (jx_i 0), .int (jx_i 0), .int (jx_i 0)])), (q1, .inl (cI, 31, .inl (fun _ => jx_i 0))), (q2, .inl (cI, 31, .inl (fun _ => jx_i 0))), (q3, .inl (cI, 32, .inl (fun _ => jx_i 0)))]) H := hP
  have hD : va_D A ([(a, .inr (4, [.ref q1, .ref q2, .ref q3, .null, .null, .null, .null, .int (jx_i 0), .int (jx_i 0), .int (jx_i 0), .int (jx_i 0)])), (q1, .inl (cI, 31, .inl (fun _ => jx_i 0))), (q2, .inl (cI, 31, .inl (fun _ => jx_i 0))), (q3, .inl (cI, 32, .inl (fun _ => jx_i 0)))]) := hD
  refine lv_aload_n hx hb dX6_init_28 rfl (lv_at hl 0 rfl) ?_
  refine jx_bipush C dX6_init_29 (by decide) ?_
  refine jx_newa C hK hP hD hS hA jx_wArr 32 rfl rfl rfl rfl dX6_init_31 (fun q4 H hP hD hS => ?_)
  have hP : va_P D vwCl ([(a, .inr (4, [.ref q1, .ref q2, .ref q3, .null, .null, .null, .null, .int (jx_i 0), .int (jx_i 0), .int (jx_i 0), .int (jx_i 0)])), (q1, .inl (cI, 31, .inl (fun _ => jx_i 0))), (q2, .inl (cI, 31, .inl (fun _ => jx_i 0))), (q3, .inl (cI, 32, .inl (fun _ => jx_i 0))), (q4, .inl (cI, 32, .inl (fun _ => jx_i 0)))]) H := hP
  have hD : va_D A ([(a, .inr (4, [.ref q1, .ref q2, .ref q3, .null, .null, .null, .null, .int (jx_i 0), .int (jx_i 0), .int (jx_i 0), .int (jx_i 0)])), (q1, .inl (cI, 31, .inl (fun _ => jx_i 0))), (q2, .inl (cI, 31, .inl (fun _ => jx_i 0))), (q3, .inl (cI, 32, .inl (fun _ => jx_i 0))), (q4, .inl (cI, 32, .inl (fun _ => jx_i 0)))]) := hD
  refine jx_putB (v := .ref q4) C hK hP hD hS hin 0 3 rfl fl_X6_21 ff_X6_3 ⟨rfl, rfl⟩ rfl dX6_init_33 (fun H locs hP hD hS => ?_)
  have hP : va_P D vwCl ([(a, .inr (4, [.ref q1, .ref q2, .ref q3, .ref q4, .null, .null, .null, .int (jx_i 0), .int (jx_i 0), .int (jx_i 0), .int (jx_i 0)])), (q1, .inl (cI, 31, .inl (fun _ => jx_i 0))), (q2, .inl (cI, 31, .inl (fun _ => jx_i 0))), (q3, .inl (cI, 32, .inl (fun _ => jx_i 0))), (q4, .inl (cI, 32, .inl (fun _ => jx_i 0)))]) H := hP
  have hD : va_D A ([(a, .inr (4, [.ref q1, .ref q2, .ref q3, .ref q4, .null, .null, .null, .int (jx_i 0), .int (jx_i 0), .int (jx_i 0), .int (jx_i 0)])), (q1, .inl (cI, 31, .inl (fun _ => jx_i 0))), (q2, .inl (cI, 31, .inl (fun _ => jx_i 0))), (q3, .inl (cI, 32, .inl (fun _ => jx_i 0))), (q4, .inl (cI, 32, .inl (fun _ => jx_i 0)))]) := hD
  refine lv_aload_n hx hb dX6_init_36 rfl (lv_at hl 0 rfl) ?_
  refine jx_bipush C dX6_init_37 (by decide) ?_
  refine jx_newa C hK hP hD hS hA jx_wArr 32 rfl rfl rfl rfl dX6_init_39 (fun q5 H hP hD hS => ?_)
  have hP : va_P D vwCl ([(a, .inr (4, [.ref q1, .ref q2, .ref q3, .ref q4, .null, .null, .null, .int (jx_i 0), .int (jx_i 0), .int (jx_i 0), .int (jx_i 0)])), (q1, .inl (cI, 31, .inl (fun _ => jx_i 0))), (q2, .inl (cI, 31, .inl (fun _ => jx_i 0))), (q3, .inl (cI, 32, .inl (fun _ => jx_i 0))), (q4, .inl (cI, 32, .inl (fun _ => jx_i 0))), (q5, .inl (cI, 32, .inl (fun _ => jx_i 0)))]) H := hP
  have hD : va_D A ([(a, .inr (4, [.ref q1, .ref q2, .ref q3, .ref q4, .null, .null, .null, .int (jx_i 0), .int (jx_i 0), .int (jx_i 0), .int (jx_i 0)])), (q1, .inl (cI, 31, .inl (fun _ => jx_i 0))), (q2, .inl (cI, 31, .inl (fun _ => jx_i 0))), (q3, .inl (cI, 32, .inl (fun _ => jx_i 0))), (q4, .inl (cI, 32, .inl (fun _ => jx_i 0))), (q5, .inl (cI, 32, .inl (fun _ => jx_i 0)))]) := hD
  refine jx_putB (v := .ref q5) C hK hP hD hS hin 0 4 rfl fl_X6_24 ff_X6_4 ⟨rfl, rfl⟩ rfl dX6_init_41 (fun H locs hP hD hS => ?_)
  have hP : va_P D vwCl ([(a, .inr (4, [.ref q1, .ref q2, .ref q3, .ref q4, .ref q5, .null, .null, .int (jx_i 0), .int (jx_i 0), .int (jx_i 0), .int (jx_i 0)])), (q1, .inl (cI, 31, .inl (fun _ => jx_i 0))), (q2, .inl (cI, 31, .inl (fun _ => jx_i 0))), (q3, .inl (cI, 32, .inl (fun _ => jx_i 0))), (q4, .inl (cI, 32, .inl (fun _ => jx_i 0))), (q5, .inl (cI, 32, .inl (fun _ => jx_i 0)))]) H := hP
  have hD : va_D A ([(a, .inr (4, [.ref q1, .ref q2, .ref q3, .ref q4, .ref q5, .null, .null, .int (jx_i 0), .int (jx_i 0), .int (jx_i 0), .int (jx_i 0)])), (q1, .inl (cI, 31, .inl (fun _ => jx_i 0))), (q2, .inl (cI, 31, .inl (fun _ => jx_i 0))), (q3, .inl (cI, 32, .inl (fun _ => jx_i 0))), (q4, .inl (cI, 32, .inl (fun _ => jx_i 0))), (q5, .inl (cI, 32, .inl (fun _ => jx_i 0)))]) := hD
  refine lv_aload_n hx hb dX6_init_44 rfl (lv_at hl 0 rfl) ?_
  refine jx_bipush C dX6_init_45 (by decide) ?_
  refine jx_newa C hK hP hD hS hA jx_wArr 32 rfl rfl rfl rfl dX6_init_47 (fun q6 H hP hD hS => ?_)
  have hP : va_P D vwCl ([(a, .inr (4, [.ref q1, .ref q2, .ref q3, .ref q4, .ref q5, .null, .null, .int (jx_i 0), .int (jx_i 0), .int (jx_i 0), .int (jx_i 0)])), (q1, .inl (cI, 31, .inl (fun _ => jx_i 0))), (q2, .inl (cI, 31, .inl (fun _ => jx_i 0))), (q3, .inl (cI, 32, .inl (fun _ => jx_i 0))), (q4, .inl (cI, 32, .inl (fun _ => jx_i 0))), (q5, .inl (cI, 32, .inl (fun _ => jx_i 0))), (q6, .inl (cI, 32, .inl (fun _ => jx_i 0)))]) H := hP
  have hD : va_D A ([(a, .inr (4, [.ref q1, .ref q2, .ref q3, .ref q4, .ref q5, .null, .null, .int (jx_i 0), .int (jx_i 0), .int (jx_i 0), .int (jx_i 0)])), (q1, .inl (cI, 31, .inl (fun _ => jx_i 0))), (q2, .inl (cI, 31, .inl (fun _ => jx_i 0))), (q3, .inl (cI, 32, .inl (fun _ => jx_i 0))), (q4, .inl (cI, 32, .inl (fun _ => jx_i 0))), (q5, .inl (cI, 32, .inl (fun _ => jx_i 0))), (q6, .inl (cI, 32, .inl (fun _ => jx_i 0)))]) := hD
  refine jx_putB (v := .ref q6) C hK hP hD hS hin 0 5 rfl fl_X6_27 ff_X6_5 ⟨rfl, rfl⟩ rfl dX6_init_49 (fun H locs hP hD hS => ?_)
  have hP : va_P D vwCl ([(a, .inr (4, [.ref q1, .ref q2, .ref q3, .ref q4, .ref q5, .ref q6, .null, .int (jx_i 0), .int (jx_i 0), .int (jx_i 0), .int (jx_i 0)])), (q1, .inl (cI, 31, .inl (fun _ => jx_i 0))), (q2, .inl (cI, 31, .inl (fun _ => jx_i 0))), (q3, .inl (cI, 32, .inl (fun _ => jx_i 0))), (q4, .inl (cI, 32, .inl (fun _ => jx_i 0))), (q5, .inl (cI, 32, .inl (fun _ => jx_i 0))), (q6, .inl (cI, 32, .inl (fun _ => jx_i 0)))]) H := hP
  have hD : va_D A ([(a, .inr (4, [.ref q1, .ref q2, .ref q3, .ref q4, .ref q5, .ref q6, .null, .int (jx_i 0), .int (jx_i 0), .int (jx_i 0), .int (jx_i 0)])), (q1, .inl (cI, 31, .inl (fun _ => jx_i 0))), (q2, .inl (cI, 31, .inl (fun _ => jx_i 0))), (q3, .inl (cI, 32, .inl (fun _ => jx_i 0))), (q4, .inl (cI, 32, .inl (fun _ => jx_i 0))), (q5, .inl (cI, 32, .inl (fun _ => jx_i 0))), (q6, .inl (cI, 32, .inl (fun _ => jx_i 0)))]) := hD
  refine lv_aload_n hx hb dX6_init_52 rfl (lv_at hl 0 rfl) ?_
  refine jx_sipush C dX6_init_53 (by decide) ?_
  refine jx_newa C hK hP hD hS hA jx_wArr 160 rfl rfl rfl rfl dX6_init_56 (fun q7 H hP hD hS => ?_)
  have hP : va_P D vwCl ([(a, .inr (4, [.ref q1, .ref q2, .ref q3, .ref q4, .ref q5, .ref q6, .null, .int (jx_i 0), .int (jx_i 0), .int (jx_i 0), .int (jx_i 0)])), (q1, .inl (cI, 31, .inl (fun _ => jx_i 0))), (q2, .inl (cI, 31, .inl (fun _ => jx_i 0))), (q3, .inl (cI, 32, .inl (fun _ => jx_i 0))), (q4, .inl (cI, 32, .inl (fun _ => jx_i 0))), (q5, .inl (cI, 32, .inl (fun _ => jx_i 0))), (q6, .inl (cI, 32, .inl (fun _ => jx_i 0))), (q7, .inl (cI, 160, .inl (fun _ => jx_i 0)))]) H := hP
  have hD : va_D A ([(a, .inr (4, [.ref q1, .ref q2, .ref q3, .ref q4, .ref q5, .ref q6, .null, .int (jx_i 0), .int (jx_i 0), .int (jx_i 0), .int (jx_i 0)])), (q1, .inl (cI, 31, .inl (fun _ => jx_i 0))), (q2, .inl (cI, 31, .inl (fun _ => jx_i 0))), (q3, .inl (cI, 32, .inl (fun _ => jx_i 0))), (q4, .inl (cI, 32, .inl (fun _ => jx_i 0))), (q5, .inl (cI, 32, .inl (fun _ => jx_i 0))), (q6, .inl (cI, 32, .inl (fun _ => jx_i 0))), (q7, .inl (cI, 160, .inl (fun _ => jx_i 0)))]) := hD
  refine jx_putB (v := .ref q7) C hK hP hD hS hin 0 6 rfl fl_X6_30 ff_X6_6 ⟨rfl, rfl⟩ rfl dX6_init_58 (fun H locs hP hD hS => ?_)
  have hP : va_P D vwCl ([(a, .inr (4, [.ref q1, .ref q2, .ref q3, .ref q4, .ref q5, .ref q6, .ref q7, .int (jx_i 0), .int (jx_i 0), .int (jx_i 0), .int (jx_i 0)])), (q1, .inl (cI, 31, .inl (fun _ => jx_i 0))), (q2, .inl (cI, 31, .inl (fun _ => jx_i 0))), (q3, .inl (cI, 32, .inl (fun _ => jx_i 0))), (q4, .inl (cI, 32, .inl (fun _ => jx_i 0))), (q5, .inl (cI, 32, .inl (fun _ => jx_i 0))), (q6, .inl (cI, 32, .inl (fun _ => jx_i 0))), (q7, .inl (cI, 160, .inl (fun _ => jx_i 0)))]) H := hP
  have hD : va_D A ([(a, .inr (4, [.ref q1, .ref q2, .ref q3, .ref q4, .ref q5, .ref q6, .ref q7, .int (jx_i 0), .int (jx_i 0), .int (jx_i 0), .int (jx_i 0)])), (q1, .inl (cI, 31, .inl (fun _ => jx_i 0))), (q2, .inl (cI, 31, .inl (fun _ => jx_i 0))), (q3, .inl (cI, 32, .inl (fun _ => jx_i 0))), (q4, .inl (cI, 32, .inl (fun _ => jx_i 0))), (q5, .inl (cI, 32, .inl (fun _ => jx_i 0))), (q6, .inl (cI, 32, .inl (fun _ => jx_i 0))), (q7, .inl (cI, 160, .inl (fun _ => jx_i 0)))]) := hD
  obtain ⟨aT, ha0, hP, hD⟩ : ∃ aT : Nat → Nat, aT 0 = a ∧ va_P D vwCl (jx_ws cI cT [(cp_T aT, (fun _ _ => 0))]) H ∧ va_D A (jx_ws cI cT [(cp_T aT, (fun _ _ => 0))]) := ⟨jx_ad [a, q1, q2, q3, q4, q5, q6, q7], rfl, hP, hD⟩
  obtain ⟨sT, hs0⟩ : ∃ s : jx_St, s = (fun _ _ => 0) := ⟨_, rfl⟩
  rw [← hs0] at hP hD
  have h := h sT hs0
  have hl : lv_has ls 1 [(0, .ref (aT 0))] := by rw [ha0]; exact hl
  unfold wp_T_init at h
  refine W.widen (k := 7) (n := 350) (Nat.le_of_ble_eq_true rfl) (Nat.le_of_ble_eq_true rfl) ?_
  refine lv_aload_n hx hb dX6_init_61 rfl (lv_at hl 0 rfl) ?_
  refine jx_getR C hK hP 0 0 0 rfl rfl rfl fl_X6_9 dX6_init_62 ?_
  refine jx_iconst C dX6_init_65 ?_
  refine jx_callFill C hK hP hD hS hA 0 1 rfl rfl rfl rfl lk_X6_33 rfl hl.1 rfl rfl dX6_init_66 ⟨Nat.le_refl _, Nat.le_refl _⟩ (fun H locs hP hD hS => ?_)
  have hP : va_P D vwCl (jx_ws cI cT [(cp_T aT, (jx_fill sT 0 31 (-1)))]) H := hP
  have hD : va_D A (jx_ws cI cT [(cp_T aT, (jx_fill sT 0 31 (-1)))]) := hD
  refine lv_aload_n hx hb dX6_init_69 rfl (lv_at hl 0 rfl) ?_
  refine jx_getR C hK hP 0 0 1 rfl rfl rfl fl_X6_15 dX6_init_70 ?_
  refine jx_iconst C dX6_init_73 ?_
  refine jx_callFill C hK hP hD hS hA 0 2 rfl rfl rfl rfl lk_X6_33 rfl hl.1 rfl rfl dX6_init_74 ⟨Nat.le_refl _, Nat.le_refl _⟩ (fun H locs hP hD hS => ?_)
  have hP : va_P D vwCl (jx_ws cI cT [(cp_T aT, (jx_fill (jx_fill sT 0 31 (-1)) 1 31 (-1)))]) H := hP
  have hD : va_D A (jx_ws cI cT [(cp_T aT, (jx_fill (jx_fill sT 0 31 (-1)) 1 31 (-1)))]) := hD
  refine lv_aload_n hx hb dX6_init_77 rfl (lv_at hl 0 rfl) ?_
  refine jx_getR C hK hP 0 0 2 rfl rfl rfl fl_X6_18 dX6_init_78 ?_
  refine jx_iconst C dX6_init_81 ?_
  refine jx_callFill C hK hP hD hS hA 0 3 rfl rfl rfl rfl lk_X6_33 rfl hl.1 rfl rfl dX6_init_82 ⟨Nat.le_refl _, Nat.le_refl _⟩ (fun H locs hP hD hS => ?_)
  have hP : va_P D vwCl (jx_ws cI cT [(cp_T aT, (jx_fill (jx_fill (jx_fill sT 0 31 (-1)) 1 31 (-1)) 2 32 (-1)))]) H := hP
  have hD : va_D A (jx_ws cI cT [(cp_T aT, (jx_fill (jx_fill (jx_fill sT 0 31 (-1)) 1 31 (-1)) 2 32 (-1)))]) := hD
  refine lv_aload_n hx hb dX6_init_85 rfl (lv_at hl 0 rfl) ?_
  refine jx_getR C hK hP 0 0 4 rfl rfl rfl fl_X6_24 dX6_init_86 ?_
  refine jx_iconst C dX6_init_89 ?_
  refine jx_callFill C hK hP hD hS hA 0 5 rfl rfl rfl rfl lk_X6_33 rfl hl.1 rfl rfl dX6_init_90 ⟨Nat.le_refl _, Nat.le_refl _⟩ (fun H locs hP hD hS => ?_)
  have hP : va_P D vwCl (jx_ws cI cT [(cp_T aT, (jx_fill (jx_fill (jx_fill (jx_fill sT 0 31 (-1)) 1 31 (-1)) 2 32 (-1)) 4 32 (-1)))]) H := hP
  have hD : va_D A (jx_ws cI cT [(cp_T aT, (jx_fill (jx_fill (jx_fill (jx_fill sT 0 31 (-1)) 1 31 (-1)) 2 32 (-1)) 4 32 (-1)))]) := hD
  refine lv_aload_n hx hb dX6_init_93 rfl (lv_at hl 0 rfl) ?_
  refine jx_getR C hK hP 0 0 5 rfl rfl rfl fl_X6_27 dX6_init_94 ?_
  refine jx_iconst C dX6_init_97 ?_
  refine jx_callFill C hK hP hD hS hA 0 6 rfl rfl rfl rfl lk_X6_33 rfl hl.1 rfl rfl dX6_init_98 ⟨Nat.le_refl _, Nat.le_refl _⟩ (fun H locs hP hD hS => ?_)
  have hP : va_P D vwCl (jx_ws cI cT [(cp_T aT, (jx_fill (jx_fill (jx_fill (jx_fill (jx_fill sT 0 31 (-1)) 1 31 (-1)) 2 32 (-1)) 4 32 (-1)) 5 32 (-1)))]) H := hP
  have hD : va_D A (jx_ws cI cT [(cp_T aT, (jx_fill (jx_fill (jx_fill (jx_fill (jx_fill sT 0 31 (-1)) 1 31 (-1)) 2 32 (-1)) 4 32 (-1)) 5 32 (-1)))]) := hD
  refine lv_aload_n hx hb dX6_init_101 rfl (lv_at hl 0 rfl) ?_
  refine jx_getR C hK hP 0 0 6 rfl rfl rfl fl_X6_30 dX6_init_102 ?_
  refine jx_iconst C dX6_init_105 ?_
  refine jx_callFill C hK hP hD hS hA 0 7 rfl rfl rfl rfl lk_X6_33 rfl hl.1 rfl rfl dX6_init_106 ⟨Nat.le_refl _, Nat.le_refl _⟩ (fun H locs hP hD hS => ?_)
  have hP : va_P D vwCl (jx_ws cI cT [(cp_T aT, (jx_fill (jx_fill (jx_fill (jx_fill (jx_fill (jx_fill sT 0 31 (-1)) 1 31 (-1)) 2 32 (-1)) 4 32 (-1)) 5 32 (-1)) 6 160 (-1)))]) H := hP
  have hD : va_D A (jx_ws cI cT [(cp_T aT, (jx_fill (jx_fill (jx_fill (jx_fill (jx_fill (jx_fill sT 0 31 (-1)) 1 31 (-1)) 2 32 (-1)) 4 32 (-1)) 5 32 (-1)) 6 160 (-1)))]) := hD
  refine lv_aload_n hx hb dX6_init_109 rfl (lv_at hl 0 rfl) ?_
  refine lv_aload_n hx hb dX6_init_110 rfl (lv_at hl 0 rfl) ?_
  refine jx_iconst C dX6_init_111 ?_
  refine jx_callVI C hK hP hD hS hA (ct_T_newNode l D cI cT aT _ (jx_fill (jx_fill (jx_fill (jx_fill (jx_fill (jx_fill sT 0 31 (-1)) 1 31 (-1)) 2 32 (-1)) 4 32 (-1)) 5 32 (-1)) 6 160 (-1)) 0 h) ms_X6_newNode lk_X6_39 [0] rfl rfl (fun _ => rfl) (cs' := (fun u => [(cp_T aT, u)])) (fun _ => rfl) (fun _ => rfl) 0 0 rfl rfl rfl rfl rfl hl.1 rfl rfl dX6_init_112 ⟨Nat.le_refl _, Nat.le_refl _⟩ (fun r112 sT_112 H locs h hP hD hS => ?_)
  have hP : va_P D vwCl (jx_ws cI cT [(cp_T aT, sT_112)]) H := hP
  have hD : va_D A (jx_ws cI cT [(cp_T aT, sT_112)]) := hD
  refine jx_putI C hK hP hD hS 0 0 7 rfl rfl rfl rfl rfl fl_X6_43 fw_X6_7 ⟨rfl, rfl⟩ rfl dX6_init_115 (fun H locs hP hD hS => ?_)
  have hP : va_P D vwCl (jx_ws cI cT [(cp_T aT, (jx_su sT_112 7 0 r112))]) H := hP
  have hD : va_D A (jx_ws cI cT [(cp_T aT, (jx_su sT_112 7 0 r112))]) := hD
  exact jx_endB C hr hlk hAe hS hQQ [(cp_T aT, (jx_su sT_112 7 0 r112))] hP hD ⟨aT, (jx_su sT_112 7 0 r112), rfl, ha0, h⟩ rfl rfl dX6_init_118
set_option maxRecDepth 100000 in
set_option maxHeartbeats 4000000 in
theorem ct_S_init (l : Launch) (D : va_G) (cI cT : ClassId) (a : Nat) (x : Nat) : jx_KB (List jx_Cp) l D cI cT yX5_init cX5_init 2 1 1 32 12 [.ref a, .ref x] (a, .inr (3, [.null, .null, .int (jx_i 0)])) (fun u => u) (fun u => ∃ aS : Nat → Nat, u = [(cp_S aS x, (fun _ _ => 0))] ∧ aS 0 = a) := by
  refine jx_entB (own := RX5) (by decide) rfl (Nat.le_of_ble_eq_true rfl) ?_
  intro p e s m args below meth c A QQ C hr hlk hin hK hAe hA hP hD hS ls hl hQQ
  have hl : lv_has ls 2 [(0, .ref a), (1, .ref x)] := hl
  have hx := C.1
  have hb := C.2.1
  have hin : meth.name = "<init>" := hin
  refine lv_aload_n hx hb dX5_init_0 rfl (lv_at hl 0 rfl) ?_
  refine jx_objI C lo_X5_3 jx_wObj hl.1 rfl dX5_init_1 ?_
  refine lv_aload_n hx hb dX5_init_4 rfl (lv_at hl 0 rfl) ?_
  refine jx_bipush C dX5_init_5 (by decide) ?_
  refine jx_newa C hK hP hD hS hA jx_wArr 32 rfl rfl rfl rfl dX5_init_7 (fun q1 H hP hD hS => ?_)
  have hP : va_P D vwCl ([(a, .inr (3, [.null, .null, .int (jx_i 0)])), (q1, .inl (cI, 32, .inl (fun _ => jx_i 0)))]) H := hP
  have hD : va_D A ([(a, .inr (3, [.null, .null, .int (jx_i 0)])), (q1, .inl (cI, 32, .inl (fun _ => jx_i 0)))]) := hD
  refine jx_putB (v := .ref q1) C hK hP hD hS hin 0 1 rfl fl_X5_9 ff_X5_1 ⟨rfl, rfl⟩ rfl dX5_init_9 (fun H locs hP hD hS => ?_)
  have hP : va_P D vwCl ([(a, .inr (3, [.null, .ref q1, .int (jx_i 0)])), (q1, .inl (cI, 32, .inl (fun _ => jx_i 0)))]) H := hP
  have hD : va_D A ([(a, .inr (3, [.null, .ref q1, .int (jx_i 0)])), (q1, .inl (cI, 32, .inl (fun _ => jx_i 0)))]) := hD
  refine lv_aload_n hx hb dX5_init_12 rfl (lv_at hl 0 rfl) ?_
  refine lv_aload_n hx hb dX5_init_13 rfl (lv_at hl 1 rfl) ?_
  refine jx_putB (v := .ref x) C hK hP hD hS hin 0 0 rfl fl_X5_15 ff_X5_0 ⟨rfl, rfl⟩ rfl dX5_init_14 (fun H locs hP hD hS => ?_)
  have hP : va_P D vwCl ([(a, .inr (3, [.ref x, .ref q1, .int (jx_i 0)])), (q1, .inl (cI, 32, .inl (fun _ => jx_i 0)))]) H := hP
  have hD : va_D A ([(a, .inr (3, [.ref x, .ref q1, .int (jx_i 0)])), (q1, .inl (cI, 32, .inl (fun _ => jx_i 0)))]) := hD
  exact jx_endB C hr hlk hAe hS hQQ [(cp_S (jx_ad [a, q1]) x, (fun _ _ => 0))] hP hD ⟨jx_ad [a, q1], rfl, rfl⟩ rfl rfl dX5_init_17
set_option maxRecDepth 100000 in
set_option maxHeartbeats 4000000 in
theorem ct_C_init (l : Launch) (D : va_G) (cI cT : ClassId) (a : Nat) (x : Nat) (y : Nat) : jx_KB (List jx_Cp) l D cI cT yX1_init cX1_init 3 1 7 274 12 [.ref a, .ref x, .ref y] (a, .inr (0, [.null, .null, .null, .null, .int (jx_i 0), .int (jx_i 0), .null, .null, .int (jx_i 0), .null, .null, .null])) (fun u => u) (fun u => ∃ aC : Nat → Nat, u = [(cp_C aC x y, (fun _ _ => 0))] ∧ aC 0 = a) := by
  refine jx_entB (own := RX1) (by decide) rfl (Nat.le_of_ble_eq_true rfl) ?_
  intro p e s m args below meth c A QQ C hr hlk hin hK hAe hA hP hD hS ls hl hQQ
  have hl : lv_has ls 3 [(0, .ref a), (1, .ref x), (2, .ref y)] := hl
  have hx := C.1
  have hb := C.2.1
  have hin : meth.name = "<init>" := hin
  refine lv_aload_n hx hb dX1_init_0 rfl (lv_at hl 0 rfl) ?_
  refine jx_objI C lo_X1_3 jx_wObj hl.1 rfl dX1_init_1 ?_
  refine lv_aload_n hx hb dX1_init_4 rfl (lv_at hl 0 rfl) ?_
  refine jx_bipush C dX1_init_5 (by decide) ?_
  refine jx_newa C hK hP hD hS hA jx_wArr 64 rfl rfl rfl rfl dX1_init_7 (fun q1 H hP hD hS => ?_)
  have hP : va_P D vwCl ([(a, .inr (0, [.null, .null, .null, .null, .int (jx_i 0), .int (jx_i 0), .null, .null, .int (jx_i 0), .null, .null, .null])), (q1, .inl (cI, 64, .inl (fun _ => jx_i 0)))]) H := hP
  have hD : va_D A ([(a, .inr (0, [.null, .null, .null, .null, .int (jx_i 0), .int (jx_i 0), .null, .null, .int (jx_i 0), .null, .null, .null])), (q1, .inl (cI, 64, .inl (fun _ => jx_i 0)))]) := hD
  refine jx_putB (v := .ref q1) C hK hP hD hS hin 0 2 rfl fl_X1_9 ff_X1_2 ⟨rfl, rfl⟩ rfl dX1_init_9 (fun H locs hP hD hS => ?_)
  have hP : va_P D vwCl ([(a, .inr (0, [.null, .null, .ref q1, .null, .int (jx_i 0), .int (jx_i 0), .null, .null, .int (jx_i 0), .null, .null, .null])), (q1, .inl (cI, 64, .inl (fun _ => jx_i 0)))]) H := hP
  have hD : va_D A ([(a, .inr (0, [.null, .null, .ref q1, .null, .int (jx_i 0), .int (jx_i 0), .null, .null, .int (jx_i 0), .null, .null, .null])), (q1, .inl (cI, 64, .inl (fun _ => jx_i 0)))]) := hD
  refine lv_aload_n hx hb dX1_init_12 rfl (lv_at hl 0 rfl) ?_
  refine jx_bipush C dX1_init_13 (by decide) ?_
  refine jx_newa C hK hP hD hS hA jx_wArr 64 rfl rfl rfl rfl dX1_init_15 (fun q2 H hP hD hS => ?_)
  have hP : va_P D vwCl ([(a, .inr (0, [.null, .null, .ref q1, .null, .int (jx_i 0), .int (jx_i 0), .null, .null, .int (jx_i 0), .null, .null, .null])), (q1, .inl (cI, 64, .inl (fun _ => jx_i 0))), (q2, .inl (cI, 64, .inl (fun _ => jx_i 0)))]) H := hP
  have hD : va_D A ([(a, .inr (0, [.null, .null, .ref q1, .null, .int (jx_i 0), .int (jx_i 0), .null, .null, .int (jx_i 0), .null, .null, .null])), (q1, .inl (cI, 64, .inl (fun _ => jx_i 0))), (q2, .inl (cI, 64, .inl (fun _ => jx_i 0)))]) := hD
  refine jx_putB (v := .ref q2) C hK hP hD hS hin 0 3 rfl fl_X1_15 ff_X1_3 ⟨rfl, rfl⟩ rfl dX1_init_17 (fun H locs hP hD hS => ?_)
  have hP : va_P D vwCl ([(a, .inr (0, [.null, .null, .ref q1, .ref q2, .int (jx_i 0), .int (jx_i 0), .null, .null, .int (jx_i 0), .null, .null, .null])), (q1, .inl (cI, 64, .inl (fun _ => jx_i 0))), (q2, .inl (cI, 64, .inl (fun _ => jx_i 0)))]) H := hP
  have hD : va_D A ([(a, .inr (0, [.null, .null, .ref q1, .ref q2, .int (jx_i 0), .int (jx_i 0), .null, .null, .int (jx_i 0), .null, .null, .null])), (q1, .inl (cI, 64, .inl (fun _ => jx_i 0))), (q2, .inl (cI, 64, .inl (fun _ => jx_i 0)))]) := hD
  refine lv_aload_n hx hb dX1_init_20 rfl (lv_at hl 0 rfl) ?_
  refine jx_bipush C dX1_init_21 (by decide) ?_
  refine jx_newa C hK hP hD hS hA jx_wArr 64 rfl rfl rfl rfl dX1_init_23 (fun q3 H hP hD hS => ?_)
  have hP : va_P D vwCl ([(a, .inr (0, [.null, .null, .ref q1, .ref q2, .int (jx_i 0), .int (jx_i 0), .null, .null, .int (jx_i 0), .null, .null, .null])), (q1, .inl (cI, 64, .inl (fun _ => jx_i 0))), (q2, .inl (cI, 64, .inl (fun _ => jx_i 0))), (q3, .inl (cI, 64, .inl (fun _ => jx_i 0)))]) H := hP
  have hD : va_D A ([(a, .inr (0, [.null, .null, .ref q1, .ref q2, .int (jx_i 0), .int (jx_i 0), .null, .null, .int (jx_i 0), .null, .null, .null])), (q1, .inl (cI, 64, .inl (fun _ => jx_i 0))), (q2, .inl (cI, 64, .inl (fun _ => jx_i 0))), (q3, .inl (cI, 64, .inl (fun _ => jx_i 0)))]) := hD
  refine jx_putB (v := .ref q3) C hK hP hD hS hin 0 6 rfl fl_X1_18 ff_X1_6 ⟨rfl, rfl⟩ rfl dX1_init_25 (fun H locs hP hD hS => ?_)
  have hP : va_P D vwCl ([(a, .inr (0, [.null, .null, .ref q1, .ref q2, .int (jx_i 0), .int (jx_i 0), .ref q3, .null, .int (jx_i 0), .null, .null, .null])), (q1, .inl (cI, 64, .inl (fun _ => jx_i 0))), (q2, .inl (cI, 64, .inl (fun _ => jx_i 0))), (q3, .inl (cI, 64, .inl (fun _ => jx_i 0)))]) H := hP
  have hD : va_D A ([(a, .inr (0, [.null, .null, .ref q1, .ref q2, .int (jx_i 0), .int (jx_i 0), .ref q3, .null, .int (jx_i 0), .null, .null, .null])), (q1, .inl (cI, 64, .inl (fun _ => jx_i 0))), (q2, .inl (cI, 64, .inl (fun _ => jx_i 0))), (q3, .inl (cI, 64, .inl (fun _ => jx_i 0)))]) := hD
  refine lv_aload_n hx hb dX1_init_28 rfl (lv_at hl 0 rfl) ?_
  refine jx_bipush C dX1_init_29 (by decide) ?_
  refine jx_newa C hK hP hD hS hA jx_wArr 64 rfl rfl rfl rfl dX1_init_31 (fun q4 H hP hD hS => ?_)
  have hP : va_P D vwCl ([(a, .inr (0, [.null, .null, .ref q1, .ref q2, .int (jx_i 0), .int (jx_i 0), .ref q3, .null, .int (jx_i 0), .null, .null, .null])), (q1, .inl (cI, 64, .inl (fun _ => jx_i 0))), (q2, .inl (cI, 64, .inl (fun _ => jx_i 0))), (q3, .inl (cI, 64, .inl (fun _ => jx_i 0))), (q4, .inl (cI, 64, .inl (fun _ => jx_i 0)))]) H := hP
  have hD : va_D A ([(a, .inr (0, [.null, .null, .ref q1, .ref q2, .int (jx_i 0), .int (jx_i 0), .ref q3, .null, .int (jx_i 0), .null, .null, .null])), (q1, .inl (cI, 64, .inl (fun _ => jx_i 0))), (q2, .inl (cI, 64, .inl (fun _ => jx_i 0))), (q3, .inl (cI, 64, .inl (fun _ => jx_i 0))), (q4, .inl (cI, 64, .inl (fun _ => jx_i 0)))]) := hD
  refine jx_putB (v := .ref q4) C hK hP hD hS hin 0 7 rfl fl_X1_21 ff_X1_7 ⟨rfl, rfl⟩ rfl dX1_init_33 (fun H locs hP hD hS => ?_)
  have hP : va_P D vwCl ([(a, .inr (0, [.null, .null, .ref q1, .ref q2, .int (jx_i 0), .int (jx_i 0), .ref q3, .ref q4, .int (jx_i 0), .null, .null, .null])), (q1, .inl (cI, 64, .inl (fun _ => jx_i 0))), (q2, .inl (cI, 64, .inl (fun _ => jx_i 0))), (q3, .inl (cI, 64, .inl (fun _ => jx_i 0))), (q4, .inl (cI, 64, .inl (fun _ => jx_i 0)))]) H := hP
  have hD : va_D A ([(a, .inr (0, [.null, .null, .ref q1, .ref q2, .int (jx_i 0), .int (jx_i 0), .ref q3, .ref q4, .int (jx_i 0), .null, .null, .null])), (q1, .inl (cI, 64, .inl (fun _ => jx_i 0))), (q2, .inl (cI, 64, .inl (fun _ => jx_i 0))), (q3, .inl (cI, 64, .inl (fun _ => jx_i 0))), (q4, .inl (cI, 64, .inl (fun _ => jx_i 0)))]) := hD
  refine lv_aload_n hx hb dX1_init_36 rfl (lv_at hl 0 rfl) ?_
  refine jx_bipush C dX1_init_37 (by decide) ?_
  refine jx_newa C hK hP hD hS hA jx_wArr 8 rfl rfl rfl rfl dX1_init_39 (fun q5 H hP hD hS => ?_)
  have hP : va_P D vwCl ([(a, .inr (0, [.null, .null, .ref q1, .ref q2, .int (jx_i 0), .int (jx_i 0), .ref q3, .ref q4, .int (jx_i 0), .null, .null, .null])), (q1, .inl (cI, 64, .inl (fun _ => jx_i 0))), (q2, .inl (cI, 64, .inl (fun _ => jx_i 0))), (q3, .inl (cI, 64, .inl (fun _ => jx_i 0))), (q4, .inl (cI, 64, .inl (fun _ => jx_i 0))), (q5, .inl (cI, 8, .inl (fun _ => jx_i 0)))]) H := hP
  have hD : va_D A ([(a, .inr (0, [.null, .null, .ref q1, .ref q2, .int (jx_i 0), .int (jx_i 0), .ref q3, .ref q4, .int (jx_i 0), .null, .null, .null])), (q1, .inl (cI, 64, .inl (fun _ => jx_i 0))), (q2, .inl (cI, 64, .inl (fun _ => jx_i 0))), (q3, .inl (cI, 64, .inl (fun _ => jx_i 0))), (q4, .inl (cI, 64, .inl (fun _ => jx_i 0))), (q5, .inl (cI, 8, .inl (fun _ => jx_i 0)))]) := hD
  refine jx_putB (v := .ref q5) C hK hP hD hS hin 0 9 rfl fl_X1_24 ff_X1_9 ⟨rfl, rfl⟩ rfl dX1_init_41 (fun H locs hP hD hS => ?_)
  have hP : va_P D vwCl ([(a, .inr (0, [.null, .null, .ref q1, .ref q2, .int (jx_i 0), .int (jx_i 0), .ref q3, .ref q4, .int (jx_i 0), .ref q5, .null, .null])), (q1, .inl (cI, 64, .inl (fun _ => jx_i 0))), (q2, .inl (cI, 64, .inl (fun _ => jx_i 0))), (q3, .inl (cI, 64, .inl (fun _ => jx_i 0))), (q4, .inl (cI, 64, .inl (fun _ => jx_i 0))), (q5, .inl (cI, 8, .inl (fun _ => jx_i 0)))]) H := hP
  have hD : va_D A ([(a, .inr (0, [.null, .null, .ref q1, .ref q2, .int (jx_i 0), .int (jx_i 0), .ref q3, .ref q4, .int (jx_i 0), .ref q5, .null, .null])), (q1, .inl (cI, 64, .inl (fun _ => jx_i 0))), (q2, .inl (cI, 64, .inl (fun _ => jx_i 0))), (q3, .inl (cI, 64, .inl (fun _ => jx_i 0))), (q4, .inl (cI, 64, .inl (fun _ => jx_i 0))), (q5, .inl (cI, 8, .inl (fun _ => jx_i 0)))]) := hD
  refine lv_aload_n hx hb dX1_init_44 rfl (lv_at hl 0 rfl) ?_
  refine jx_iconst C dX1_init_45 ?_
  refine jx_newa C hK hP hD hS hA jx_wArr 5 rfl rfl rfl rfl dX1_init_46 (fun q6 H hP hD hS => ?_)
  have hP : va_P D vwCl ([(a, .inr (0, [.null, .null, .ref q1, .ref q2, .int (jx_i 0), .int (jx_i 0), .ref q3, .ref q4, .int (jx_i 0), .ref q5, .null, .null])), (q1, .inl (cI, 64, .inl (fun _ => jx_i 0))), (q2, .inl (cI, 64, .inl (fun _ => jx_i 0))), (q3, .inl (cI, 64, .inl (fun _ => jx_i 0))), (q4, .inl (cI, 64, .inl (fun _ => jx_i 0))), (q5, .inl (cI, 8, .inl (fun _ => jx_i 0))), (q6, .inl (cI, 5, .inl (fun _ => jx_i 0)))]) H := hP
  have hD : va_D A ([(a, .inr (0, [.null, .null, .ref q1, .ref q2, .int (jx_i 0), .int (jx_i 0), .ref q3, .ref q4, .int (jx_i 0), .ref q5, .null, .null])), (q1, .inl (cI, 64, .inl (fun _ => jx_i 0))), (q2, .inl (cI, 64, .inl (fun _ => jx_i 0))), (q3, .inl (cI, 64, .inl (fun _ => jx_i 0))), (q4, .inl (cI, 64, .inl (fun _ => jx_i 0))), (q5, .inl (cI, 8, .inl (fun _ => jx_i 0))), (q6, .inl (cI, 5, .inl (fun _ => jx_i 0)))]) := hD
  refine jx_putB (v := .ref q6) C hK hP hD hS hin 0 10 rfl fl_X1_27 ff_X1_10 ⟨rfl, rfl⟩ rfl dX1_init_48 (fun H locs hP hD hS => ?_)
  have hP : va_P D vwCl ([(a, .inr (0, [.null, .null, .ref q1, .ref q2, .int (jx_i 0), .int (jx_i 0), .ref q3, .ref q4, .int (jx_i 0), .ref q5, .ref q6, .null])), (q1, .inl (cI, 64, .inl (fun _ => jx_i 0))), (q2, .inl (cI, 64, .inl (fun _ => jx_i 0))), (q3, .inl (cI, 64, .inl (fun _ => jx_i 0))), (q4, .inl (cI, 64, .inl (fun _ => jx_i 0))), (q5, .inl (cI, 8, .inl (fun _ => jx_i 0))), (q6, .inl (cI, 5, .inl (fun _ => jx_i 0)))]) H := hP
  have hD : va_D A ([(a, .inr (0, [.null, .null, .ref q1, .ref q2, .int (jx_i 0), .int (jx_i 0), .ref q3, .ref q4, .int (jx_i 0), .ref q5, .ref q6, .null])), (q1, .inl (cI, 64, .inl (fun _ => jx_i 0))), (q2, .inl (cI, 64, .inl (fun _ => jx_i 0))), (q3, .inl (cI, 64, .inl (fun _ => jx_i 0))), (q4, .inl (cI, 64, .inl (fun _ => jx_i 0))), (q5, .inl (cI, 8, .inl (fun _ => jx_i 0))), (q6, .inl (cI, 5, .inl (fun _ => jx_i 0)))]) := hD
  refine lv_aload_n hx hb dX1_init_51 rfl (lv_at hl 0 rfl) ?_
  refine jx_iconst C dX1_init_52 ?_
  refine jx_newa C hK hP hD hS hA jx_wArr 5 rfl rfl rfl rfl dX1_init_53 (fun q7 H hP hD hS => ?_)
  have hP : va_P D vwCl ([(a, .inr (0, [.null, .null, .ref q1, .ref q2, .int (jx_i 0), .int (jx_i 0), .ref q3, .ref q4, .int (jx_i 0), .ref q5, .ref q6, .null])), (q1, .inl (cI, 64, .inl (fun _ => jx_i 0))), (q2, .inl (cI, 64, .inl (fun _ => jx_i 0))), (q3, .inl (cI, 64, .inl (fun _ => jx_i 0))), (q4, .inl (cI, 64, .inl (fun _ => jx_i 0))), (q5, .inl (cI, 8, .inl (fun _ => jx_i 0))), (q6, .inl (cI, 5, .inl (fun _ => jx_i 0))), (q7, .inl (cI, 5, .inl (fun _ => jx_i 0)))]) H := hP
  have hD : va_D A ([(a, .inr (0, [.null, .null, .ref q1, .ref q2, .int (jx_i 0), .int (jx_i 0), .ref q3, .ref q4, .int (jx_i 0), .ref q5, .ref q6, .null])), (q1, .inl (cI, 64, .inl (fun _ => jx_i 0))), (q2, .inl (cI, 64, .inl (fun _ => jx_i 0))), (q3, .inl (cI, 64, .inl (fun _ => jx_i 0))), (q4, .inl (cI, 64, .inl (fun _ => jx_i 0))), (q5, .inl (cI, 8, .inl (fun _ => jx_i 0))), (q6, .inl (cI, 5, .inl (fun _ => jx_i 0))), (q7, .inl (cI, 5, .inl (fun _ => jx_i 0)))]) := hD
  refine jx_putB (v := .ref q7) C hK hP hD hS hin 0 11 rfl fl_X1_30 ff_X1_11 ⟨rfl, rfl⟩ rfl dX1_init_55 (fun H locs hP hD hS => ?_)
  have hP : va_P D vwCl ([(a, .inr (0, [.null, .null, .ref q1, .ref q2, .int (jx_i 0), .int (jx_i 0), .ref q3, .ref q4, .int (jx_i 0), .ref q5, .ref q6, .ref q7])), (q1, .inl (cI, 64, .inl (fun _ => jx_i 0))), (q2, .inl (cI, 64, .inl (fun _ => jx_i 0))), (q3, .inl (cI, 64, .inl (fun _ => jx_i 0))), (q4, .inl (cI, 64, .inl (fun _ => jx_i 0))), (q5, .inl (cI, 8, .inl (fun _ => jx_i 0))), (q6, .inl (cI, 5, .inl (fun _ => jx_i 0))), (q7, .inl (cI, 5, .inl (fun _ => jx_i 0)))]) H := hP
  have hD : va_D A ([(a, .inr (0, [.null, .null, .ref q1, .ref q2, .int (jx_i 0), .int (jx_i 0), .ref q3, .ref q4, .int (jx_i 0), .ref q5, .ref q6, .ref q7])), (q1, .inl (cI, 64, .inl (fun _ => jx_i 0))), (q2, .inl (cI, 64, .inl (fun _ => jx_i 0))), (q3, .inl (cI, 64, .inl (fun _ => jx_i 0))), (q4, .inl (cI, 64, .inl (fun _ => jx_i 0))), (q5, .inl (cI, 8, .inl (fun _ => jx_i 0))), (q6, .inl (cI, 5, .inl (fun _ => jx_i 0))), (q7, .inl (cI, 5, .inl (fun _ => jx_i 0)))]) := hD
  refine lv_aload_n hx hb dX1_init_58 rfl (lv_at hl 0 rfl) ?_
  refine lv_aload_n hx hb dX1_init_59 rfl (lv_at hl 1 rfl) ?_
  refine jx_putB (v := .ref x) C hK hP hD hS hin 0 0 rfl fl_X1_33 ff_X1_0 ⟨rfl, rfl⟩ rfl dX1_init_60 (fun H locs hP hD hS => ?_)
  have hP : va_P D vwCl ([(a, .inr (0, [.ref x, .null, .ref q1, .ref q2, .int (jx_i 0), .int (jx_i 0), .ref q3, .ref q4, .int (jx_i 0), .ref q5, .ref q6, .ref q7])), (q1, .inl (cI, 64, .inl (fun _ => jx_i 0))), (q2, .inl (cI, 64, .inl (fun _ => jx_i 0))), (q3, .inl (cI, 64, .inl (fun _ => jx_i 0))), (q4, .inl (cI, 64, .inl (fun _ => jx_i 0))), (q5, .inl (cI, 8, .inl (fun _ => jx_i 0))), (q6, .inl (cI, 5, .inl (fun _ => jx_i 0))), (q7, .inl (cI, 5, .inl (fun _ => jx_i 0)))]) H := hP
  have hD : va_D A ([(a, .inr (0, [.ref x, .null, .ref q1, .ref q2, .int (jx_i 0), .int (jx_i 0), .ref q3, .ref q4, .int (jx_i 0), .ref q5, .ref q6, .ref q7])), (q1, .inl (cI, 64, .inl (fun _ => jx_i 0))), (q2, .inl (cI, 64, .inl (fun _ => jx_i 0))), (q3, .inl (cI, 64, .inl (fun _ => jx_i 0))), (q4, .inl (cI, 64, .inl (fun _ => jx_i 0))), (q5, .inl (cI, 8, .inl (fun _ => jx_i 0))), (q6, .inl (cI, 5, .inl (fun _ => jx_i 0))), (q7, .inl (cI, 5, .inl (fun _ => jx_i 0)))]) := hD
  refine lv_aload_n hx hb dX1_init_63 rfl (lv_at hl 0 rfl) ?_
  refine lv_aload_n hx hb dX1_init_64 rfl (lv_at hl 2 rfl) ?_
  refine jx_putB (v := .ref y) C hK hP hD hS hin 0 1 rfl fl_X1_37 ff_X1_1 ⟨rfl, rfl⟩ rfl dX1_init_65 (fun H locs hP hD hS => ?_)
  have hP : va_P D vwCl ([(a, .inr (0, [.ref x, .ref y, .ref q1, .ref q2, .int (jx_i 0), .int (jx_i 0), .ref q3, .ref q4, .int (jx_i 0), .ref q5, .ref q6, .ref q7])), (q1, .inl (cI, 64, .inl (fun _ => jx_i 0))), (q2, .inl (cI, 64, .inl (fun _ => jx_i 0))), (q3, .inl (cI, 64, .inl (fun _ => jx_i 0))), (q4, .inl (cI, 64, .inl (fun _ => jx_i 0))), (q5, .inl (cI, 8, .inl (fun _ => jx_i 0))), (q6, .inl (cI, 5, .inl (fun _ => jx_i 0))), (q7, .inl (cI, 5, .inl (fun _ => jx_i 0)))]) H := hP
  have hD : va_D A ([(a, .inr (0, [.ref x, .ref y, .ref q1, .ref q2, .int (jx_i 0), .int (jx_i 0), .ref q3, .ref q4, .int (jx_i 0), .ref q5, .ref q6, .ref q7])), (q1, .inl (cI, 64, .inl (fun _ => jx_i 0))), (q2, .inl (cI, 64, .inl (fun _ => jx_i 0))), (q3, .inl (cI, 64, .inl (fun _ => jx_i 0))), (q4, .inl (cI, 64, .inl (fun _ => jx_i 0))), (q5, .inl (cI, 8, .inl (fun _ => jx_i 0))), (q6, .inl (cI, 5, .inl (fun _ => jx_i 0))), (q7, .inl (cI, 5, .inl (fun _ => jx_i 0)))]) := hD
  exact jx_endB C hr hlk hAe hS hQQ [(cp_C (jx_ad [a, q1, q2, q3, q4, q5, q6, q7]) x y, (fun _ _ => 0))] hP hD ⟨jx_ad [a, q1, q2, q3, q4, q5, q6, q7], rfl, rfl⟩ rfl rfl dX1_init_68
set_option maxRecDepth 100000 in
set_option maxHeartbeats 4000000 in
theorem ct_O_init (l : Launch) (D : va_G) (cI cT : ClassId) (a : Nat) : jx_KB (List jx_Cp) l D cI cT yX3_init cX3_init 1 1 2 65 12 [.ref a] (a, .inr (2, [.null, .int (jx_i 0), .null, .int (jx_i 0), .int (jx_i 0), .int (jx_i 0), .int (jx_i 0), .int (jx_i 0), .int (jx_i 0)])) (fun u => u) (fun u => ∃ aO : Nat → Nat, u = [(cp_O aO, (fun _ _ => 0))] ∧ aO 0 = a) := by
  refine jx_entB (own := RX3) (by decide) rfl (Nat.le_of_ble_eq_true rfl) ?_
  intro p e s m args below meth c A QQ C hr hlk hin hK hAe hA hP hD hS ls hl hQQ
  have hl : lv_has ls 1 [(0, .ref a)] := hl
  have hx := C.1
  have hb := C.2.1
  have hin : meth.name = "<init>" := hin
  refine lv_aload_n hx hb dX3_init_0 rfl (lv_at hl 0 rfl) ?_
  refine jx_objI C lo_X3_3 jx_wObj hl.1 rfl dX3_init_1 ?_
  refine lv_aload_n hx hb dX3_init_4 rfl (lv_at hl 0 rfl) ?_
  refine jx_bipush C dX3_init_5 (by decide) ?_
  refine jx_newa C hK hP hD hS hA jx_wArr 60 rfl rfl rfl rfl dX3_init_7 (fun q1 H hP hD hS => ?_)
  have hP : va_P D vwCl ([(a, .inr (2, [.null, .int (jx_i 0), .null, .int (jx_i 0), .int (jx_i 0), .int (jx_i 0), .int (jx_i 0), .int (jx_i 0), .int (jx_i 0)])), (q1, .inl (cI, 60, .inl (fun _ => jx_i 0)))]) H := hP
  have hD : va_D A ([(a, .inr (2, [.null, .int (jx_i 0), .null, .int (jx_i 0), .int (jx_i 0), .int (jx_i 0), .int (jx_i 0), .int (jx_i 0), .int (jx_i 0)])), (q1, .inl (cI, 60, .inl (fun _ => jx_i 0)))]) := hD
  refine jx_putB (v := .ref q1) C hK hP hD hS hin 0 0 rfl fl_X3_9 ff_X3_0 ⟨rfl, rfl⟩ rfl dX3_init_9 (fun H locs hP hD hS => ?_)
  have hP : va_P D vwCl ([(a, .inr (2, [.ref q1, .int (jx_i 0), .null, .int (jx_i 0), .int (jx_i 0), .int (jx_i 0), .int (jx_i 0), .int (jx_i 0), .int (jx_i 0)])), (q1, .inl (cI, 60, .inl (fun _ => jx_i 0)))]) H := hP
  have hD : va_D A ([(a, .inr (2, [.ref q1, .int (jx_i 0), .null, .int (jx_i 0), .int (jx_i 0), .int (jx_i 0), .int (jx_i 0), .int (jx_i 0), .int (jx_i 0)])), (q1, .inl (cI, 60, .inl (fun _ => jx_i 0)))]) := hD
  refine lv_aload_n hx hb dX3_init_12 rfl (lv_at hl 0 rfl) ?_
  refine jx_iconst C dX3_init_13 ?_
  refine jx_newa C hK hP hD hS hA jx_wArr 5 rfl rfl rfl rfl dX3_init_14 (fun q2 H hP hD hS => ?_)
  have hP : va_P D vwCl ([(a, .inr (2, [.ref q1, .int (jx_i 0), .null, .int (jx_i 0), .int (jx_i 0), .int (jx_i 0), .int (jx_i 0), .int (jx_i 0), .int (jx_i 0)])), (q1, .inl (cI, 60, .inl (fun _ => jx_i 0))), (q2, .inl (cI, 5, .inl (fun _ => jx_i 0)))]) H := hP
  have hD : va_D A ([(a, .inr (2, [.ref q1, .int (jx_i 0), .null, .int (jx_i 0), .int (jx_i 0), .int (jx_i 0), .int (jx_i 0), .int (jx_i 0), .int (jx_i 0)])), (q1, .inl (cI, 60, .inl (fun _ => jx_i 0))), (q2, .inl (cI, 5, .inl (fun _ => jx_i 0)))]) := hD
  refine jx_putB (v := .ref q2) C hK hP hD hS hin 0 2 rfl fl_X3_15 ff_X3_2 ⟨rfl, rfl⟩ rfl dX3_init_16 (fun H locs hP hD hS => ?_)
  have hP : va_P D vwCl ([(a, .inr (2, [.ref q1, .int (jx_i 0), .ref q2, .int (jx_i 0), .int (jx_i 0), .int (jx_i 0), .int (jx_i 0), .int (jx_i 0), .int (jx_i 0)])), (q1, .inl (cI, 60, .inl (fun _ => jx_i 0))), (q2, .inl (cI, 5, .inl (fun _ => jx_i 0)))]) H := hP
  have hD : va_D A ([(a, .inr (2, [.ref q1, .int (jx_i 0), .ref q2, .int (jx_i 0), .int (jx_i 0), .int (jx_i 0), .int (jx_i 0), .int (jx_i 0), .int (jx_i 0)])), (q1, .inl (cI, 60, .inl (fun _ => jx_i 0))), (q2, .inl (cI, 5, .inl (fun _ => jx_i 0)))]) := hD
  exact jx_endB C hr hlk hAe hS hQQ [(cp_O (jx_ad [a, q1, q2]), (fun _ _ => 0))] hP hD ⟨jx_ad [a, q1, q2], rfl, rfl⟩ rfl rfl dX3_init_19
set_option maxRecDepth 100000 in
set_option maxHeartbeats 4000000 in
theorem ct_H_init (l : Launch) (D : va_G) (cI cT : ClassId) (a : Nat) (Q : jx_St → Prop) (h : ∀ sT : jx_St, sT = (fun _ _ => 0) → wp_T_init Q sT) : jx_KB (List jx_Cp) l D cI cT yX2_init cX2_init 2 4 33 1448 84 [.ref a] (a, .inr (1, [.null, .int (jx_i 0), .int (jx_i 0)])) (fun u => u) (fun u => ∃ (aH : Nat → Nat) (hT : Nat → Nat → Nat) (sH0 sH1 sH2 sH3 : jx_St), u = [(cp_H aH (fun j => hT j 0), (fun _ _ => 0)), (cp_T (hT 0), sH0), (cp_T (hT 1), sH1), (cp_T (hT 2), sH2), (cp_T (hT 3), sH3)] ∧ aH 0 = a ∧ Q sH0 ∧ Q sH1 ∧ Q sH2 ∧ Q sH3) := by
  refine jx_entB (own := RX2) (by decide) rfl (Nat.le_of_ble_eq_true rfl) ?_
  intro p e s m args below meth c A QQ C hr hlk hin hK hAe hA hP hD hS ls hl hQQ
  have hl : lv_has ls 2 [(0, .ref a)] := hl
  have hx := C.1
  have hb := C.2.1
  have hin : meth.name = "<init>" := hin
  refine lv_aload_n hx hb dX2_init_0 rfl (lv_at hl 0 rfl) ?_
  refine jx_objI C lo_X2_3 jx_wObj hl.1 rfl dX2_init_1 ?_
  refine lv_aload_n hx hb dX2_init_4 rfl (lv_at hl 0 rfl) ?_
  refine jx_iconst C dX2_init_5 ?_
  refine jx_newq C hK hP hD hS hA rfl kl_X2_9 rfl rfl dX2_init_6 (fun q1 H hP hD hS => ?_)
  have hP : va_P D vwCl ([(a, .inr (1, [.null, .int (jx_i 0), .int (jx_i 0)])), (q1, .inl (cT, 4, .inr (.inr (.inr (.inr (fun _ => none))))))]) H := hP
  have hD : va_D A ([(a, .inr (1, [.null, .int (jx_i 0), .int (jx_i 0)])), (q1, .inl (cT, 4, .inr (.inr (.inr (.inr (fun _ => none))))))]) := hD
  refine jx_putB (v := .ref q1) C hK hP hD hS hin 0 0 rfl fl_X2_11 ff_X2_0 ⟨rfl, rfl⟩ rfl dX2_init_9 (fun H locs hP hD hS => ?_)
  have hP : va_P D vwCl ([(a, .inr (1, [.ref q1, .int (jx_i 0), .int (jx_i 0)])), (q1, .inl (cT, 4, .inr (.inr (.inr (.inr (fun _ => none))))))]) H := hP
  have hD : va_D A ([(a, .inr (1, [.ref q1, .int (jx_i 0), .int (jx_i 0)])), (q1, .inl (cT, 4, .inr (.inr (.inr (.inr (fun _ => none))))))]) := hD
  refine jx_iconst C dX2_init_12 ?_
  refine lv_istore_n (lv' := [(1, .int (jx_i 0)), (0, .ref a)]) hx hb dX2_init_13 rfl hl (by decide) rfl (fun ls hl => ?_)
  refine lv_iload_n hx hb dX2_init_14 rfl (lv_at hl 0 rfl) ?_
  refine lv_aload_n hx hb dX2_init_15 rfl (lv_at hl 1 rfl) ?_
  refine jx_getB C hK hP 0 0 rfl rfl fl_X2_11 dX2_init_16 ?_
  refine jx_alenB (n := 4) C hK hP 1 rfl dX2_init_19 ?_
  refine jx_cge C (jx_inR (by decide) (by decide)) (jx_inR (by decide) (by decide)) (tgt := 42) dX2_init_20 (by decide) (fun hc => absurd (by decide) hc) (fun _ => ?_)
  refine lv_aload_n hx hb dX2_init_23 rfl (lv_at hl 1 rfl) ?_
  refine jx_getB C hK hP 0 0 rfl rfl fl_X2_11 dX2_init_24 ?_
  refine lv_iload_n hx hb dX2_init_27 rfl (lv_at hl 0 rfl) ?_
  refine jx_newB C hK hP hD hS hA ne_X2_9 rfl rfl dX2_init_28 (fun q2 H hP hD hS => ?_)
  have hP : va_P D vwCl ([(a, .inr (1, [.ref q1, .int (jx_i 0), .int (jx_i 0)])), (q1, .inl (cT, 4, .inr (.inr (.inr (.inr (fun _ => none))))))] ++ [(q2, .inr (4, [.null, .null, .null, .null, .null, .null, .null, .int (jx_i 0), .int (jx_i 0), .int (jx_i 0), .int (jx_i 0)]))]) H := hP
  have hD : va_D A ([(a, .inr (1, [.ref q1, .int (jx_i 0), .int (jx_i 0)])), (q1, .inl (cT, 4, .inr (.inr (.inr (.inr (fun _ => none))))))] ++ [(q2, .inr (4, [.null, .null, .null, .null, .null, .null, .null, .int (jx_i 0), .int (jx_i 0), .int (jx_i 0), .int (jx_i 0)]))]) := hD
  refine lv_dup hx hb dX2_init_31 rfl ?_
  refine jx_callB C hK hP hD hS hA (ct_T_init l D cI cT q2 Q h) mi_X6 lo_X2_17 rfl rfl hl.1 rfl rfl dX2_init_32 (fun u H locs hu hP hD hS => ?_)
  obtain ⟨aT1, sT1, rfl, ha1, hq1⟩ := hu
  have hP : va_P D vwCl ([(a, .inr (1, [.ref q1, .int (jx_i 0), .int (jx_i 0)])), (q1, .inl (cT, 4, .inr (.inr (.inr (.inr (fun _ => none))))))] ++ jx_ws cI cT [(cp_T aT1, sT1)]) H := hP
  have hD : va_D A ([(a, .inr (1, [.ref q1, .int (jx_i 0), .int (jx_i 0)])), (q1, .inl (cT, 4, .inr (.inr (.inr (.inr (fun _ => none))))))] ++ jx_ws cI cT [(cp_T aT1, sT1)]) := hD
  rw [← ha1]
  refine jx_astB C hK hP hD hS 1 2 0 rfl rfl rfl rfl dX2_init_35 (fun H locs hP hD hS => ?_)
  have hP : va_P D vwCl ([(a, .inr (1, [.ref q1, .int (jx_i 0), .int (jx_i 0)])), (q1, .inl (cT, 4, .inr (.inr (.inr (.inr (va_up (fun _ => none) 0 (some (aT1 0))))))))] ++ jx_ws cI cT [(cp_T aT1, sT1)]) H := hP
  have hD : va_D A ([(a, .inr (1, [.ref q1, .int (jx_i 0), .int (jx_i 0)])), (q1, .inl (cT, 4, .inr (.inr (.inr (.inr (va_up (fun _ => none) 0 (some (aT1 0))))))))] ++ jx_ws cI cT [(cp_T aT1, sT1)]) := hD
  refine jx_iinc C (lv' := [(1, .int (jx_i 1)), (0, .ref a)]) dX2_init_36 hl (k := 0) rfl (by decide) rfl (fun ls hl => ?_)
  refine lv_goto (tgt := 14) hx hb dX2_init_39 (by decide) ?_
  refine lv_iload_n hx hb dX2_init_14 rfl (lv_at hl 0 rfl) ?_
  refine lv_aload_n hx hb dX2_init_15 rfl (lv_at hl 1 rfl) ?_
  refine jx_getB C hK hP 0 0 rfl rfl fl_X2_11 dX2_init_16 ?_
  refine jx_alenB (n := 4) C hK hP 1 rfl dX2_init_19 ?_
  refine jx_cge C (jx_inR (by decide) (by decide)) (jx_inR (by decide) (by decide)) (tgt := 42) dX2_init_20 (by decide) (fun hc => absurd (by decide) hc) (fun _ => ?_)
  refine lv_aload_n hx hb dX2_init_23 rfl (lv_at hl 1 rfl) ?_
  refine jx_getB C hK hP 0 0 rfl rfl fl_X2_11 dX2_init_24 ?_
  refine lv_iload_n hx hb dX2_init_27 rfl (lv_at hl 0 rfl) ?_
  refine jx_newB C hK hP hD hS hA ne_X2_9 rfl rfl dX2_init_28 (fun q3 H hP hD hS => ?_)
  have hP : va_P D vwCl ([(a, .inr (1, [.ref q1, .int (jx_i 0), .int (jx_i 0)])), (q1, .inl (cT, 4, .inr (.inr (.inr (.inr (va_up (fun _ => none) 0 (some (aT1 0))))))))] ++ jx_ws cI cT [(cp_T aT1, sT1)] ++ [(q3, .inr (4, [.null, .null, .null, .null, .null, .null, .null, .int (jx_i 0), .int (jx_i 0), .int (jx_i 0), .int (jx_i 0)]))]) H := hP
  have hD : va_D A ([(a, .inr (1, [.ref q1, .int (jx_i 0), .int (jx_i 0)])), (q1, .inl (cT, 4, .inr (.inr (.inr (.inr (va_up (fun _ => none) 0 (some (aT1 0))))))))] ++ jx_ws cI cT [(cp_T aT1, sT1)] ++ [(q3, .inr (4, [.null, .null, .null, .null, .null, .null, .null, .int (jx_i 0), .int (jx_i 0), .int (jx_i 0), .int (jx_i 0)]))]) := hD
  refine lv_dup hx hb dX2_init_31 rfl ?_
  refine jx_callB C hK hP hD hS hA (ct_T_init l D cI cT q3 Q h) mi_X6 lo_X2_17 rfl rfl hl.1 rfl rfl dX2_init_32 (fun u H locs hu hP hD hS => ?_)
  obtain ⟨aT2, sT2, rfl, ha2, hq2⟩ := hu
  have hP : va_P D vwCl ([(a, .inr (1, [.ref q1, .int (jx_i 0), .int (jx_i 0)])), (q1, .inl (cT, 4, .inr (.inr (.inr (.inr (va_up (fun _ => none) 0 (some (aT1 0))))))))] ++ jx_ws cI cT [(cp_T aT1, sT1), (cp_T aT2, sT2)]) H := hP
  have hD : va_D A ([(a, .inr (1, [.ref q1, .int (jx_i 0), .int (jx_i 0)])), (q1, .inl (cT, 4, .inr (.inr (.inr (.inr (va_up (fun _ => none) 0 (some (aT1 0))))))))] ++ jx_ws cI cT [(cp_T aT1, sT1), (cp_T aT2, sT2)]) := hD
  rw [← ha2]
  refine jx_astB C hK hP hD hS 1 10 1 rfl rfl rfl rfl dX2_init_35 (fun H locs hP hD hS => ?_)
  have hP : va_P D vwCl ([(a, .inr (1, [.ref q1, .int (jx_i 0), .int (jx_i 0)])), (q1, .inl (cT, 4, .inr (.inr (.inr (.inr (va_up (va_up (fun _ => none) 0 (some (aT1 0))) 1 (some (aT2 0))))))))] ++ jx_ws cI cT [(cp_T aT1, sT1), (cp_T aT2, sT2)]) H := hP
  have hD : va_D A ([(a, .inr (1, [.ref q1, .int (jx_i 0), .int (jx_i 0)])), (q1, .inl (cT, 4, .inr (.inr (.inr (.inr (va_up (va_up (fun _ => none) 0 (some (aT1 0))) 1 (some (aT2 0))))))))] ++ jx_ws cI cT [(cp_T aT1, sT1), (cp_T aT2, sT2)]) := hD
  refine jx_iinc C (lv' := [(1, .int (jx_i 2)), (0, .ref a)]) dX2_init_36 hl (k := 0) rfl (by decide) rfl (fun ls hl => ?_)
  refine lv_goto (tgt := 14) hx hb dX2_init_39 (by decide) ?_
  refine lv_iload_n hx hb dX2_init_14 rfl (lv_at hl 0 rfl) ?_
  refine lv_aload_n hx hb dX2_init_15 rfl (lv_at hl 1 rfl) ?_
  refine jx_getB C hK hP 0 0 rfl rfl fl_X2_11 dX2_init_16 ?_
  refine jx_alenB (n := 4) C hK hP 1 rfl dX2_init_19 ?_
  refine jx_cge C (jx_inR (by decide) (by decide)) (jx_inR (by decide) (by decide)) (tgt := 42) dX2_init_20 (by decide) (fun hc => absurd (by decide) hc) (fun _ => ?_)
  refine lv_aload_n hx hb dX2_init_23 rfl (lv_at hl 1 rfl) ?_
  refine jx_getB C hK hP 0 0 rfl rfl fl_X2_11 dX2_init_24 ?_
  refine lv_iload_n hx hb dX2_init_27 rfl (lv_at hl 0 rfl) ?_
  refine jx_newB C hK hP hD hS hA ne_X2_9 rfl rfl dX2_init_28 (fun q4 H hP hD hS => ?_)
  have hP : va_P D vwCl ([(a, .inr (1, [.ref q1, .int (jx_i 0), .int (jx_i 0)])), (q1, .inl (cT, 4, .inr (.inr (.inr (.inr (va_up (va_up (fun _ => none) 0 (some (aT1 0))) 1 (some (aT2 0))))))))] ++ jx_ws cI cT [(cp_T aT1, sT1), (cp_T aT2, sT2)] ++ [(q4, .inr (4, [.null, .null, .null, .null, .null, .null, .null, .int (jx_i 0), .int (jx_i 0), .int (jx_i 0), .int (jx_i 0)]))]) H := hP
  have hD : va_D A ([(a, .inr (1, [.ref q1, .int (jx_i 0), .int (jx_i 0)])), (q1, .inl (cT, 4, .inr (.inr (.inr (.inr (va_up (va_up (fun _ => none) 0 (some (aT1 0))) 1 (some (aT2 0))))))))] ++ jx_ws cI cT [(cp_T aT1, sT1), (cp_T aT2, sT2)] ++ [(q4, .inr (4, [.null, .null, .null, .null, .null, .null, .null, .int (jx_i 0), .int (jx_i 0), .int (jx_i 0), .int (jx_i 0)]))]) := hD
  refine lv_dup hx hb dX2_init_31 rfl ?_
  refine jx_callB C hK hP hD hS hA (ct_T_init l D cI cT q4 Q h) mi_X6 lo_X2_17 rfl rfl hl.1 rfl rfl dX2_init_32 (fun u H locs hu hP hD hS => ?_)
  obtain ⟨aT3, sT3, rfl, ha3, hq3⟩ := hu
  have hP : va_P D vwCl ([(a, .inr (1, [.ref q1, .int (jx_i 0), .int (jx_i 0)])), (q1, .inl (cT, 4, .inr (.inr (.inr (.inr (va_up (va_up (fun _ => none) 0 (some (aT1 0))) 1 (some (aT2 0))))))))] ++ jx_ws cI cT [(cp_T aT1, sT1), (cp_T aT2, sT2), (cp_T aT3, sT3)]) H := hP
  have hD : va_D A ([(a, .inr (1, [.ref q1, .int (jx_i 0), .int (jx_i 0)])), (q1, .inl (cT, 4, .inr (.inr (.inr (.inr (va_up (va_up (fun _ => none) 0 (some (aT1 0))) 1 (some (aT2 0))))))))] ++ jx_ws cI cT [(cp_T aT1, sT1), (cp_T aT2, sT2), (cp_T aT3, sT3)]) := hD
  rw [← ha3]
  refine jx_astB C hK hP hD hS 1 18 2 rfl rfl rfl rfl dX2_init_35 (fun H locs hP hD hS => ?_)
  have hP : va_P D vwCl ([(a, .inr (1, [.ref q1, .int (jx_i 0), .int (jx_i 0)])), (q1, .inl (cT, 4, .inr (.inr (.inr (.inr (va_up (va_up (va_up (fun _ => none) 0 (some (aT1 0))) 1 (some (aT2 0))) 2 (some (aT3 0))))))))] ++ jx_ws cI cT [(cp_T aT1, sT1), (cp_T aT2, sT2), (cp_T aT3, sT3)]) H := hP
  have hD : va_D A ([(a, .inr (1, [.ref q1, .int (jx_i 0), .int (jx_i 0)])), (q1, .inl (cT, 4, .inr (.inr (.inr (.inr (va_up (va_up (va_up (fun _ => none) 0 (some (aT1 0))) 1 (some (aT2 0))) 2 (some (aT3 0))))))))] ++ jx_ws cI cT [(cp_T aT1, sT1), (cp_T aT2, sT2), (cp_T aT3, sT3)]) := hD
  refine jx_iinc C (lv' := [(1, .int (jx_i 3)), (0, .ref a)]) dX2_init_36 hl (k := 0) rfl (by decide) rfl (fun ls hl => ?_)
  refine lv_goto (tgt := 14) hx hb dX2_init_39 (by decide) ?_
  refine lv_iload_n hx hb dX2_init_14 rfl (lv_at hl 0 rfl) ?_
  refine lv_aload_n hx hb dX2_init_15 rfl (lv_at hl 1 rfl) ?_
  refine jx_getB C hK hP 0 0 rfl rfl fl_X2_11 dX2_init_16 ?_
  refine jx_alenB (n := 4) C hK hP 1 rfl dX2_init_19 ?_
  refine jx_cge C (jx_inR (by decide) (by decide)) (jx_inR (by decide) (by decide)) (tgt := 42) dX2_init_20 (by decide) (fun hc => absurd (by decide) hc) (fun _ => ?_)
  refine lv_aload_n hx hb dX2_init_23 rfl (lv_at hl 1 rfl) ?_
  refine jx_getB C hK hP 0 0 rfl rfl fl_X2_11 dX2_init_24 ?_
  refine lv_iload_n hx hb dX2_init_27 rfl (lv_at hl 0 rfl) ?_
  refine jx_newB C hK hP hD hS hA ne_X2_9 rfl rfl dX2_init_28 (fun q5 H hP hD hS => ?_)
  have hP : va_P D vwCl ([(a, .inr (1, [.ref q1, .int (jx_i 0), .int (jx_i 0)])), (q1, .inl (cT, 4, .inr (.inr (.inr (.inr (va_up (va_up (va_up (fun _ => none) 0 (some (aT1 0))) 1 (some (aT2 0))) 2 (some (aT3 0))))))))] ++ jx_ws cI cT [(cp_T aT1, sT1), (cp_T aT2, sT2), (cp_T aT3, sT3)] ++ [(q5, .inr (4, [.null, .null, .null, .null, .null, .null, .null, .int (jx_i 0), .int (jx_i 0), .int (jx_i 0), .int (jx_i 0)]))]) H := hP
  have hD : va_D A ([(a, .inr (1, [.ref q1, .int (jx_i 0), .int (jx_i 0)])), (q1, .inl (cT, 4, .inr (.inr (.inr (.inr (va_up (va_up (va_up (fun _ => none) 0 (some (aT1 0))) 1 (some (aT2 0))) 2 (some (aT3 0))))))))] ++ jx_ws cI cT [(cp_T aT1, sT1), (cp_T aT2, sT2), (cp_T aT3, sT3)] ++ [(q5, .inr (4, [.null, .null, .null, .null, .null, .null, .null, .int (jx_i 0), .int (jx_i 0), .int (jx_i 0), .int (jx_i 0)]))]) := hD
  refine lv_dup hx hb dX2_init_31 rfl ?_
  refine jx_callB C hK hP hD hS hA (ct_T_init l D cI cT q5 Q h) mi_X6 lo_X2_17 rfl rfl hl.1 rfl rfl dX2_init_32 (fun u H locs hu hP hD hS => ?_)
  obtain ⟨aT4, sT4, rfl, ha4, hq4⟩ := hu
  have hP : va_P D vwCl ([(a, .inr (1, [.ref q1, .int (jx_i 0), .int (jx_i 0)])), (q1, .inl (cT, 4, .inr (.inr (.inr (.inr (va_up (va_up (va_up (fun _ => none) 0 (some (aT1 0))) 1 (some (aT2 0))) 2 (some (aT3 0))))))))] ++ jx_ws cI cT [(cp_T aT1, sT1), (cp_T aT2, sT2), (cp_T aT3, sT3), (cp_T aT4, sT4)]) H := hP
  have hD : va_D A ([(a, .inr (1, [.ref q1, .int (jx_i 0), .int (jx_i 0)])), (q1, .inl (cT, 4, .inr (.inr (.inr (.inr (va_up (va_up (va_up (fun _ => none) 0 (some (aT1 0))) 1 (some (aT2 0))) 2 (some (aT3 0))))))))] ++ jx_ws cI cT [(cp_T aT1, sT1), (cp_T aT2, sT2), (cp_T aT3, sT3), (cp_T aT4, sT4)]) := hD
  rw [← ha4]
  refine jx_astB C hK hP hD hS 1 26 3 rfl rfl rfl rfl dX2_init_35 (fun H locs hP hD hS => ?_)
  have hP : va_P D vwCl ([(a, .inr (1, [.ref q1, .int (jx_i 0), .int (jx_i 0)])), (q1, .inl (cT, 4, .inr (.inr (.inr (.inr (va_up (va_up (va_up (va_up (fun _ => none) 0 (some (aT1 0))) 1 (some (aT2 0))) 2 (some (aT3 0))) 3 (some (aT4 0))))))))] ++ jx_ws cI cT [(cp_T aT1, sT1), (cp_T aT2, sT2), (cp_T aT3, sT3), (cp_T aT4, sT4)]) H := hP
  have hD : va_D A ([(a, .inr (1, [.ref q1, .int (jx_i 0), .int (jx_i 0)])), (q1, .inl (cT, 4, .inr (.inr (.inr (.inr (va_up (va_up (va_up (va_up (fun _ => none) 0 (some (aT1 0))) 1 (some (aT2 0))) 2 (some (aT3 0))) 3 (some (aT4 0))))))))] ++ jx_ws cI cT [(cp_T aT1, sT1), (cp_T aT2, sT2), (cp_T aT3, sT3), (cp_T aT4, sT4)]) := hD
  refine jx_iinc C (lv' := [(1, .int (jx_i 4)), (0, .ref a)]) dX2_init_36 hl (k := 0) rfl (by decide) rfl (fun ls hl => ?_)
  refine lv_goto (tgt := 14) hx hb dX2_init_39 (by decide) ?_
  refine lv_iload_n hx hb dX2_init_14 rfl (lv_at hl 0 rfl) ?_
  refine lv_aload_n hx hb dX2_init_15 rfl (lv_at hl 1 rfl) ?_
  refine jx_getB C hK hP 0 0 rfl rfl fl_X2_11 dX2_init_16 ?_
  refine jx_alenB (n := 4) C hK hP 1 rfl dX2_init_19 ?_
  refine jx_cge C (jx_inR (by decide) (by decide)) (jx_inR (by decide) (by decide)) (tgt := 42) dX2_init_20 (by decide) (fun _ => ?_) (fun hc => absurd hc (by decide))
  have ef : (va_up (va_up (va_up (va_up (fun _ => none) 0 (some (aT1 0))) 1 (some (aT2 0))) 2 (some (aT3 0))) 3 (some (aT4 0))) = (fun j : Nat => ([aT1 0, aT2 0, aT3 0, aT4 0] : List Nat)[j]?) := by
    funext j
    match j with
    | 0 => rfl
    | 1 => rfl
    | 2 => rfl
    | 3 => rfl
    | j + 4 => rfl
  rw [ef] at hP hD
  exact jx_endB C hr hlk hAe hS hQQ [(cp_H (jx_ad [a, q1]) (fun j => (jx_h4 aT1 aT2 aT3 aT4) j 0), (fun _ _ => 0)), (cp_T ((jx_h4 aT1 aT2 aT3 aT4) 0), sT1), (cp_T ((jx_h4 aT1 aT2 aT3 aT4) 1), sT2), (cp_T ((jx_h4 aT1 aT2 aT3 aT4) 2), sT3), (cp_T ((jx_h4 aT1 aT2 aT3 aT4) 3), sT4)] hP hD ⟨jx_ad [a, q1], (jx_h4 aT1 aT2 aT3 aT4), sT1, sT2, sT3, sT4, rfl, rfl, hq1, hq2, hq3, hq4⟩ rfl rfl dX2_init_42
set_option maxRecDepth 100000 in
set_option maxHeartbeats 4000000 in
theorem ct_B_init (l : Launch) (D : va_G) (cI cT : ClassId) (a : Nat) (Q : jx_St → Prop) (h : ∀ sT : jx_St, sT = (fun _ _ => 0) → wp_T_init Q sT) : jx_KB (List jx_Cp) l D cI cT yX7_init cX7_init 1 5 74 2920 105 [.ref a] (a, .inr (5, [.null, .null, .null, .null, .null, .null, .null, .null, .null])) (fun u => u) (fun u => ∃ (aB aT aS aC aU aV aW aH : Nat → Nat) (hT : Nat → Nat → Nat) (aO : Nat → Nat) (sT sU sH0 sH1 sH2 sH3 : jx_St), u = [(cp_B aB (aT 0) (aS 0) (aC 0) (aU 0) (aV 0) (aW 0) (aH 0) (aO 0), (fun _ _ => 0)), (cp_T aT, sT), (cp_S aS (aT 0), (fun _ _ => 0)), (cp_C aC (aT 0) (aS 0), (fun _ _ => 0)), (cp_T aU, sU), (cp_S aV (aU 0), (fun _ _ => 0)), (cp_C aW (aU 0) (aV 0), (fun _ _ => 0)), (cp_H aH (fun j => hT j 0), (fun _ _ => 0)), (cp_T (hT 0), sH0), (cp_T (hT 1), sH1), (cp_T (hT 2), sH2), (cp_T (hT 3), sH3), (cp_O aO, (fun _ _ => 0))] ∧ aB 0 = a ∧ Q sT ∧ Q sU ∧ Q sH0 ∧ Q sH1 ∧ Q sH2 ∧ Q sH3) := by
  refine jx_entB (own := RX7) (by decide) rfl (Nat.le_of_ble_eq_true rfl) ?_
  intro p e s m args below meth c A QQ C hr hlk hin hK hAe hA hP hD hS ls hl hQQ
  have hl : lv_has ls 1 [(0, .ref a)] := hl
  have hx := C.1
  have hb := C.2.1
  have hin : meth.name = "<init>" := hin
  refine lv_aload_n hx hb dX7_init_0 rfl (lv_at hl 0 rfl) ?_
  refine jx_objI C lo_X7_3 jx_wObj hl.1 rfl dX7_init_1 ?_
  refine lv_aload_n hx hb dX7_init_4 rfl (lv_at hl 0 rfl) ?_
  refine jx_newB C hK hP hD hS hA ne_X7_9 rfl rfl dX7_init_5 (fun q1 H hP hD hS => ?_)
  have hP : va_P D vwCl ([(a, .inr (5, [.null, .null, .null, .null, .null, .null, .null, .null, .null]))] ++ [(q1, .inr (4, [.null, .null, .null, .null, .null, .null, .null, .int (jx_i 0), .int (jx_i 0), .int (jx_i 0), .int (jx_i 0)]))]) H := hP
  have hD : va_D A ([(a, .inr (5, [.null, .null, .null, .null, .null, .null, .null, .null, .null]))] ++ [(q1, .inr (4, [.null, .null, .null, .null, .null, .null, .null, .int (jx_i 0), .int (jx_i 0), .int (jx_i 0), .int (jx_i 0)]))]) := hD
  refine lv_dup hx hb dX7_init_8 rfl ?_
  refine jx_callB C hK hP hD hS hA (ct_T_init l D cI cT q1 Q h) mi_X6 lo_X7_11 rfl rfl hl.1 rfl rfl dX7_init_9 (fun u H locs hu hP hD hS => ?_)
  obtain ⟨aT1, sT1, rfl, ha1, hq1⟩ := hu
  have hP : va_P D vwCl ([(a, .inr (5, [.null, .null, .null, .null, .null, .null, .null, .null, .null]))] ++ jx_ws cI cT [(cp_T aT1, sT1)]) H := hP
  have hD : va_D A ([(a, .inr (5, [.null, .null, .null, .null, .null, .null, .null, .null, .null]))] ++ jx_ws cI cT [(cp_T aT1, sT1)]) := hD
  rw [← ha1]
  refine jx_putB (v := .ref (aT1 0)) C hK hP hD hS hin 0 0 rfl fl_X7_12 ff_X7_0 ⟨rfl, rfl⟩ rfl dX7_init_12 (fun H locs hP hD hS => ?_)
  have hP : va_P D vwCl ([(a, .inr (5, [.ref (aT1 0), .null, .null, .null, .null, .null, .null, .null, .null]))] ++ jx_ws cI cT [(cp_T aT1, sT1)]) H := hP
  have hD : va_D A ([(a, .inr (5, [.ref (aT1 0), .null, .null, .null, .null, .null, .null, .null, .null]))] ++ jx_ws cI cT [(cp_T aT1, sT1)]) := hD
  refine lv_aload_n hx hb dX7_init_15 rfl (lv_at hl 0 rfl) ?_
  refine jx_newB C hK hP hD hS hA ne_X7_16 rfl rfl dX7_init_16 (fun q2 H hP hD hS => ?_)
  have hP : va_P D vwCl ([(a, .inr (5, [.ref (aT1 0), .null, .null, .null, .null, .null, .null, .null, .null]))] ++ jx_ws cI cT [(cp_T aT1, sT1)] ++ [(q2, .inr (3, [.null, .null, .int (jx_i 0)]))]) H := hP
  have hD : va_D A ([(a, .inr (5, [.ref (aT1 0), .null, .null, .null, .null, .null, .null, .null, .null]))] ++ jx_ws cI cT [(cp_T aT1, sT1)] ++ [(q2, .inr (3, [.null, .null, .int (jx_i 0)]))]) := hD
  refine lv_dup hx hb dX7_init_19 rfl ?_
  refine lv_aload_n hx hb dX7_init_20 rfl (lv_at hl 0 rfl) ?_
  refine jx_getB C hK hP 0 0 rfl rfl fl_X7_12 dX7_init_21 ?_
  refine jx_callB C hK hP hD hS hA (ct_S_init l D cI cT q2 (aT1 0)) mi_X5 lo_X7_18 rfl rfl hl.1 rfl rfl dX7_init_24 (fun u H locs hu hP hD hS => ?_)
  obtain ⟨aS1, rfl, haS1⟩ := hu
  have hP : va_P D vwCl ([(a, .inr (5, [.ref (aT1 0), .null, .null, .null, .null, .null, .null, .null, .null]))] ++ jx_ws cI cT [(cp_T aT1, sT1), (cp_S aS1 (aT1 0), (fun _ _ => 0))]) H := hP
  have hD : va_D A ([(a, .inr (5, [.ref (aT1 0), .null, .null, .null, .null, .null, .null, .null, .null]))] ++ jx_ws cI cT [(cp_T aT1, sT1), (cp_S aS1 (aT1 0), (fun _ _ => 0))]) := hD
  rw [← haS1]
  refine jx_putB (v := .ref (aS1 0)) C hK hP hD hS hin 0 1 rfl fl_X7_21 ff_X7_1 ⟨rfl, rfl⟩ rfl dX7_init_27 (fun H locs hP hD hS => ?_)
  have hP : va_P D vwCl ([(a, .inr (5, [.ref (aT1 0), .ref (aS1 0), .null, .null, .null, .null, .null, .null, .null]))] ++ jx_ws cI cT [(cp_T aT1, sT1), (cp_S aS1 (aT1 0), (fun _ _ => 0))]) H := hP
  have hD : va_D A ([(a, .inr (5, [.ref (aT1 0), .ref (aS1 0), .null, .null, .null, .null, .null, .null, .null]))] ++ jx_ws cI cT [(cp_T aT1, sT1), (cp_S aS1 (aT1 0), (fun _ _ => 0))]) := hD
  refine lv_aload_n hx hb dX7_init_30 rfl (lv_at hl 0 rfl) ?_
  refine jx_newB C hK hP hD hS hA ne_X7_25 rfl rfl dX7_init_31 (fun q3 H hP hD hS => ?_)
  have hP : va_P D vwCl ([(a, .inr (5, [.ref (aT1 0), .ref (aS1 0), .null, .null, .null, .null, .null, .null, .null]))] ++ jx_ws cI cT [(cp_T aT1, sT1), (cp_S aS1 (aT1 0), (fun _ _ => 0))] ++ [(q3, .inr (0, [.null, .null, .null, .null, .int (jx_i 0), .int (jx_i 0), .null, .null, .int (jx_i 0), .null, .null, .null]))]) H := hP
  have hD : va_D A ([(a, .inr (5, [.ref (aT1 0), .ref (aS1 0), .null, .null, .null, .null, .null, .null, .null]))] ++ jx_ws cI cT [(cp_T aT1, sT1), (cp_S aS1 (aT1 0), (fun _ _ => 0))] ++ [(q3, .inr (0, [.null, .null, .null, .null, .int (jx_i 0), .int (jx_i 0), .null, .null, .int (jx_i 0), .null, .null, .null]))]) := hD
  refine lv_dup hx hb dX7_init_34 rfl ?_
  refine lv_aload_n hx hb dX7_init_35 rfl (lv_at hl 0 rfl) ?_
  refine jx_getB C hK hP 0 0 rfl rfl fl_X7_12 dX7_init_36 ?_
  refine lv_aload_n hx hb dX7_init_39 rfl (lv_at hl 0 rfl) ?_
  refine jx_getB C hK hP 0 1 rfl rfl fl_X7_21 dX7_init_40 ?_
  refine jx_callB C hK hP hD hS hA (ct_C_init l D cI cT q3 (aT1 0) (aS1 0)) mi_X1 lo_X7_27 rfl rfl hl.1 rfl rfl dX7_init_43 (fun u H locs hu hP hD hS => ?_)
  obtain ⟨aC1, rfl, haC1⟩ := hu
  have hP : va_P D vwCl ([(a, .inr (5, [.ref (aT1 0), .ref (aS1 0), .null, .null, .null, .null, .null, .null, .null]))] ++ jx_ws cI cT [(cp_T aT1, sT1), (cp_S aS1 (aT1 0), (fun _ _ => 0)), (cp_C aC1 (aT1 0) (aS1 0), (fun _ _ => 0))]) H := hP
  have hD : va_D A ([(a, .inr (5, [.ref (aT1 0), .ref (aS1 0), .null, .null, .null, .null, .null, .null, .null]))] ++ jx_ws cI cT [(cp_T aT1, sT1), (cp_S aS1 (aT1 0), (fun _ _ => 0)), (cp_C aC1 (aT1 0) (aS1 0), (fun _ _ => 0))]) := hD
  rw [← haC1]
  refine jx_putB (v := .ref (aC1 0)) C hK hP hD hS hin 0 2 rfl fl_X7_30 ff_X7_2 ⟨rfl, rfl⟩ rfl dX7_init_46 (fun H locs hP hD hS => ?_)
  have hP : va_P D vwCl ([(a, .inr (5, [.ref (aT1 0), .ref (aS1 0), .ref (aC1 0), .null, .null, .null, .null, .null, .null]))] ++ jx_ws cI cT [(cp_T aT1, sT1), (cp_S aS1 (aT1 0), (fun _ _ => 0)), (cp_C aC1 (aT1 0) (aS1 0), (fun _ _ => 0))]) H := hP
  have hD : va_D A ([(a, .inr (5, [.ref (aT1 0), .ref (aS1 0), .ref (aC1 0), .null, .null, .null, .null, .null, .null]))] ++ jx_ws cI cT [(cp_T aT1, sT1), (cp_S aS1 (aT1 0), (fun _ _ => 0)), (cp_C aC1 (aT1 0) (aS1 0), (fun _ _ => 0))]) := hD
  refine lv_aload_n hx hb dX7_init_49 rfl (lv_at hl 0 rfl) ?_
  refine jx_newB C hK hP hD hS hA ne_X7_9 rfl rfl dX7_init_50 (fun q4 H hP hD hS => ?_)
  have hP : va_P D vwCl ([(a, .inr (5, [.ref (aT1 0), .ref (aS1 0), .ref (aC1 0), .null, .null, .null, .null, .null, .null]))] ++ jx_ws cI cT [(cp_T aT1, sT1), (cp_S aS1 (aT1 0), (fun _ _ => 0)), (cp_C aC1 (aT1 0) (aS1 0), (fun _ _ => 0))] ++ [(q4, .inr (4, [.null, .null, .null, .null, .null, .null, .null, .int (jx_i 0), .int (jx_i 0), .int (jx_i 0), .int (jx_i 0)]))]) H := hP
  have hD : va_D A ([(a, .inr (5, [.ref (aT1 0), .ref (aS1 0), .ref (aC1 0), .null, .null, .null, .null, .null, .null]))] ++ jx_ws cI cT [(cp_T aT1, sT1), (cp_S aS1 (aT1 0), (fun _ _ => 0)), (cp_C aC1 (aT1 0) (aS1 0), (fun _ _ => 0))] ++ [(q4, .inr (4, [.null, .null, .null, .null, .null, .null, .null, .int (jx_i 0), .int (jx_i 0), .int (jx_i 0), .int (jx_i 0)]))]) := hD
  refine lv_dup hx hb dX7_init_53 rfl ?_
  refine jx_callB C hK hP hD hS hA (ct_T_init l D cI cT q4 Q h) mi_X6 lo_X7_11 rfl rfl hl.1 rfl rfl dX7_init_54 (fun u H locs hu hP hD hS => ?_)
  obtain ⟨aT2, sT2, rfl, ha2, hq2⟩ := hu
  have hP : va_P D vwCl ([(a, .inr (5, [.ref (aT1 0), .ref (aS1 0), .ref (aC1 0), .null, .null, .null, .null, .null, .null]))] ++ jx_ws cI cT [(cp_T aT1, sT1), (cp_S aS1 (aT1 0), (fun _ _ => 0)), (cp_C aC1 (aT1 0) (aS1 0), (fun _ _ => 0)), (cp_T aT2, sT2)]) H := hP
  have hD : va_D A ([(a, .inr (5, [.ref (aT1 0), .ref (aS1 0), .ref (aC1 0), .null, .null, .null, .null, .null, .null]))] ++ jx_ws cI cT [(cp_T aT1, sT1), (cp_S aS1 (aT1 0), (fun _ _ => 0)), (cp_C aC1 (aT1 0) (aS1 0), (fun _ _ => 0)), (cp_T aT2, sT2)]) := hD
  rw [← ha2]
  refine jx_putB (v := .ref (aT2 0)) C hK hP hD hS hin 0 3 rfl fl_X7_34 ff_X7_3 ⟨rfl, rfl⟩ rfl dX7_init_57 (fun H locs hP hD hS => ?_)
  have hP : va_P D vwCl ([(a, .inr (5, [.ref (aT1 0), .ref (aS1 0), .ref (aC1 0), .ref (aT2 0), .null, .null, .null, .null, .null]))] ++ jx_ws cI cT [(cp_T aT1, sT1), (cp_S aS1 (aT1 0), (fun _ _ => 0)), (cp_C aC1 (aT1 0) (aS1 0), (fun _ _ => 0)), (cp_T aT2, sT2)]) H := hP
  have hD : va_D A ([(a, .inr (5, [.ref (aT1 0), .ref (aS1 0), .ref (aC1 0), .ref (aT2 0), .null, .null, .null, .null, .null]))] ++ jx_ws cI cT [(cp_T aT1, sT1), (cp_S aS1 (aT1 0), (fun _ _ => 0)), (cp_C aC1 (aT1 0) (aS1 0), (fun _ _ => 0)), (cp_T aT2, sT2)]) := hD
  refine lv_aload_n hx hb dX7_init_60 rfl (lv_at hl 0 rfl) ?_
  refine jx_newB C hK hP hD hS hA ne_X7_16 rfl rfl dX7_init_61 (fun q5 H hP hD hS => ?_)
  have hP : va_P D vwCl ([(a, .inr (5, [.ref (aT1 0), .ref (aS1 0), .ref (aC1 0), .ref (aT2 0), .null, .null, .null, .null, .null]))] ++ jx_ws cI cT [(cp_T aT1, sT1), (cp_S aS1 (aT1 0), (fun _ _ => 0)), (cp_C aC1 (aT1 0) (aS1 0), (fun _ _ => 0)), (cp_T aT2, sT2)] ++ [(q5, .inr (3, [.null, .null, .int (jx_i 0)]))]) H := hP
  have hD : va_D A ([(a, .inr (5, [.ref (aT1 0), .ref (aS1 0), .ref (aC1 0), .ref (aT2 0), .null, .null, .null, .null, .null]))] ++ jx_ws cI cT [(cp_T aT1, sT1), (cp_S aS1 (aT1 0), (fun _ _ => 0)), (cp_C aC1 (aT1 0) (aS1 0), (fun _ _ => 0)), (cp_T aT2, sT2)] ++ [(q5, .inr (3, [.null, .null, .int (jx_i 0)]))]) := hD
  refine lv_dup hx hb dX7_init_64 rfl ?_
  refine lv_aload_n hx hb dX7_init_65 rfl (lv_at hl 0 rfl) ?_
  refine jx_getB C hK hP 0 3 rfl rfl fl_X7_34 dX7_init_66 ?_
  refine jx_callB C hK hP hD hS hA (ct_S_init l D cI cT q5 (aT2 0)) mi_X5 lo_X7_18 rfl rfl hl.1 rfl rfl dX7_init_69 (fun u H locs hu hP hD hS => ?_)
  obtain ⟨aS2, rfl, haS2⟩ := hu
  have hP : va_P D vwCl ([(a, .inr (5, [.ref (aT1 0), .ref (aS1 0), .ref (aC1 0), .ref (aT2 0), .null, .null, .null, .null, .null]))] ++ jx_ws cI cT [(cp_T aT1, sT1), (cp_S aS1 (aT1 0), (fun _ _ => 0)), (cp_C aC1 (aT1 0) (aS1 0), (fun _ _ => 0)), (cp_T aT2, sT2), (cp_S aS2 (aT2 0), (fun _ _ => 0))]) H := hP
  have hD : va_D A ([(a, .inr (5, [.ref (aT1 0), .ref (aS1 0), .ref (aC1 0), .ref (aT2 0), .null, .null, .null, .null, .null]))] ++ jx_ws cI cT [(cp_T aT1, sT1), (cp_S aS1 (aT1 0), (fun _ _ => 0)), (cp_C aC1 (aT1 0) (aS1 0), (fun _ _ => 0)), (cp_T aT2, sT2), (cp_S aS2 (aT2 0), (fun _ _ => 0))]) := hD
  rw [← haS2]
  refine jx_putB (v := .ref (aS2 0)) C hK hP hD hS hin 0 4 rfl fl_X7_37 ff_X7_4 ⟨rfl, rfl⟩ rfl dX7_init_72 (fun H locs hP hD hS => ?_)
  have hP : va_P D vwCl ([(a, .inr (5, [.ref (aT1 0), .ref (aS1 0), .ref (aC1 0), .ref (aT2 0), .ref (aS2 0), .null, .null, .null, .null]))] ++ jx_ws cI cT [(cp_T aT1, sT1), (cp_S aS1 (aT1 0), (fun _ _ => 0)), (cp_C aC1 (aT1 0) (aS1 0), (fun _ _ => 0)), (cp_T aT2, sT2), (cp_S aS2 (aT2 0), (fun _ _ => 0))]) H := hP
  have hD : va_D A ([(a, .inr (5, [.ref (aT1 0), .ref (aS1 0), .ref (aC1 0), .ref (aT2 0), .ref (aS2 0), .null, .null, .null, .null]))] ++ jx_ws cI cT [(cp_T aT1, sT1), (cp_S aS1 (aT1 0), (fun _ _ => 0)), (cp_C aC1 (aT1 0) (aS1 0), (fun _ _ => 0)), (cp_T aT2, sT2), (cp_S aS2 (aT2 0), (fun _ _ => 0))]) := hD
  refine lv_aload_n hx hb dX7_init_75 rfl (lv_at hl 0 rfl) ?_
  refine jx_newB C hK hP hD hS hA ne_X7_25 rfl rfl dX7_init_76 (fun q6 H hP hD hS => ?_)
  have hP : va_P D vwCl ([(a, .inr (5, [.ref (aT1 0), .ref (aS1 0), .ref (aC1 0), .ref (aT2 0), .ref (aS2 0), .null, .null, .null, .null]))] ++ jx_ws cI cT [(cp_T aT1, sT1), (cp_S aS1 (aT1 0), (fun _ _ => 0)), (cp_C aC1 (aT1 0) (aS1 0), (fun _ _ => 0)), (cp_T aT2, sT2), (cp_S aS2 (aT2 0), (fun _ _ => 0))] ++ [(q6, .inr (0, [.null, .null, .null, .null, .int (jx_i 0), .int (jx_i 0), .null, .null, .int (jx_i 0), .null, .null, .null]))]) H := hP
  have hD : va_D A ([(a, .inr (5, [.ref (aT1 0), .ref (aS1 0), .ref (aC1 0), .ref (aT2 0), .ref (aS2 0), .null, .null, .null, .null]))] ++ jx_ws cI cT [(cp_T aT1, sT1), (cp_S aS1 (aT1 0), (fun _ _ => 0)), (cp_C aC1 (aT1 0) (aS1 0), (fun _ _ => 0)), (cp_T aT2, sT2), (cp_S aS2 (aT2 0), (fun _ _ => 0))] ++ [(q6, .inr (0, [.null, .null, .null, .null, .int (jx_i 0), .int (jx_i 0), .null, .null, .int (jx_i 0), .null, .null, .null]))]) := hD
  refine lv_dup hx hb dX7_init_79 rfl ?_
  refine lv_aload_n hx hb dX7_init_80 rfl (lv_at hl 0 rfl) ?_
  refine jx_getB C hK hP 0 3 rfl rfl fl_X7_34 dX7_init_81 ?_
  refine lv_aload_n hx hb dX7_init_84 rfl (lv_at hl 0 rfl) ?_
  refine jx_getB C hK hP 0 4 rfl rfl fl_X7_37 dX7_init_85 ?_
  refine jx_callB C hK hP hD hS hA (ct_C_init l D cI cT q6 (aT2 0) (aS2 0)) mi_X1 lo_X7_27 rfl rfl hl.1 rfl rfl dX7_init_88 (fun u H locs hu hP hD hS => ?_)
  obtain ⟨aC2, rfl, haC2⟩ := hu
  have hP : va_P D vwCl ([(a, .inr (5, [.ref (aT1 0), .ref (aS1 0), .ref (aC1 0), .ref (aT2 0), .ref (aS2 0), .null, .null, .null, .null]))] ++ jx_ws cI cT [(cp_T aT1, sT1), (cp_S aS1 (aT1 0), (fun _ _ => 0)), (cp_C aC1 (aT1 0) (aS1 0), (fun _ _ => 0)), (cp_T aT2, sT2), (cp_S aS2 (aT2 0), (fun _ _ => 0)), (cp_C aC2 (aT2 0) (aS2 0), (fun _ _ => 0))]) H := hP
  have hD : va_D A ([(a, .inr (5, [.ref (aT1 0), .ref (aS1 0), .ref (aC1 0), .ref (aT2 0), .ref (aS2 0), .null, .null, .null, .null]))] ++ jx_ws cI cT [(cp_T aT1, sT1), (cp_S aS1 (aT1 0), (fun _ _ => 0)), (cp_C aC1 (aT1 0) (aS1 0), (fun _ _ => 0)), (cp_T aT2, sT2), (cp_S aS2 (aT2 0), (fun _ _ => 0)), (cp_C aC2 (aT2 0) (aS2 0), (fun _ _ => 0))]) := hD
  rw [← haC2]
  refine jx_putB (v := .ref (aC2 0)) C hK hP hD hS hin 0 5 rfl fl_X7_40 ff_X7_5 ⟨rfl, rfl⟩ rfl dX7_init_91 (fun H locs hP hD hS => ?_)
  have hP : va_P D vwCl ([(a, .inr (5, [.ref (aT1 0), .ref (aS1 0), .ref (aC1 0), .ref (aT2 0), .ref (aS2 0), .ref (aC2 0), .null, .null, .null]))] ++ jx_ws cI cT [(cp_T aT1, sT1), (cp_S aS1 (aT1 0), (fun _ _ => 0)), (cp_C aC1 (aT1 0) (aS1 0), (fun _ _ => 0)), (cp_T aT2, sT2), (cp_S aS2 (aT2 0), (fun _ _ => 0)), (cp_C aC2 (aT2 0) (aS2 0), (fun _ _ => 0))]) H := hP
  have hD : va_D A ([(a, .inr (5, [.ref (aT1 0), .ref (aS1 0), .ref (aC1 0), .ref (aT2 0), .ref (aS2 0), .ref (aC2 0), .null, .null, .null]))] ++ jx_ws cI cT [(cp_T aT1, sT1), (cp_S aS1 (aT1 0), (fun _ _ => 0)), (cp_C aC1 (aT1 0) (aS1 0), (fun _ _ => 0)), (cp_T aT2, sT2), (cp_S aS2 (aT2 0), (fun _ _ => 0)), (cp_C aC2 (aT2 0) (aS2 0), (fun _ _ => 0))]) := hD
  refine lv_aload_n hx hb dX7_init_94 rfl (lv_at hl 0 rfl) ?_
  refine jx_newB C hK hP hD hS hA ne_X7_43 rfl rfl dX7_init_95 (fun q7 H hP hD hS => ?_)
  have hP : va_P D vwCl ([(a, .inr (5, [.ref (aT1 0), .ref (aS1 0), .ref (aC1 0), .ref (aT2 0), .ref (aS2 0), .ref (aC2 0), .null, .null, .null]))] ++ jx_ws cI cT [(cp_T aT1, sT1), (cp_S aS1 (aT1 0), (fun _ _ => 0)), (cp_C aC1 (aT1 0) (aS1 0), (fun _ _ => 0)), (cp_T aT2, sT2), (cp_S aS2 (aT2 0), (fun _ _ => 0)), (cp_C aC2 (aT2 0) (aS2 0), (fun _ _ => 0))] ++ [(q7, .inr (1, [.null, .int (jx_i 0), .int (jx_i 0)]))]) H := hP
  have hD : va_D A ([(a, .inr (5, [.ref (aT1 0), .ref (aS1 0), .ref (aC1 0), .ref (aT2 0), .ref (aS2 0), .ref (aC2 0), .null, .null, .null]))] ++ jx_ws cI cT [(cp_T aT1, sT1), (cp_S aS1 (aT1 0), (fun _ _ => 0)), (cp_C aC1 (aT1 0) (aS1 0), (fun _ _ => 0)), (cp_T aT2, sT2), (cp_S aS2 (aT2 0), (fun _ _ => 0)), (cp_C aC2 (aT2 0) (aS2 0), (fun _ _ => 0))] ++ [(q7, .inr (1, [.null, .int (jx_i 0), .int (jx_i 0)]))]) := hD
  refine lv_dup hx hb dX7_init_98 rfl ?_
  refine jx_callB C hK hP hD hS hA (ct_H_init l D cI cT q7 Q h) mi_X2 lo_X7_45 rfl rfl hl.1 rfl rfl dX7_init_99 (fun u H locs hu hP hD hS => ?_)
  obtain ⟨aHx, hTx, sH0, sH1, sH2, sH3, rfl, haHx, hqH⟩ := hu
  have hP : va_P D vwCl ([(a, .inr (5, [.ref (aT1 0), .ref (aS1 0), .ref (aC1 0), .ref (aT2 0), .ref (aS2 0), .ref (aC2 0), .null, .null, .null]))] ++ jx_ws cI cT [(cp_T aT1, sT1), (cp_S aS1 (aT1 0), (fun _ _ => 0)), (cp_C aC1 (aT1 0) (aS1 0), (fun _ _ => 0)), (cp_T aT2, sT2), (cp_S aS2 (aT2 0), (fun _ _ => 0)), (cp_C aC2 (aT2 0) (aS2 0), (fun _ _ => 0)), (cp_H aHx (fun j => hTx j 0), (fun _ _ => 0)), (cp_T (hTx 0), sH0), (cp_T (hTx 1), sH1), (cp_T (hTx 2), sH2), (cp_T (hTx 3), sH3)]) H := hP
  have hD : va_D A ([(a, .inr (5, [.ref (aT1 0), .ref (aS1 0), .ref (aC1 0), .ref (aT2 0), .ref (aS2 0), .ref (aC2 0), .null, .null, .null]))] ++ jx_ws cI cT [(cp_T aT1, sT1), (cp_S aS1 (aT1 0), (fun _ _ => 0)), (cp_C aC1 (aT1 0) (aS1 0), (fun _ _ => 0)), (cp_T aT2, sT2), (cp_S aS2 (aT2 0), (fun _ _ => 0)), (cp_C aC2 (aT2 0) (aS2 0), (fun _ _ => 0)), (cp_H aHx (fun j => hTx j 0), (fun _ _ => 0)), (cp_T (hTx 0), sH0), (cp_T (hTx 1), sH1), (cp_T (hTx 2), sH2), (cp_T (hTx 3), sH3)]) := hD
  rw [← haHx]
  refine jx_putB (v := .ref (aHx 0)) C hK hP hD hS hin 0 6 rfl fl_X7_46 ff_X7_6 ⟨rfl, rfl⟩ rfl dX7_init_102 (fun H locs hP hD hS => ?_)
  have hP : va_P D vwCl ([(a, .inr (5, [.ref (aT1 0), .ref (aS1 0), .ref (aC1 0), .ref (aT2 0), .ref (aS2 0), .ref (aC2 0), .ref (aHx 0), .null, .null]))] ++ jx_ws cI cT [(cp_T aT1, sT1), (cp_S aS1 (aT1 0), (fun _ _ => 0)), (cp_C aC1 (aT1 0) (aS1 0), (fun _ _ => 0)), (cp_T aT2, sT2), (cp_S aS2 (aT2 0), (fun _ _ => 0)), (cp_C aC2 (aT2 0) (aS2 0), (fun _ _ => 0)), (cp_H aHx (fun j => hTx j 0), (fun _ _ => 0)), (cp_T (hTx 0), sH0), (cp_T (hTx 1), sH1), (cp_T (hTx 2), sH2), (cp_T (hTx 3), sH3)]) H := hP
  have hD : va_D A ([(a, .inr (5, [.ref (aT1 0), .ref (aS1 0), .ref (aC1 0), .ref (aT2 0), .ref (aS2 0), .ref (aC2 0), .ref (aHx 0), .null, .null]))] ++ jx_ws cI cT [(cp_T aT1, sT1), (cp_S aS1 (aT1 0), (fun _ _ => 0)), (cp_C aC1 (aT1 0) (aS1 0), (fun _ _ => 0)), (cp_T aT2, sT2), (cp_S aS2 (aT2 0), (fun _ _ => 0)), (cp_C aC2 (aT2 0) (aS2 0), (fun _ _ => 0)), (cp_H aHx (fun j => hTx j 0), (fun _ _ => 0)), (cp_T (hTx 0), sH0), (cp_T (hTx 1), sH1), (cp_T (hTx 2), sH2), (cp_T (hTx 3), sH3)]) := hD
  refine lv_aload_n hx hb dX7_init_105 rfl (lv_at hl 0 rfl) ?_
  refine jx_newB C hK hP hD hS hA ne_X7_50 rfl rfl dX7_init_106 (fun q8 H hP hD hS => ?_)
  have hP : va_P D vwCl ([(a, .inr (5, [.ref (aT1 0), .ref (aS1 0), .ref (aC1 0), .ref (aT2 0), .ref (aS2 0), .ref (aC2 0), .ref (aHx 0), .null, .null]))] ++ jx_ws cI cT [(cp_T aT1, sT1), (cp_S aS1 (aT1 0), (fun _ _ => 0)), (cp_C aC1 (aT1 0) (aS1 0), (fun _ _ => 0)), (cp_T aT2, sT2), (cp_S aS2 (aT2 0), (fun _ _ => 0)), (cp_C aC2 (aT2 0) (aS2 0), (fun _ _ => 0)), (cp_H aHx (fun j => hTx j 0), (fun _ _ => 0)), (cp_T (hTx 0), sH0), (cp_T (hTx 1), sH1), (cp_T (hTx 2), sH2), (cp_T (hTx 3), sH3)] ++ [(q8, .inr (2, [.null, .int (jx_i 0), .null, .int (jx_i 0), .int (jx_i 0), .int (jx_i 0), .int (jx_i 0), .int (jx_i 0), .int (jx_i 0)]))]) H := hP
  have hD : va_D A ([(a, .inr (5, [.ref (aT1 0), .ref (aS1 0), .ref (aC1 0), .ref (aT2 0), .ref (aS2 0), .ref (aC2 0), .ref (aHx 0), .null, .null]))] ++ jx_ws cI cT [(cp_T aT1, sT1), (cp_S aS1 (aT1 0), (fun _ _ => 0)), (cp_C aC1 (aT1 0) (aS1 0), (fun _ _ => 0)), (cp_T aT2, sT2), (cp_S aS2 (aT2 0), (fun _ _ => 0)), (cp_C aC2 (aT2 0) (aS2 0), (fun _ _ => 0)), (cp_H aHx (fun j => hTx j 0), (fun _ _ => 0)), (cp_T (hTx 0), sH0), (cp_T (hTx 1), sH1), (cp_T (hTx 2), sH2), (cp_T (hTx 3), sH3)] ++ [(q8, .inr (2, [.null, .int (jx_i 0), .null, .int (jx_i 0), .int (jx_i 0), .int (jx_i 0), .int (jx_i 0), .int (jx_i 0), .int (jx_i 0)]))]) := hD
  refine lv_dup hx hb dX7_init_109 rfl ?_
  refine jx_callBN C hK hP hD hS hA (ct_O_init l D cI cT q8) mi_X3 lo_X7_52 rfl rfl hl.1 rfl rfl dX7_init_110 (fun u H locs hu hP hD hS => ?_)
  obtain ⟨aO1, rfl, haO1⟩ := hu
  have hP : va_P D vwCl ([(a, .inr (5, [.ref (aT1 0), .ref (aS1 0), .ref (aC1 0), .ref (aT2 0), .ref (aS2 0), .ref (aC2 0), .ref (aHx 0), .null, .null]))] ++ jx_ws cI cT [(cp_T aT1, sT1), (cp_S aS1 (aT1 0), (fun _ _ => 0)), (cp_C aC1 (aT1 0) (aS1 0), (fun _ _ => 0)), (cp_T aT2, sT2), (cp_S aS2 (aT2 0), (fun _ _ => 0)), (cp_C aC2 (aT2 0) (aS2 0), (fun _ _ => 0)), (cp_H aHx (fun j => hTx j 0), (fun _ _ => 0)), (cp_T (hTx 0), sH0), (cp_T (hTx 1), sH1), (cp_T (hTx 2), sH2), (cp_T (hTx 3), sH3), (cp_O aO1, (fun _ _ => 0))]) H := hP
  have hD : va_D A ([(a, .inr (5, [.ref (aT1 0), .ref (aS1 0), .ref (aC1 0), .ref (aT2 0), .ref (aS2 0), .ref (aC2 0), .ref (aHx 0), .null, .null]))] ++ jx_ws cI cT [(cp_T aT1, sT1), (cp_S aS1 (aT1 0), (fun _ _ => 0)), (cp_C aC1 (aT1 0) (aS1 0), (fun _ _ => 0)), (cp_T aT2, sT2), (cp_S aS2 (aT2 0), (fun _ _ => 0)), (cp_C aC2 (aT2 0) (aS2 0), (fun _ _ => 0)), (cp_H aHx (fun j => hTx j 0), (fun _ _ => 0)), (cp_T (hTx 0), sH0), (cp_T (hTx 1), sH1), (cp_T (hTx 2), sH2), (cp_T (hTx 3), sH3), (cp_O aO1, (fun _ _ => 0))]) := hD
  rw [← haO1]
  refine jx_putB (v := .ref (aO1 0)) C hK hP hD hS hin 0 7 rfl fl_X7_53 ff_X7_7 ⟨rfl, rfl⟩ rfl dX7_init_113 (fun H locs hP hD hS => ?_)
  have hP : va_P D vwCl ([(a, .inr (5, [.ref (aT1 0), .ref (aS1 0), .ref (aC1 0), .ref (aT2 0), .ref (aS2 0), .ref (aC2 0), .ref (aHx 0), .ref (aO1 0), .null]))] ++ jx_ws cI cT [(cp_T aT1, sT1), (cp_S aS1 (aT1 0), (fun _ _ => 0)), (cp_C aC1 (aT1 0) (aS1 0), (fun _ _ => 0)), (cp_T aT2, sT2), (cp_S aS2 (aT2 0), (fun _ _ => 0)), (cp_C aC2 (aT2 0) (aS2 0), (fun _ _ => 0)), (cp_H aHx (fun j => hTx j 0), (fun _ _ => 0)), (cp_T (hTx 0), sH0), (cp_T (hTx 1), sH1), (cp_T (hTx 2), sH2), (cp_T (hTx 3), sH3), (cp_O aO1, (fun _ _ => 0))]) H := hP
  have hD : va_D A ([(a, .inr (5, [.ref (aT1 0), .ref (aS1 0), .ref (aC1 0), .ref (aT2 0), .ref (aS2 0), .ref (aC2 0), .ref (aHx 0), .ref (aO1 0), .null]))] ++ jx_ws cI cT [(cp_T aT1, sT1), (cp_S aS1 (aT1 0), (fun _ _ => 0)), (cp_C aC1 (aT1 0) (aS1 0), (fun _ _ => 0)), (cp_T aT2, sT2), (cp_S aS2 (aT2 0), (fun _ _ => 0)), (cp_C aC2 (aT2 0) (aS2 0), (fun _ _ => 0)), (cp_H aHx (fun j => hTx j 0), (fun _ _ => 0)), (cp_T (hTx 0), sH0), (cp_T (hTx 1), sH1), (cp_T (hTx 2), sH2), (cp_T (hTx 3), sH3), (cp_O aO1, (fun _ _ => 0))]) := hD
  refine lv_aload_n hx hb dX7_init_116 rfl (lv_at hl 0 rfl) ?_
  refine jx_bipush C dX7_init_117 (by decide) ?_
  refine jx_newa C hK hP hD hS hA jx_wArr 31 rfl rfl rfl rfl dX7_init_119 (fun q9 H hP hD hS => ?_)
  have hP : va_P D vwCl ([(a, .inr (5, [.ref (aT1 0), .ref (aS1 0), .ref (aC1 0), .ref (aT2 0), .ref (aS2 0), .ref (aC2 0), .ref (aHx 0), .ref (aO1 0), .null]))] ++ jx_ws cI cT [(cp_T aT1, sT1), (cp_S aS1 (aT1 0), (fun _ _ => 0)), (cp_C aC1 (aT1 0) (aS1 0), (fun _ _ => 0)), (cp_T aT2, sT2), (cp_S aS2 (aT2 0), (fun _ _ => 0)), (cp_C aC2 (aT2 0) (aS2 0), (fun _ _ => 0)), (cp_H aHx (fun j => hTx j 0), (fun _ _ => 0)), (cp_T (hTx 0), sH0), (cp_T (hTx 1), sH1), (cp_T (hTx 2), sH2), (cp_T (hTx 3), sH3), (cp_O aO1, (fun _ _ => 0))] ++ [(q9, .inl (cI, 31, .inl (fun _ => jx_i 0)))]) H := hP
  have hD : va_D A ([(a, .inr (5, [.ref (aT1 0), .ref (aS1 0), .ref (aC1 0), .ref (aT2 0), .ref (aS2 0), .ref (aC2 0), .ref (aHx 0), .ref (aO1 0), .null]))] ++ jx_ws cI cT [(cp_T aT1, sT1), (cp_S aS1 (aT1 0), (fun _ _ => 0)), (cp_C aC1 (aT1 0) (aS1 0), (fun _ _ => 0)), (cp_T aT2, sT2), (cp_S aS2 (aT2 0), (fun _ _ => 0)), (cp_C aC2 (aT2 0) (aS2 0), (fun _ _ => 0)), (cp_H aHx (fun j => hTx j 0), (fun _ _ => 0)), (cp_T (hTx 0), sH0), (cp_T (hTx 1), sH1), (cp_T (hTx 2), sH2), (cp_T (hTx 3), sH3), (cp_O aO1, (fun _ _ => 0))] ++ [(q9, .inl (cI, 31, .inl (fun _ => jx_i 0)))]) := hD
  refine jx_putB (v := .ref q9) C hK hP hD hS hin 0 8 rfl fl_X7_57 ff_X7_8 ⟨rfl, rfl⟩ rfl dX7_init_121 (fun H locs hP hD hS => ?_)
  have hP : va_P D vwCl ([(a, .inr (5, [.ref (aT1 0), .ref (aS1 0), .ref (aC1 0), .ref (aT2 0), .ref (aS2 0), .ref (aC2 0), .ref (aHx 0), .ref (aO1 0), .ref q9]))] ++ jx_ws cI cT [(cp_T aT1, sT1), (cp_S aS1 (aT1 0), (fun _ _ => 0)), (cp_C aC1 (aT1 0) (aS1 0), (fun _ _ => 0)), (cp_T aT2, sT2), (cp_S aS2 (aT2 0), (fun _ _ => 0)), (cp_C aC2 (aT2 0) (aS2 0), (fun _ _ => 0)), (cp_H aHx (fun j => hTx j 0), (fun _ _ => 0)), (cp_T (hTx 0), sH0), (cp_T (hTx 1), sH1), (cp_T (hTx 2), sH2), (cp_T (hTx 3), sH3), (cp_O aO1, (fun _ _ => 0))] ++ [(q9, .inl (cI, 31, .inl (fun _ => jx_i 0)))]) H := hP
  have hD : va_D A ([(a, .inr (5, [.ref (aT1 0), .ref (aS1 0), .ref (aC1 0), .ref (aT2 0), .ref (aS2 0), .ref (aC2 0), .ref (aHx 0), .ref (aO1 0), .ref q9]))] ++ jx_ws cI cT [(cp_T aT1, sT1), (cp_S aS1 (aT1 0), (fun _ _ => 0)), (cp_C aC1 (aT1 0) (aS1 0), (fun _ _ => 0)), (cp_T aT2, sT2), (cp_S aS2 (aT2 0), (fun _ _ => 0)), (cp_C aC2 (aT2 0) (aS2 0), (fun _ _ => 0)), (cp_H aHx (fun j => hTx j 0), (fun _ _ => 0)), (cp_T (hTx 0), sH0), (cp_T (hTx 1), sH1), (cp_T (hTx 2), sH2), (cp_T (hTx 3), sH3), (cp_O aO1, (fun _ _ => 0))] ++ [(q9, .inl (cI, 31, .inl (fun _ => jx_i 0)))]) := hD
  have hp : (([(a, .inr (5, [.ref (aT1 0), .ref (aS1 0), .ref (aC1 0), .ref (aT2 0), .ref (aS2 0), .ref (aC2 0), .ref (aHx 0), .ref (aO1 0), .ref q9]))] : va_W) ++ jx_ws cI cT [(cp_T aT1, sT1), (cp_S aS1 (aT1 0), (fun _ _ => 0)), (cp_C aC1 (aT1 0) (aS1 0), (fun _ _ => 0)), (cp_T aT2, sT2), (cp_S aS2 (aT2 0), (fun _ _ => 0)), (cp_C aC2 (aT2 0) (aS2 0), (fun _ _ => 0)), (cp_H aHx (fun j => hTx j 0), (fun _ _ => 0)), (cp_T (hTx 0), sH0), (cp_T (hTx 1), sH1), (cp_T (hTx 2), sH2), (cp_T (hTx 3), sH3), (cp_O aO1, (fun _ _ => 0))] ++ ([(q9, .inl (cI, 31, .inl (fun _ => jx_i 0)))] : va_W)).Perm (([(a, .inr (5, [.ref (aT1 0), .ref (aS1 0), .ref (aC1 0), .ref (aT2 0), .ref (aS2 0), .ref (aC2 0), .ref (aHx 0), .ref (aO1 0), .ref q9]))] : va_W) ++ ([(q9, .inl (cI, 31, .inl (fun _ => jx_i 0)))] : va_W) ++ jx_ws cI cT [(cp_T aT1, sT1), (cp_S aS1 (aT1 0), (fun _ _ => 0)), (cp_C aC1 (aT1 0) (aS1 0), (fun _ _ => 0)), (cp_T aT2, sT2), (cp_S aS2 (aT2 0), (fun _ _ => 0)), (cp_C aC2 (aT2 0) (aS2 0), (fun _ _ => 0)), (cp_H aHx (fun j => hTx j 0), (fun _ _ => 0)), (cp_T (hTx 0), sH0), (cp_T (hTx 1), sH1), (cp_T (hTx 2), sH2), (cp_T (hTx 3), sH3), (cp_O aO1, (fun _ _ => 0))]) := by
    rw [List.append_assoc, List.append_assoc]
    exact List.Perm.append_left _ List.perm_append_comm
  have hP := jx_P_perm hp hP
  have hD := jx_D_perm hp hD
  exact jx_endB C hr hlk hAe hS hQQ [(cp_B (jx_ad [a, q9]) (aT1 0) (aS1 0) (aC1 0) (aT2 0) (aS2 0) (aC2 0) (aHx 0) (aO1 0), (fun _ _ => 0)), (cp_T aT1, sT1), (cp_S aS1 (aT1 0), (fun _ _ => 0)), (cp_C aC1 (aT1 0) (aS1 0), (fun _ _ => 0)), (cp_T aT2, sT2), (cp_S aS2 (aT2 0), (fun _ _ => 0)), (cp_C aC2 (aT2 0) (aS2 0), (fun _ _ => 0)), (cp_H aHx (fun j => hTx j 0), (fun _ _ => 0)), (cp_T (hTx 0), sH0), (cp_T (hTx 1), sH1), (cp_T (hTx 2), sH2), (cp_T (hTx 3), sH3), (cp_O aO1, (fun _ _ => 0))] hP hD ⟨jx_ad [a, q9], aT1, aS1, aC1, aT2, aS2, aC2, aHx, hTx, aO1, sT1, sT2, sH0, sH1, sH2, sH3, rfl, rfl, hq1, hq2, hqH⟩ rfl rfl dX7_init_124
