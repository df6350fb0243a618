/-! ===== methods over one row of numbers: Rows.at, Rows.set, Arrays.fill, area; calls of them ===== -/
def jx_at (n : Nat) (f : Int → Int) (ix : Int) : Int := if 0 ≤ ix ∧ ix < (n : Int) then f ix else -1
def jx_se (n : Nat) (σ : jx_St) (k : Nat) (ix v : Int) : jx_St := if 0 ≤ ix ∧ ix < (n : Int) then jx_su σ k ix v else σ
def jx_fill (σ : jx_St) (k n : Nat) (v : Int) : jx_St := fun k' i' => if k' = k ∧ 0 ≤ i' ∧ i' < (n : Int) then v else σ k' i'
def jx_rk (σ : jx_St) (k : Nat) (g : Int → Int) : jx_St := fun k' i' => if k' = k then g i' else σ k' i'
def jx_one (a n : Nat) (σ : jx_St) : jx_Cp := ([(a, .inl (0, n))], σ)
theorem jx_mT_X4_at : jx_MS yX4_at cX4_at 2 (some .int) 2 := ⟨by decide +kernel, by decide +kernel, by decide +kernel, by decide +kernel⟩
theorem jx_mT_X4_set : jx_MS yX4_set cX4_set 3 none 3 := ⟨by decide +kernel, by decide +kernel, by decide +kernel, by decide +kernel⟩
theorem jx_mT_J7_fill : jx_MS yJ7_fill_53178 cJ7_fill_53178 4 none 2 := ⟨by decide +kernel, by decide +kernel, by decide +kernel, by decide +kernel⟩
set_option maxRecDepth 100000 in
set_option maxHeartbeats 4000000 in
theorem ct_Rows_at (l : Launch) (D : va_G) (cI cT : ClassId) (a n : Nat) (σ : jx_St) (ix : Int) (hn : Nat.ble n 2147483647 = true) (hR : jx_R ix) : jx_KI Unit l D cI cT yX4_at cX4_at 2 .int 0 0 [.ref a, .int (jx_i ix)] [jx_one a n σ] (fun _ => [jx_one a n σ]) (fun x _ => x = jx_at n (σ 0) ix) := by
  refine jx_entry (own := RX4) (by decide) rfl (Nat.le_of_ble_eq_true rfl) ?_
  intro p e s m args below meth c A C hr hlk hK hAe hA hP hD hS ls hl
  have hl : lv_has ls 2 [(0, .ref a), (1, .int (jx_i ix))] := hl
  have hx := C.1
  have hb := C.2.1
  have hnR : jx_R (n : Int) := ⟨by omega, by have := Nat.le_of_ble_eq_true hn; omega⟩
  refine lv_iload_n hx hb dX4_at_0 rfl (lv_at hl 1 rfl) ?_
  refine jx_zlt C (tgt := 16) hR dX4_at_1 (by decide) (fun h1 => ?_) (fun h1 => ?_)
  · refine jx_iconst C dX4_at_16 ?_
    exact jx_retI C hr hlk hAe hS () hP (by simp only [jx_at]; rw [if_neg (by omega)]) dX4_at_17
  · refine lv_iload_n hx hb dX4_at_4 rfl (lv_at hl 1 rfl) ?_
    refine lv_aload_n hx hb dX4_at_5 rfl (lv_at hl 0 rfl) ?_
    refine jx_alen C hK hP 0 0 rfl rfl dX4_at_6 ?_
    refine jx_cge C (tgt := 16) hR hnR dX4_at_7 (by decide) (fun h2 => ?_) (fun h2 => ?_)
    · refine jx_iconst C dX4_at_16 ?_
      exact jx_retI C hr hlk hAe hS () hP (by simp only [jx_at]; rw [if_neg (by omega)]) dX4_at_17
    · refine lv_aload_n hx hb dX4_at_10 rfl (lv_at hl 0 rfl) ?_
      refine lv_iload_n hx hb dX4_at_11 rfl (lv_at hl 1 rfl) ?_
      refine jx_iald C hK hP 0 0 rfl rfl hn ⟨by omega, h2⟩ dX4_at_12 ?_
      refine lv_goto (tgt := 17) hx hb dX4_at_13 (by decide) ?_
      exact jx_retI C hr hlk hAe hS () hP (by simp only [jx_at]; rw [if_pos ⟨by omega, h2⟩]) dX4_at_17
set_option maxRecDepth 100000 in
set_option maxHeartbeats 4000000 in
theorem ct_Rows_set (l : Launch) (D : va_G) (cI cT : ClassId) (a n : Nat) (σ : jx_St) (ix v : Int) (hn : Nat.ble n 2147483647 = true) (hR : jx_R ix) : jx_KV jx_St l D cI cT yX4_set cX4_set 3 0 0 [.ref a, .int (jx_i ix), .int (jx_i v)] [jx_one a n σ] (fun u => [jx_one a n u]) (fun u => u 0 = jx_se n σ 0 ix v 0) := by
  refine jx_entry (own := RX4) (by decide) rfl (Nat.le_of_ble_eq_true rfl) ?_
  intro p e s m args below meth c A C hr hlk hK hAe hA hP hD hS ls hl
  have hl : lv_has ls 3 [(0, .ref a), (1, .int (jx_i ix)), (2, .int (jx_i v))] := hl
  have hx := C.1
  have hb := C.2.1
  have hnR : jx_R (n : Int) := ⟨by omega, by have := Nat.le_of_ble_eq_true hn; omega⟩
  refine lv_iload_n hx hb dX4_set_0 rfl (lv_at hl 1 rfl) ?_
  refine jx_zlt C (tgt := 14) hR dX4_set_1 (by decide) (fun h1 => ?_) (fun h1 => ?_)
  · exact jx_retV C hr hlk hAe hS σ hP (by simp only [jx_se]; rw [if_neg (by omega)]) dX4_set_14
  · refine lv_iload_n hx hb dX4_set_4 rfl (lv_at hl 1 rfl) ?_
    refine lv_aload_n hx hb dX4_set_5 rfl (lv_at hl 0 rfl) ?_
    refine jx_alen C hK hP 0 0 rfl rfl dX4_set_6 ?_
    refine jx_cge C (tgt := 14) hR hnR dX4_set_7 (by decide) (fun h2 => ?_) (fun h2 => ?_)
    · exact jx_retV C hr hlk hAe hS σ hP (by simp only [jx_se]; rw [if_neg (by omega)]) dX4_set_14
    · refine lv_aload_n hx hb dX4_set_10 rfl (lv_at hl 0 rfl) ?_
      refine lv_iload_n hx hb dX4_set_11 rfl (lv_at hl 1 rfl) ?_
      refine lv_iload_n hx hb dX4_set_12 rfl (lv_at hl 2 rfl) ?_
      refine jx_iast C hK hP hD hS 0 0 rfl rfl rfl hn ⟨by omega, h2⟩ (cs' := [jx_one a n (jx_su σ 0 ix v)]) rfl dX4_set_13 (fun H locs hP hD hS => ?_)
      exact jx_retV C hr hlk hAe hS (jx_su σ 0 ix v) hP (by simp only [jx_se]; rw [if_pos ⟨by omega, h2⟩]) dX4_set_14
