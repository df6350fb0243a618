def jx_cp (σ : jx_St) (k : Nat) (f : Int → Int) (n : Nat) : jx_St := fun k' i' => if k' = k ∧ 0 ≤ i' ∧ i' < (n : Int) then f i' else σ k' i'
theorem jx_inR {a : Int} (h1 : -2147483648 ≤ a) (h2 : a ≤ 2147483647) : jx_R a := ⟨h1, h2⟩
set_option maxRecDepth 100000 in
set_option maxHeartbeats 4000000 in
theorem ct_fill (l : Launch) (D : va_G) (cI cT : ClassId) (a n : Nat) (σ : jx_St) (v : Int) (hn : Nat.ble n 2147483646 = true) : jx_KV jx_St l D cI cT yJ7_fill_53178 cJ7_fill_53178 4 0 0 [.ref a, .int (jx_i v)] [jx_one a n σ] (fun u => [jx_one a n u]) (fun u => u 0 = jx_fill σ 0 n v 0) := by
  refine jx_entry (own := RJ7) (by decide) rfl (Nat.le_of_ble_eq_true rfl) ?_
  intro p e s m args below meth c A C hr hlk hK hAe hA hP hD hS ls hl
  have hl : lv_has ls 4 [(0, .ref a), (1, .int (jx_i v))] := hl
  have hx := C.1
  have hb := C.2.1
  have hn' := Nat.le_of_ble_eq_true hn
  have hn2 : Nat.ble n 2147483647 = true := Nat.ble_eq.mpr (by omega)
  have hnR : jx_R (n : Int) := ⟨by omega, by omega⟩
  have L : ∀ (d i : Nat) (τ : jx_St), i + d = n → (∀ (k' : Nat) (j : Int), τ k' j = if k' = 0 ∧ 0 ≤ j ∧ j < (i : Int) then v else σ k' j) → ∀ (H : Heap) (locs : List Loc), va_P D vwCl (jx_ws cI cT [jx_one a n τ]) H → va_D A (jx_ws cI cT [jx_one a n τ]) → va_S A s.heap H locs → ∀ ls, lv_has ls 4 [(2, .int (jx_i (i : Int))), (3, .int (jx_i (n : Int))), (0, .ref a), (1, .int (jx_i v))] → W p l e (jx_rm 0 0) s m args below meth c H locs 0 0 (MQ below (jx_QV jx_St D cI cT [jx_one a n σ] (fun u => [jx_one a n u]) (fun u => u 0 = jx_fill σ 0 n v 0) s.heap.size) args s 0 0 A) (F0 m 5 ls []) := by
    intro d
    induction d with
    | zero =>
      intro i τ hd hτ H locs hP hD hS ls hl
      refine lv_iload_n hx hb dJ7_fill_53178_5 rfl (lv_at hl 0 rfl) ?_
      refine lv_iload_n hx hb dJ7_fill_53178_6 rfl (lv_at hl 1 rfl) ?_
      refine jx_cge C (tgt := 20) ⟨by omega, by omega⟩ hnR dJ7_fill_53178_7 (by decide) (fun h2 => ?_) (fun h2 => absurd h2 (by omega))
      refine jx_retV C hr hlk hAe hS τ hP ?_ dJ7_fill_53178_20
      funext j
      rw [hτ]
      have : (i : Int) = n := by omega
      simp [jx_fill, this]
    | succ d ih =>
      intro i τ hd hτ H locs hP hD hS ls hl
      refine lv_iload_n hx hb dJ7_fill_53178_5 rfl (lv_at hl 0 rfl) ?_
      refine lv_iload_n hx hb dJ7_fill_53178_6 rfl (lv_at hl 1 rfl) ?_
      refine jx_cge C (tgt := 20) ⟨by omega, by omega⟩ hnR dJ7_fill_53178_7 (by decide) (fun h2 => absurd (show (i : Int) < n by omega) h2) (fun h2 => ?_)
      refine lv_aload_n hx hb dJ7_fill_53178_10 rfl (lv_at hl 2 rfl) ?_
      refine lv_iload_n hx hb dJ7_fill_53178_11 rfl (lv_at hl 0 rfl) ?_
      refine lv_iload_n hx hb dJ7_fill_53178_12 rfl (lv_at hl 3 rfl) ?_
      refine jx_iast C hK hP hD hS 0 0 rfl rfl rfl hn2 ⟨by omega, h2⟩ (cs' := [jx_one a n (jx_su τ 0 (i : Int) v)]) rfl dJ7_fill_53178_13 (fun H locs hP hD hS => ?_)
      refine jx_iinc C (lv' := [(2, .int (jx_i ((i : Int) + 1))), (3, .int (jx_i (n : Int))), (0, .ref a), (1, .int (jx_i v))]) dJ7_fill_53178_14 hl (k := 0) rfl (by decide) rfl (fun ls hl => ?_)
      refine lv_goto (tgt := 5) hx hb dJ7_fill_53178_17 (by decide) ?_
      refine ih (i + 1) (jx_su τ 0 (i : Int) v) (by omega) (fun k' j => ?_) H locs hP hD hS ls (by rw [show ((i + 1 : Nat) : Int) = (i : Int) + 1 from by omega]; exact hl)
      simp only [jx_su, hτ]
      by_cases h3 : k' = 0 ∧ j = (i : Int)
      · rw [if_pos h3, if_pos (by omega)]
      · rw [if_neg h3]
        by_cases h4 : k' = 0 ∧ 0 ≤ j ∧ j < (i : Int)
        · rw [if_pos h4, if_pos (by omega)]
        · rw [if_neg h4, if_neg (by omega)]
  refine jx_iconst C dJ7_fill_53178_0 ?_
  refine lv_istore_n (lv' := [(2, .int (jx_i 0)), (0, .ref a), (1, .int (jx_i v))]) hx hb dJ7_fill_53178_1 rfl hl (by decide) rfl (fun ls hl => ?_)
  refine lv_aload_n hx hb dJ7_fill_53178_2 rfl (lv_at hl 1 rfl) ?_
  refine jx_alen C hK hP 0 0 rfl rfl dJ7_fill_53178_3 ?_
  refine lv_istore_n (lv' := [(3, .int (jx_i (n : Int))), (2, .int (jx_i 0)), (0, .ref a), (1, .int (jx_i v))]) hx hb dJ7_fill_53178_4 rfl hl (by decide) rfl (fun ls hl => ?_)
  exact L n 0 σ (by omega) (fun k' j => by rw [if_neg (by omega)]) _ _ hP hD hS ls (lv_sub hl [1, 0, 2, 3] rfl)
section JX6
variable {p : Program} {l : Launch} {e : Env} {R : Room} {s : State} {m : MethodId} {args : Array Value} {below : List Frame} {meth : Method} {c : Code} {H : Heap} {locs : List Loc} {cells slots : Nat} {Q : State → Prop}
variable {cc : ByteArray} {own : String} {nL pc : Nat} {ls : Array Slot} {rest : List Value} {D : va_G} {cI cT : ClassId} {cs : List jx_Cp} {A : Nat → Prop} {H0 : Heap}
theorem jx_callFill {index : Nat} {v : Int} (C : jx_C p s m args c cc own nL) (hK : jx_K D cI cT s) (hP : va_P D vwCl (jx_ws cI cT cs) H) (hD : va_D A (jx_ws cI cT cs)) (hS : va_S A H0 H locs) (hA : ∀ q : Nat, H0.size ≤ q → A q)
    (i q : Nat) {a k n : Nat} {ce : List (Nat × jx_Sh)} {σ : jx_St} (hi : cs[i]? = some (ce, σ)) (hq : ce[q]? = some (a, .inl (k, n))) (hs : jx_sole k q ce = true) (hn : Nat.ble n 2147483646 = true) (hl : Cond.methodLink own index yJ7_fill_53178 ∈ jx_T) {cs' : List jx_Cp} (hcs : cs.set i (ce, jx_fill σ k n v) = cs')
    (hls : ls.size = nL) (hfr : (Nat.ble 1 R.frames && Nat.ble 23 R.locals) = true) (hrest : Nat.ble (rest.map fun v => v.category).sum 8 = true) (hdg : decode cc pc = .ok (.invokestatic index, 3)) (hcl : cells ≤ R.cells ∧ slots ≤ R.slots)
    (kk : ∀ (H1 : Heap) (locs1 : List Loc), va_P D vwCl (jx_ws cI cT cs') H1 → va_D A (jx_ws cI cT cs') → va_S A H0 H1 locs1 → W p l e R s m args below meth c H1 locs1 cells slots Q (F0 m (pc + 3) ls rest)) : W p l e R s m args below meth c H locs cells slots Q (F0 m pc ls (.int (jx_i v) :: .ref a :: rest)) :=
  jx_callAV C hK hP hD hS hA i q hi hq hs (ct_fill l D cI cT a n (fun _ => σ k) v hn) jx_mT_J7_fill hl (jx_fill σ k n v) (fun u hu => by
    rw [hu]
    funext k' i'
    by_cases hk' : k' = k
    · simp [jx_rk, jx_fill, hk']
    · simp [jx_rk, jx_fill, hk']) hcs rfl rfl hls hfr hrest hdg hcl kk
theorem jx_copyi {index n : Nat} {i0 q0 i1 q1 a0 a1 k0 k1 n0 n1 : Nat} {ce0 ce1 : List (Nat × jx_Sh)} {σ0 σ1 : jx_St} (C : jx_C p s m args c cc own nL) (hK : jx_K D cI cT s) (hP : va_P D vwCl (jx_ws cI cT cs) H) (hD : va_D A (jx_ws cI cT cs)) (hS : va_S A H0 H locs)
    (hi0 : cs[i0]? = some (ce0, σ0)) (hq0 : ce0[q0]? = some (a0, .inl (k0, n0))) (hi1 : cs[i1]? = some (ce1, σ1)) (hq1 : ce1[q1]? = some (a1, .inl (k1, n1))) (hs : jx_sole k1 q1 ce1 = true) (hn : (Nat.ble n 2147483647 && Nat.ble n n0 && Nat.ble n n1) = true) (hl : Cond.methodLink own index arraycopyName ∈ jx_T) (hnat : Cond.native arraycopyName ∈ jx_T) (hstat : Cond.static arraycopyName ∈ jx_T) (hini : Cond.initialized "java/lang/System" ∈ jx_T) {cs' : List jx_Cp} (hcs : cs.set i1 (ce1, jx_cp σ1 k1 (σ0 k0) n) = cs')
    (hls : ls.size = nL) (hfr : (Nat.ble 1 R.frames && Nat.ble ((rest.map fun v => v.category).sum + (nativeFrameWords "java/lang/System" "arraycopy" 5 + 11)) R.locals) = true) (hdg : decode cc pc = .ok (.invokestatic index, 3))
    (kk : ∀ (H1 : Heap) (locs1 : List Loc), va_P D vwCl (jx_ws cI cT cs') H1 → va_D A (jx_ws cI cT cs') → va_S A H0 H1 locs1 → W p l e R s m args below meth c H1 locs1 cells slots Q (F0 m (pc + 3) ls rest)) : W p l e R s m args below meth c H locs cells slots Q (F0 m pc ls (.int (jx_i (n : Int)) :: .int (jx_i 0) :: .ref a1 :: .int (jx_i 0) :: .ref a0 :: rest)) := by
  simp only [Bool.and_eq_true] at hfr hn
  have h1 := Nat.le_of_ble_eq_true hn.1.1
  have h2 := Nat.le_of_ble_eq_true hn.1.2
  have h3 := Nat.le_of_ble_eq_true hn.2
  have hts := C.2.2.2.2
  have hnR : jx_R (n : Int) := ⟨by omega, by omega⟩
  have en : (jx_i (n : Int)).toNatClampNeg = n := by rw [jx_nat hnR]; omega
  have ez : (jx_i 0).toNatClampNeg = 0 := by rw [jx_nat jx_R0]; rfl
  have nz : ¬ jx_i 0 < 0 := by decide
  have nn : ¬ jx_i (n : Int) < 0 := fun q => by
    have := (jx_lt hnR jx_R0).mp (by rw [jx_i0]; exact q)
    omega
  have p0 := jx_pos (cI := cI) (cT := cT) hi0 (jx_w_get hq0)
  obtain ⟨k, p1, hset⟩ := jx_flat (cI := cI) (cT := cT) hi1 (jx_w_get hq1)
  have hs2 := hset (a1, jx_ce cI cT (jx_cp σ1 k1 (σ0 k0) n) (.inl (k1, n1))) (ce1, jx_cp σ1 k1 (σ0 k0) n) (jx_w_gen (fun k' h => by funext j; simp [jx_cp, h]) hq1 hs)
  rw [hcs] at hs2
  have ecell : jx_ce cI cT (jx_cp σ1 k1 (σ0 k0) n) (.inl (k1, n1)) = .inl (cI, n1, .inl (va_cpy (fun j : Nat => jx_i (σ0 k0 (j : Int))) (fun j : Nat => jx_i (σ1 k1 (j : Int))) 0 0 n)) := by
    simp only [jx_ce]
    congr 3
    congr 1
    funext j
    simp only [jx_cp, va_cpy]
    by_cases hj : j < n
    · rw [if_pos ⟨trivial, by omega, by omega⟩, if_pos ⟨by omega, by omega⟩]
      congr 2
      omega
    · rw [if_neg (by rintro ⟨-, h, h'⟩; omega), if_neg (by omega)]
  rw [ecell] at hs2
  refine va_copyi (ty := .int) C.1 C.2.1 (C.2.2.1.trans hls.symm) C.2.2.2.1 (hts _ hl) (hts _ hnat) (hts _ hstat) (hts _ hini) hK.1 hP hD hS _ k 0 0 p0 p1 rfl rfl rfl nz nz nn (by rw [ez, en]; omega) (by rw [ez, en]; omega) (fun _ _ => rfl) (Nat.le_of_ble_eq_true hfr.1) (Nat.le_of_ble_eq_true hfr.2) hdg (fun H1 locs1 hP1 hD1 hS1 => ?_)
  rw [ez, en, hs2] at hP1 hD1
  exact kk H1 locs1 hP1 hD1 hS1
theorem jx_max {index : Nat} {a b : Int} (C : jx_C p s m args c cc own nL) (ha : jx_R a) (hb : jx_R b) (hl : Cond.methodLink own index Lib.Math.max.name ∈ jx_T) (hls : ls.size = nL) (hfr : (Nat.ble 1 R.frames && Nat.ble ((rest.map fun v => v.category).sum + 13) R.locals) = true) (hdg : decode cc pc = .ok (.invokestatic index, 3)) (hcl : cells ≤ R.cells ∧ slots ≤ R.slots)
    (hw : Cond.static Lib.Math.max.name ∈ jx_T ∧ Cond.initialized "java/lang/Math" ∈ jx_T ∧ Cond.code Lib.Math.max.name Lib.Math.max.code 2 (some .int) ∈ jx_T)
    (kk : W p l e R s m args below meth c H locs cells slots Q (F0 m (pc + 3) ls (.int (jx_i (max a b)) :: rest))) : W p l e R s m args below meth c H locs cells slots Q (F0 m pc ls (.int (jx_i b) :: .int (jx_i a) :: rest)) := by
  simp only [Bool.and_eq_true] at hfr
  have hts := C.2.2.2.2
  refine va_mmax C.1 C.2.1 (C.2.2.1.trans hls.symm) C.2.2.2.1 (hts _ hl) (hts _ hw.1) (hts _ hw.2.1) (hts _ hw.2.2) (Nat.le_of_ble_eq_true hfr.1) (Nat.le_of_ble_eq_true hfr.2) hcl.1 hcl.2 hdg ?_
  have e : (if jx_i a < jx_i b then jx_i b else jx_i a) = jx_i (max a b) := by
    by_cases h : a < b
    · rw [if_pos ((jx_lt ha hb).mpr h), Int.max_eq_right (by omega)]
    · rw [if_neg (fun q => h ((jx_lt ha hb).mp q)), Int.max_eq_left (by omega)]
  rw [e]
  exact kk
theorem jx_min {index : Nat} {a b : Int} (C : jx_C p s m args c cc own nL) (ha : jx_R a) (hb : jx_R b) (hl : Cond.methodLink own index Lib.Math.min.name ∈ jx_T) (hls : ls.size = nL) (hfr : (Nat.ble 1 R.frames && Nat.ble ((rest.map fun v => v.category).sum + 13) R.locals) = true) (hdg : decode cc pc = .ok (.invokestatic index, 3)) (hcl : cells ≤ R.cells ∧ slots ≤ R.slots)
    (hw : Cond.static Lib.Math.min.name ∈ jx_T ∧ Cond.initialized "java/lang/Math" ∈ jx_T ∧ Cond.code Lib.Math.min.name Lib.Math.min.code 2 (some .int) ∈ jx_T)
    (kk : W p l e R s m args below meth c H locs cells slots Q (F0 m (pc + 3) ls (.int (jx_i (min a b)) :: rest))) : W p l e R s m args below meth c H locs cells slots Q (F0 m pc ls (.int (jx_i b) :: .int (jx_i a) :: rest)) := by
  simp only [Bool.and_eq_true] at hfr
  have hts := C.2.2.2.2
  refine va_mmin C.1 C.2.1 (C.2.2.1.trans hls.symm) C.2.2.2.1 (hts _ hl) (hts _ hw.1) (hts _ hw.2.1) (hts _ hw.2.2) (Nat.le_of_ble_eq_true hfr.1) (Nat.le_of_ble_eq_true hfr.2) hcl.1 hcl.2 hdg ?_
  have e : (if jx_i b < jx_i a then jx_i b else jx_i a) = jx_i (min a b) := by
    by_cases h : b < a
    · rw [if_pos ((jx_lt hb ha).mpr h), Int.min_eq_right (by omega)]
    · rw [if_neg (fun q => h ((jx_lt hb ha).mp q)), Int.min_eq_left (by omega)]
  rw [e]
  exact kk
theorem jx_wMax : Cond.static Lib.Math.max.name ∈ jx_T ∧ Cond.initialized "java/lang/Math" ∈ jx_T ∧ Cond.code Lib.Math.max.name Lib.Math.max.code 2 (some .int) ∈ jx_T := ⟨by decide +kernel, by decide +kernel, by decide +kernel⟩
theorem jx_wMin : Cond.static Lib.Math.min.name ∈ jx_T ∧ Cond.initialized "java/lang/Math" ∈ jx_T ∧ Cond.code Lib.Math.min.name Lib.Math.min.code 2 (some .int) ∈ jx_T := ⟨by decide +kernel, by decide +kernel, by decide +kernel⟩
theorem jx_wCopy : Cond.native arraycopyName ∈ jx_T ∧ Cond.static arraycopyName ∈ jx_T ∧ Cond.initialized "java/lang/System" ∈ jx_T := ⟨by decide +kernel, by decide +kernel, by decide +kernel⟩
end JX6
