section JX5
theorem jx_ce_gen {cI cT : ClassId} {σ σ' : jx_St} {k : Nat} (hσ : ∀ k' : Nat, k' ≠ k → σ' k' = σ k') {sh : jx_Sh} (h : jx_hask k sh = false) : jx_ce cI cT σ' sh = jx_ce cI cT σ sh := by
  rcases sh with ⟨k', n⟩ | ⟨ci, fs⟩ | l
  · have hk : k' ≠ k := by simpa [jx_hask] using h
    simp only [jx_ce, hσ k' hk]
  · simp only [jx_ce]
    have h2 : fs.map (jx_fv σ') = fs.map (jx_fv σ) := by
      apply List.map_congr_left
      intro f hf
      cases f with
      | inl a => rfl
      | inr k' =>
        have hk : k' ≠ k := by
          intro e
          subst e
          simp only [jx_hask, List.any_eq_false] at h
          have := h _ hf
          simp at this
        simp only [jx_fv, hσ k' hk]
    rw [h2]
  · rfl
theorem jx_w_gen {cI cT : ClassId} {cells : List (Nat × jx_Sh)} {σ σ' : jx_St} {q a k : Nat} {sh : jx_Sh} (hσ : ∀ k' : Nat, k' ≠ k → σ' k' = σ k') (h : cells[q]? = some (a, sh)) (hs : jx_sole k q cells = true) : jx_w cI cT (cells, σ') = (jx_w cI cT (cells, σ)).set q (a, jx_ce cI cT σ' sh) := by
  apply List.ext_getElem?
  intro j
  rw [List.getElem?_set]
  by_cases hj : q = j
  · subst hj
    have hl : q < cells.length := (List.getElem?_eq_some_iff.mp h).1
    rw [jx_w_get h, if_pos rfl, if_pos (by simp only [jx_w, List.length_map]; exact hl)]
  · rw [if_neg hj]
    simp only [jx_w, List.getElem?_map]
    cases hc : cells[j]? with
    | none => rfl
    | some d =>
      simp only [Option.map_some]
      rw [jx_ce_gen hσ (jx_sole_spec hs hc (fun e => hj e.symm))]
theorem jx_one_P {cI cT : ClassId} {D : va_G} {cs : List jx_Cp} {H : Heap} (hP : va_P D vwCl (jx_ws cI cT cs) H) {i q a k n : Nat} {ce : List (Nat × jx_Sh)} {σ : jx_St} (hi : cs[i]? = some (ce, σ)) (hq : ce[q]? = some (a, .inl (k, n))) : va_P D vwCl (jx_ws cI cT [jx_one a n (fun _ => σ k)]) H := by
  intro j x hj
  have h1 := hP _ _ (jx_pos (cI := cI) (cT := cT) hi (jx_w_get hq))
  have h0 : ([(a, jx_ce cI cT (fun _ => σ k) (.inl (0, n)))] : va_W)[j]? = some x := hj
  cases j with
  | zero =>
    have e := Option.some.inj h0
    subst e
    exact h1
  | succ j => simp at h0
theorem jx_one_D {cI cT : ClassId} {A : Nat → Prop} {cs : List jx_Cp} (hD : va_D A (jx_ws cI cT cs)) {i q a k n : Nat} {ce : List (Nat × jx_Sh)} {σ u : jx_St} (hi : cs[i]? = some (ce, σ)) (hq : ce[q]? = some (a, .inl (k, n))) : va_D A (jx_ws cI cT [jx_one a n u]) := by
  have h0 : ∀ (j : Nat) (x : Nat × va_E), (jx_ws cI cT [jx_one a n u])[j]? = some x → j = 0 ∧ x.1 = a := by
    intro j x hj
    have hj : ([(a, jx_ce cI cT u (.inl (0, n)))] : va_W)[j]? = some x := hj
    cases j with
    | zero => exact ⟨rfl, by rw [← Option.some.inj hj]⟩
    | succ j => simp at hj
  refine ⟨fun i j p q hi hj _ => by rw [(h0 _ _ hi).1, (h0 _ _ hj).1], fun j x hj => ?_⟩
  rw [(h0 _ _ hj).2]
  exact hD.2 _ _ (jx_pos (cI := cI) (cT := cT) hi (jx_w_get hq))
theorem jx_one_free {cI cT : ClassId} {A : Nat → Prop} {cs : List jx_Cp} {H0 H : Heap} {locs : List Loc} (hD : va_D A (jx_ws cI cT cs)) (hS : va_S A H0 H locs) (hA : ∀ q, H0.size ≤ q → A q) {i q a k n : Nat} {ce : List (Nat × jx_Sh)} {σ u : jx_St} (hi : cs[i]? = some (ce, σ)) (hq : ce[q]? = some (a, .inl (k, n))) : ∀ r, va_A (jx_ws cI cT [jx_one a n u]) H.size r → A r := by
  intro r h
  rcases h with ⟨j, e, h⟩ | h
  · exact (jx_one_D (u := u) hD hi hq).2 j _ h
  · exact hA r (Nat.le_trans hS.1 h)
theorem jx_one_join {cI cT : ClassId} {D : va_G} {A : Nat → Prop} {cs cs' : List jx_Cp} {H H1 : Heap} (hP : va_P D vwCl (jx_ws cI cT cs) H) (hD : va_D A (jx_ws cI cT cs)) {i q a k n : Nat} {ce : List (Nat × jx_Sh)} {σ u0 u : jx_St} (hi : cs[i]? = some (ce, σ)) (hq : ce[q]? = some (a, .inl (k, n))) (hs : jx_sole k q ce = true) (hcs : cs.set i (ce, jx_rk σ k (u 0)) = cs') (hk : ∀ r : Nat, r < H.size → ¬ va_A (jx_ws cI cT [jx_one a n u0]) H.size r → H1[r]? = H[r]?) (hP1 : va_P D vwCl (jx_ws cI cT [jx_one a n u]) H1) : va_P D vwCl (jx_ws cI cT cs') H1 := by
  obtain ⟨k0, h1, h2⟩ := jx_flat (cI := cI) (cT := cT) hi (jx_w_get hq)
  have hset := h2 (a, jx_ce cI cT (jx_rk σ k (u 0)) (.inl (k, n))) (ce, jx_rk σ k (u 0)) (jx_w_gen (fun k' h => by funext j; simp [jx_rk, h]) hq hs)
  rw [hcs] at hset
  rw [← hset]
  intro j x hj
  rw [List.getElem?_set] at hj
  by_cases e : k0 = j
  · rw [if_pos e] at hj
    split at hj
    · have ex := Option.some.inj hj
      subst ex
      have h3 := hP1 0 (a, jx_ce cI cT u (.inl (0, n))) rfl
      have h4 : jx_ce cI cT (jx_rk σ k (u 0)) (.inl (k, n)) = jx_ce cI cT u (.inl (0, n)) := by simp only [jx_ce, jx_rk, if_pos]
      rw [h4]
      exact h3
    · cases hj
  · rw [if_neg e] at hj
    have hat := hP j x hj
    refine hat.kept (hk x.1 hat.lt (fun hA => ?_))
    rcases hA with ⟨j2, y, hA⟩ | hA
    · have hA : ([(a, jx_ce cI cT u0 (.inl (0, n)))] : va_W)[j2]? = some (x.1, y) := hA
      cases j2 with
      | zero =>
        have ea : a = x.1 := by have := Option.some.inj hA; exact congrArg Prod.fst this
        exact e (hD.1 _ _ _ _ h1 hj ea)
      | succ j2 => simp at hA
    · have := hat.lt
      omega
theorem jx_rk_self {σ : jx_St} {k : Nat} : jx_rk σ k (σ k) = σ := by
  funext k' i'
  simp only [jx_rk]
  split
  · next h => rw [h]
  · rfl
theorem jx_set_self {cs : List jx_Cp} {i : Nat} {c : jx_Cp} (h : cs[i]? = some c) : cs.set i c = cs := by
  apply List.ext_getElem?
  intro j
  rw [List.getElem?_set]
  by_cases e : i = j
  · subst e
    rw [if_pos rfl, if_pos (List.getElem?_eq_some_iff.mp h).1, h]
  · rw [if_neg e]
theorem jx_map_set {cs : List jx_Cp} {i : Nat} {ce : List (Nat × jx_Sh)} {σ σ' : jx_St} (h : cs[i]? = some (ce, σ)) : (cs.set i (ce, σ')).map Prod.fst = cs.map Prod.fst := by
  apply List.ext_getElem?
  intro j
  rw [List.getElem?_map, List.getElem?_map, List.getElem?_set]
  by_cases e : i = j
  · subst e
    rw [if_pos rfl, if_pos (List.getElem?_eq_some_iff.mp h).1, h]
    rfl
  · rw [if_neg e]
variable {p : Program} {l : Launch} {e : Env} {R : Room} {s : State} {m : MethodId} {args : Array Value} {below : List Frame} {meth : Method} {c : Code} {H : Heap} {locs : List Loc} {cells slots : Nat} {Q : State → Prop}
variable {cc : ByteArray} {own : String} {nL pc : Nat} {ls : Array Slot} {rest : List Value} {D : va_G} {cI cT : ClassId} {cs : List jx_Cp} {A : Nat → Prop} {H0 : Heap}
theorem jx_callAI {Q' : Int → Unit → Prop} {y : MethodName} {b : ByteArray} {nL' index nn fr lo : Nat} {rt : FieldType} {As st0 : List Value} (C : jx_C p s m args c cc own nL) (hK : jx_K D cI cT s) (hP : va_P D vwCl (jx_ws cI cT cs) H) (hD : va_D A (jx_ws cI cT cs)) (hS : va_S A H0 H locs) (hA : ∀ q : Nat, H0.size ≤ q → A q)
    (i q : Nat) {a k n : Nat} {ce : List (Nat × jx_Sh)} {σ : jx_St} (hi : cs[i]? = some (ce, σ)) (hq : ce[q]? = some (a, .inl (k, n))) (hs : jx_sole k q ce = true) (hM : jx_KI Unit l D cI cT y b nL' rt fr lo As [jx_one a n (fun _ => σ k)] (fun _ => [jx_one a n (fun _ => σ k)]) Q') (hy : jx_MS y b nL' (some rt) nn) (hl : Cond.methodLink own index y ∈ jx_T)
    (hst : st0 = As.reverse ++ rest) (hn : As.length = nn) (hls : ls.size = nL) (hfr : (Nat.ble (fr + 1) R.frames && Nat.ble (8 + (nL' + 11) + lo) R.locals) = true) (hrest : Nat.ble (rest.map fun v => v.category).sum 8 = true) (hdg : decode cc pc = .ok (.invokestatic index, 3)) (hcl : cells ≤ R.cells ∧ slots ≤ R.slots)
    (kk : ∀ (x : Int) (H1 : Heap) (locs1 : List Loc), Q' x () → va_P D vwCl (jx_ws cI cT cs) H1 → va_S A H0 H1 locs1 → W p l e R s m args below meth c H1 locs1 cells slots Q (F0 m (pc + 3) ls (.int (jx_i x) :: rest))) : W p l e R s m args below meth c H locs cells slots Q (F0 m pc ls st0) := by
  obtain ⟨hcode, hini, hstt, hd⟩ := hy
  simp only [Bool.and_eq_true] at hfr
  have hPc := jx_one_P hP hi hq
  have hDc := jx_one_D (u := fun _ => σ k) hD hi hq
  have hF := jx_one_free (u := fun _ => σ k) hD hS hA hi hq
  have hts := C.2.2.2.2
  have cb := callB_of (rm := jx_rm fr lo) (mc := 0) (ms := 0) nn hts (jx_goodIn hcode) rfl rfl rfl (hts _ hini) (hts _ hl) hd ⟨Nat.le_of_ble_eq_true hfr.1, Nat.le_of_ble_eq_true hfr.2⟩
  refine va_calli (va_runS C (hM H.size) ⟨cb, hts _ hstt⟩ ⟨jx_blind, jx_preU hPc hK hDc⟩ rfl hn hls hst (lv_room (Nat.le_of_ble_eq_true hrest)) hdg ⟨hcl.1, hcl.2⟩) hS (fun q _ h => hF q h) hF (fun r u t H1 locs1 ht hvm hw hB hz1 hk1 hS1 => ?_)
  obtain ⟨x, rfl, hqx⟩ := hw
  have hB : va_P D vwCl (jx_ws cI cT [jx_one a n (fun _ => σ k)]) t.heap := hB
  rw [ht] at hB
  refine kk x H1 locs1 hqx (jx_one_join hP hD hi hq hs ?_ hk1 hB) hS1
  rw [jx_rk_self]
  exact jx_set_self hi
theorem jx_callAV {Q' : jx_St → Prop} {y : MethodName} {b : ByteArray} {nL' index nn fr lo : Nat} {As st0 : List Value} (C : jx_C p s m args c cc own nL) (hK : jx_K D cI cT s) (hP : va_P D vwCl (jx_ws cI cT cs) H) (hD : va_D A (jx_ws cI cT cs)) (hS : va_S A H0 H locs) (hA : ∀ q : Nat, H0.size ≤ q → A q)
    (i q : Nat) {a k n : Nat} {ce : List (Nat × jx_Sh)} {σ : jx_St} (hi : cs[i]? = some (ce, σ)) (hq : ce[q]? = some (a, .inl (k, n))) (hs : jx_sole k q ce = true) (hM : jx_KV jx_St l D cI cT y b nL' fr lo As [jx_one a n (fun _ => σ k)] (fun u => [jx_one a n u]) Q') (hy : jx_MS y b nL' none nn) (hl : Cond.methodLink own index y ∈ jx_T)
    (σ' : jx_St) (hσ : ∀ u, Q' u → jx_rk σ k (u 0) = σ') {cs' : List jx_Cp} (hcs : cs.set i (ce, σ') = cs')
    (hst : st0 = As.reverse ++ rest) (hn : As.length = nn) (hls : ls.size = nL) (hfr : (Nat.ble (fr + 1) R.frames && Nat.ble (8 + (nL' + 11) + lo) R.locals) = true) (hrest : Nat.ble (rest.map fun v => v.category).sum 8 = true) (hdg : decode cc pc = .ok (.invokestatic index, 3)) (hcl : cells ≤ R.cells ∧ slots ≤ R.slots)
    (kk : ∀ (H1 : Heap) (locs1 : List Loc), va_P D vwCl (jx_ws cI cT cs') H1 → va_D A (jx_ws cI cT cs') → va_S A H0 H1 locs1 → W p l e R s m args below meth c H1 locs1 cells slots Q (F0 m (pc + 3) ls rest)) : W p l e R s m args below meth c H locs cells slots Q (F0 m pc ls st0) := by
  obtain ⟨hcode, hini, hstt, hd⟩ := hy
  simp only [Bool.and_eq_true] at hfr
  have hPc := jx_one_P hP hi hq
  have hDc := jx_one_D (u := fun _ => σ k) hD hi hq
  have hF := jx_one_free (u := fun _ => σ k) hD hS hA hi hq
  have hts := C.2.2.2.2
  have cb := callB_of (rm := jx_rm fr lo) (mc := 0) (ms := 0) nn hts (jx_goodIn hcode) rfl rfl rfl (hts _ hini) (hts _ hl) hd ⟨Nat.le_of_ble_eq_true hfr.1, Nat.le_of_ble_eq_true hfr.2⟩
  refine va_callv (va_runS C (hM H.size) ⟨cb, hts _ hstt⟩ ⟨jx_blind, jx_preU hPc hK hDc⟩ rfl hn hls hst (lv_room (Nat.le_of_ble_eq_true hrest)) hdg ⟨hcl.1, hcl.2⟩) hS (fun q _ h => hF q h) hF (fun u t H1 locs1 ht hvm hw hB hz1 hk1 hS1 => ?_)
  have hB : va_P D vwCl (jx_ws cI cT [jx_one a n u]) t.heap := hB
  rw [ht] at hB
  refine kk H1 locs1 (jx_one_join hP hD hi hq hs ?_ hk1 hB) (jx_D_same ?_ hD) hS1
  · rw [hσ u hw]
    exact hcs
  · rw [← hcs]
    exact jx_map_set hi
/-- Rows.at, called: what it answers is known -/
theorem jx_rowsAt {index : Nat} {ix : Int} (C : jx_C p s m args c cc own nL) (hK : jx_K D cI cT s) (hP : va_P D vwCl (jx_ws cI cT cs) H) (hD : va_D A (jx_ws cI cT cs)) (hS : va_S A H0 H locs) (hA : ∀ q : Nat, H0.size ≤ q → A q)
    (i q : Nat) {a k n : Nat} {ce : List (Nat × jx_Sh)} {σ : jx_St} (hi : cs[i]? = some (ce, σ)) (hq : ce[q]? = some (a, .inl (k, n))) (hs : jx_sole k q ce = true) (hn : Nat.ble n 2147483647 = true) (hR : jx_R ix) (hl : Cond.methodLink own index yX4_at ∈ jx_T)
    (hls : ls.size = nL) (hfr : (Nat.ble 1 R.frames && Nat.ble 21 R.locals) = true) (hrest : Nat.ble (rest.map fun v => v.category).sum 8 = true) (hdg : decode cc pc = .ok (.invokestatic index, 3)) (hcl : cells ≤ R.cells ∧ slots ≤ R.slots)
    (kk : ∀ (H1 : Heap) (locs1 : List Loc), va_P D vwCl (jx_ws cI cT cs) H1 → va_S A H0 H1 locs1 → W p l e R s m args below meth c H1 locs1 cells slots Q (F0 m (pc + 3) ls (.int (jx_i (jx_at n (σ k) ix)) :: rest))) : W p l e R s m args below meth c H locs cells slots Q (F0 m pc ls (.int (jx_i ix) :: .ref a :: rest)) :=
  jx_callAI C hK hP hD hS hA i q hi hq hs (ct_Rows_at l D cI cT a n (fun _ => σ k) ix hn hR) jx_mT_X4_at hl rfl rfl hls hfr hrest hdg hcl (fun x H1 locs1 hx hP1 hS1 => by subst hx; exact kk H1 locs1 hP1 hS1)
theorem jx_rowsSet {index : Nat} {ix v : Int} (C : jx_C p s m args c cc own nL) (hK : jx_K D cI cT s) (hP : va_P D vwCl (jx_ws cI cT cs) H) (hD : va_D A (jx_ws cI cT cs)) (hS : va_S A H0 H locs) (hA : ∀ q : Nat, H0.size ≤ q → A q)
    (i q : Nat) {a k n : Nat} {ce : List (Nat × jx_Sh)} {σ : jx_St} (hi : cs[i]? = some (ce, σ)) (hq : ce[q]? = some (a, .inl (k, n))) (hs : jx_sole k q ce = true) (hn : Nat.ble n 2147483647 = true) (hR : jx_R ix) (hl : Cond.methodLink own index yX4_set ∈ jx_T) {cs' : List jx_Cp} (hcs : cs.set i (ce, jx_se n σ k ix v) = cs')
    (hls : ls.size = nL) (hfr : (Nat.ble 1 R.frames && Nat.ble 22 R.locals) = true) (hrest : Nat.ble (rest.map fun v => v.category).sum 8 = true) (hdg : decode cc pc = .ok (.invokestatic index, 3)) (hcl : cells ≤ R.cells ∧ slots ≤ R.slots)
    (kk : ∀ (H1 : Heap) (locs1 : List Loc), va_P D vwCl (jx_ws cI cT cs') H1 → va_D A (jx_ws cI cT cs') → va_S A H0 H1 locs1 → W p l e R s m args below meth c H1 locs1 cells slots Q (F0 m (pc + 3) ls rest)) : W p l e R s m args below meth c H locs cells slots Q (F0 m pc ls (.int (jx_i v) :: .int (jx_i ix) :: .ref a :: rest)) :=
  jx_callAV C hK hP hD hS hA i q hi hq hs (ct_Rows_set l D cI cT a n (fun _ => σ k) ix v hn hR) jx_mT_X4_set hl (jx_se n σ k ix v) (fun u hu => by
    rw [hu]
    funext k' i'
    by_cases hin : 0 ≤ ix ∧ ix < (n : Int)
    · by_cases hk' : k' = k
      · simp [jx_rk, jx_se, jx_su, hin, hk']
      · simp [jx_rk, jx_se, jx_su, hin, hk']
    · by_cases hk' : k' = k
      · simp [jx_rk, jx_se, hin, hk']
      · simp [jx_rk, jx_se, hin, hk']) hcs rfl rfl hls hfr hrest hdg hcl kk
end JX5
