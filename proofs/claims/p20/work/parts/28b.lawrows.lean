/-! ===== longs; compares of numbers that may be the same; the script; a call that answers a long ===== -/
def jx_l (a : Int) : Int64 := (jx_i a).toInt64
def jx_lc (x y : Int64) : Int := (lg_cmp x y).toInt
def jx_eo (a b : Int) : Prop := (jx_R a ∧ jx_R b) ∨ a = b
def jx_nn (a : Int) : Prop := 0 ≤ a ∧ jx_R a
def jx_cell (L : Nat) (xs : Nat → Int32) (k : Int) : Int := if k < (L : Int) then (xs k.toNat).toInt else 1779033703 * (k + 1)
theorem jx_eo_iff {a b : Int} (h : jx_eo a b) : jx_i a = jx_i b ↔ a = b := by
  rcases h with ⟨ha, hb⟩ | h
  · exact jx_eq ha hb
  · rw [h]; exact ⟨fun _ => rfl, fun _ => rfl⟩
def jx_QL (S : Type) (D : va_G) (cI cT : ClassId) (cs : List jx_Cp) (f : S → List jx_Cp) (Q : Int64 → S → Prop) (sz : Nat) : Array Value → State → Outcome → State → Prop := va_Ql (S := S) (fun r u => Q r u) (fun u t => va_P D vwCl (jx_ws cI cT (f u)) t.heap) (va_A (jx_ws cI cT cs) sz)
def jx_KL (S : Type) (l : Launch) (D : va_G) (cI cT : ClassId) (y : MethodName) (b : ByteArray) (nL : Nat) (fr lo : Nat) (av : List Value) (cs : List jx_Cp) (f : S → List jx_Cp) (Q : Int64 → S → Prop) : Prop :=
  ∀ sz : Nat, Met l y (.code y b nL (some .long) :: jx_T) (jx_rm fr lo) (jx_Pre D cI cT av cs sz) (jx_QL S D cI cT cs f Q sz) 0 0 (va_A (jx_ws cI cT cs) sz)
def jx_PreX (b L : Nat) (xs : Nat → Int32) (k : Int) (sz : Nat) : Array Value → State → Prop := va_Pc [.ref b, .int (jx_i k)] (fun U => U.heap.size = sz ∧ b < sz ∧ va_X b L xs U U.heap)
def jx_QX (v : Int) (sz : Nat) : Array Value → State → Outcome → State → Prop := va_Qi (S := Unit) (fun r _ => r = jx_i v) (fun _ _ => True) (fun q => sz ≤ q)
section JX20
variable {p : Program} {l : Launch} {e : Env} {R : Room} {s : State} {m : MethodId} {args : Array Value} {below : List Frame} {meth : Method} {c : Code} {H : Heap} {locs : List Loc} {cells slots : Nat} {Q : State → Prop}
variable {cc : ByteArray} {own : String} {nL pc : Nat} {ls : Array Slot} {rest : List Value} {D : va_G} {cI cT : ClassId} {cs : List jx_Cp} {A : Nat → Prop} {H0 : Heap} {QQ : State → Prop}
theorem jx_lcmp (C : jx_C p s m args c cc own nL) {x y : Int64} (hdg : decode cc pc = .ok (.lcmp, 1)) (k : W p l e R s m args below meth c H locs cells slots Q (F0 m (pc + 1) ls (.int (jx_i (jx_lc x y)) :: rest))) : W p l e R s m args below meth c H locs cells slots Q (F0 m pc ls (.long y :: .long x :: rest)) :=
  W.lcmp C.1 C.2.1 hdg (by unfold jx_lc at k; rw [jx_ofToInt] at k; exact k)
theorem jx_ldcw (C : jx_C p s m args c cc own nL) {index : Nat} (n : Int) (hw : Cond.constant own index (jx_i n) ∈ jx_T) (hdg : decode cc pc = .ok (.ldc_w index, 3)) (k : W p l e R s m args below meth c H locs cells slots Q (F0 m (pc + 3) ls (.int (jx_i n) :: rest))) : W p l e R s m args below meth c H locs cells slots Q (F0 m pc ls rest) := lv_ldcw C.1 C.2.1 C.2.2.2.1 (C.2.2.2.2 _ hw) hdg k
theorem jx_eeq (C : jx_C p s m args c cc own nL) {a b : Int} {off : Int} {tgt : Nat} (ho : jx_eo a b) (hdg : decode cc pc = .ok (.if_icmp .eq off, 3)) (ht : (pc : Int) + off = (tgt : Int))
    (kt : a = b → W p l e R s m args below meth c H locs cells slots Q (F0 m tgt ls rest)) (kf : ¬ a = b → W p l e R s m args below meth c H locs cells slots Q (F0 m (pc + 3) ls rest)) : W p l e R s m args below meth c H locs cells slots Q (F0 m pc ls (.int (jx_i b) :: .int (jx_i a) :: rest)) :=
  lv_icmp_eq C.1 C.2.1 hdg ht (fun h => kt ((jx_eo_iff ho).mp h)) (fun h => kf (fun q => h ((jx_eo_iff ho).mpr q)))
theorem jx_ene (C : jx_C p s m args c cc own nL) {a b : Int} {off : Int} {tgt : Nat} (ho : jx_eo a b) (hdg : decode cc pc = .ok (.if_icmp .ne off, 3)) (ht : (pc : Int) + off = (tgt : Int))
    (kt : ¬ a = b → W p l e R s m args below meth c H locs cells slots Q (F0 m tgt ls rest)) (kf : a = b → W p l e R s m args below meth c H locs cells slots Q (F0 m (pc + 3) ls rest)) : W p l e R s m args below meth c H locs cells slots Q (F0 m pc ls (.int (jx_i b) :: .int (jx_i a) :: rest)) :=
  lv_icmp_ne C.1 C.2.1 hdg ht (fun h => kt (fun q => h ((jx_eo_iff ho).mpr q))) (fun h => kf ((jx_eo_iff ho).mp h))
theorem jx_rL {S : Type} {f : S → List jx_Cp} {Q : Int64 → S → Prop} {cs0 : List jx_Cp} (C : jx_C p s m args c cc own nL) (hr : meth.sig.returnType = some .long) (hlk : meth.locks = false) (hA : A = va_A (jx_ws cI cT cs0) s.heap.size) (hS : va_S A s.heap H locs) (hQQ : MQ below (jx_QL S D cI cT cs0 f Q s.heap.size) args s 0 0 A = QQ) {x : Int64} (u : S) (hP : va_P D vwCl (jx_ws cI cT (f u)) H) (hq : Q x u) (hdg : decode cc pc = .ok (.lreturn, 1)) :
    W p l e R s m args below meth c H locs 0 0 QQ (F0 m pc ls [.long x]) := by
  rw [← hQQ]
  exact W.lret C.1 C.2.1 hr (fun t ht _ => ⟨⟨x, u, rfl, hq, by show va_P D vwCl (jx_ws cI cT (f u)) t.heap; rw [ht]; exact hP⟩, by rw [← hA]; exact hS.F ht⟩) hS.2.2 hdg hlk
theorem jx_callSL {S : Type} {f : S → List jx_Cp} {Q' : Int64 → S → Prop} {y : MethodName} {b : ByteArray} {nL' index n fr lo : Nat} {As st0 : List Value} {ccs : List jx_Cp} (C : jx_C p s m args c cc own nL) (hK : jx_K D cI cT s) (hP : va_P D vwCl (jx_ws cI cT cs) H) (hD : va_D A (jx_ws cI cT cs)) (hS : va_S A H0 H locs) (hA : ∀ q : Nat, H0.size ≤ q → A q) (hM : jx_KL S l D cI cT y b nL' fr lo As ccs f Q') (hy : jx_MS y b nL' (some .long) n) (hl : Cond.methodLink own index y ∈ jx_T)
    (is : List Nat) (his : is.map (fun i => cs[i]?) = ccs.map some) (hnd : va_nd is = true) (hfst : ∀ u, (f u).map Prod.fst = ccs.map Prod.fst) {cs' : S → List jx_Cp} (hput : ∀ u, jx_put cs is (f u) = cs' u) (hcs : ∀ u, (cs' u).map Prod.fst = cs.map Prod.fst)
    (hst : st0 = As.reverse ++ rest) (hn : As.length = n) (hls : ls.size = nL) (hfr : (Nat.ble (fr + 1) R.frames && Nat.ble (8 + (nL' + 11) + lo) R.locals) = true) (hrest : Nat.ble (rest.map fun v => v.category).sum 8 = true) (hdg : decode cc pc = .ok (.invokestatic index, 3)) (hcl : cells ≤ R.cells ∧ slots ≤ R.slots)
    (kk : ∀ (x : Int64) (u : S) (H1 : Heap) (locs1 : List Loc), Q' x u → va_P D vwCl (jx_ws cI cT (cs' u)) H1 → va_D A (jx_ws cI cT (cs' u)) → va_S A H0 H1 locs1 → W p l e R s m args below meth c H1 locs1 cells slots Q (F0 m (pc + 3) ls (.long x :: rest))) : W p l e R s m args below meth c H locs cells slots Q (F0 m pc ls st0) := by
  obtain ⟨hcode, hini, hstt, hd⟩ := hy
  simp only [Bool.and_eq_true] at hfr
  have hPc := jx_P_sub hP his
  have hDc := jx_D_sub hD his hnd
  have hF := jx_free hD hS hA his
  have hts := C.2.2.2.2
  have cb := callB_of (rm := jx_rm fr lo) (mc := 0) (ms := 0) n hts (jx_goodIn hcode) rfl rfl rfl (hts _ hini) (hts _ hl) hd ⟨Nat.le_of_ble_eq_true hfr.1, Nat.le_of_ble_eq_true hfr.2⟩
  refine va_calll (va_runS C (hM H.size) ⟨cb, hts _ hstt⟩ ⟨jx_blind, jx_preU hPc hK hDc⟩ rfl hn hls hst (lv_room (Nat.le_of_ble_eq_true hrest)) hdg ⟨hcl.1, hcl.2⟩) hS (fun q _ h => hF q h) hF (fun r u t H1 locs1 ht hvm hq hB hz1 hk1 hS1 => ?_)
  have hB : va_P D vwCl (jx_ws cI cT (f u)) t.heap := hB
  rw [ht] at hB
  exact kk r u H1 locs1 hq (jx_join hP hD his (hfst u) (hput u) hk1 hB) (jx_D_same (hcs u) hD) hS1
theorem jx_P_kept {ws : va_W} {H1 : Heap} (hP : va_P D vwCl ws H) (hD : va_D A ws) (hk : ∀ q : Nat, q < H.size → H1[q]? = H[q]?) : va_P D vwCl ws H1 := by
  intro k q hq
  have h := hP k q hq
  exact h.kept (hk _ h.lt)
end JX20
set_option maxRecDepth 100000 in
set_option maxHeartbeats 4000000 in
theorem ct_L_cell (l : Launch) (b L : Nat) (xs : Nat → Int32) (hL : L ≤ 260) (k : Int) (hk : jx_nn k) (sz : Nat) : Met l yL_cell (.code yL_cell cL_cell 2 (some .int) :: jx_T) (jx_rm 0 0) (jx_PreX b L xs k sz) (jx_QX (jx_cell L xs k) sz) 0 0 (fun q => sz ≤ q) := by
  refine Met.ofW (cc := cL_cell) (maxL := 2) (ret := some .int) (by decide) rfl ?_
  intro p e s m args below meth c s₁ B hml hv
  obtain ⟨rfl, hsz, hbl, hX⟩ := hv
  have hts := atoms_spec (ws := .code yL_cell cL_cell 2 (some .int) :: jx_T) B.pre
  have hown : s.vm.findClass yL_cell.cls = some m.cls := findClass_of_methodNamed B.named
  subst hsz
  have C : jx_C p s m #[.ref b, .int (jx_i k)] c cL_cell RL 2 := ⟨B.exec, B.bytes, hml, hown, fun w hw => hts w (List.mem_cons_of_mem _ hw)⟩
  have hl := lv_entry ([.ref b, .int (jx_i k)]) (n := 2) (Nat.le_of_ble_eq_true rfl)
  rw [lg_entry_eq]
  generalize (lg_sl ([.ref b, .int (jx_i k)]) ++ List.replicate (2 - (lg_sl ([.ref b, .int (jx_i k)])).length) Slot.unset).toArray = ls at hl ⊢
  have hl : lv_has ls 2 [(0, .ref b), (1, .int (jx_i k))] := hl
  have hx := C.1
  have hb := C.2.1
  have hS : va_S (fun q : Nat => s.heap.size ≤ q) s.heap s.heap [] := va_S.rf
  have hbA : ¬ s.heap.size ≤ b := Nat.not_le.mpr hbl
  have kR := hk.2
  have k0 := hk.1
  have LR : jx_R (L : Int) := ⟨by omega, by omega⟩
  have hr : meth.sig.returnType = some .int := B.returns
  have hlk : meth.locks = false := B.notSynchronized
  refine lv_iload_n hx hb dL_cell_0 rfl (lv_at hl 1 rfl) ?_
  refine lv_aload_n hx hb dL_cell_1 rfl (lv_at hl 0 rfl) ?_
  refine va_slen hx hb hX hbl hbA hS dL_cell_2 ?_
  show W p l e _ s m _ below meth c _ _ _ _ _ (F0 m 3 ls [.int (jx_i (L : Int)), .int (jx_i k)])
  refine jx_cge C (tgt := 12) kR LR dL_cell_3 (by decide) (fun h1 => ?_) (fun h1 => ?_)
  · refine jx_ldc C 1779033703 (by decide +kernel) dL_cell_12 ?_
    refine lv_iload_n hx hb dL_cell_14 rfl (lv_at hl 1 rfl) ?_
    refine jx_iconst C dL_cell_15 ?_
    refine jx_iadd C dL_cell_16 ?_
    refine jx_imul C dL_cell_17 ?_
    exact W.iret hx hb hr (fun t ht _ => ⟨⟨_, (), rfl, by unfold jx_cell; rw [if_neg h1], trivial⟩, hS.F ht⟩) (by simp) dL_cell_18 hlk
  · refine lv_aload_n hx hb dL_cell_6 rfl (lv_at hl 0 rfl) ?_
    refine lv_iload_n hx hb dL_cell_7 rfl (lv_at hl 1 rfl) ?_
    have hB : jx_B k L := ⟨k0, h1⟩
    refine va_sld hx hb hX hbl hbA hS (hB.vp (by omega)) dL_cell_8 ?_
    rw [jx_nat kR]
    refine lv_goto (tgt := 18) hx hb dL_cell_9 (by decide) ?_
    exact W.iret hx hb hr (fun t ht _ => ⟨⟨_, (), rfl, by unfold jx_cell; rw [if_pos h1, jx_ofToInt], trivial⟩, hS.F ht⟩) (by simp) dL_cell_18 hlk
section JX21
variable {p : Program} {l : Launch} {e : Env} {R : Room} {s : State} {m : MethodId} {args : Array Value} {below : List Frame} {meth : Method} {c : Code} {H : Heap} {locs : List Loc} {cells slots : Nat} {Q : State → Prop}
variable {cc : ByteArray} {own : String} {nL pc : Nat} {ls : Array Slot} {rest : List Value} {A : Nat → Prop}
theorem jx_mS_cell : jx_MS yL_cell cL_cell 2 (some .int) 2 := ⟨by decide +kernel, by decide +kernel, by decide +kernel, by decide +kernel⟩
theorem jx_blindX {b L : Nat} {xs : Nat → Int32} {k : Int} {sz : Nat} : FrameBlind (jx_PreX b L xs k sz) := fun a U g mk q => by
  obtain ⟨q0, q1, q2, qX⟩ := q
  exact ⟨q0, q1, q2, qX.moved (u := U) (U := U.calling g mk a) (Vm.Alike.refl U.vm)⟩
theorem jx_callCell {index : Nat} {k : Int} {b L : Nat} {xs : Nat → Int32} (hL : L ≤ 260) (C : jx_C p s m args c cc own nL) (hX : va_X b L xs s s.heap) (hbl : b < s.heap.size) (hbA : ¬ A b) (hS : va_S A s.heap H locs) (hA : ∀ q : Nat, s.heap.size ≤ q → A q) (hk : jx_nn k) (hl : Cond.methodLink own index yL_cell ∈ jx_T)
    (hls : ls.size = nL) (hfr : (Nat.ble 1 R.frames && Nat.ble 21 R.locals) = true) (hrest : Nat.ble (rest.map fun v => v.category).sum 8 = true) (hdg : decode cc pc = .ok (.invokestatic index, 3)) (hcl : cells ≤ R.cells ∧ slots ≤ R.slots)
    (kk : ∀ (H1 : Heap) (locs1 : List Loc), (∀ q : Nat, q < H.size → H1[q]? = H[q]?) → va_S A s.heap H1 locs1 → W p l e R s m args below meth c H1 locs1 cells slots Q (F0 m (pc + 3) ls (.int (jx_i (jx_cell L xs k)) :: rest))) : W p l e R s m args below meth c H locs cells slots Q (F0 m pc ls (.int (jx_i k) :: .ref b :: rest)) := by
  obtain ⟨hcode, hini, hstt, hd⟩ := jx_mS_cell
  simp only [Bool.and_eq_true] at hfr
  have hts := C.2.2.2.2
  have hbH : b < H.size := Nat.lt_of_lt_of_le hbl hS.1
  have hXH : va_X b L xs s H := hX.kept (hS.2.1 b hbl hbA)
  have cb := callB_of (rm := jx_rm 0 0) (mc := 0) (ms := 0) 2 hts (jx_goodIn hcode) rfl rfl rfl (hts _ hini) (hts _ hl) hd ⟨Nat.le_of_ble_eq_true hfr.1, Nat.le_of_ble_eq_true hfr.2⟩
  refine va_calli (va_runS (As := [.ref b, .int (jx_i k)]) C (ct_L_cell l b L xs hL k hk H.size) ⟨cb, hts _ hstt⟩ ⟨jx_blindX, fun U hU hW => ⟨rfl, by rw [hU], hbH, by rw [hU]; exact hXH.moved hW.alike⟩⟩ rfl rfl hls rfl (lv_room (Nat.le_of_ble_eq_true hrest)) hdg ⟨hcl.1, hcl.2⟩) hS (fun q h1 h2 => absurd h1 (Nat.not_lt.mpr h2)) (fun q h => hA q (Nat.le_trans hS.1 h)) (fun r u t H1 locs1 ht hvm hw hB hz1 hk1 hS1 => ?_)
  subst hw
  exact kk H1 locs1 (fun q hq => hk1 q hq (Nat.not_le.mpr hq)) hS1
end JX21
