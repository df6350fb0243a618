/-! ===== contracts, and calls by them ===== -/
def jx_MV (y : MethodName) (b : ByteArray) (nL : Nat) (ret : Option FieldType) (n : Nat) : Prop := Cond.code y b nL ret ∈ jx_T ∧ Cond.initialized y.cls ∈ jx_T ∧ Cond.instanceMethod y ∈ jx_T ∧ Cond.selects y.cls y y ∈ jx_T ∧ (y.cls ≠ "java/lang/invoke/MethodHandle" ∧ y.cls ≠ "java/lang/invoke/VarHandle" ∧ (parseMethodDescriptor y.desc).map (fun d => d.parameters.length) = some n)
def jx_MS (y : MethodName) (b : ByteArray) (nL : Nat) (ret : Option FieldType) (n : Nat) : Prop := Cond.code y b nL ret ∈ jx_T ∧ Cond.initialized y.cls ∈ jx_T ∧ Cond.static y ∈ jx_T ∧ (y.cls ≠ "java/lang/invoke/MethodHandle" ∧ y.cls ≠ "java/lang/invoke/VarHandle" ∧ (parseMethodDescriptor y.desc).map (fun d => d.parameters.length) = some n)
def jx_rm (fr lo : Nat) : Room := { frames := fr, cells := 0, slots := 0, locals := lo }
def jx_Pre (D : va_G) (cI cT : ClassId) (av : List Value) (cs : List jx_Cp) (sz : Nat) : Array Value → State → Prop := va_Pc av (fun U => U.heap.size = sz ∧ va_P D vwCl (jx_ws cI cT cs) U.heap ∧ jx_K D cI cT U ∧ va_D (fun _ => True) (jx_ws cI cT cs))
def jx_QI (S : Type) (D : va_G) (cI cT : ClassId) (cs : List jx_Cp) (f : S → List jx_Cp) (Q : Int → S → Prop) (sz : Nat) : Array Value → State → Outcome → State → Prop := va_Qi (S := S) (fun r u => ∃ x, r = jx_i x ∧ Q x u) (fun u t => va_P D vwCl (jx_ws cI cT (f u)) t.heap) (va_A (jx_ws cI cT cs) sz)
def jx_QV (S : Type) (D : va_G) (cI cT : ClassId) (cs : List jx_Cp) (f : S → List jx_Cp) (Q : S → Prop) (sz : Nat) : Array Value → State → Outcome → State → Prop := va_Qv (S := S) (fun u => Q u) (fun u t => va_P D vwCl (jx_ws cI cT (f u)) t.heap) (va_A (jx_ws cI cT cs) sz)
def jx_KI (S : Type) (l : Launch) (D : va_G) (cI cT : ClassId) (y : MethodName) (b : ByteArray) (nL : Nat) (rt : FieldType) (fr lo : Nat) (av : List Value) (cs : List jx_Cp) (f : S → List jx_Cp) (Q : Int → S → Prop) : Prop :=
  ∀ sz : Nat, Met l y (.code y b nL (some rt) :: jx_T) (jx_rm fr lo) (jx_Pre D cI cT av cs sz) (jx_QI S D cI cT cs f Q sz) 0 0 (va_A (jx_ws cI cT cs) sz)
def jx_KV (S : Type) (l : Launch) (D : va_G) (cI cT : ClassId) (y : MethodName) (b : ByteArray) (nL : Nat) (fr lo : Nat) (av : List Value) (cs : List jx_Cp) (f : S → List jx_Cp) (Q : S → Prop) : Prop :=
  ∀ sz : Nat, Met l y (.code y b nL none :: jx_T) (jx_rm fr lo) (jx_Pre D cI cT av cs sz) (jx_QV S D cI cT cs f Q sz) 0 0 (va_A (jx_ws cI cT cs) sz)
theorem jx_allgood {w : Cond} (h : w ∈ jx_T) : goodWord w = true := (List.mem_filter.mp h).2
theorem jx_goodIn {y : MethodName} {b : ByteArray} {nL : Nat} {ret : Option FieldType} (h : Cond.code y b nL ret ∈ jx_T) : GoodIn jx_T (.code y b nL ret :: jx_T) := by
  intro w hw
  rcases List.mem_cons.mp hw with rfl | hw
  · exact ⟨h, good_of_word (jx_allgood h)⟩
  · exact ⟨hw, good_of_word (jx_allgood hw)⟩
section JX4
variable {p : Program} {l : Launch} {e : Env} {R : Room} {s : State} {m : MethodId} {args : Array Value} {below : List Frame} {meth : Method} {c : Code} {H : Heap} {locs : List Loc} {cells slots : Nat} {Q : State → Prop}
variable {cc : ByteArray} {own : String} {nL pc : Nat} {ls : Array Slot} {rest : List Value} {D : va_G} {cI cT : ClassId} {cs : List jx_Cp} {A : Nat → Prop} {H0 : Heap}
theorem jx_entry {y : MethodName} {b : ByteArray} {ret : Option FieldType} {fr lo : Nat} {av : List Value} {Qc : Nat → Array Value → State → Outcome → State → Prop} (hy : plainName y.cls = true) (ho : y.cls = own) (hle : (lg_sl av).length ≤ nL)
    (body : ∀ (p : Program) (e : Env) (s : State) (m : MethodId) (args : Array Value) (below : List Frame) (meth : Method) (c : Code) (A : Nat → Prop), jx_C p s m args c b own nL → meth.sig.returnType = ret → meth.locks = false → jx_K D cI cT s → A = va_A (jx_ws cI cT cs) s.heap.size → (∀ q : Nat, s.heap.size ≤ q → A q) → va_P D vwCl (jx_ws cI cT cs) s.heap → va_D A (jx_ws cI cT cs) → va_S A s.heap s.heap [] → ∀ ls : Array Slot, lv_has ls nL (lv_args 0 av) → W p l e (jx_rm fr lo) s m args below meth c s.heap [] 0 0 (MQ below (Qc s.heap.size) args s 0 0 A) (F0 m 0 ls [])) (sz : Nat) :
    Met l y (.code y b nL ret :: jx_T) (jx_rm fr lo) (jx_Pre D cI cT av cs sz) (Qc sz) 0 0 (va_A (jx_ws cI cT cs) sz) := by
  refine Met.ofW (cc := b) (maxL := nL) (ret := ret) hy rfl ?_
  intro p e s m args below meth c s₁ B hml hv
  obtain ⟨rfl, hsz, hP, hK, hD0⟩ := hv
  have hts := atoms_spec (ws := .code y b nL ret :: jx_T) B.pre
  have hown : s.vm.findClass y.cls = some m.cls := findClass_of_methodNamed B.named
  rw [ho] at hown
  subst hsz
  have hD := hD0.self (sz := s.heap.size)
  have hl := lv_entry av (n := nL) hle
  rw [lg_entry_eq]
  generalize (lg_sl av ++ List.replicate (nL - (lg_sl av).length) Slot.unset).toArray = ls at hl ⊢
  exact body p e s m _ below meth c _ ⟨B.exec, B.bytes, hml, hown, fun w hw => hts w (List.mem_cons_of_mem _ hw)⟩ B.returns B.notSynchronized hK rfl (fun q h => Or.inr h) hP hD va_S.rf ls hl
theorem jx_retI {S : Type} {f : S → List jx_Cp} {Q : Int → S → Prop} {cs0 : List jx_Cp} (C : jx_C p s m args c cc own nL) (hr : meth.sig.returnType = some .int) (hlk : meth.locks = false) (hA : A = va_A (jx_ws cI cT cs0) s.heap.size) (hS : va_S A s.heap H locs) {x : Int} (u : S) (hP : va_P D vwCl (jx_ws cI cT (f u)) H) (hq : Q x u) (hdg : decode cc pc = .ok (.ireturn, 1)) :
    W p l e R s m args below meth c H locs 0 0 (MQ below (jx_QI S D cI cT cs0 f Q s.heap.size) args s 0 0 A) (F0 m pc ls [.int (jx_i x)]) :=
  W.iret C.1 C.2.1 hr (fun t ht _ => ⟨⟨jx_i x, u, rfl, ⟨x, rfl, hq⟩, by show va_P D vwCl (jx_ws cI cT (f u)) t.heap; rw [ht]; exact hP⟩, by rw [← hA]; exact hS.F ht⟩) hS.2.2 hdg hlk
theorem jx_retZ {S : Type} {f : S → List jx_Cp} {Q : Int → S → Prop} {cs0 : List jx_Cp} (C : jx_C p s m args c cc own nL) (hr : meth.sig.returnType = some .boolean) (hlk : meth.locks = false) (hA : A = va_A (jx_ws cI cT cs0) s.heap.size) (hS : va_S A s.heap H locs) {x : Int} (hx : x = 0 ∨ x = 1) (u : S) (hP : va_P D vwCl (jx_ws cI cT (f u)) H) (hq : Q x u) (hdg : decode cc pc = .ok (.ireturn, 1)) :
    W p l e R s m args below meth c H locs 0 0 (MQ below (jx_QI S D cI cT cs0 f Q s.heap.size) args s 0 0 A) (F0 m pc ls [.int (jx_i x)]) :=
  W.zret C.1 C.2.1 hr (by rcases hx with rfl | rfl <;> decide) (fun t ht _ => ⟨⟨jx_i x, u, rfl, ⟨x, rfl, hq⟩, by show va_P D vwCl (jx_ws cI cT (f u)) t.heap; rw [ht]; exact hP⟩, by rw [← hA]; exact hS.F ht⟩) hS.2.2 hdg hlk
theorem jx_retV {S : Type} {f : S → List jx_Cp} {Q : S → Prop} {cs0 : List jx_Cp} (C : jx_C p s m args c cc own nL) (hr : meth.sig.returnType = none) (hlk : meth.locks = false) (hA : A = va_A (jx_ws cI cT cs0) s.heap.size) (hS : va_S A s.heap H locs) (u : S) (hP : va_P D vwCl (jx_ws cI cT (f u)) H) (hq : Q u) (hdg : decode cc pc = .ok (.return_, 1)) :
    W p l e R s m args below meth c H locs 0 0 (MQ below (jx_QV S D cI cT cs0 f Q s.heap.size) args s 0 0 A) (F0 m pc ls []) :=
  W.vret C.1 C.2.1 hr (fun t ht _ => ⟨⟨u, rfl, hq, by show va_P D vwCl (jx_ws cI cT (f u)) t.heap; rw [ht]; exact hP⟩, by rw [← hA]; exact hS.F ht⟩) hS.2.2 hdg hlk
theorem jx_blind {av : List Value} {ccs : List jx_Cp} {sz : Nat} : FrameBlind (jx_Pre D cI cT av ccs sz) := fun a U g mk q => by
  obtain ⟨q0, q1, qP, qK, qD⟩ := q
  exact ⟨q0, q1, qP, ⟨va_K.moved (u := U) (U := U.calling g mk a) (Vm.Alike.refl U.vm) qK.1, qK.2.1.same (u := U) (U := U.calling g mk a) rfl, qK.2.2.moved (u := U) (U := U.calling g mk a) (Vm.Alike.refl U.vm)⟩, qD⟩
theorem jx_preU {av : List Value} {ccs : List jx_Cp} (hP : va_P D vwCl (jx_ws cI cT ccs) H) (hK : jx_K D cI cT s) (hD : va_D A (jx_ws cI cT ccs)) : ∀ U : State, U.heap = H → s.WarmedH U.vm → jx_Pre D cI cT av ccs H.size av.toArray U := fun U hU hW => ⟨rfl, by rw [hU], by rw [hU]; exact hP, hK.warm hW, hD.weaken (fun _ _ _ _ => trivial)⟩
theorem jx_callVI {S : Type} {f : S → List jx_Cp} {Q' : Int → S → Prop} {y : MethodName} {b : ByteArray} {nL' index n fr lo a : Nat} {rt : FieldType} {As st0 : List Value} {ccs : List jx_Cp} (C : jx_C p s m args c cc own nL) (hK : jx_K D cI cT s) (hP : va_P D vwCl (jx_ws cI cT cs) H) (hD : va_D A (jx_ws cI cT cs)) (hS : va_S A H0 H locs) (hA : ∀ q : Nat, H0.size ≤ q → A q) (hM : jx_KI S l D cI cT y b nL' rt fr lo (.ref a :: As) ccs f Q') (hy : jx_MV y b nL' (some rt) n) (hl : Cond.methodLink own index y ∈ jx_T)
    (is : List Nat) (his : is.map (fun i => cs[i]?) = ccs.map some) (hnd : va_nd is = true) (hfst : ∀ u, (f u).map Prod.fst = ccs.map Prod.fst) {cs' : S → List jx_Cp} (hput : ∀ u, jx_put cs is (f u) = cs' u) (hcs : ∀ u, (cs' u).map Prod.fst = cs.map Prod.fst)
    (ri rq : Nat) {ce : List (Nat × jx_Sh)} {σr : jx_St} {ci : Nat} {fs : List (Nat ⊕ Nat)} {T : u_T} {N : Nat} (hri : cs[ri]? = some (ce, σr)) (hrq : ce[rq]? = some (a, .inr (.inl (ci, fs)))) (hrc : vwCl[ci]? = some (y.cls, T, N))
    (hst : st0 = As.reverse ++ .ref a :: rest) (hn : As.length = n) (hls : ls.size = nL) (hfr : (Nat.ble (fr + 1) R.frames && Nat.ble (8 + (nL' + 11) + lo) R.locals) = true) (hrest : Nat.ble (rest.map fun v => v.category).sum 8 = true) (hdg : decode cc pc = .ok (.invokevirtual index, 3)) (hcl : cells ≤ R.cells ∧ slots ≤ R.slots)
    (kk : ∀ (x : Int) (u : S) (H1 : Heap) (locs1 : List Loc), Q' x u → va_P D vwCl (jx_ws cI cT (cs' u)) H1 → va_D A (jx_ws cI cT (cs' u)) → va_S A H0 H1 locs1 → W p l e R s m args below meth c H1 locs1 cells slots Q (F0 m (pc + 3) ls (.int (jx_i x) :: rest))) : W p l e R s m args below meth c H locs cells slots Q (F0 m pc ls st0) := by
  obtain ⟨hcode, hini, hin, hsel, hd⟩ := hy
  simp only [Bool.and_eq_true] at hfr
  have hPc := jx_P_sub hP his
  have hDc := jx_D_sub hD his hnd
  have hF := jx_free hD hS hA his
  have hts := C.2.2.2.2
  have cb := callB_of (rm := jx_rm fr lo) (mc := 0) (ms := 0) n hts (jx_goodIn hcode) rfl rfl rfl (hts _ hini) (hts _ hl) hd ⟨Nat.le_of_ble_eq_true hfr.1, Nat.le_of_ble_eq_true hfr.2⟩
  have rcv := va_recv hK.1 hP (ci := ci) (q := (y.cls, T, N)) hrc (jx_pos (cI := cI) (cT := cT) hri (jx_w_get hrq))
  refine va_calli (va_runV C (hM H.size) ⟨cb, hts _ hin, hts _ hsel⟩ ⟨jx_blind, rcv, jx_preU hPc hK hDc⟩ rfl hn hls hst (lv_room (Nat.le_of_ble_eq_true hrest)) hdg ⟨hcl.1, hcl.2⟩) hS (fun q _ h => hF q h) hF (fun r u t H1 locs1 ht hvm hw hB hz1 hk1 hS1 => ?_)
  obtain ⟨x, rfl, hq⟩ := hw
  have hB : va_P D vwCl (jx_ws cI cT (f u)) t.heap := hB
  rw [ht] at hB
  exact kk x u H1 locs1 hq (jx_join hP hD his (hfst u) (hput u) hk1 hB) (jx_D_same (hcs u) hD) hS1
theorem jx_callVV {S : Type} {f : S → List jx_Cp} {Q' : S → Prop} {y : MethodName} {b : ByteArray} {nL' index n fr lo a : Nat} {As st0 : List Value} {ccs : List jx_Cp} (C : jx_C p s m args c cc own nL) (hK : jx_K D cI cT s) (hP : va_P D vwCl (jx_ws cI cT cs) H) (hD : va_D A (jx_ws cI cT cs)) (hS : va_S A H0 H locs) (hA : ∀ q : Nat, H0.size ≤ q → A q) (hM : jx_KV S l D cI cT y b nL' fr lo (.ref a :: As) ccs f Q') (hy : jx_MV y b nL' none n) (hl : Cond.methodLink own index y ∈ jx_T)
    (is : List Nat) (his : is.map (fun i => cs[i]?) = ccs.map some) (hnd : va_nd is = true) (hfst : ∀ u, (f u).map Prod.fst = ccs.map Prod.fst) {cs' : S → List jx_Cp} (hput : ∀ u, jx_put cs is (f u) = cs' u) (hcs : ∀ u, (cs' u).map Prod.fst = cs.map Prod.fst)
    (ri rq : Nat) {ce : List (Nat × jx_Sh)} {σr : jx_St} {ci : Nat} {fs : List (Nat ⊕ Nat)} {T : u_T} {N : Nat} (hri : cs[ri]? = some (ce, σr)) (hrq : ce[rq]? = some (a, .inr (.inl (ci, fs)))) (hrc : vwCl[ci]? = some (y.cls, T, N))
    (hst : st0 = As.reverse ++ .ref a :: rest) (hn : As.length = n) (hls : ls.size = nL) (hfr : (Nat.ble (fr + 1) R.frames && Nat.ble (8 + (nL' + 11) + lo) R.locals) = true) (hrest : Nat.ble (rest.map fun v => v.category).sum 8 = true) (hdg : decode cc pc = .ok (.invokevirtual index, 3)) (hcl : cells ≤ R.cells ∧ slots ≤ R.slots)
    (kk : ∀ (u : S) (H1 : Heap) (locs1 : List Loc), Q' u → va_P D vwCl (jx_ws cI cT (cs' u)) H1 → va_D A (jx_ws cI cT (cs' u)) → va_S A H0 H1 locs1 → W p l e R s m args below meth c H1 locs1 cells slots Q (F0 m (pc + 3) ls rest)) : W p l e R s m args below meth c H locs cells slots Q (F0 m pc ls st0) := by
  obtain ⟨hcode, hini, hin, hsel, hd⟩ := hy
  simp only [Bool.and_eq_true] at hfr
  have hPc := jx_P_sub hP his
  have hDc := jx_D_sub hD his hnd
  have hF := jx_free hD hS hA his
  have hts := C.2.2.2.2
  have cb := callB_of (rm := jx_rm fr lo) (mc := 0) (ms := 0) n hts (jx_goodIn hcode) rfl rfl rfl (hts _ hini) (hts _ hl) hd ⟨Nat.le_of_ble_eq_true hfr.1, Nat.le_of_ble_eq_true hfr.2⟩
  have rcv := va_recv hK.1 hP (ci := ci) (q := (y.cls, T, N)) hrc (jx_pos (cI := cI) (cT := cT) hri (jx_w_get hrq))
  refine va_callv (va_runV C (hM H.size) ⟨cb, hts _ hin, hts _ hsel⟩ ⟨jx_blind, rcv, jx_preU hPc hK hDc⟩ rfl hn hls hst (lv_room (Nat.le_of_ble_eq_true hrest)) hdg ⟨hcl.1, hcl.2⟩) hS (fun q _ h => hF q h) hF (fun u t H1 locs1 ht hvm hw hB hz1 hk1 hS1 => ?_)
  have hB : va_P D vwCl (jx_ws cI cT (f u)) t.heap := hB
  rw [ht] at hB
  exact kk u H1 locs1 hw (jx_join hP hD his (hfst u) (hput u) hk1 hB) (jx_D_same (hcs u) hD) hS1
theorem jx_callSI {S : Type} {f : S → List jx_Cp} {Q' : Int → S → Prop} {y : MethodName} {b : ByteArray} {nL' index n fr lo : Nat} {rt : FieldType} {As st0 : List Value} {ccs : List jx_Cp} (C : jx_C p s m args c cc own nL) (hK : jx_K D cI cT s) (hP : va_P D vwCl (jx_ws cI cT cs) H) (hD : va_D A (jx_ws cI cT cs)) (hS : va_S A H0 H locs) (hA : ∀ q : Nat, H0.size ≤ q → A q) (hM : jx_KI S l D cI cT y b nL' rt fr lo As ccs f Q') (hy : jx_MS y b nL' (some rt) n) (hl : Cond.methodLink own index y ∈ jx_T)
    (is : List Nat) (his : is.map (fun i => cs[i]?) = ccs.map some) (hnd : va_nd is = true) (hfst : ∀ u, (f u).map Prod.fst = ccs.map Prod.fst) {cs' : S → List jx_Cp} (hput : ∀ u, jx_put cs is (f u) = cs' u) (hcs : ∀ u, (cs' u).map Prod.fst = cs.map Prod.fst)
    (hst : st0 = As.reverse ++ rest) (hn : As.length = n) (hls : ls.size = nL) (hfr : (Nat.ble (fr + 1) R.frames && Nat.ble (8 + (nL' + 11) + lo) R.locals) = true) (hrest : Nat.ble (rest.map fun v => v.category).sum 8 = true) (hdg : decode cc pc = .ok (.invokestatic index, 3)) (hcl : cells ≤ R.cells ∧ slots ≤ R.slots)
    (kk : ∀ (x : Int) (u : S) (H1 : Heap) (locs1 : List Loc), Q' x u → va_P D vwCl (jx_ws cI cT (cs' u)) H1 → va_D A (jx_ws cI cT (cs' u)) → va_S A H0 H1 locs1 → W p l e R s m args below meth c H1 locs1 cells slots Q (F0 m (pc + 3) ls (.int (jx_i x) :: rest))) : W p l e R s m args below meth c H locs cells slots Q (F0 m pc ls st0) := by
  obtain ⟨hcode, hini, hstt, hd⟩ := hy
  simp only [Bool.and_eq_true] at hfr
  have hPc := jx_P_sub hP his
  have hDc := jx_D_sub hD his hnd
  have hF := jx_free hD hS hA his
  have hts := C.2.2.2.2
  have cb := callB_of (rm := jx_rm fr lo) (mc := 0) (ms := 0) n hts (jx_goodIn hcode) rfl rfl rfl (hts _ hini) (hts _ hl) hd ⟨Nat.le_of_ble_eq_true hfr.1, Nat.le_of_ble_eq_true hfr.2⟩
  refine va_calli (va_runS C (hM H.size) ⟨cb, hts _ hstt⟩ ⟨jx_blind, jx_preU hPc hK hDc⟩ rfl hn hls hst (lv_room (Nat.le_of_ble_eq_true hrest)) hdg ⟨hcl.1, hcl.2⟩) hS (fun q _ h => hF q h) hF (fun r u t H1 locs1 ht hvm hw hB hz1 hk1 hS1 => ?_)
  obtain ⟨x, rfl, hq⟩ := hw
  have hB : va_P D vwCl (jx_ws cI cT (f u)) t.heap := hB
  rw [ht] at hB
  exact kk x u H1 locs1 hq (jx_join hP hD his (hfst u) (hput u) hk1 hB) (jx_D_same (hcs u) hD) hS1
end JX4
