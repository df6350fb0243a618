/-! ===== constructors: cells are made ===== -/
def jx_rB (fr mc ms lo : Nat) : Room := { frames := fr, cells := mc, slots := ms, locals := lo }
def jx_PreB (D : va_G) (cI cT : ClassId) (av : List Value) (x : Nat × va_E) (sz : Nat) : Array Value → State → Prop := va_Pc av (fun U => U.heap.size = sz ∧ va_P D vwCl [x] U.heap ∧ jx_K D cI cT U ∧ va_D (fun _ => True) [x])
def jx_QB (S : Type) (D : va_G) (cI cT : ClassId) (x : Nat × va_E) (f : S → List jx_Cp) (Q : S → Prop) (sz : Nat) : Array Value → State → Outcome → State → Prop := va_Qv (S := S) (fun u => Q u) (fun u t => va_P D vwCl (jx_ws cI cT (f u)) t.heap ∧ va_D (va_A [x] sz) (jx_ws cI cT (f u))) (va_A [x] sz)
def jx_KB (S : Type) (l : Launch) (D : va_G) (cI cT : ClassId) (y : MethodName) (b : ByteArray) (nL : Nat) (fr mc ms lo : Nat) (av : List Value) (x : Nat × va_E) (f : S → List jx_Cp) (Q : S → Prop) : Prop :=
  ∀ sz : Nat, Met l y (.code y b nL none :: jx_T) (jx_rB fr mc ms lo) (jx_PreB D cI cT av x sz) (jx_QB S D cI cT x f Q sz) mc ms (va_A [x] sz)
def jx_MI (y : MethodName) (b : ByteArray) (nL : Nat) (n : Nat) : Prop := Cond.code y b nL none ∈ jx_T ∧ Cond.initialized y.cls ∈ jx_T ∧ Cond.instanceMethod y ∈ jx_T ∧ y.name = "<init>" ∧ (y.cls ≠ "java/lang/invoke/MethodHandle" ∧ y.cls ≠ "java/lang/invoke/VarHandle" ∧ (parseMethodDescriptor y.desc).map (fun d => d.parameters.length) = some n)
section JX10
theorem jx_nodup {A : Nat → Prop} {ws : va_W} : va_D A ws ↔ (ws.map Prod.fst).Nodup ∧ ∀ x ∈ ws, A x.1 := by
  constructor
  · intro h
    refine ⟨?_, fun x hx => ?_⟩
    · rw [List.nodup_iff_pairwise_ne, List.pairwise_iff_getElem]
      intro i j hi hj hij e
      rw [List.length_map] at hi hj
      rw [List.getElem_map, List.getElem_map] at e
      have := h.1 i j _ _ (List.getElem?_eq_getElem hi) (List.getElem?_eq_getElem hj) e
      omega
    · obtain ⟨k, hk⟩ := List.mem_iff_getElem?.mp hx
      exact h.2 k x hk
  · rintro ⟨h1, h2⟩
    rw [List.nodup_iff_pairwise_ne, List.pairwise_iff_getElem] at h1
    refine ⟨fun i j p q hi hj e => ?_, fun k q hk => h2 q (List.mem_of_getElem? hk)⟩
    obtain ⟨li, ei⟩ := List.getElem?_eq_some_iff.mp hi
    obtain ⟨lj, ej⟩ := List.getElem?_eq_some_iff.mp hj
    rcases Nat.lt_trichotomy i j with h | h | h
    · have := h1 i j (by rw [List.length_map]; exact li) (by rw [List.length_map]; exact lj) h
      rw [List.getElem_map, List.getElem_map, ei, ej] at this
      exact absurd e this
    · exact h
    · have := h1 j i (by rw [List.length_map]; exact lj) (by rw [List.length_map]; exact li) h
      rw [List.getElem_map, List.getElem_map, ei, ej] at this
      exact absurd e.symm this
theorem jx_D_perm {A : Nat → Prop} {ws ws' : va_W} (h : ws.Perm ws') (hD : va_D A ws) : va_D A ws' := by
  rw [jx_nodup] at hD ⊢
  exact ⟨((h.map Prod.fst).nodup_iff).mp hD.1, fun x hx => hD.2 x (h.mem_iff.mpr hx)⟩
theorem jx_P_perm {D : va_G} {ws ws' : va_W} {H : Heap} (h : ws.Perm ws') (hP : va_P D vwCl ws H) : va_P D vwCl ws' H := by
  intro k x hk
  obtain ⟨j, hj⟩ := List.mem_iff_getElem?.mp (h.mem_iff.mpr (List.mem_of_getElem? hk))
  exact hP j x hj
theorem jx_joinNew {D : va_G} {A : Nat → Prop} {ws w1 : va_W} {x : Nat × va_E} {H H1 : Heap} (hP : va_P D vwCl (ws ++ [x]) H) (hD : va_D A (ws ++ [x])) (hk : ∀ q : Nat, q < H.size → ¬ va_A [x] H.size q → H1[q]? = H[q]?) (hF : ∀ q, va_A [x] H.size q → A q) (hP1 : va_P D vwCl w1 H1) (hD1 : va_D (va_A [x] H.size) w1) : va_P D vwCl (ws ++ w1) H1 ∧ va_D A (ws ++ w1) := by
  refine va_join hP hD [ws.length] (List.range ws.length) (wr := ws) (wc := [x]) ?_ ?_ ?_ ?_ hk hF hP1 hD1
  · simp
  · apply List.ext_getElem?
    intro i
    rw [List.getElem?_map, List.getElem?_map]
    by_cases h : i < ws.length
    · rw [List.getElem?_range h]
      simp only [Option.map_some]
      rw [List.getElem?_append_left h, List.getElem?_eq_getElem h]
      rfl
    · rw [List.getElem?_eq_none (by simp; omega), List.getElem?_eq_none (by omega)]
      rfl
  · have gen : ∀ (n : Nat), va_nd (List.range n) = true := by
      intro n
      have key : ∀ (l : List Nat), l.Nodup → va_nd l = true := by
        intro l
        induction l with
        | nil => intro _; rfl
        | cons a l ih =>
          intro h
          rw [List.nodup_cons] at h
          simp only [va_nd, Bool.and_eq_true, ih h.2, and_true]
          simp [h.1]
      exact key _ List.nodup_range
    exact gen _
  · intro i hi h
    rw [List.mem_range] at hi
    simp at h
    omega
variable {p : Program} {l : Launch} {e : Env} {R : Room} {s : State} {m : MethodId} {args : Array Value} {below : List Frame} {meth : Method} {c : Code} {H : Heap} {locs : List Loc} {cells slots : Nat} {Q : State → Prop}
variable {cc : ByteArray} {own : String} {nL pc : Nat} {ls : Array Slot} {rest : List Value} {D : va_G} {cI cT : ClassId} {ws : va_W} {A : Nat → Prop} {H0 : Heap} {QQ : State → Prop}
theorem jx_newa (C : jx_C p s m args c cc own nL) (hK : jx_K D cI cT s) (hP : va_P D vwCl ws H) (hD : va_D A ws) (hS : va_S A H0 H locs) (hA : ∀ q : Nat, H0.size ≤ q → A q) (hw : Cond.arrayClass .int ∈ jx_T) (n : Nat) {z : Int} (hz : z = (n : Int)) (hn : Nat.ble n 100000 = true) (hcells : Nat.ble (cells + 1) R.cells = true) (hslots : Nat.ble (slots + n) R.slots = true) (hdg : decode cc pc = .ok (.newarray .int, 2))
    (kk : ∀ (q : Nat) (H1 : Heap), va_P D vwCl (ws ++ [(q, .inl (cI, n, .inl (fun _ => jx_i 0)))]) H1 → va_D A (ws ++ [(q, .inl (cI, n, .inl (fun _ => jx_i 0)))]) → va_S A H0 H1 locs → W p l e R s m args below meth c H1 locs (cells + 1) (slots + n) Q (F0 m (pc + 2) ls (.ref q :: rest))) : W p l e R s m args below meth c H locs cells slots Q (F0 m pc ls (.int (jx_i z) :: rest)) := by
  subst hz
  have hn' := Nat.le_of_ble_eq_true hn
  have hR : jx_R (n : Int) := ⟨by omega, by omega⟩
  refine va_newa (atype := .int) (ty := .int) (N' := n) (a0 := (n, .inl (fun _ => jx_i 0))) C.1 C.2.1 (C.2.2.2.2 _ hw) rfl hK.1 hP hD hS hA (fun cA => by rw [vp_cell_i]; rfl) (fun q => by have := (jx_lt hR jx_R0).mp (by rw [jx_i0]; exact q); omega) (by rw [jx_nat hR]; omega) (by show n * 4 ≤ _; omega) (Nat.le_of_ble_eq_true hcells) (Nat.le_of_ble_eq_true hslots) hdg (fun q cA H1 hK1 hP1 hD1 hS1 => ?_)
  have e1 : s.vm.findClass _ = some cI := (hK.1.2 0 _ rfl).2
  have e2 : s.vm.findClass _ = some cA := (hK1.2 2 _ rfl).2
  have e3 : cA = cI := Option.some.inj (e2.symm.trans e1)
  subst e3
  exact kk q H1 hP1 hD1 hS1
theorem jx_newq {C2 : String} (C : jx_C p s m args c cc own nL) (hK : jx_K D cI cT s) (hP : va_P D vwCl ws H) (hD : va_D A ws) (hS : va_S A H0 H locs) (hA : ∀ q : Nat, H0.size ≤ q → A q) {index : Nat} (hC2 : C2 = "BoxCourt$Tree") (hw : Cond.classLink own index C2 ∈ jx_T) (hcells : Nat.ble (cells + 1) R.cells = true) (hslots : Nat.ble (slots + 4) R.slots = true) (hdg : decode cc pc = .ok (.anewarray index, 3))
    (kk : ∀ (q : Nat) (H1 : Heap), va_P D vwCl (ws ++ [(q, .inl (cT, 4, .inr (.inr (.inr (.inr (fun _ => none))))))]) H1 → va_D A (ws ++ [(q, .inl (cT, 4, .inr (.inr (.inr (.inr (fun _ => none))))))]) → va_S A H0 H1 locs → W p l e R s m args below meth c H1 locs (cells + 1) (slots + 4) Q (F0 m (pc + 3) ls (.ref q :: rest))) : W p l e R s m args below meth c H locs cells slots Q (F0 m pc ls (.int (jx_i 4) :: rest)) := by
  subst hC2
  refine va_newq (N' := 4) C.1 C.2.1 C.2.2.2.1 (C.2.2.2.2 _ hw) hK.2.2 hK.1 hP hD hS hA (by decide) (by decide) (by decide) (Nat.le_of_ble_eq_true hcells) (Nat.le_of_ble_eq_true hslots) hdg (fun q cA H1 hK1 hP1 hD1 hS1 => ?_)
  obtain ⟨_, _, _, _, _, e1⟩ := (hK.1.2 1 _ rfl).2
  obtain ⟨_, _, _, _, _, e2⟩ := (hK1.2 2 _ rfl).2
  have e3 : cA = cT := Option.some.inj (e2.symm.trans e1)
  subst e3
  exact kk q H1 hP1 hD1 hS1
theorem jx_entB {y : MethodName} {b : ByteArray} {fr mc ms lo : Nat} {av : List Value} {x : Nat × va_E} {Qc : Nat → Array Value → State → Outcome → State → Prop} (hy : plainName y.cls = true) (ho : y.cls = own) (hle : (lg_sl av).length ≤ nL)
    (body : ∀ (p : Program) (e : Env) (s : State) (m : MethodId) (args : Array Value) (below : List Frame) (meth : Method) (c : Code) (A : Nat → Prop) (QQ : State → Prop), jx_C p s m args c b own nL → meth.sig.returnType = none → meth.locks = false → meth.name = y.name → jx_K D cI cT s → A = va_A [x] s.heap.size → (∀ q : Nat, s.heap.size ≤ q → A q) → va_P D vwCl [x] s.heap → va_D A [x] → va_S A s.heap s.heap [] → ∀ ls : Array Slot, lv_has ls nL (lv_args 0 av) → MQ below (Qc s.heap.size) args s mc ms A = QQ → W p l e (jx_rB fr mc ms lo) s m args below meth c s.heap [] 0 0 QQ (F0 m 0 ls [])) (sz : Nat) :
    Met l y (.code y b nL none :: jx_T) (jx_rB fr mc ms lo) (jx_PreB D cI cT av x sz) (Qc sz) mc ms (va_A [x] sz) := by
  refine Met.ofW (cc := b) (maxL := nL) (ret := none) hy rfl ?_
  intro p e s m args below meth c s₁ B hml hv
  obtain ⟨rfl, hsz, hP, hK, hD0⟩ := hv
  have hts := atoms_spec (ws := .code y b nL none :: jx_T) B.pre
  have hown : s.vm.findClass y.cls = some m.cls := findClass_of_methodNamed B.named
  rw [ho] at hown
  subst hsz
  have hD := hD0.self (sz := s.heap.size)
  have hl := lv_entry av (n := nL) hle
  rw [lg_entry_eq]
  generalize (lg_sl av ++ List.replicate (nL - (lg_sl av).length) Slot.unset).toArray = ls at hl ⊢
  exact body p e s m _ below meth c _ _ ⟨B.exec, B.bytes, hml, hown, fun w hw => hts w (List.mem_cons_of_mem _ hw)⟩ B.returns B.notSynchronized (name_of_methodNamed B.named B.method).1 hK rfl (fun q h => Or.inr h) hP hD va_S.rf ls hl rfl
theorem jx_endB {S : Type} {f : S → List jx_Cp} {Qp : S → Prop} {x : Nat × va_E} {mc ms : Nat} (C : jx_C p s m args c cc own nL) (hr : meth.sig.returnType = none) (hlk : meth.locks = false) (hA : A = va_A [x] s.heap.size) (hS : va_S A s.heap H locs) (hQQ : MQ below (jx_QB S D cI cT x f Qp s.heap.size) args s mc ms A = QQ) (u : S) (hP : va_P D vwCl (jx_ws cI cT (f u)) H) (hD : va_D A (jx_ws cI cT (f u))) (hq : Qp u) (hc : Nat.ble cells mc = true) (hs : Nat.ble slots ms = true) (hdg : decode cc pc = .ok (.return_, 1)) :
    W p l e R s m args below meth c H locs cells slots QQ (F0 m pc ls []) := by
  rw [← hQQ]
  refine W.widen (k := mc) (n := ms) (Nat.le_of_ble_eq_true hc) (Nat.le_of_ble_eq_true hs) ?_
  exact W.vret C.1 C.2.1 hr (fun t ht _ => ⟨⟨u, rfl, hq, by show va_P D vwCl (jx_ws cI cT (f u)) t.heap; rw [ht]; exact hP, by rw [← hA]; exact hD⟩, by rw [← hA]; exact hS.F ht⟩) hS.2.2 hdg hlk
theorem jx_callB {S : Type} {f : S → List jx_Cp} {Q' : S → Prop} {y : MethodName} {b : ByteArray} {nL' index n fr mc ms lo q : Nat} {en : va_E} {As st0 : List Value} (C : jx_C p s m args c cc own nL) (hK : jx_K D cI cT s) (hP : va_P D vwCl (ws ++ [(q, en)]) H) (hD : va_D A (ws ++ [(q, en)])) (hS : va_S A H0 H locs) (hA : ∀ r : Nat, H0.size ≤ r → A r) (hM : jx_KB S l D cI cT y b nL' fr mc ms lo (.ref q :: As) (q, en) f Q') (hy : jx_MI y b nL' n) (hl : Cond.methodLink own index y ∈ jx_T)
    (hst : st0 = As.reverse ++ .ref q :: rest) (hn : As.length = n) (hls : ls.size = nL) (hfr : (Nat.ble (fr + 1) R.frames && Nat.ble (8 + (nL' + 11) + lo) R.locals && Nat.ble (cells + mc) R.cells && Nat.ble (slots + ms) R.slots) = true) (hrest : Nat.ble (rest.map fun v => v.category).sum 8 = true) (hdg : decode cc pc = .ok (.invokespecial index, 3))
    (kk : ∀ (u : S) (H1 : Heap) (locs1 : List Loc), Q' u → va_P D vwCl (ws ++ jx_ws cI cT (f u)) H1 → va_D A (ws ++ jx_ws cI cT (f u)) → va_S A H0 H1 locs1 → W p l e R s m args below meth c H1 locs1 (cells + mc) (slots + ms) Q (F0 m (pc + 3) ls rest)) : W p l e R s m args below meth c H locs cells slots Q (F0 m pc ls st0) := by
  obtain ⟨hcode, hini, hin, hnm, hd⟩ := hy
  simp only [Bool.and_eq_true] at hfr
  have hpos : (ws ++ [(q, en)])[ws.length]? = some (q, en) := by simp
  have hPc : va_P D vwCl [(q, en)] H := by
    intro k x hk
    cases k with
    | zero => have e := Option.some.inj hk; subst e; exact hP _ _ hpos
    | succ k => simp at hk
  have hDc : va_D A [(q, en)] := by
    refine ⟨fun i j a b hi hj _ => ?_, fun k x hk => ?_⟩
    · have h1 : i < 1 := (List.getElem?_eq_some_iff.mp hi).1
      have h2 : j < 1 := (List.getElem?_eq_some_iff.mp hj).1
      omega
    · cases k with
      | zero => have e := Option.some.inj hk; subst e; exact hD.2 _ _ hpos
      | succ k => simp at hk
  have hF : ∀ r, va_A [(q, en)] H.size r → A r := by
    intro r hr
    rcases hr with ⟨k, x, hk⟩ | hr
    · exact hDc.2 k _ hk
    · exact hA r (Nat.le_trans hS.1 hr)
  have hts := C.2.2.2.2
  have cb := callB_of (rm := jx_rB fr mc ms lo) (mc := mc) (ms := ms) n hts (jx_goodIn hcode) rfl rfl rfl (hts _ hini) (hts _ hl) hd ⟨Nat.le_of_ble_eq_true hfr.1.1.1, Nat.le_of_ble_eq_true hfr.1.1.2⟩
  have hbl : FrameBlind (jx_PreB D cI cT (.ref q :: As) (q, en) H.size) := fun a U g mk h => by
    obtain ⟨q0, q1, qP, qK, qD⟩ := h
    exact ⟨q0, q1, qP, ⟨va_K.moved (u := U) (U := U.calling g mk a) (Vm.Alike.refl U.vm) qK.1, qK.2.1.same (u := U) (U := U.calling g mk a) rfl, qK.2.2.moved (u := U) (U := U.calling g mk a) (Vm.Alike.refl U.vm)⟩, qD⟩
  refine va_callv (va_runI C (hM H.size) ⟨cb, hnm, hts _ hin⟩ ⟨hbl, fun U hU hW => ⟨rfl, by rw [hU], by rw [hU]; exact hPc, hK.warm hW, hDc.weaken (fun _ _ _ _ => trivial)⟩⟩ rfl hn hls hst (lv_room (Nat.le_of_ble_eq_true hrest)) hdg ⟨Nat.le_of_ble_eq_true hfr.1.2, Nat.le_of_ble_eq_true hfr.2⟩) hS (fun q _ h => hF q h) hF (fun u t H1 locs1 ht hvm hw hB hz1 hk1 hS1 => ?_)
  obtain ⟨hB1, hB2⟩ := hB
  rw [ht] at hB1
  obtain ⟨hP2, hD2⟩ := jx_joinNew hP hD hk1 hF hB1 hB2
  exact kk u H1 locs1 hw hP2 hD2 hS1
theorem jx_callBN {S : Type} {f : S → List jx_Cp} {Q' : S → Prop} {y : MethodName} {b : ByteArray} {nL' index n fr mc ms lo q : Nat} {en : va_E} {As st0 : List Value} (C : jx_C p s m args c cc own nL) (hK : jx_K D cI cT s) (hP : va_P D vwCl (ws ++ [(q, en)]) H) (hD : va_D A (ws ++ [(q, en)])) (hS : va_S A H0 H locs) (hA : ∀ r : Nat, H0.size ≤ r → A r) (hM : jx_KB S l D cI cT y b nL' fr mc ms lo (.ref q :: As) (q, en) f Q') (hy : jx_MI y b nL' n) (hl : Cond.methodLinkNest own index y "BoxCourt" ∈ jx_NW)
    (hst : st0 = As.reverse ++ .ref q :: rest) (hn : As.length = n) (hls : ls.size = nL) (hfr : (Nat.ble (fr + 1) R.frames && Nat.ble (8 + (nL' + 11) + lo) R.locals && Nat.ble (cells + mc) R.cells && Nat.ble (slots + ms) R.slots) = true) (hrest : Nat.ble (rest.map fun v => v.category).sum 8 = true) (hdg : decode cc pc = .ok (.invokespecial index, 3))
    (kk : ∀ (u : S) (H1 : Heap) (locs1 : List Loc), Q' u → va_P D vwCl (ws ++ jx_ws cI cT (f u)) H1 → va_D A (ws ++ jx_ws cI cT (f u)) → va_S A H0 H1 locs1 → W p l e R s m args below meth c H1 locs1 (cells + mc) (slots + ms) Q (F0 m (pc + 3) ls rest)) : W p l e R s m args below meth c H locs cells slots Q (F0 m pc ls st0) := by
  obtain ⟨hcode, hini, hin, hnm, hd⟩ := hy
  simp only [Bool.and_eq_true] at hfr
  have hpos : (ws ++ [(q, en)])[ws.length]? = some (q, en) := by simp
  have hPc : va_P D vwCl [(q, en)] H := by
    intro k x hk
    cases k with
    | zero => have e := Option.some.inj hk; subst e; exact hP _ _ hpos
    | succ k => simp at hk
  have hDc : va_D A [(q, en)] := by
    refine ⟨fun i j a b hi hj _ => ?_, fun k x hk => ?_⟩
    · have h1 : i < 1 := (List.getElem?_eq_some_iff.mp hi).1
      have h2 : j < 1 := (List.getElem?_eq_some_iff.mp hj).1
      omega
    · cases k with
      | zero => have e := Option.some.inj hk; subst e; exact hD.2 _ _ hpos
      | succ k => simp at hk
  have hF : ∀ r, va_A [(q, en)] H.size r → A r := by
    intro r hr
    rcases hr with ⟨k, x, hk⟩ | hr
    · exact hDc.2 k _ hk
    · exact hA r (Nat.le_trans hS.1 hr)
  have hts := C.2.2.2.2
  have cb := va_cnB (R := R) (rm := jx_rB fr mc ms lo) (mc := mc) (ms := ms) n hts (jx_goodIn hcode) rfl rfl rfl (hK.2.1 _ hl) (hts _ hini) hd ⟨Nat.le_of_ble_eq_true hfr.1.1.1, Nat.le_of_ble_eq_true hfr.1.1.2⟩
  have hbl : FrameBlind (jx_PreB D cI cT (.ref q :: As) (q, en) H.size) := fun a U g mk h => by
    obtain ⟨q0, q1, qP, qK, qD⟩ := h
    exact ⟨q0, q1, qP, ⟨va_K.moved (u := U) (U := U.calling g mk a) (Vm.Alike.refl U.vm) qK.1, qK.2.1.same (u := U) (U := U.calling g mk a) rfl, qK.2.2.moved (u := U) (U := U.calling g mk a) (Vm.Alike.refl U.vm)⟩, qD⟩
  refine va_callv (va_runIN C (hM H.size) ⟨cb, hnm, hts _ hin⟩ ⟨hbl, fun U hU hW => ⟨rfl, by rw [hU], by rw [hU]; exact hPc, hK.warm hW, hDc.weaken (fun _ _ _ _ => trivial)⟩⟩ rfl hn hls hst (lv_room (Nat.le_of_ble_eq_true hrest)) hdg ⟨Nat.le_of_ble_eq_true hfr.1.2, Nat.le_of_ble_eq_true hfr.2⟩) hS (fun q _ h => hF q h) hF (fun u t H1 locs1 ht hvm hw hB hz1 hk1 hS1 => ?_)
  obtain ⟨hB1, hB2⟩ := hB
  rw [ht] at hB1
  obtain ⟨hP2, hD2⟩ := jx_joinNew hP hD hk1 hF hB1 hB2
  exact kk u H1 locs1 hw hP2 hD2 hS1
end JX10
