/-! ===== references out of the history's row ===== -/
def jx_hr (h : Nat → Nat) (x : Int) : Option Nat := if x < 0 then none else some (h x.toNat)
def jx_QQ (S : Type) (D : va_G) (cI cT : ClassId) (hT : Nat → Nat) (cs : List jx_Cp) (f : S → List jx_Cp) (Q : Int → S → Prop) (sz : Nat) : Array Value → State → Outcome → State → Prop := va_Qq (S := S) (fun r u => ∃ x : Int, r = jx_hr hT x ∧ (x = -1 ∨ jx_B x 4) ∧ Q x u) (fun u t => va_P D vwCl (jx_ws cI cT (f u)) t.heap) (va_A (jx_ws cI cT cs) sz)
def jx_KQ (S : Type) (l : Launch) (D : va_G) (cI cT : ClassId) (hT : Nat → Nat) (y : MethodName) (b : ByteArray) (nL : Nat) (fr lo : Nat) (av : List Value) (cs : List jx_Cp) (f : S → List jx_Cp) (Q : Int → S → Prop) : Prop :=
  ∀ sz : Nat, Met l y (.code y b nL (some (.object "BoxCourt$Tree")) :: jx_T) (jx_rm fr lo) (jx_Pre D cI cT av cs sz) (jx_QQ S D cI cT hT cs f Q sz) 0 0 (va_A (jx_ws cI cT cs) sz)
section JX9
variable {p : Program} {l : Launch} {e : Env} {R : Room} {s : State} {m : MethodId} {args : Array Value} {below : List Frame} {meth : Method} {c : Code} {H : Heap} {locs : List Loc} {cells slots : Nat} {Q : State → Prop}
variable {cc : ByteArray} {own : String} {nL pc : Nat} {ls : Array Slot} {rest : List Value} {D : va_G} {cI cT : ClassId} {cs : List jx_Cp} {A : Nat → Prop} {H0 : Heap} {QQ : State → Prop}
theorem jx_alenR (C : jx_C p s m args c cc own nL) (hK : jx_K D cI cT s) (hP : va_P D vwCl (jx_ws cI cT cs) H) (i q : Nat) {ce : List (Nat × jx_Sh)} {σ : jx_St} {a n : Nat} {li : List Nat} (hi : cs[i]? = some (ce, σ)) (hq : ce[q]? = some (a, .inr (.inr li))) (hn : li.length = n) (hdg : decode cc pc = .ok (.arraylength, 1))
    (kk : W p l e R s m args below meth c H locs cells slots Q (F0 m (pc + 1) ls (.int (jx_i (n : Int)) :: rest))) : W p l e R s m args below meth c H locs cells slots Q (F0 m pc ls (.ref a :: rest)) := by
  have h1 := jx_pos (cI := cI) (cT := cT) hi (jx_w_get hq)
  subst hn
  exact va_alen (v := jx_i (li.length : Int)) C.1 C.2.1 hK.1 hP _ 1 h1 rfl rfl hdg kk
theorem jx_aald (C : jx_C p s m args c cc own nL) (hK : jx_K D cI cT s) (hP : va_P D vwCl (jx_ws cI cT cs) H) (i q : Nat) {ce : List (Nat × jx_Sh)} {σ : jx_St} {a : Nat} {h : Nat → Nat} {ix : Int} (hi : cs[i]? = some (ce, σ)) (hq : ce[q]? = some (a, .inr (.inr [h 0, h 1, h 2, h 3]))) (hB : jx_B ix 4) (hdg : decode cc pc = .ok (.aaload, 1))
    (kk : W p l e R s m args below meth c H locs cells slots Q (F0 m (pc + 1) ls (va_rf (jx_hr h ix) :: rest))) : W p l e R s m args below meth c H locs cells slots Q (F0 m pc ls (.int (jx_i ix) :: .ref a :: rest)) := by
  have h1 := jx_pos (cI := cI) (cT := cT) hi (jx_w_get hq)
  refine va_aldq C.1 C.2.1 hK.1 hP _ 1 h1 rfl (hB.vp (by decide)) hdg ?_
  rw [jx_nat (hB.R (by decide))]
  have e : ([h 0, h 1, h 2, h 3] : List Nat)[ix.toNat]? = jx_hr h ix := by
    have h0 := hB.1
    have h4 := hB.2
    unfold jx_hr
    rw [if_neg (by omega)]
    rcases (show ix = 0 ∨ ix = 1 ∨ ix = 2 ∨ ix = 3 by omega) with rfl | rfl | rfl | rfl <;> rfl
  simp only [e]
  exact kk
theorem jx_rQ {S : Type} {f : S → List jx_Cp} {Q : Int → S → Prop} {cs0 : List jx_Cp} {hT : Nat → Nat} (C : jx_C p s m args c cc own nL) (hr : meth.sig.returnType = some (.object "BoxCourt$Tree")) (hlk : meth.locks = false) (hA : A = va_A (jx_ws cI cT cs0) s.heap.size) (hS : va_S A s.heap H locs) (hQQ : MQ below (jx_QQ S D cI cT hT cs0 f Q s.heap.size) args s 0 0 A = QQ) (x : Int) (hx : x = -1 ∨ jx_B x 4) {v : Value} (hv : v = va_rf (jx_hr hT x)) (u : S) (hP : va_P D vwCl (jx_ws cI cT (f u)) H) (hq : Q x u) (hdg : decode cc pc = .ok (.areturn, 1)) :
    W p l e R s m args below meth c H locs 0 0 QQ (F0 m pc ls [v]) := by
  rw [← hQQ]
  subst hv
  refine W.aret C.1 C.2.1 hr (Or.inl ⟨_, rfl⟩) ?_ (fun t ht _ => ⟨⟨jx_hr hT x, u, rfl, ⟨x, rfl, hx, hq⟩, by show va_P D vwCl (jx_ws cI cT (f u)) t.heap; rw [ht]; exact hP⟩, by rw [← hA]; exact hS.F ht⟩) hS.2.2 hdg hlk
  cases jx_hr hT x with
  | none => exact Or.inl rfl
  | some a => exact Or.inr ⟨a, rfl⟩
theorem jx_callVQ {S : Type} {f : S → List jx_Cp} {Q' : Int → S → Prop} {hT : Nat → Nat} {y : MethodName} {b : ByteArray} {nL' index n fr lo a : Nat} {As st0 : List Value} {ccs : List jx_Cp} (C : jx_C p s m args c cc own nL) (hK : jx_K D cI cT s) (hP : va_P D vwCl (jx_ws cI cT cs) H) (hD : va_D A (jx_ws cI cT cs)) (hS : va_S A H0 H locs) (hA : ∀ q : Nat, H0.size ≤ q → A q) (hM : jx_KQ S l D cI cT hT y b nL' fr lo (.ref a :: As) ccs f Q') (hy : jx_MV y b nL' (some (.object "BoxCourt$Tree")) n) (hl : Cond.methodLink own index y ∈ jx_T)
    (is : List Nat) (his : is.map (fun i => cs[i]?) = ccs.map some) (hnd : va_nd is = true) (hfst : ∀ u, (f u).map Prod.fst = ccs.map Prod.fst) {cs' : S → List jx_Cp} (hput : ∀ u, jx_put cs is (f u) = cs' u) (hcs : ∀ u, (cs' u).map Prod.fst = cs.map Prod.fst)
    (ri rq : Nat) {ce : List (Nat × jx_Sh)} {σr : jx_St} {ci : Nat} {fs : List (Nat ⊕ Nat)} {T : u_T} {N : Nat} (hri : cs[ri]? = some (ce, σr)) (hrq : ce[rq]? = some (a, .inr (.inl (ci, fs)))) (hrc : vwCl[ci]? = some (y.cls, T, N))
    (hst : st0 = As.reverse ++ .ref a :: rest) (hn : As.length = n) (hls : ls.size = nL) (hfr : (Nat.ble (fr + 1) R.frames && Nat.ble (8 + (nL' + 11) + lo) R.locals) = true) (hrest : Nat.ble (rest.map fun v => v.category).sum 8 = true) (hdg : decode cc pc = .ok (.invokevirtual index, 3)) (hcl : cells ≤ R.cells ∧ slots ≤ R.slots)
    (kk : ∀ (x : Int) (u : S) (H1 : Heap) (locs1 : List Loc), (x = -1 ∨ jx_B x 4) → Q' x u → va_P D vwCl (jx_ws cI cT (cs' u)) H1 → va_D A (jx_ws cI cT (cs' u)) → va_S A H0 H1 locs1 → W p l e R s m args below meth c H1 locs1 cells slots Q (F0 m (pc + 3) ls (va_rf (jx_hr hT x) :: rest))) : W p l e R s m args below meth c H locs cells slots Q (F0 m pc ls st0) := by
  obtain ⟨hcode, hini, hin, hsel, hd⟩ := hy
  simp only [Bool.and_eq_true] at hfr
  have hPc := jx_P_sub hP his
  have hDc := jx_D_sub hD his hnd
  have hF := jx_free hD hS hA his
  have hts := C.2.2.2.2
  have cb := callB_of (rm := jx_rm fr lo) (mc := 0) (ms := 0) n hts (jx_goodIn hcode) rfl rfl rfl (hts _ hini) (hts _ hl) hd ⟨Nat.le_of_ble_eq_true hfr.1, Nat.le_of_ble_eq_true hfr.2⟩
  have rcv := va_recv hK.1 hP (ci := ci) (q := (y.cls, T, N)) hrc (jx_pos (cI := cI) (cT := cT) hri (jx_w_get hrq))
  refine va_callq (va_runV C (hM H.size) ⟨cb, hts _ hin, hts _ hsel⟩ ⟨jx_blind, rcv, jx_preU hPc hK hDc⟩ rfl hn hls hst (lv_room (Nat.le_of_ble_eq_true hrest)) hdg ⟨hcl.1, hcl.2⟩) hS (fun q _ h => hF q h) hF (fun r u t H1 locs1 ht hvm hw hB hz1 hk1 hS1 => ?_)
  obtain ⟨x, rfl, hx, hq⟩ := hw
  have hB : va_P D vwCl (jx_ws cI cT (f u)) t.heap := hB
  rw [ht] at hB
  exact kk x u H1 locs1 hx hq (jx_join hP hD his (hfst u) (hput u) hk1 hB) (jx_D_same (hcs u) hD) hS1
end JX9
