def jx_ad (l : List Nat) : Nat → Nat := fun j => l.getD j 0
def jx_FF (own : String) (ci k : Nat) (ty : FieldType) : Prop := ∃ (CN : String) (T : u_T) (N : Nat) (ty0 : Nat → FieldType), vwCl[ci]? = some (CN, T, N) ∧ (∀ k, k < N → parseFieldDescriptor (T k).2.2.1 = some (ty0 k)) ∧ (∀ a, a < N → ∀ b, b < N → a ≠ b → (T a).2.1 ≠ (T b).2.1) ∧ (T k).2.2.2 = true ∧ (T k).1 = own ∧ parseFieldDescriptor (T k).2.2.1 = some ty
def jx_NE (own : String) (index ci : Nat) (fs : List Value) : Prop := ∃ (CN : String) (T : u_T) (N : Nat) (ty0 : Nat → FieldType), vwCl[ci]? = some (CN, T, N) ∧ (∀ w ∈ u_ws CN T N, w ∈ jx_T) ∧ (∀ k, k < N → parseFieldDescriptor (T k).2.2.1 = some (ty0 k)) ∧ Cond.classLink own index CN ∈ jx_T ∧ Cond.instantiable CN N ∈ jx_T ∧ Cond.initialized CN ∈ jx_T ∧ fs.length = N ∧ (∀ j, j < N → defaultValue (ty0 j) = vp_V fs j)
section JX11
variable {p : Program} {l : Launch} {e : Env} {R : Room} {s : State} {m : MethodId} {args : Array Value} {below : List Frame} {meth : Method} {c : Code} {H : Heap} {locs : List Loc} {cells slots : Nat} {Q : State → Prop}
variable {cc : ByteArray} {own : String} {nL pc : Nat} {ls : Array Slot} {rest : List Value} {D : va_G} {cI cT : ClassId} {ws : va_W} {A : Nat → Prop} {H0 : Heap} {QQ : State → Prop}
theorem jx_putB (C : jx_C p s m args c cc own nL) (hK : jx_K D cI cT s) (hP : va_P D vwCl ws H) (hD : va_D A ws) (hS : va_S A H0 H locs) (hin2 : meth.name = "<init>") (q0 k : Nat) {a ci index : Nat} {fs : List Value} {v : Value} {ty : FieldType} (he : ws[q0]? = some (a, .inr (ci, fs))) (hL : jx_FL own index ci k) (hF : jx_FF own ci k ty) (hn : narrow ty v = v ∧ fits ty v = true) (hl : Nat.ble (k + 1) fs.length = true) (hdg : decode cc pc = .ok (.putfield index, 3))
    (kk : ∀ (H1 : Heap) (locs1 : List Loc), va_P D vwCl (ws.set q0 (a, .inr (ci, fs.set k v))) H1 → va_D A (ws.set q0 (a, .inr (ci, fs.set k v))) → va_S A H0 H1 locs1 → W p l e R s m args below meth c H1 locs1 cells slots Q (F0 m (pc + 3) ls rest)) : W p l e R s m args below meth c H locs cells slots Q (F0 m pc ls (v :: .ref a :: rest)) := by
  obtain ⟨CN, T, N, hc, hin, hk, hT, hlk⟩ := hL
  obtain ⟨CN', T', N', ty0, hc', hty, hnm, hfin, hdecl, hd⟩ := hF
  have hE := hc.symm.trans hc'
  simp only [Option.some.injEq, Prod.mk.injEq] at hE
  obtain ⟨rfl, rfl, rfl⟩ := hE
  exact va_putF C.1 C.2.1 C.2.2.2.2 hin ty0 hty hnm C.2.2.2.1 hK.1 hP hD hS q0 he hc k hk (C.2.2.2.2 _ hlk) (fun x hx => by rw [hT] at hx; exact hx) hfin hin2 hdecl hd hn.1 hn.2 (Nat.le_of_ble_eq_true hl) hdg kk
theorem jx_getB (C : jx_C p s m args c cc own nL) (hK : jx_K D cI cT s) (hP : va_P D vwCl ws H) (q0 k : Nat) {a ci index : Nat} {fs : List Value} {v : Value} (he : ws[q0]? = some (a, .inr (ci, fs))) (hv : fs[k]? = some v) (hL : jx_FL own index ci k) (hdg : decode cc pc = .ok (.getfield index, 3))
    (kk : W p l e R s m args below meth c H locs cells slots Q (F0 m (pc + 3) ls (v :: rest))) : W p l e R s m args below meth c H locs cells slots Q (F0 m pc ls (.ref a :: rest)) := by
  obtain ⟨CN, T, N, hc, hin, hk, hT, hlk⟩ := hL
  exact va_get C.1 C.2.1 C.2.2.2.2 hin C.2.2.2.1 hK.1 hP q0 he hc k hk (C.2.2.2.2 _ hlk) (fun x hx => by rw [hT] at hx; exact hx) hv hdg kk
theorem jx_newB (C : jx_C p s m args c cc own nL) (hK : jx_K D cI cT s) (hP : va_P D vwCl ws H) (hD : va_D A ws) (hS : va_S A H0 H locs) (hA : ∀ q : Nat, H0.size ≤ q → A q) {index ci : Nat} {fs : List Value} (hN : jx_NE own index ci fs) (hcells : Nat.ble (cells + 1) R.cells = true) (hslots : Nat.ble (slots + fs.length) R.slots = true) (hdg : decode cc pc = .ok (.new index, 3))
    (kk : ∀ (q : Nat) (H1 : Heap), va_P D vwCl (ws ++ [(q, .inr (ci, fs))]) H1 → va_D A (ws ++ [(q, .inr (ci, fs))]) → va_S A H0 H1 locs → W p l e R s m args below meth c H1 locs (cells + 1) (slots + fs.length) Q (F0 m (pc + 3) ls (.ref q :: rest))) : W p l e R s m args below meth c H locs cells slots Q (F0 m pc ls rest) := by
  obtain ⟨CN, T, N, ty0, hc, hin, hty, h1, h2, h3, h4, h5⟩ := hN
  subst h4
  have hts := C.2.2.2.2
  exact va_new C.1 C.2.1 hts hin ty0 hty C.2.2.2.1 (hts _ h1) (hts _ h2) (hts _ h3) hK.1 hP hD hS hA hc h5 (Nat.le_of_ble_eq_true hcells) (Nat.le_of_ble_eq_true hslots) hdg kk
theorem jx_astB (C : jx_C p s m args c cc own nL) (hK : jx_K D cI cT s) (hP : va_P D vwCl ws H) (hD : va_D A ws) (hS : va_S A H0 H locs) (q0 qk j : Nat) {a v : Nat} {fs : List Value} {f : Nat → Option Nat} (ha : ws[q0]? = some (a, .inl (cT, 4, .inr (.inr (.inr (.inr f)))))) (hv : ws[qk]? = some (v, .inr (4, fs))) (hj : Nat.ble (j + 1) 4 = true) {z : Int} (hz : z = (j : Int)) (hdg : decode cc pc = .ok (.aastore, 1))
    (kk : ∀ (H1 : Heap) (locs1 : List Loc), va_P D vwCl (ws.set q0 (a, .inl (cT, 4, .inr (.inr (.inr (.inr (va_up f j (some v)))))))) H1 → va_D A (ws.set q0 (a, .inl (cT, 4, .inr (.inr (.inr (.inr (va_up f j (some v)))))))) → va_S A H0 H1 locs1 → W p l e R s m args below meth c H1 locs1 cells slots Q (F0 m (pc + 1) ls rest)) : W p l e R s m args below meth c H locs cells slots Q (F0 m pc ls (.ref v :: .int (jx_i z) :: .ref a :: rest)) := by
  subst hz
  have hj' := Nat.le_of_ble_eq_true hj
  have hB : jx_B (j : Int) 4 := ⟨by omega, by omega⟩
  refine va_astq (r := (RX6, TX6, 11)) C.1 C.2.1 hK.1 hP hD hS q0 1 qk 4 ha rfl hv rfl (hB.vp (by decide)) hdg (fun H1 locs1 hP1 hD1 hS1 => ?_)
  have e : (jx_i (j : Int)).toNatClampNeg = j := by rw [jx_nat (hB.R (by decide))]; omega
  rw [e] at hP1 hD1
  exact kk H1 locs1 hP1 hD1 hS1
theorem jx_alenB (C : jx_C p s m args c cc own nL) (hK : jx_K D cI cT s) (hP : va_P D vwCl ws H) (q0 : Nat) {a n : Nat} {f : Nat → Option Nat} (ha : ws[q0]? = some (a, .inl (cT, n, .inr (.inr (.inr (.inr f)))))) (hdg : decode cc pc = .ok (.arraylength, 1))
    (kk : W p l e R s m args below meth c H locs cells slots Q (F0 m (pc + 1) ls (.int (jx_i (n : Int)) :: rest))) : W p l e R s m args below meth c H locs cells slots Q (F0 m pc ls (.ref a :: rest)) :=
  va_alen (v := jx_i (n : Int)) C.1 C.2.1 hK.1 hP q0 1 ha rfl rfl hdg kk
theorem jx_objI (C : jx_C p s m args c cc own nL) {index a : Nat} (hl : Cond.methodLink own index objectInit ∈ jx_T) (hw : Cond.instanceMethod objectInit ∈ jx_T ∧ Cond.code objectInit ⟨#[0xb1]⟩ 1 none ∈ jx_T) (hls : ls.size = nL) (hfr : (Nat.ble 1 R.frames && Nat.ble ((rest.map fun v => v.category).sum + 12) R.locals) = true) (hdg : decode cc pc = .ok (.invokespecial index, 3))
    (kk : W p l e R s m args below meth c H locs cells slots Q (F0 m (pc + 3) ls rest)) : W p l e R s m args below meth c H locs cells slots Q (F0 m pc ls (.ref a :: rest)) := by
  simp only [Bool.and_eq_true] at hfr
  have hts := C.2.2.2.2
  exact W.objInit C.1 C.2.1 C.2.2.2.1 (hts _ hl) (hts _ hw.1) (hts _ hw.2) rfl (by rw [C.2.2.1]; exact hls) rfl hdg (Nat.le_of_ble_eq_true hfr.1) (by show 2 * 0 + _ + 12 ≤ _; have := Nat.le_of_ble_eq_true hfr.2; omega) kk
theorem jx_wObj : Cond.instanceMethod objectInit ∈ jx_T ∧ Cond.code objectInit ⟨#[0xb1]⟩ 1 none ∈ jx_T := ⟨by decide +kernel, by decide +kernel⟩
theorem jx_wArr : Cond.arrayClass .int ∈ jx_T := by decide +kernel
end JX11
