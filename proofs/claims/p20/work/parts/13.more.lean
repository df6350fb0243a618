/-! ===== loops, entry, returns, more calls ===== -/
def jx_it {α : Type} (F : (α → Prop) → α → Prop) : Nat → α → Prop
  | 0, _ => False
  | n + 1, a => F (jx_it F n) a
def jx_lp {α : Type} (F : (α → Prop) → α → Prop) (a : α) : Prop := ∃ n, jx_it F n a
theorem jx_loop {α : Type} {F : (α → Prop) → α → Prop} (I : α → Prop) (μ : α → Nat) (hs : ∀ (B : α → Prop) (a : α), I a → (∀ b, I b → μ b < μ a → B b) → F B a) {a : α} (h : I a) : jx_lp F a := by
  have key : ∀ (n : Nat) (a : α), I a → μ a < n → jx_it F n a := by
    intro n
    induction n with
    | zero => intro a _ h; omega
    | succ n ih => intro a hI hm; exact hs _ a hI (fun b hb hlt => ih b hb (by omega))
  exact ⟨μ a + 1, key _ a h (by omega)⟩
def jx_area (f : Int → Int) : Int := (f 2 - f 0) * (f 3 - f 1)
theorem jx_nz {v : Int} (h : v = 0 ∨ v = 1) : narrow .boolean (.int (jx_i v)) = .int (jx_i v) ∧ fits .boolean (.int (jx_i v)) = true := by rcases h with rfl | rfl <;> exact ⟨by decide, by decide⟩
section JX7
variable {p : Program} {l : Launch} {e : Env} {R : Room} {s : State} {m : MethodId} {args : Array Value} {below : List Frame} {meth : Method} {c : Code} {H : Heap} {locs : List Loc} {cells slots : Nat} {Q : State → Prop}
variable {cc : ByteArray} {own : String} {nL pc : Nat} {ls : Array Slot} {rest : List Value} {D : va_G} {cI cT : ClassId} {cs : List jx_Cp} {A : Nat → Prop} {H0 : Heap} {QQ : State → Prop}
theorem jx_ent {y : MethodName} {b : ByteArray} {ret : Option FieldType} {fr lo : Nat} {av : List Value} {Qc : Nat → Array Value → State → Outcome → State → Prop} (hy : plainName y.cls = true) (ho : y.cls = own) (hle : (lg_sl av).length ≤ nL)
    (body : ∀ (p : Program) (e : Env) (s : State) (m : MethodId) (args : Array Value) (below : List Frame) (meth : Method) (c : Code) (A : Nat → Prop) (QQ : State → Prop), jx_C p s m args c b own nL → meth.sig.returnType = ret → meth.locks = false → jx_K D cI cT s → A = va_A (jx_ws cI cT cs) s.heap.size → (∀ q : Nat, s.heap.size ≤ q → A q) → va_P D vwCl (jx_ws cI cT cs) s.heap → va_D A (jx_ws cI cT cs) → va_S A s.heap s.heap [] → ∀ ls : Array Slot, lv_has ls nL (lv_args 0 av) → MQ below (Qc s.heap.size) args s 0 0 A = QQ → W p l e (jx_rm fr lo) s m args below meth c s.heap [] 0 0 QQ (F0 m 0 ls [])) (sz : Nat) :
    Met l y (.code y b nL ret :: jx_T) (jx_rm fr lo) (jx_Pre D cI cT av cs sz) (Qc sz) 0 0 (va_A (jx_ws cI cT cs) sz) :=
  jx_entry hy ho hle (fun p e s m args below meth c A C hr hlk hK hAe hA hP hD hS ls hl => body p e s m args below meth c A _ C hr hlk hK hAe hA hP hD hS ls hl rfl) sz
theorem jx_rI {S : Type} {f : S → List jx_Cp} {Q : Int → S → Prop} {cs0 : List jx_Cp} (C : jx_C p s m args c cc own nL) (hr : meth.sig.returnType = some .int) (hlk : meth.locks = false) (hA : A = va_A (jx_ws cI cT cs0) s.heap.size) (hS : va_S A s.heap H locs) (hQQ : MQ below (jx_QI S D cI cT cs0 f Q s.heap.size) args s 0 0 A = QQ) {x : Int} (u : S) (hP : va_P D vwCl (jx_ws cI cT (f u)) H) (hq : Q x u) (hdg : decode cc pc = .ok (.ireturn, 1)) :
    W p l e R s m args below meth c H locs 0 0 QQ (F0 m pc ls [.int (jx_i x)]) := by
  rw [← hQQ]
  exact jx_retI C hr hlk hA hS u hP hq hdg
theorem jx_rZ {S : Type} {f : S → List jx_Cp} {Q : Int → S → Prop} {cs0 : List jx_Cp} (C : jx_C p s m args c cc own nL) (hr : meth.sig.returnType = some .boolean) (hlk : meth.locks = false) (hA : A = va_A (jx_ws cI cT cs0) s.heap.size) (hS : va_S A s.heap H locs) (hQQ : MQ below (jx_QI S D cI cT cs0 f Q s.heap.size) args s 0 0 A = QQ) {x : Int} (hx : x = 0 ∨ x = 1) (u : S) (hP : va_P D vwCl (jx_ws cI cT (f u)) H) (hq : Q x u) (hdg : decode cc pc = .ok (.ireturn, 1)) :
    W p l e R s m args below meth c H locs 0 0 QQ (F0 m pc ls [.int (jx_i x)]) := by
  rw [← hQQ]
  exact jx_retZ C hr hlk hA hS hx u hP hq hdg
theorem jx_rV {S : Type} {f : S → List jx_Cp} {Q : S → Prop} {cs0 : List jx_Cp} (C : jx_C p s m args c cc own nL) (hr : meth.sig.returnType = none) (hlk : meth.locks = false) (hA : A = va_A (jx_ws cI cT cs0) s.heap.size) (hS : va_S A s.heap H locs) (hQQ : MQ below (jx_QV S D cI cT cs0 f Q s.heap.size) args s 0 0 A = QQ) (u : S) (hP : va_P D vwCl (jx_ws cI cT (f u)) H) (hq : Q u) (hdg : decode cc pc = .ok (.return_, 1)) :
    W p l e R s m args below meth c H locs 0 0 QQ (F0 m pc ls []) := by
  rw [← hQQ]
  exact jx_retV C hr hlk hA hS u hP hq hdg
theorem jx_tswIn (C : jx_C p s m args c cc own nL) {dflt lo hi : Int} {offs : Array Int} {len : Nat} {v k : Int} {off : Int} {tgt : Nat} (hv : v = k) (hR : jx_R k) (hdg : decode cc pc = .ok (.tableswitch dflt lo hi offs, len)) (h1 : ¬ k < lo) (h2 : ¬ hi < k) (ho : offs[(k - lo).toNat]? = some off) (ht : (pc : Int) + off = (tgt : Int))
    (kk : W p l e R s m args below meth c H locs cells slots Q (F0 m tgt ls rest)) : W p l e R s m args below meth c H locs cells slots Q (F0 m pc ls (.int (jx_i v) :: rest)) := by
  subst hv
  exact lv_tableIn C.1 C.2.1 hdg (by rw [jx_toInt hR]; exact h1) (by rw [jx_toInt hR]; exact h2) (by rw [jx_toInt hR]; exact ho) ht kk
theorem jx_tswOut (C : jx_C p s m args c cc own nL) {dflt lo hi : Int} {offs : Array Int} {len : Nat} {v : Int} {tgt : Nat} (hR : jx_R v) (hdg : decode cc pc = .ok (.tableswitch dflt lo hi offs, len)) (h1 : v < lo ∨ hi < v) (ht : (pc : Int) + dflt = (tgt : Int))
    (kk : W p l e R s m args below meth c H locs cells slots Q (F0 m tgt ls rest)) : W p l e R s m args below meth c H locs cells slots Q (F0 m pc ls (.int (jx_i v) :: rest)) :=
  lv_tableOut C.1 C.2.1 hdg (by rw [jx_toInt hR]; exact h1) ht kk
end JX7
