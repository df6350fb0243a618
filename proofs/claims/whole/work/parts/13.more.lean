/-! ===== loops, entry, returns, more calls ===== -/
def jx_it {α : Type} (F : (α → Prop) → α → Prop) : Nat → α → Prop
  | 0, _ => False
  | n + 1, a => F (jx_it F n) a
def jx_lp {α : Type} (F : (α → Prop) → α → Prop) (a : α) : Prop := ∃ n, jx_it F n a
theorem jx_loop {α : Type} {F : (α → Prop) → α → Prop} (I : α → Prop) (μ : α → Nat) (hs : ∀ (B : α → Prop) (a : α), I a → (∀ b, I b → μ b < μ a → B b) → F B a) {a : α} (h : I a) : jx_lp F a := by
  have key : ∀ (n : Nat) (a : α), I a → μ a < n → jx_it F n a := by
    intro n
    induction n with
    | zero => intro a _ h; omega
    | succ n ih => intro a hI hm; exact hs _ a hI (fun b hb hlt => ih b hb (by omega))
  exact ⟨μ a + 1, key _ a h (by omega)⟩
def jx_area (f : Int → Int) : Int := (f 2 - f 0) * (f 3 - f 1)
theorem jx_nz {v : Int} (h : v = 0 ∨ v = 1) : narrow .boolean (.int (jx_i v)) = .int (jx_i v) ∧ fits .boolean (.int (jx_i v)) = true := by rcases h with rfl | rfl <;> exact ⟨by decide, by decide⟩
section JX7
variable {p : Program} {l : Launch} {e : Env} {R : Room} {s : State} {m : MethodId} {args : Array Value} {below : List Frame} {meth : Method} {c : Code} {H : Heap} {locs : List Loc} {cells slots : Nat} {Q : State → Prop}
variable {cc : ByteArray} {own : String} {nL pc : Nat} {ls : Array Slot} {rest : List Value} {D : va_G} {cI cT : ClassId} {cs : List jx_Cp} {A : Nat → Prop} {H0 : Heap} {QQ : State → Prop}
theorem jx_ent {y : MethodName} {b : ByteArray} {ret : Option FieldType} {fr lo : Nat} {av : List Value} {Qc : Nat → Array Value → State → Outcome → State → Prop} (hy : plainName y.cls = true) (ho : y.cls = own) (hle : (lg_sl av).length ≤ nL)
    (body : ∀ (p : Program) (e : Env) (s : State) (m : MethodId) (args : Array Value) (below : List Frame) (meth : Method) (c : Code) (A : Nat → Prop) (QQ : State → Prop), jx_C p s m args c b own nL → meth.sig.returnType = ret → meth.locks = false → jx_K D cI cT s → A = va_A (jx_ws cI cT cs) s.heap.size → (∀ q : Nat, s.heap.size ≤ q → A q) → va_P D vwCl (jx_ws cI cT cs) s.heap → va_D A (jx_ws cI cT cs) → va_S A s.heap s.heap [] → ∀ ls : Array Slot, lv_has ls nL (lv_args 0 av) → MQ below (Qc s.heap.size) args s 0 0 A = QQ → W p l e (jx_rm fr lo) s m args below meth c s.heap [] 0 0 QQ (F0 m 0 ls [])) (sz : Nat) :
    Met l y (.code y b nL ret :: jx_T) (jx_rm fr lo) (jx_Pre D cI cT av cs sz) (Qc sz) 0 0 (va_A (jx_ws cI cT cs) sz) :=
  jx_entry hy ho hle (fun p e s m args below meth c A C hr hlk hK hAe hA hP hD hS ls hl => body p e s m args below meth c A _ C hr hlk hK hAe hA hP hD hS ls hl rfl) sz
theorem jx_rI {S : Type} {f : S → List jx_Cp} {Q : Int → S → Prop} {cs0 : List jx_Cp} (C : jx_C p s m args c cc own nL) (hr : meth.sig.returnType = some .int) (hlk : meth.locks = false) (hA : A = va_A (jx_ws cI cT cs0) s.heap.size) (hS : va_S A s.heap H locs) (hQQ : MQ below (jx_QI S D cI cT cs0 f Q s.heap.size) args s 0 0 A = QQ) {x : Int} (u : S) (hP : va_P D vwCl (jx_ws cI cT (f u)) H) (hq : Q x u) (hdg : decode cc pc = .ok (.ireturn, 1)) :
    W p l e R s m args below meth c H locs 0 0 QQ (F0 m pc ls [.int (jx_i x)]) := by
  rw [← hQQ]
  exact jx_retI C hr hlk hA hS u hP hq hdg
theorem jx_rZ {S : Type} {f : S → List jx_Cp} {Q : Int → S → Prop} {cs0 : List jx_Cp} (C : jx_C p s m args c cc own nL) (hr : meth.sig.returnType = some .boolean) (hlk : meth.locks = false) (hA : A = va_A (jx_ws cI cT cs0) s.heap.size) (hS : va_S A s.heap H locs) (hQQ : MQ below (jx_QI S D cI cT cs0 f Q s.heap.size) args s 0 0 A = QQ) {x : Int} (hx : x = 0 ∨ x = 1) (u : S) (hP : va_P D vwCl (jx_ws cI cT (f u)) H) (hq : Q x u) (hdg : decode cc pc = .ok (.ireturn, 1)) :
    W p l e R s m args below meth c H locs 0 0 QQ (F0 m pc ls [.int (jx_i x)]) := by
  rw [← hQQ]
  exact jx_retZ C hr hlk hA hS hx u hP hq hdg
theorem jx_rV {S : Type} {f : S → List jx_Cp} {Q : S → Prop} {cs0 : List jx_Cp} (C : jx_C p s m args c cc own nL) (hr : meth.sig.returnType = none) (hlk : meth.locks = false) (hA : A = va_A (jx_ws cI cT cs0) s.heap.size) (hS : va_S A s.heap H locs) (hQQ : MQ below (jx_QV S D cI cT cs0 f Q s.heap.size) args s 0 0 A = QQ) (u : S) (hP : va_P D vwCl (jx_ws cI cT (f u)) H) (hq : Q u) (hdg : decode cc pc = .ok (.return_, 1)) :
    W p l e R s m args below meth c H locs 0 0 QQ (F0 m pc ls []) := by
  rw [← hQQ]
  exact jx_retV C hr hlk hA hS u hP hq hdg
theorem jx_tswIn (C : jx_C p s m args c cc own nL) {dflt lo hi : Int} {offs : Array Int} {len : Nat} {v k : Int} {off : Int} {tgt : Nat} (hv : v = k) (hR : jx_R k) (hdg : decode cc pc = .ok (.tableswitch dflt lo hi offs, len)) (h1 : ¬ k < lo) (h2 : ¬ hi < k) (ho : offs[(k - lo).toNat]? = some off) (ht : (pc : Int) + off = (tgt : Int))
    (kk : W p l e R s m args below meth c H locs cells slots Q (F0 m tgt ls rest)) : W p l e R s m args below meth c H locs cells slots Q (F0 m pc ls (.int (jx_i v) :: rest)) := by
  subst hv
  exact lv_tableIn C.1 C.2.1 hdg (by rw [jx_toInt hR]; exact h1) (by rw [jx_toInt hR]; exact h2) (by rw [jx_toInt hR]; exact ho) ht kk
theorem jx_tswOut (C : jx_C p s m args c cc own nL) {dflt lo hi : Int} {offs : Array Int} {len : Nat} {v : Int} {tgt : Nat} (hR : jx_R v) (hdg : decode cc pc = .ok (.tableswitch dflt lo hi offs, len)) (h1 : v < lo ∨ hi < v) (ht : (pc : Int) + dflt = (tgt : Int))
    (kk : W p l e R s m args below meth c H locs cells slots Q (F0 m tgt ls rest)) : W p l e R s m args below meth c H locs cells slots Q (F0 m pc ls (.int (jx_i v) :: rest)) :=
  lv_tableOut C.1 C.2.1 hdg (by rw [jx_toInt hR]; exact h1) ht kk
set_option maxRecDepth 100000 in
theorem ct_area (l : Launch) (D : va_G) (cI cT : ClassId) (a : Nat) (σ : jx_St) : jx_KI Unit l D cI cT yX8_area cX8_area 1 .int 0 0 [.ref a] [jx_one a 4 σ] (fun _ => [jx_one a 4 σ]) (fun x _ => x = jx_area (σ 0)) := by
  refine jx_entry (own := RX8) (by decide) rfl (Nat.le_of_ble_eq_true rfl) ?_
  intro p e s m args below meth c A C hr hlk hK hAe hA hP hD hS ls hl
  have hl : lv_has ls 1 [(0, .ref a)] := hl
  have hx := C.1
  have hb := C.2.1
  refine lv_aload_n hx hb dX8_area_0 rfl (lv_at hl 0 rfl) ?_
  refine jx_iconst C dX8_area_1 ?_
  refine jx_iald C hK hP 0 0 rfl rfl rfl ⟨by decide, by decide⟩ dX8_area_2 ?_
  refine lv_aload_n hx hb dX8_area_3 rfl (lv_at hl 0 rfl) ?_
  refine jx_iconst C dX8_area_4 ?_
  refine jx_iald C hK hP 0 0 rfl rfl rfl ⟨by decide, by decide⟩ dX8_area_5 ?_
  refine jx_isub C dX8_area_6 ?_
  refine lv_aload_n hx hb dX8_area_7 rfl (lv_at hl 0 rfl) ?_
  refine jx_iconst C dX8_area_8 ?_
  refine jx_iald C hK hP 0 0 rfl rfl rfl ⟨by decide, by decide⟩ dX8_area_9 ?_
  refine lv_aload_n hx hb dX8_area_10 rfl (lv_at hl 0 rfl) ?_
  refine jx_iconst C dX8_area_11 ?_
  refine jx_iald C hK hP 0 0 rfl rfl rfl ⟨by decide, by decide⟩ dX8_area_12 ?_
  refine jx_isub C dX8_area_13 ?_
  refine jx_imul C dX8_area_14 ?_
  exact jx_retI C hr hlk hAe hS () hP rfl dX8_area_15
theorem jx_callArea {index : Nat} (C : jx_C p s m args c cc own nL) (hK : jx_K D cI cT s) (hP : va_P D vwCl (jx_ws cI cT cs) H) (hD : va_D A (jx_ws cI cT cs)) (hS : va_S A H0 H locs) (hA : ∀ q : Nat, H0.size ≤ q → A q)
    (i q : Nat) {a k : Nat} {ce : List (Nat × jx_Sh)} {σ : jx_St} (hi : cs[i]? = some (ce, σ)) (hq : ce[q]? = some (a, .inl (k, 4))) (hs : jx_sole k q ce = true) (hl : Cond.methodLink own index yX8_area ∈ jx_T)
    (hls : ls.size = nL) (hfr : (Nat.ble 1 R.frames && Nat.ble 20 R.locals) = true) (hrest : Nat.ble (rest.map fun v => v.category).sum 8 = true) (hdg : decode cc pc = .ok (.invokestatic index, 3)) (hcl : cells ≤ R.cells ∧ slots ≤ R.slots)
    (kk : ∀ (H1 : Heap) (locs1 : List Loc), va_P D vwCl (jx_ws cI cT cs) H1 → va_S A H0 H1 locs1 → W p l e R s m args below meth c H1 locs1 cells slots Q (F0 m (pc + 3) ls (.int (jx_i (jx_area (σ k))) :: rest))) : W p l e R s m args below meth c H locs cells slots Q (F0 m pc ls (.ref a :: rest)) :=
  jx_callAI C hK hP hD hS hA i q hi hq hs (ct_area l D cI cT a (fun _ => σ k)) jx_mT_X8_area hl rfl rfl hls hfr hrest hdg hcl (fun x H1 locs1 hx hP1 hS1 => by subst hx; exact kk H1 locs1 hP1 hS1)
end JX7
