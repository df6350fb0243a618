/-! ===== what a method's instructions rest on; rows over Int ===== -/
/-- the tables' words that stay with a callee -/
def jx_T : List Cond := lw_tbl.filter goodWord
theorem jx_mT {w : Cond} (i : Nat) (h : lw_tbl[i]? = some w) (hg : goodWord w = true) : w ∈ jx_T := List.mem_filter.mpr ⟨List.mem_of_getElem? h, hg⟩
def jx_isN : Cond → Bool := fun w => match w with
  | .fieldLinkNest _ _ _ _ _ _ => true
  | .methodLinkNest _ _ _ _ => true
  | _ => false
/-- the words on nest mates' members: they stand beside a method's words -/
def jx_NW : List Cond := lw_tbl.filter jx_isN
theorem jx_mN {w : Cond} (i : Nat) (h : lw_tbl[i]? = some w) (hg : jx_isN w = true) : w ∈ jx_NW := List.mem_filter.mpr ⟨List.mem_of_getElem? h, hg⟩
def jx_N (U : State) : Prop := ∀ w ∈ jx_NW, va_Nw w U
theorem jx_N.warm {s U : State} (hW : s.WarmedH U.vm) (h : jx_N s) : jx_N U := by
  intro w hw
  have h1 := h w hw
  have h2 := (List.mem_filter.mp hw).2
  cases w <;> first | exact va_Nw.warmF hW h1 | exact va_Nw.warmM hW h1 | (simp [jx_isN] at h2)
theorem jx_N.same {u U : State} (hv : u.vm = U.vm) (h : jx_N u) : jx_N U := by
  intro w hw
  have h1 := h w hw
  have h2 := (List.mem_filter.mp hw).2
  cases w <;> first | exact va_Nw.same rfl hv h1 | (simp [jx_isN] at h2)
def jx_K (D : va_G) (cI cT : ClassId) (U : State) : Prop := va_K D vwCl (jx_ty cI cT) U ∧ jx_N U ∧ va_AO "BoxCourt$Tree" U
theorem jx_K.warm {D : va_G} {cI cT : ClassId} {s U : State} (hW : s.WarmedH U.vm) (h : jx_K D cI cT s) : jx_K D cI cT U := ⟨va_K.moved hW.alike h.1, h.2.1.warm hW, h.2.2.moved hW.alike⟩
def jx_C (p : Program) (s : State) (m : MethodId) (args : Array Value) (c : Code) (cc : ByteArray) (own : String) (nL : Nat) : Prop := p.tables.exec = Jvm.exec ∧ c.code = cc ∧ c.maxLocals = nL ∧ s.vm.findClass own = some m.cls ∧ ∀ w ∈ jx_T, w.before args s = true
def jx_FL (own : String) (index ci k : Nat) : Prop := ∃ (CN : String) (T : u_T) (N : Nat), vwCl[ci]? = some (CN, T, N) ∧ (∀ w ∈ u_ws CN T N, w ∈ jx_T) ∧ k < N ∧ (T k).1 = CN ∧ Cond.fieldLink own index CN (T k).2.1 (T k).2.2.1 ∈ jx_T
def jx_FN (own : String) (index ci k : Nat) : Prop := ∃ (CN : String) (T : u_T) (N : Nat), vwCl[ci]? = some (CN, T, N) ∧ (∀ w ∈ u_ws CN T N, w ∈ jx_T) ∧ k < N ∧ (T k).1 = CN ∧ Cond.fieldLinkNest own index CN (T k).2.1 (T k).2.2.1 "BoxCourt" ∈ jx_NW
/-- a field that may be written: its type, that it isn't final -/
def jx_FW (ci k : Nat) (ty : FieldType) : Prop := ∃ (CN : String) (T : u_T) (N : Nat) (ty0 : Nat → FieldType), vwCl[ci]? = some (CN, T, N) ∧ (∀ k, k < N → parseFieldDescriptor (T k).2.2.1 = some (ty0 k)) ∧ (∀ a, a < N → ∀ b, b < N → a ≠ b → (T a).2.1 ≠ (T b).2.1) ∧ (T k).2.2.2 = false ∧ parseFieldDescriptor (T k).2.2.1 = some ty
section JX3
variable {p : Program} {l : Launch} {e : Env} {R : Room} {s : State} {m : MethodId} {args : Array Value} {below : List Frame} {meth : Method} {c : Code} {H : Heap} {locs : List Loc} {cells slots : Nat} {Q : State → Prop}
variable {cc : ByteArray} {own : String} {nL pc : Nat} {ls : Array Slot} {rest : List Value} {D : va_G} {cI cT : ClassId} {cs : List jx_Cp} {A : Nat → Prop} {H0 : Heap}
theorem jx_iconst (C : jx_C p s m args c cc own nL) {n : Int} (hdg : decode cc pc = .ok (.iconst n, 1)) (k : W p l e R s m args below meth c H locs cells slots Q (F0 m (pc + 1) ls (.int (jx_i n) :: rest))) : W p l e R s m args below meth c H locs cells slots Q (F0 m pc ls rest) := lv_iconst C.1 C.2.1 hdg rfl k
theorem jx_bipush (C : jx_C p s m args c cc own nL) {n : Int} (hdg : decode cc pc = .ok (.bipush n, 2)) (hn : (Int8.ofInt n).toInt32 = jx_i n) (k : W p l e R s m args below meth c H locs cells slots Q (F0 m (pc + 2) ls (.int (jx_i n) :: rest))) : W p l e R s m args below meth c H locs cells slots Q (F0 m pc ls rest) := lv_bipush C.1 C.2.1 hdg hn k
theorem jx_sipush (C : jx_C p s m args c cc own nL) {n : Int} (hdg : decode cc pc = .ok (.sipush n, 3)) (hn : (Int16.ofInt n).toInt32 = jx_i n) (k : W p l e R s m args below meth c H locs cells slots Q (F0 m (pc + 3) ls (.int (jx_i n) :: rest))) : W p l e R s m args below meth c H locs cells slots Q (F0 m pc ls rest) := lv_sipush C.1 C.2.1 hdg hn k
theorem jx_ldc (C : jx_C p s m args c cc own nL) {index : Nat} (n : Int) (hw : Cond.constant own index (jx_i n) ∈ jx_T) (hdg : decode cc pc = .ok (.ldc index, 2)) (k : W p l e R s m args below meth c H locs cells slots Q (F0 m (pc + 2) ls (.int (jx_i n) :: rest))) : W p l e R s m args below meth c H locs cells slots Q (F0 m pc ls rest) := lv_ldc C.1 C.2.1 C.2.2.2.1 (C.2.2.2.2 _ hw) hdg k
theorem jx_iadd (C : jx_C p s m args c cc own nL) {a b : Int} (hdg : decode cc pc = .ok (.iadd, 1)) (k : W p l e R s m args below meth c H locs cells slots Q (F0 m (pc + 1) ls (.int (jx_i (a + b)) :: rest))) : W p l e R s m args below meth c H locs cells slots Q (F0 m pc ls (.int (jx_i b) :: .int (jx_i a) :: rest)) := lv_iadd C.1 C.2.1 hdg (by rw [jx_i_add]; exact k)
theorem jx_isub (C : jx_C p s m args c cc own nL) {a b : Int} (hdg : decode cc pc = .ok (.isub, 1)) (k : W p l e R s m args below meth c H locs cells slots Q (F0 m (pc + 1) ls (.int (jx_i (a - b)) :: rest))) : W p l e R s m args below meth c H locs cells slots Q (F0 m pc ls (.int (jx_i b) :: .int (jx_i a) :: rest)) := lv_isub C.1 C.2.1 hdg (by rw [jx_i_sub]; exact k)
theorem jx_imul (C : jx_C p s m args c cc own nL) {a b : Int} (hdg : decode cc pc = .ok (.imul, 1)) (k : W p l e R s m args below meth c H locs cells slots Q (F0 m (pc + 1) ls (.int (jx_i (a * b)) :: rest))) : W p l e R s m args below meth c H locs cells slots Q (F0 m pc ls (.int (jx_i b) :: .int (jx_i a) :: rest)) := lv_imul C.1 C.2.1 hdg (by rw [jx_i_mul]; exact k)
theorem jx_iand (C : jx_C p s m args c cc own nL) {a b : Int} (hdg : decode cc pc = .ok (.iand, 1)) (k : W p l e R s m args below meth c H locs cells slots Q (F0 m (pc + 1) ls (.int (jx_i (jx_and a b)) :: rest))) : W p l e R s m args below meth c H locs cells slots Q (F0 m pc ls (.int (jx_i b) :: .int (jx_i a) :: rest)) := lv_iand C.1 C.2.1 hdg (by unfold jx_and at k; rw [jx_ofToInt] at k; exact k)
theorem jx_ior (C : jx_C p s m args c cc own nL) {a b : Int} (hdg : decode cc pc = .ok (.ior, 1)) (k : W p l e R s m args below meth c H locs cells slots Q (F0 m (pc + 1) ls (.int (jx_i (jx_or a b)) :: rest))) : W p l e R s m args below meth c H locs cells slots Q (F0 m pc ls (.int (jx_i b) :: .int (jx_i a) :: rest)) := lv_ior C.1 C.2.1 hdg (by unfold jx_or at k; rw [jx_ofToInt] at k; exact k)
theorem jx_ixor (C : jx_C p s m args c cc own nL) {a b : Int} (hdg : decode cc pc = .ok (.ixor, 1)) (k : W p l e R s m args below meth c H locs cells slots Q (F0 m (pc + 1) ls (.int (jx_i (jx_xor a b)) :: rest))) : W p l e R s m args below meth c H locs cells slots Q (F0 m pc ls (.int (jx_i b) :: .int (jx_i a) :: rest)) := lv_ixor C.1 C.2.1 hdg (by unfold jx_xor at k; rw [jx_ofToInt] at k; exact k)
theorem jx_ishl (C : jx_C p s m args c cc own nL) {a b : Int} (hdg : decode cc pc = .ok (.ishl, 1)) (k : W p l e R s m args below meth c H locs cells slots Q (F0 m (pc + 1) ls (.int (jx_i (jx_shl a b)) :: rest))) : W p l e R s m args below meth c H locs cells slots Q (F0 m pc ls (.int (jx_i b) :: .int (jx_i a) :: rest)) := lv_ishl C.1 C.2.1 hdg (by unfold jx_shl at k; rw [jx_ofToInt] at k; exact k)
theorem jx_ishr (C : jx_C p s m args c cc own nL) {a b : Int} (hdg : decode cc pc = .ok (.ishr, 1)) (k : W p l e R s m args below meth c H locs cells slots Q (F0 m (pc + 1) ls (.int (jx_i (jx_shr a b)) :: rest))) : W p l e R s m args below meth c H locs cells slots Q (F0 m pc ls (.int (jx_i b) :: .int (jx_i a) :: rest)) := lv_ishr C.1 C.2.1 hdg (by unfold jx_shr at k; rw [jx_ofToInt] at k; exact k)
theorem jx_idiv (C : jx_C p s m args c cc own nL) {a b : Int} (hne : ¬ jx_i b = 0) (hdg : decode cc pc = .ok (.idiv, 1)) (k : W p l e R s m args below meth c H locs cells slots Q (F0 m (pc + 1) ls (.int (jx_i (jx_div a b)) :: rest))) : W p l e R s m args below meth c H locs cells slots Q (F0 m pc ls (.int (jx_i b) :: .int (jx_i a) :: rest)) := lv_idiv C.1 C.2.1 hdg hne (by unfold jx_div at k; rw [jx_ofToInt] at k; exact k)
theorem jx_irem (C : jx_C p s m args c cc own nL) {a b : Int} (hne : ¬ jx_i b = 0) (hdg : decode cc pc = .ok (.irem, 1)) (k : W p l e R s m args below meth c H locs cells slots Q (F0 m (pc + 1) ls (.int (jx_i (jx_rem a b)) :: rest))) : W p l e R s m args below meth c H locs cells slots Q (F0 m pc ls (.int (jx_i b) :: .int (jx_i a) :: rest)) := lv_irem C.1 C.2.1 hdg hne (by unfold jx_rem at k; rw [jx_ofToInt] at k; exact k)
theorem jx_iinc (C : jx_C p s m args c cc own nL) {i k : Nat} {n a : Int} {lv lv' : List (Nat × Value)} (hdg : decode cc pc = .ok (.iinc i n, 3)) (h : lv_has ls nL lv) (hk : lv[k]? = some (i, .int (jx_i a))) (hn : i < nL) (hl : (i, Value.int (jx_i (a + n))) :: lv.filter (fun q => !(q.1 == i) && !(q.1 + 1 == i && q.2.category == 2)) = lv')
    (kk : ∀ ls' : Array Slot, lv_has ls' nL lv' → W p l e R s m args below meth c H locs cells slots Q (F0 m (pc + 3) ls' rest)) : W p l e R s m args below meth c H locs cells slots Q (F0 m pc ls rest) := lv_iinc (v := jx_i (a + n)) C.1 C.2.1 hdg h hk (jx_i_add a n) hn hl kk
theorem jx_clt (C : jx_C p s m args c cc own nL) {a b : Int} {off : Int} {tgt : Nat} (ha : jx_R a) (hb : jx_R b) (hdg : decode cc pc = .ok (.if_icmp .lt off, 3)) (ht : (pc : Int) + off = (tgt : Int))
    (kt : a < b → W p l e R s m args below meth c H locs cells slots Q (F0 m tgt ls rest)) (kf : ¬ a < b → W p l e R s m args below meth c H locs cells slots Q (F0 m (pc + 3) ls rest)) : W p l e R s m args below meth c H locs cells slots Q (F0 m pc ls (.int (jx_i b) :: .int (jx_i a) :: rest)) :=
  lv_icmp_lt C.1 C.2.1 hdg ht (fun h => kt ((jx_lt ha hb).mp h)) (fun h => kf (fun q => h ((jx_lt ha hb).mpr q)))
theorem jx_cle (C : jx_C p s m args c cc own nL) {a b : Int} {off : Int} {tgt : Nat} (ha : jx_R a) (hb : jx_R b) (hdg : decode cc pc = .ok (.if_icmp .le off, 3)) (ht : (pc : Int) + off = (tgt : Int))
    (kt : a ≤ b → W p l e R s m args below meth c H locs cells slots Q (F0 m tgt ls rest)) (kf : ¬ a ≤ b → W p l e R s m args below meth c H locs cells slots Q (F0 m (pc + 3) ls rest)) : W p l e R s m args below meth c H locs cells slots Q (F0 m pc ls (.int (jx_i b) :: .int (jx_i a) :: rest)) :=
  lv_icmp_le C.1 C.2.1 hdg ht (fun h => kt ((jx_le ha hb).mp h)) (fun h => kf (fun q => h ((jx_le ha hb).mpr q)))
theorem jx_cge (C : jx_C p s m args c cc own nL) {a b : Int} {off : Int} {tgt : Nat} (ha : jx_R a) (hb : jx_R b) (hdg : decode cc pc = .ok (.if_icmp .ge off, 3)) (ht : (pc : Int) + off = (tgt : Int))
    (kt : ¬ a < b → W p l e R s m args below meth c H locs cells slots Q (F0 m tgt ls rest)) (kf : a < b → W p l e R s m args below meth c H locs cells slots Q (F0 m (pc + 3) ls rest)) : W p l e R s m args below meth c H locs cells slots Q (F0 m pc ls (.int (jx_i b) :: .int (jx_i a) :: rest)) :=
  lv_icmp_ge C.1 C.2.1 hdg ht (fun h => kt (by have := (jx_le hb ha).mp h; omega)) (fun h => kf (by rcases Int.lt_or_le a b with q | q; exact q; exact absurd ((jx_le hb ha).mpr q) h))
theorem jx_cgt (C : jx_C p s m args c cc own nL) {a b : Int} {off : Int} {tgt : Nat} (ha : jx_R a) (hb : jx_R b) (hdg : decode cc pc = .ok (.if_icmp .gt off, 3)) (ht : (pc : Int) + off = (tgt : Int))
    (kt : ¬ a ≤ b → W p l e R s m args below meth c H locs cells slots Q (F0 m tgt ls rest)) (kf : a ≤ b → W p l e R s m args below meth c H locs cells slots Q (F0 m (pc + 3) ls rest)) : W p l e R s m args below meth c H locs cells slots Q (F0 m pc ls (.int (jx_i b) :: .int (jx_i a) :: rest)) :=
  lv_icmp_gt C.1 C.2.1 hdg ht (fun h => kt (by have := (jx_lt hb ha).mp h; omega)) (fun h => kf (by rcases Int.lt_or_le b a with q | q; exact absurd ((jx_lt hb ha).mpr q) h; exact q))
theorem jx_ceq (C : jx_C p s m args c cc own nL) {a b : Int} {off : Int} {tgt : Nat} (ha : jx_R a) (hb : jx_R b) (hdg : decode cc pc = .ok (.if_icmp .eq off, 3)) (ht : (pc : Int) + off = (tgt : Int))
    (kt : a = b → W p l e R s m args below meth c H locs cells slots Q (F0 m tgt ls rest)) (kf : ¬ a = b → W p l e R s m args below meth c H locs cells slots Q (F0 m (pc + 3) ls rest)) : W p l e R s m args below meth c H locs cells slots Q (F0 m pc ls (.int (jx_i b) :: .int (jx_i a) :: rest)) :=
  lv_icmp_eq C.1 C.2.1 hdg ht (fun h => kt ((jx_eq ha hb).mp h)) (fun h => kf (fun q => h ((jx_eq ha hb).mpr q)))
theorem jx_cne (C : jx_C p s m args c cc own nL) {a b : Int} {off : Int} {tgt : Nat} (ha : jx_R a) (hb : jx_R b) (hdg : decode cc pc = .ok (.if_icmp .ne off, 3)) (ht : (pc : Int) + off = (tgt : Int))
    (kt : ¬ a = b → W p l e R s m args below meth c H locs cells slots Q (F0 m tgt ls rest)) (kf : a = b → W p l e R s m args below meth c H locs cells slots Q (F0 m (pc + 3) ls rest)) : W p l e R s m args below meth c H locs cells slots Q (F0 m pc ls (.int (jx_i b) :: .int (jx_i a) :: rest)) :=
  lv_icmp_ne C.1 C.2.1 hdg ht (fun h => kt (fun q => h ((jx_eq ha hb).mpr q))) (fun h => kf ((jx_eq ha hb).mp h))
theorem jx_R0 : jx_R 0 := ⟨by decide, by decide⟩
theorem jx_i0 : jx_i 0 = 0 := by decide
theorem jx_zlt (C : jx_C p s m args c cc own nL) {a : Int} {off : Int} {tgt : Nat} (ha : jx_R a) (hdg : decode cc pc = .ok (.ifCond .lt off, 3)) (ht : (pc : Int) + off = (tgt : Int))
    (kt : a < 0 → W p l e R s m args below meth c H locs cells slots Q (F0 m tgt ls rest)) (kf : ¬ a < 0 → W p l e R s m args below meth c H locs cells slots Q (F0 m (pc + 3) ls rest)) : W p l e R s m args below meth c H locs cells slots Q (F0 m pc ls (.int (jx_i a) :: rest)) :=
  lv_if_lt C.1 C.2.1 hdg ht (fun h => kt ((jx_lt ha jx_R0).mp (by rw [jx_i0]; exact h))) (fun h => kf (fun q => h (by have := (jx_lt ha jx_R0).mpr q; rw [jx_i0] at this; exact this)))
theorem jx_zge (C : jx_C p s m args c cc own nL) {a : Int} {off : Int} {tgt : Nat} (ha : jx_R a) (hdg : decode cc pc = .ok (.ifCond .ge off, 3)) (ht : (pc : Int) + off = (tgt : Int))
    (kt : ¬ a < 0 → W p l e R s m args below meth c H locs cells slots Q (F0 m tgt ls rest)) (kf : a < 0 → W p l e R s m args below meth c H locs cells slots Q (F0 m (pc + 3) ls rest)) : W p l e R s m args below meth c H locs cells slots Q (F0 m pc ls (.int (jx_i a) :: rest)) :=
  lv_if_ge C.1 C.2.1 hdg ht (fun h => kt (by have := (jx_le jx_R0 ha).mp (by rw [jx_i0]; exact h); omega)) (fun h => kf (by rcases Int.lt_or_le a 0 with q | q; exact q; exact absurd (by have := (jx_le jx_R0 ha).mpr q; rw [jx_i0] at this; exact this) h))
theorem jx_zgt (C : jx_C p s m args c cc own nL) {a : Int} {off : Int} {tgt : Nat} (ha : jx_R a) (hdg : decode cc pc = .ok (.ifCond .gt off, 3)) (ht : (pc : Int) + off = (tgt : Int))
    (kt : ¬ a ≤ 0 → W p l e R s m args below meth c H locs cells slots Q (F0 m tgt ls rest)) (kf : a ≤ 0 → W p l e R s m args below meth c H locs cells slots Q (F0 m (pc + 3) ls rest)) : W p l e R s m args below meth c H locs cells slots Q (F0 m pc ls (.int (jx_i a) :: rest)) :=
  lv_if_gt C.1 C.2.1 hdg ht (fun h => kt (by have := (jx_lt jx_R0 ha).mp (by rw [jx_i0]; exact h); omega)) (fun h => kf (by rcases Int.lt_or_le 0 a with q | q; exact absurd (by have := (jx_lt jx_R0 ha).mpr q; rw [jx_i0] at this; exact this) h; exact q))
theorem jx_zle (C : jx_C p s m args c cc own nL) {a : Int} {off : Int} {tgt : Nat} (ha : jx_R a) (hdg : decode cc pc = .ok (.ifCond .le off, 3)) (ht : (pc : Int) + off = (tgt : Int))
    (kt : a ≤ 0 → W p l e R s m args below meth c H locs cells slots Q (F0 m tgt ls rest)) (kf : ¬ a ≤ 0 → W p l e R s m args below meth c H locs cells slots Q (F0 m (pc + 3) ls rest)) : W p l e R s m args below meth c H locs cells slots Q (F0 m pc ls (.int (jx_i a) :: rest)) :=
  lv_if_le C.1 C.2.1 hdg ht (fun h => kt ((jx_le ha jx_R0).mp (by rw [jx_i0]; exact h))) (fun h => kf (fun q => h (by have := (jx_le ha jx_R0).mpr q; rw [jx_i0] at this; exact this)))
theorem jx_zeq (C : jx_C p s m args c cc own nL) {a : Int} {off : Int} {tgt : Nat} (ha : jx_R a) (hdg : decode cc pc = .ok (.ifCond .eq off, 3)) (ht : (pc : Int) + off = (tgt : Int))
    (kt : a = 0 → W p l e R s m args below meth c H locs cells slots Q (F0 m tgt ls rest)) (kf : ¬ a = 0 → W p l e R s m args below meth c H locs cells slots Q (F0 m (pc + 3) ls rest)) : W p l e R s m args below meth c H locs cells slots Q (F0 m pc ls (.int (jx_i a) :: rest)) :=
  lv_if_eq C.1 C.2.1 hdg ht (fun h => kt ((jx_eq ha jx_R0).mp (by rw [jx_i0]; exact h))) (fun h => kf (fun q => h (by have := (jx_eq ha jx_R0).mpr q; rw [jx_i0] at this; exact this)))
theorem jx_zne (C : jx_C p s m args c cc own nL) {a : Int} {off : Int} {tgt : Nat} (ha : jx_R a) (hdg : decode cc pc = .ok (.ifCond .ne off, 3)) (ht : (pc : Int) + off = (tgt : Int))
    (kt : ¬ a = 0 → W p l e R s m args below meth c H locs cells slots Q (F0 m tgt ls rest)) (kf : a = 0 → W p l e R s m args below meth c H locs cells slots Q (F0 m (pc + 3) ls rest)) : W p l e R s m args below meth c H locs cells slots Q (F0 m pc ls (.int (jx_i a) :: rest)) :=
  lv_if_ne C.1 C.2.1 hdg ht (fun h => kt (fun q => h (by have := (jx_eq ha jx_R0).mpr q; rw [jx_i0] at this; exact this))) (fun h => kf ((jx_eq ha jx_R0).mp (by rw [jx_i0]; exact h)))
theorem jx_getI (C : jx_C p s m args c cc own nL) (hK : jx_K D cI cT s) (hP : va_P D vwCl (jx_ws cI cT cs) H) (i q k : Nat) {ce : List (Nat × jx_Sh)} {σ : jx_St} {a ci key index : Nat} {fs : List (Nat ⊕ Nat)} (hi : cs[i]? = some (ce, σ)) (hq : ce[q]? = some (a, .inr (.inl (ci, fs)))) (hf : fs[k]? = some (.inr key)) (hL : jx_FL own index ci k) (hdg : decode cc pc = .ok (.getfield index, 3))
    (kk : W p l e R s m args below meth c H locs cells slots Q (F0 m (pc + 3) ls (.int (jx_i (σ key 0)) :: rest))) : W p l e R s m args below meth c H locs cells slots Q (F0 m pc ls (.ref a :: rest)) := by
  obtain ⟨CN, T, N, hc, hin, hk, hT, hl⟩ := hL
  have h1 := jx_pos (cI := cI) (cT := cT) hi (jx_w_get hq)
  exact va_get (v := .int (jx_i (σ key 0))) C.1 C.2.1 C.2.2.2.2 hin C.2.2.2.1 hK.1 hP _ h1 hc k hk (C.2.2.2.2 _ hl) (fun x hx => by rw [hT] at hx; exact hx) (by simp only [List.getElem?_map, hf, Option.map_some, jx_fv]) hdg kk
theorem jx_getR (C : jx_C p s m args c cc own nL) (hK : jx_K D cI cT s) (hP : va_P D vwCl (jx_ws cI cT cs) H) (i q k : Nat) {ce : List (Nat × jx_Sh)} {σ : jx_St} {a b ci index : Nat} {fs : List (Nat ⊕ Nat)} (hi : cs[i]? = some (ce, σ)) (hq : ce[q]? = some (a, .inr (.inl (ci, fs)))) (hf : fs[k]? = some (.inl b)) (hL : jx_FL own index ci k) (hdg : decode cc pc = .ok (.getfield index, 3))
    (kk : W p l e R s m args below meth c H locs cells slots Q (F0 m (pc + 3) ls (.ref b :: rest))) : W p l e R s m args below meth c H locs cells slots Q (F0 m pc ls (.ref a :: rest)) := by
  obtain ⟨CN, T, N, hc, hin, hk, hT, hl⟩ := hL
  have h1 := jx_pos (cI := cI) (cT := cT) hi (jx_w_get hq)
  exact va_get (v := .ref b) C.1 C.2.1 C.2.2.2.2 hin C.2.2.2.1 hK.1 hP _ h1 hc k hk (C.2.2.2.2 _ hl) (fun x hx => by rw [hT] at hx; exact hx) (by simp only [List.getElem?_map, hf, Option.map_some, jx_fv]) hdg kk
theorem jx_getNI (C : jx_C p s m args c cc own nL) (hK : jx_K D cI cT s) (hP : va_P D vwCl (jx_ws cI cT cs) H) (i q k : Nat) {ce : List (Nat × jx_Sh)} {σ : jx_St} {a ci key index : Nat} {fs : List (Nat ⊕ Nat)} (hi : cs[i]? = some (ce, σ)) (hq : ce[q]? = some (a, .inr (.inl (ci, fs)))) (hf : fs[k]? = some (.inr key)) (hL : jx_FN own index ci k) (hdg : decode cc pc = .ok (.getfield index, 3))
    (kk : W p l e R s m args below meth c H locs cells slots Q (F0 m (pc + 3) ls (.int (jx_i (σ key 0)) :: rest))) : W p l e R s m args below meth c H locs cells slots Q (F0 m pc ls (.ref a :: rest)) := by
  obtain ⟨CN, T, N, hc, hin, hk, hT, hl⟩ := hL
  have h1 := jx_pos (cI := cI) (cT := cT) hi (jx_w_get hq)
  exact va_getN (v := .int (jx_i (σ key 0))) C.1 C.2.1 C.2.2.2.2 hin C.2.2.2.1 hK.1 hP _ h1 hc k hk (va_Nw.use rfl (hK.2.1 _ hl)) (fun x hx => by rw [hT] at hx; exact hx) (by simp only [List.getElem?_map, hf, Option.map_some, jx_fv]) hdg kk
theorem jx_getNR (C : jx_C p s m args c cc own nL) (hK : jx_K D cI cT s) (hP : va_P D vwCl (jx_ws cI cT cs) H) (i q k : Nat) {ce : List (Nat × jx_Sh)} {σ : jx_St} {a b ci index : Nat} {fs : List (Nat ⊕ Nat)} (hi : cs[i]? = some (ce, σ)) (hq : ce[q]? = some (a, .inr (.inl (ci, fs)))) (hf : fs[k]? = some (.inl b)) (hL : jx_FN own index ci k) (hdg : decode cc pc = .ok (.getfield index, 3))
    (kk : W p l e R s m args below meth c H locs cells slots Q (F0 m (pc + 3) ls (.ref b :: rest))) : W p l e R s m args below meth c H locs cells slots Q (F0 m pc ls (.ref a :: rest)) := by
  obtain ⟨CN, T, N, hc, hin, hk, hT, hl⟩ := hL
  have h1 := jx_pos (cI := cI) (cT := cT) hi (jx_w_get hq)
  exact va_getN (v := .ref b) C.1 C.2.1 C.2.2.2.2 hin C.2.2.2.1 hK.1 hP _ h1 hc k hk (va_Nw.use rfl (hK.2.1 _ hl)) (fun x hx => by rw [hT] at hx; exact hx) (by simp only [List.getElem?_map, hf, Option.map_some, jx_fv]) hdg kk
theorem jx_putI (C : jx_C p s m args c cc own nL) (hK : jx_K D cI cT s) (hP : va_P D vwCl (jx_ws cI cT cs) H) (hD : va_D A (jx_ws cI cT cs)) (hS : va_S A H0 H locs) (i q k : Nat) {ce : List (Nat × jx_Sh)} {σ : jx_St} {a ci key index : Nat} {fs : List (Nat ⊕ Nat)} {ty : FieldType} {v : Int} (hi : cs[i]? = some (ce, σ)) (hq : ce[q]? = some (a, .inr (.inl (ci, fs)))) (hf : fs[k]? = some (.inr key)) (hs1 : jx_sole key q ce = true) (hs2 : jx_sof key k fs = true) (hL : jx_FL own index ci k) (hW : jx_FW ci k ty) (hnar : narrow ty (.int (jx_i v)) = .int (jx_i v) ∧ fits ty (.int (jx_i v)) = true) {cs' : List jx_Cp} (hcs : cs.set i (ce, jx_su σ key 0 v) = cs') (hdg : decode cc pc = .ok (.putfield index, 3))
    (kk : ∀ (H1 : Heap) (locs1 : List Loc), va_P D vwCl (jx_ws cI cT cs') H1 → va_D A (jx_ws cI cT cs') → va_S A H0 H1 locs1 → W p l e R s m args below meth c H1 locs1 cells slots Q (F0 m (pc + 3) ls rest)) : W p l e R s m args below meth c H locs cells slots Q (F0 m pc ls (.int (jx_i v) :: .ref a :: rest)) := by
  obtain ⟨CN, T, N, hc, hin, hk, hT, hl⟩ := hL
  obtain ⟨CN', T', N', ty0, hc', hty, hnm, hfin, hd⟩ := hW
  have hE := hc.symm.trans hc'
  simp only [Option.some.injEq, Prod.mk.injEq] at hE
  obtain ⟨rfl, rfl, rfl⟩ := hE
  obtain ⟨k0, h1, h2⟩ := jx_flat (cI := cI) (cT := cT) hi (jx_w_get hq)
  have hlen : k < fs.length := (List.getElem?_eq_some_iff.mp hf).1
  have hset := h2 (a, .inr (ci, (fs.map (jx_fv σ)).set k (.int (jx_i v)))) (ce, jx_su σ key 0 v) (by rw [jx_w_su hq hs1]; simp only [jx_ce, jx_fs_su hf hs2])
  rw [hcs] at hset
  refine va_put (v := .int (jx_i v)) C.1 C.2.1 C.2.2.2.2 hin ty0 hty hnm C.2.2.2.1 hK.1 hP hD hS k0 h1 hc k hk (C.2.2.2.2 _ hl) (fun x hx => by rw [hT] at hx; exact hx) hfin hd hnar.1 hnar.2 (by rw [List.length_map]; exact hlen) hdg (fun H1 locs1 hP1 hD1 hS1 => ?_)
  rw [hset] at hP1 hD1
  exact kk H1 locs1 hP1 hD1 hS1
theorem jx_putNI (C : jx_C p s m args c cc own nL) (hK : jx_K D cI cT s) (hP : va_P D vwCl (jx_ws cI cT cs) H) (hD : va_D A (jx_ws cI cT cs)) (hS : va_S A H0 H locs) (i q k : Nat) {ce : List (Nat × jx_Sh)} {σ : jx_St} {a ci key index : Nat} {fs : List (Nat ⊕ Nat)} {ty : FieldType} {v : Int} (hi : cs[i]? = some (ce, σ)) (hq : ce[q]? = some (a, .inr (.inl (ci, fs)))) (hf : fs[k]? = some (.inr key)) (hs1 : jx_sole key q ce = true) (hs2 : jx_sof key k fs = true) (hL : jx_FN own index ci k) (hW : jx_FW ci k ty) (hnar : narrow ty (.int (jx_i v)) = .int (jx_i v) ∧ fits ty (.int (jx_i v)) = true) {cs' : List jx_Cp} (hcs : cs.set i (ce, jx_su σ key 0 v) = cs') (hdg : decode cc pc = .ok (.putfield index, 3))
    (kk : ∀ (H1 : Heap) (locs1 : List Loc), va_P D vwCl (jx_ws cI cT cs') H1 → va_D A (jx_ws cI cT cs') → va_S A H0 H1 locs1 → W p l e R s m args below meth c H1 locs1 cells slots Q (F0 m (pc + 3) ls rest)) : W p l e R s m args below meth c H locs cells slots Q (F0 m pc ls (.int (jx_i v) :: .ref a :: rest)) := by
  obtain ⟨CN, T, N, hc, hin, hk, hT, hl⟩ := hL
  obtain ⟨CN', T', N', ty0, hc', hty, hnm, hfin, hd⟩ := hW
  have hE := hc.symm.trans hc'
  simp only [Option.some.injEq, Prod.mk.injEq] at hE
  obtain ⟨rfl, rfl, rfl⟩ := hE
  obtain ⟨k0, h1, h2⟩ := jx_flat (cI := cI) (cT := cT) hi (jx_w_get hq)
  have hlen : k < fs.length := (List.getElem?_eq_some_iff.mp hf).1
  have hset := h2 (a, .inr (ci, (fs.map (jx_fv σ)).set k (.int (jx_i v)))) (ce, jx_su σ key 0 v) (by rw [jx_w_su hq hs1]; simp only [jx_ce, jx_fs_su hf hs2])
  rw [hcs] at hset
  refine va_putN (v := .int (jx_i v)) C.1 C.2.1 C.2.2.2.2 hin ty0 hty hnm C.2.2.2.1 hK.1 hP hD hS k0 h1 hc k hk (va_Nw.use rfl (hK.2.1 _ hl)) (fun x hx => by rw [hT] at hx; exact hx) hfin hd hnar.1 hnar.2 (by rw [List.length_map]; exact hlen) hdg (fun H1 locs1 hP1 hD1 hS1 => ?_)
  rw [hset] at hP1 hD1
  exact kk H1 locs1 hP1 hD1 hS1
theorem jx_iald (C : jx_C p s m args c cc own nL) (hK : jx_K D cI cT s) (hP : va_P D vwCl (jx_ws cI cT cs) H) (i q : Nat) {ce : List (Nat × jx_Sh)} {σ : jx_St} {a k n : Nat} {ix : Int} (hi : cs[i]? = some (ce, σ)) (hq : ce[q]? = some (a, .inl (k, n))) (hn : Nat.ble n 2147483647 = true) (hB : jx_B ix n) (hdg : decode cc pc = .ok (.iaload, 1))
    (kk : W p l e R s m args below meth c H locs cells slots Q (F0 m (pc + 1) ls (.int (jx_i (σ k ix)) :: rest))) : W p l e R s m args below meth c H locs cells slots Q (F0 m pc ls (.int (jx_i ix) :: .ref a :: rest)) := by
  have h1 := jx_pos (cI := cI) (cT := cT) hi (jx_w_get hq)
  have hn' := Nat.le_of_ble_eq_true hn
  refine va_iald C.1 C.2.1 hK.1 hP _ 0 h1 rfl (hB.vp hn') hdg ?_
  rw [jx_nat (hB.R hn'), Int.toNat_of_nonneg hB.1]
  exact kk
theorem jx_iast (C : jx_C p s m args c cc own nL) (hK : jx_K D cI cT s) (hP : va_P D vwCl (jx_ws cI cT cs) H) (hD : va_D A (jx_ws cI cT cs)) (hS : va_S A H0 H locs) (i q : Nat) {ce : List (Nat × jx_Sh)} {σ : jx_St} {a k n : Nat} {ix v : Int} (hi : cs[i]? = some (ce, σ)) (hq : ce[q]? = some (a, .inl (k, n))) (hs1 : jx_sole k q ce = true) (hn : Nat.ble n 2147483647 = true) (hB : jx_B ix n) {cs' : List jx_Cp} (hcs : cs.set i (ce, jx_su σ k ix v) = cs') (hdg : decode cc pc = .ok (.iastore, 1))
    (kk : ∀ (H1 : Heap) (locs1 : List Loc), va_P D vwCl (jx_ws cI cT cs') H1 → va_D A (jx_ws cI cT cs') → va_S A H0 H1 locs1 → W p l e R s m args below meth c H1 locs1 cells slots Q (F0 m (pc + 1) ls rest)) : W p l e R s m args below meth c H locs cells slots Q (F0 m pc ls (.int (jx_i v) :: .int (jx_i ix) :: .ref a :: rest)) := by
  have hn' := Nat.le_of_ble_eq_true hn
  obtain ⟨k0, h1, h2⟩ := jx_flat (cI := cI) (cT := cT) hi (jx_w_get hq)
  have hset := h2 (a, jx_ce cI cT (jx_su σ k ix v) (.inl (k, n))) (ce, jx_su σ k ix v) (jx_w_su hq hs1)
  rw [hcs, jx_ce_arr hB.1] at hset
  refine va_iast C.1 C.2.1 hK.1 hP hD hS k0 0 h1 rfl (hB.vp hn') hdg (fun H1 locs1 hP1 hD1 hS1 => ?_)
  rw [jx_nat (hB.R hn'), hset] at hP1 hD1
  exact kk H1 locs1 hP1 hD1 hS1
theorem jx_alen (C : jx_C p s m args c cc own nL) (hK : jx_K D cI cT s) (hP : va_P D vwCl (jx_ws cI cT cs) H) (i q : Nat) {ce : List (Nat × jx_Sh)} {σ : jx_St} {a k n : Nat} (hi : cs[i]? = some (ce, σ)) (hq : ce[q]? = some (a, .inl (k, n))) (hdg : decode cc pc = .ok (.arraylength, 1))
    (kk : W p l e R s m args below meth c H locs cells slots Q (F0 m (pc + 1) ls (.int (jx_i (n : Int)) :: rest))) : W p l e R s m args below meth c H locs cells slots Q (F0 m pc ls (.ref a :: rest)) := by
  have h1 := jx_pos (cI := cI) (cT := cT) hi (jx_w_get hq)
  exact va_alen (v := jx_i (n : Int)) C.1 C.2.1 hK.1 hP _ 0 h1 rfl rfl hdg kk
end JX3
