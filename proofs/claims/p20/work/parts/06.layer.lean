section JX1
/-! ===== numbers: an Int stands for the int that it wraps to ===== -/
def jx_i (a : Int) : Int32 := Int32.ofInt a
def jx_R (a : Int) : Prop := -2147483648 ≤ a ∧ a ≤ 2147483647
def jx_B (i : Int) (n : Nat) : Prop := 0 ≤ i ∧ i < (n : Int)
theorem jx_i_add (a b : Int) : jx_i a + jx_i b = jx_i (a + b) := (Int32.ofInt_add a b).symm
theorem jx_i_sub (a b : Int) : jx_i a - jx_i b = jx_i (a - b) := (Int32.ofInt_sub a b).symm
theorem jx_i_mul (a b : Int) : jx_i a * jx_i b = jx_i (a * b) := (Int32.ofInt_mul a b).symm
theorem jx_toInt {a : Int} (h : jx_R a) : (jx_i a).toInt = a := Int32.toInt_ofInt_of_le (by have := h.1; omega) (by have := h.2; omega)
theorem jx_ofToInt (x : Int32) : jx_i x.toInt = x := Int32.ofInt_toInt x
theorem jx_Rt (x : Int32) : jx_R x.toInt := ⟨by have := Int32.le_toInt x; omega, by have := Int32.toInt_lt x; omega⟩
theorem jx_lt {a b : Int} (ha : jx_R a) (hb : jx_R b) : jx_i a < jx_i b ↔ a < b := by rw [Int32.lt_iff_toInt_lt, jx_toInt ha, jx_toInt hb]
theorem jx_le {a b : Int} (ha : jx_R a) (hb : jx_R b) : jx_i a ≤ jx_i b ↔ a ≤ b := by rw [Int32.le_iff_toInt_le, jx_toInt ha, jx_toInt hb]
theorem jx_eq {a b : Int} (ha : jx_R a) (hb : jx_R b) : jx_i a = jx_i b ↔ a = b := by rw [← Int32.toInt_inj, jx_toInt ha, jx_toInt hb]
theorem jx_B.R {i : Int} {n : Nat} (h : jx_B i n) (hn : n ≤ 2147483647) : jx_R i := ⟨by have := h.1; omega, by have := h.2; omega⟩
theorem jx_B.vp {i : Int} {n : Nat} (h : jx_B i n) (hn : n ≤ 2147483647) : vp_in (jx_i i) n := vp_in_iff.mpr (by rw [jx_toInt (h.R hn)]; exact h)
theorem jx_nat {i : Int} (h : jx_R i) : (jx_i i).toNatClampNeg = i.toNat := by
  show (jx_i i).toInt.toNat = i.toNat
  rw [jx_toInt h]
def jx_and (a b : Int) : Int := (jx_i a &&& jx_i b).toInt
def jx_or (a b : Int) : Int := (jx_i a ||| jx_i b).toInt
def jx_xor (a b : Int) : Int := (jx_i a ^^^ jx_i b).toInt
def jx_shl (a b : Int) : Int := (jx_i a <<< (jx_i b &&& 31)).toInt
def jx_shr (a b : Int) : Int := (jx_i a >>> (jx_i b &&& 31)).toInt
def jx_div (a b : Int) : Int := (jx_i a / jx_i b).toInt
def jx_rem (a b : Int) : Int := (jx_i a - jx_i a / jx_i b * jx_i b).toInt
/-! ===== a component of the world: its cells, and what its numbers are ===== -/
abbrev jx_St : Type := Nat → Int → Int
def jx_su (σ : jx_St) (k : Nat) (i v : Int) : jx_St := fun k' i' => if k' = k ∧ i' = i then v else σ k' i'
abbrev jx_Sh : Type := (Nat × Nat) ⊕ ((Nat × List (Nat ⊕ Nat)) ⊕ List Nat)
abbrev jx_Cp : Type := List (Nat × jx_Sh) × jx_St
def jx_fv (σ : jx_St) : Nat ⊕ Nat → Value := fun f => match f with
  | .inl a => .ref a
  | .inr k => .int (jx_i (σ k 0))
def jx_ce (cI cT : ClassId) (σ : jx_St) : jx_Sh → va_E := fun sh => match sh with
  | .inl q => .inl (cI, q.2, .inl (fun j : Nat => jx_i (σ q.1 (j : Int))))
  | .inr (.inl o) => .inr (o.1, o.2.map (jx_fv σ))
  | .inr (.inr l) => .inl (cT, l.length, .inr (.inr (.inr (.inr (fun j => l[j]?)))))
def jx_w (cI cT : ClassId) (c : jx_Cp) : va_W := c.1.map (fun q => (q.1, jx_ce cI cT c.2 q.2))
def jx_ws (cI cT : ClassId) (cs : List jx_Cp) : va_W := cs.flatMap (jx_w cI cT)
def jx_ty (cI cT : ClassId) : List (ClassId × FieldType) := [(cI, .int), (cT, .object "BoxCourt$Tree")]
def jx_hask (k : Nat) : jx_Sh → Bool := fun sh => match sh with
  | .inl q => q.1 == k
  | .inr (.inl o) => o.2.any (fun f => match f with
    | .inl _ => false
    | .inr k' => k' == k)
  | .inr (.inr _) => false
def jx_sole (k : Nat) : Nat → List (Nat × jx_Sh) → Bool
  | _, [] => true
  | 0, _ :: cs => cs.all (fun c => !jx_hask k c.2)
  | q + 1, c :: cs => !jx_hask k c.2 && jx_sole k q cs
def jx_sof (k : Nat) : Nat → List (Nat ⊕ Nat) → Bool
  | _, [] => true
  | 0, _ :: cs => cs.all (fun f => match f with
    | .inl _ => true
    | .inr k' => !(k' == k))
  | q + 1, f :: cs => (match f with
    | .inl _ => true
    | .inr k' => !(k' == k)) && jx_sof k q cs
theorem jx_sole_spec {k : Nat} : ∀ {cells : List (Nat × jx_Sh)} {q j : Nat} {c : Nat × jx_Sh}, jx_sole k q cells = true → cells[j]? = some c → j ≠ q → jx_hask k c.2 = false := by
  intro cells
  induction cells with
  | nil => intro q j c _ h; simp at h
  | cons d ds ih =>
    intro q j c hs hj hn
    cases q with
    | zero =>
      cases j with
      | zero => exact absurd rfl hn
      | succ j =>
        have h1 := List.all_eq_true.mp hs c (List.mem_of_getElem? (show ds[j]? = some c from by simpa using hj))
        simpa using h1
    | succ q =>
      simp only [jx_sole, Bool.and_eq_true] at hs
      cases j with
      | zero =>
        have e : d = c := by simpa using hj
        subst e
        simpa using hs.1
      | succ j => exact ih hs.2 (show ds[j]? = some c from by simpa using hj) (fun e => hn (by rw [e]))
theorem jx_sof_spec {k : Nat} : ∀ {fs : List (Nat ⊕ Nat)} {q j : Nat} {f : Nat ⊕ Nat}, jx_sof k q fs = true → fs[j]? = some f → j ≠ q → f ≠ .inr k := by
  intro cells
  induction cells with
  | nil => intro q j c _ h; simp at h
  | cons d ds ih =>
    intro q j c hs hj hn
    cases q with
    | zero =>
      cases j with
      | zero => exact absurd rfl hn
      | succ j =>
        have h1 := List.all_eq_true.mp hs c (List.mem_of_getElem? (show ds[j]? = some c from by simpa using hj))
        intro e
        subst e
        simp at h1
    | succ q =>
      simp only [jx_sof, Bool.and_eq_true] at hs
      cases j with
      | zero =>
        have e : d = c := by simpa using hj
        subst e
        intro e
        subst e
        simp at hs
      | succ j => exact ih hs.2 (show ds[j]? = some c from by simpa using hj) (fun e => hn (by rw [e]))
theorem jx_su_ne {σ : jx_St} {k k' : Nat} {i i' v : Int} (h : k' ≠ k) : jx_su σ k i v k' i' = σ k' i' := by simp [jx_su, h]
theorem jx_su_eq {σ : jx_St} {k : Nat} {i v : Int} : jx_su σ k i v k i = v := by simp [jx_su]
theorem jx_su_same {σ : jx_St} {k : Nat} {i i' v : Int} : jx_su σ k i v k i' = if i' = i then v else σ k i' := by simp [jx_su]
theorem jx_fv_su {σ : jx_St} {k : Nat} {i v : Int} {f : Nat ⊕ Nat} (h : f ≠ .inr k) : jx_fv (jx_su σ k i v) f = jx_fv σ f := by
  cases f with
  | inl a => rfl
  | inr k' =>
    have hk : k' ≠ k := fun e => h (by rw [e])
    simp only [jx_fv, jx_su_ne hk]
theorem jx_ce_su {cI cT : ClassId} {σ : jx_St} {k : Nat} {i v : Int} {sh : jx_Sh} (h : jx_hask k sh = false) : jx_ce cI cT (jx_su σ k i v) sh = jx_ce cI cT σ sh := by
  rcases sh with ⟨k', n⟩ | ⟨ci, fs⟩ | l
  · have hk : k' ≠ k := by simpa [jx_hask] using h
    simp only [jx_ce, jx_su_ne hk]
  · simp only [jx_ce]
    have h2 : fs.map (jx_fv (jx_su σ k i v)) = fs.map (jx_fv σ) := by
      apply List.map_congr_left
      intro f hf
      apply jx_fv_su
      intro e
      subst e
      simp only [jx_hask, List.any_eq_false] at h
      have := h _ hf
      simp at this
    rw [h2]
  · rfl
theorem jx_ce_arr {cI cT : ClassId} {σ : jx_St} {k n : Nat} {i v : Int} (hi : 0 ≤ i) : jx_ce cI cT (jx_su σ k i v) (.inl (k, n)) = .inl (cI, n, .inl (upd (fun j : Nat => jx_i (σ k (j : Int))) i.toNat (jx_i v))) := by
  simp only [jx_ce]
  congr 3
  congr 1
  funext j
  simp only [upd, jx_su_same]
  by_cases hj : j = i.toNat
  · subst hj
    rw [if_pos rfl, if_pos (by omega)]
  · rw [if_neg hj, if_neg (by omega)]
theorem jx_fs_su {σ : jx_St} {k f : Nat} {v : Int} {fs : List (Nat ⊕ Nat)} (hf : fs[f]? = some (.inr k)) (hs : jx_sof k f fs = true) : fs.map (jx_fv (jx_su σ k 0 v)) = (fs.map (jx_fv σ)).set f (.int (jx_i v)) := by
  apply List.ext_getElem?
  intro j
  rw [List.getElem?_map, List.getElem?_set]
  by_cases hj : f = j
  · subst hj
    have hl : f < fs.length := (List.getElem?_eq_some_iff.mp hf).1
    rw [if_pos rfl, hf, if_pos (by rw [List.length_map]; exact hl)]
    simp only [Option.map_some, jx_fv, jx_su_eq]
  · rw [if_neg hj, List.getElem?_map]
    cases h : fs[j]? with
    | none => rfl
    | some g =>
      simp only [Option.map_some]
      rw [jx_fv_su (jx_sof_spec hs h (fun e => hj e.symm))]
theorem jx_w_get {cI cT : ClassId} {cells : List (Nat × jx_Sh)} {σ : jx_St} {q a : Nat} {sh : jx_Sh} (h : cells[q]? = some (a, sh)) : (jx_w cI cT (cells, σ))[q]? = some (a, jx_ce cI cT σ sh) := by
  simp only [jx_w, List.getElem?_map, h, Option.map_some]
theorem jx_w_su {cI cT : ClassId} {cells : List (Nat × jx_Sh)} {σ : jx_St} {q a k : Nat} {i v : Int} {sh : jx_Sh} (h : cells[q]? = some (a, sh)) (hs : jx_sole k q cells = true) : jx_w cI cT (cells, jx_su σ k i v) = (jx_w cI cT (cells, σ)).set q (a, jx_ce cI cT (jx_su σ k i v) sh) := by
  apply List.ext_getElem?
  intro j
  rw [List.getElem?_set]
  by_cases hj : q = j
  · subst hj
    have hl : q < cells.length := (List.getElem?_eq_some_iff.mp h).1
    rw [jx_w_get h, if_pos rfl, if_pos (by simp only [jx_w, List.length_map]; exact hl)]
  · rw [if_neg hj]
    simp only [jx_w, List.getElem?_map]
    cases hc : cells[j]? with
    | none => rfl
    | some d =>
      simp only [Option.map_some]
      rw [jx_ce_su (jx_sole_spec hs hc (fun e => hj e.symm))]
theorem jx_flat {cI cT : ClassId} : ∀ {cs : List jx_Cp} {i q : Nat} {c : jx_Cp} {x : Nat × va_E}, cs[i]? = some c → (jx_w cI cT c)[q]? = some x → ∃ k, (jx_ws cI cT cs)[k]? = some x ∧ ∀ x' c', jx_w cI cT c' = (jx_w cI cT c).set q x' → (jx_ws cI cT cs).set k x' = jx_ws cI cT (cs.set i c') := by
  intro cs
  induction cs with
  | nil => intro i q c x h; simp at h
  | cons d ds ih =>
    intro i q c x hc hx
    have hq : q < (jx_w cI cT c).length := (List.getElem?_eq_some_iff.mp hx).1
    cases i with
    | zero =>
      have e : d = c := by simpa using hc
      subst e
      refine ⟨q, ?_, ?_⟩
      · show (jx_w cI cT d ++ jx_ws cI cT ds)[q]? = some x
        rw [List.getElem?_append_left hq]
        exact hx
      · intro x' c' h'
        show (jx_w cI cT d ++ jx_ws cI cT ds).set q x' = jx_w cI cT c' ++ jx_ws cI cT ds
        rw [List.set_append_left _ _ hq, h']
    | succ i =>
      obtain ⟨k, h1, h2⟩ := ih (show ds[i]? = some c from by simpa using hc) hx
      refine ⟨(jx_w cI cT d).length + k, ?_, ?_⟩
      · show (jx_w cI cT d ++ jx_ws cI cT ds)[(jx_w cI cT d).length + k]? = some x
        rw [List.getElem?_append_right (by omega), Nat.add_sub_cancel_left]
        exact h1
      · intro x' c' h'
        show (jx_w cI cT d ++ jx_ws cI cT ds).set ((jx_w cI cT d).length + k) x' = jx_w cI cT d ++ jx_ws cI cT (ds.set i c')
        rw [List.set_append_right _ _ (by omega), Nat.add_sub_cancel_left, h2 x' c' h']
end JX1
