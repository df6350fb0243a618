/-! ===== the world's cells, apart; a call's join ===== -/
section JX2
def jx_off (cI cT : ClassId) : List jx_Cp → Nat → Nat
  | [], _ => 0
  | _, 0 => 0
  | d :: ds, i + 1 => (jx_w cI cT d).length + jx_off cI cT ds i
theorem jx_pos {cI cT : ClassId} : ∀ {cs : List jx_Cp} {i q : Nat} {c : jx_Cp} {x : Nat × va_E}, cs[i]? = some c → (jx_w cI cT c)[q]? = some x → (jx_ws cI cT cs)[jx_off cI cT cs i + q]? = some x := by
  intro cs
  induction cs with
  | nil => intro i q c x h; simp at h
  | cons d ds ih =>
    intro i q c x hc hx
    have hq : q < (jx_w cI cT c).length := (List.getElem?_eq_some_iff.mp hx).1
    cases i with
    | zero =>
      have e : d = c := by simpa using hc
      subst e
      show (jx_w cI cT d ++ jx_ws cI cT ds)[0 + q]? = some x
      rw [Nat.zero_add, List.getElem?_append_left hq]
      exact hx
    | succ i =>
      show (jx_w cI cT d ++ jx_ws cI cT ds)[(jx_w cI cT d).length + jx_off cI cT ds i + q]? = some x
      rw [List.getElem?_append_right (by omega), Nat.add_assoc, Nat.add_sub_cancel_left]
      exact ih (show ds[i]? = some c from by simpa using hc) hx
theorem jx_off_lt {cI cT : ClassId} : ∀ {cs : List jx_Cp} {i j : Nat} {c : jx_Cp}, cs[i]? = some c → i < j → jx_off cI cT cs i + (jx_w cI cT c).length ≤ jx_off cI cT cs j := by
  intro cs
  induction cs with
  | nil => intro i j c h; simp at h
  | cons d ds ih =>
    intro i j c hc hij
    cases j with
    | zero => omega
    | succ j =>
      cases i with
      | zero =>
        have e : d = c := by simpa using hc
        subst e
        simp only [jx_off]
        omega
      | succ i =>
        have := ih (show ds[i]? = some c from by simpa using hc) (show i < j by omega)
        simp only [jx_off]
        omega
theorem jx_mem {cI cT : ClassId} {cs : List jx_Cp} {x : Nat × va_E} : x ∈ jx_ws cI cT cs ↔ ∃ (i : Nat) (c : jx_Cp), cs[i]? = some c ∧ x ∈ jx_w cI cT c := by
  unfold jx_ws
  rw [List.mem_flatMap]
  constructor
  · rintro ⟨c, hc, hx⟩
    obtain ⟨i, hi⟩ := List.mem_iff_getElem?.mp hc
    exact ⟨i, c, hi, hx⟩
  · rintro ⟨i, c, hi, hx⟩
    exact ⟨c, List.mem_of_getElem? hi, hx⟩
theorem jx_apart {cI cT : ClassId} {A : Nat → Prop} {cs : List jx_Cp} (hD : va_D A (jx_ws cI cT cs)) {i j : Nat} {c d : jx_Cp} {x y : Nat × va_E} (hi : cs[i]? = some c) (hj : cs[j]? = some d) (hij : i ≠ j) (hx : x ∈ jx_w cI cT c) (hy : y ∈ jx_w cI cT d) : x.1 ≠ y.1 := by
  intro e
  obtain ⟨q, hq⟩ := List.mem_iff_getElem?.mp hx
  obtain ⟨r, hr⟩ := List.mem_iff_getElem?.mp hy
  have h1 := hD.1 _ _ _ _ (jx_pos hi hq) (jx_pos hj hr) e
  have l1 : q < (jx_w cI cT c).length := (List.getElem?_eq_some_iff.mp hq).1
  have l2 : r < (jx_w cI cT d).length := (List.getElem?_eq_some_iff.mp hr).1
  rcases Nat.lt_or_gt_of_ne hij with h | h
  · have := jx_off_lt (cI := cI) (cT := cT) hi h
    omega
  · have := jx_off_lt (cI := cI) (cT := cT) hj h
    omega
theorem jx_fst {cI cT : ClassId} : ∀ {cs cs' : List jx_Cp}, cs'.map Prod.fst = cs.map Prod.fst → (jx_ws cI cT cs').map Prod.fst = (jx_ws cI cT cs).map Prod.fst := by
  intro cs
  induction cs with
  | nil =>
    intro cs' h
    have : cs' = [] := by simpa using h
    subst this
    rfl
  | cons d ds ih =>
    intro cs' h
    cases cs' with
    | nil => simp at h
    | cons d' ds' =>
      simp only [List.map_cons, List.cons.injEq] at h
      show (jx_w cI cT d' ++ jx_ws cI cT ds').map Prod.fst = (jx_w cI cT d ++ jx_ws cI cT ds).map Prod.fst
      rw [List.map_append, List.map_append, ih h.2]
      congr 1
      simp only [jx_w, List.map_map]
      rw [h.1]
      rfl
theorem jx_D_fst {A : Nat → Prop} {ws ws' : va_W} (h : ws'.map Prod.fst = ws.map Prod.fst) (hD : va_D A ws) : va_D A ws' := by
  have key : ∀ (i : Nat) (p : Nat × va_E), ws'[i]? = some p → ∃ p0, ws[i]? = some p0 ∧ p0.1 = p.1 := by
    intro i p hp
    have h1 : (ws'.map Prod.fst)[i]? = some p.1 := by rw [List.getElem?_map, hp]; rfl
    rw [h, List.getElem?_map] at h1
    cases h2 : ws[i]? with
    | none => rw [h2] at h1; cases h1
    | some p0 => rw [h2] at h1; exact ⟨p0, rfl, Option.some.inj h1⟩
  refine ⟨fun i j p q hi hj e => ?_, fun k q hk => ?_⟩
  · obtain ⟨p0, a1, b1⟩ := key i p hi
    obtain ⟨q0, a2, b2⟩ := key j q hj
    exact hD.1 i j p0 q0 a1 a2 (by rw [b1, b2, e])
  · obtain ⟨q0, a1, b1⟩ := key k q hk
    rw [← b1]
    exact hD.2 k q0 a1
theorem jx_D_same {cI cT : ClassId} {A : Nat → Prop} {cs cs' : List jx_Cp} (h : cs'.map Prod.fst = cs.map Prod.fst) (hD : va_D A (jx_ws cI cT cs)) : va_D A (jx_ws cI cT cs') := jx_D_fst (jx_fst h) hD
def jx_put : List jx_Cp → List Nat → List jx_Cp → List jx_Cp
  | cs, i :: is, c :: r => jx_put (cs.set i c) is r
  | cs, _, _ => cs
theorem jx_put_get : ∀ {is : List Nat} {r cs : List jx_Cp} {i : Nat} {c : jx_Cp}, is.length = r.length → (jx_put cs is r)[i]? = some c → c ∈ r ∨ (i ∉ is ∧ cs[i]? = some c) := by
  intro is
  induction is with
  | nil => intro r cs i c _ h; exact Or.inr ⟨List.not_mem_nil, by simpa [jx_put] using h⟩
  | cons i0 is ih =>
    intro r cs i c hl h
    cases r with
    | nil => simp at hl
    | cons c0 r =>
      rcases ih (by simpa using hl) (show (jx_put (cs.set i0 c0) is r)[i]? = some c from h) with h1 | ⟨h1, h2⟩
      · exact Or.inl (List.mem_cons_of_mem _ h1)
      · rw [List.getElem?_set] at h2
        by_cases e : i0 = i
        · subst e
          rw [if_pos rfl] at h2
          split at h2
          · exact Or.inl (by rw [← Option.some.inj h2]; exact List.mem_cons_self)
          · cases h2
        · rw [if_neg e] at h2
          refine Or.inr ⟨fun hm => ?_, h2⟩
          rcases List.mem_cons.mp hm with h3 | h3
          · exact e h3.symm
          · exact h1 h3
theorem jx_pick {cs ccs : List jx_Cp} {is : List Nat} (his : is.map (fun i => cs[i]?) = ccs.map some) {j : Nat} {c : jx_Cp} (h : ccs[j]? = some c) : ∃ i, i ∈ is ∧ is[j]? = some i ∧ cs[i]? = some c := by
  have h1 : (is.map (fun i => cs[i]?))[j]? = some (some c) := by rw [his, List.getElem?_map, h]; rfl
  rw [List.getElem?_map] at h1
  cases h2 : is[j]? with
  | none => rw [h2] at h1; cases h1
  | some i => rw [h2] at h1; exact ⟨i, List.mem_of_getElem? h2, rfl, Option.some.inj h1⟩
theorem jx_P_sub {cI cT : ClassId} {D : va_G} {cs ccs : List jx_Cp} {H : Heap} (hP : va_P D vwCl (jx_ws cI cT cs) H) {is : List Nat} (his : is.map (fun i => cs[i]?) = ccs.map some) : va_P D vwCl (jx_ws cI cT ccs) H := by
  intro k x hk
  obtain ⟨j, c, hj, hx⟩ := jx_mem.mp (List.mem_of_getElem? hk)
  obtain ⟨i, -, -, hi⟩ := jx_pick his hj
  obtain ⟨k', hk'⟩ := List.mem_iff_getElem?.mp (jx_mem.mpr ⟨i, c, hi, hx⟩)
  exact hP k' x hk'
theorem jx_D_sub {cI cT : ClassId} {A : Nat → Prop} {cs ccs : List jx_Cp} (hD : va_D A (jx_ws cI cT cs)) {is : List Nat} (his : is.map (fun i => cs[i]?) = ccs.map some) (hnd : va_nd is = true) : va_D A (jx_ws cI cT ccs) := by
  have pos : ∀ {k : Nat} {x : Nat × va_E}, (jx_ws cI cT ccs)[k]? = some x → ∃ (j q : Nat) (c : jx_Cp), ccs[j]? = some c ∧ (jx_w cI cT c)[q]? = some x ∧ k = jx_off cI cT ccs j + q := by
    have gen : ∀ (l : List jx_Cp) (k : Nat) (x : Nat × va_E), (jx_ws cI cT l)[k]? = some x → ∃ (j q : Nat) (c : jx_Cp), l[j]? = some c ∧ (jx_w cI cT c)[q]? = some x ∧ k = jx_off cI cT l j + q := by
      intro l
      induction l with
      | nil => intro k x h; simp [jx_ws] at h
      | cons d ds ih =>
        intro k x h
        have h0 : (jx_w cI cT d ++ jx_ws cI cT ds)[k]? = some x := h
        by_cases hk : k < (jx_w cI cT d).length
        · rw [List.getElem?_append_left hk] at h0
          exact ⟨0, k, d, rfl, h0, by simp only [jx_off]; omega⟩
        · rw [List.getElem?_append_right (by omega)] at h0
          obtain ⟨j, q, c, h1, h2, h3⟩ := ih _ _ h0
          exact ⟨j + 1, q, c, by simpa using h1, h2, by simp only [jx_off]; omega⟩
    intro k x h
    exact gen _ _ _ h
  refine ⟨fun k1 k2 x y h1 h2 e => ?_, fun k x hk => ?_⟩
  · obtain ⟨j1, q1, c1, a1, b1, e1⟩ := pos h1
    obtain ⟨j2, q2, c2, a2, b2, e2⟩ := pos h2
    obtain ⟨i1, -, m1, n1⟩ := jx_pick his a1
    obtain ⟨i2, -, m2, n2⟩ := jx_pick his a2
    by_cases hi : i1 = i2
    · subst hi
      have hj : j1 = j2 := va_nd_inj is hnd j1 j2 i1 m1 m2
      subst hj
      have hc : c1 = c2 := Option.some.inj (n1.symm.trans n2)
      subst hc
      have := hD.1 _ _ _ _ (jx_pos n1 b1) (jx_pos n1 b2) e
      omega
    · exact absurd e (jx_apart hD n1 n2 hi (List.mem_of_getElem? b1) (List.mem_of_getElem? b2))
  · obtain ⟨j1, q1, c1, a1, b1, e1⟩ := pos hk
    obtain ⟨i1, -, m1, n1⟩ := jx_pick his a1
    exact hD.2 _ _ (jx_pos n1 b1)
theorem jx_free {cI cT : ClassId} {A : Nat → Prop} {cs ccs : List jx_Cp} {H0 H : Heap} {locs : List Loc} (hD : va_D A (jx_ws cI cT cs)) (hS : va_S A H0 H locs) (hA : ∀ q, H0.size ≤ q → A q) {is : List Nat} (his : is.map (fun i => cs[i]?) = ccs.map some) : ∀ q, va_A (jx_ws cI cT ccs) H.size q → A q := by
  intro q h
  rcases h with ⟨k, e, h⟩ | h
  · obtain ⟨j, c, hj, hx⟩ := jx_mem.mp (List.mem_of_getElem? h)
    obtain ⟨i, -, -, hi⟩ := jx_pick his hj
    obtain ⟨r, hr⟩ := List.mem_iff_getElem?.mp hx
    exact hD.2 _ _ (jx_pos hi hr)
  · exact hA q (Nat.le_trans hS.1 h)
theorem jx_join {cI cT : ClassId} {D : va_G} {A : Nat → Prop} {cs ccs ccs' cs' : List jx_Cp} {H H1 : Heap} (hP : va_P D vwCl (jx_ws cI cT cs) H) (hD : va_D A (jx_ws cI cT cs)) {is : List Nat} (his : is.map (fun i => cs[i]?) = ccs.map some) (hfst : ccs'.map Prod.fst = ccs.map Prod.fst) (hput : jx_put cs is ccs' = cs') (hk : ∀ q : Nat, q < H.size → ¬ va_A (jx_ws cI cT ccs) H.size q → H1[q]? = H[q]?) (hP1 : va_P D vwCl (jx_ws cI cT ccs') H1) : va_P D vwCl (jx_ws cI cT cs') H1 := by
  have hl : is.length = ccs'.length := by
    have h1 : (is.map (fun i => cs[i]?)).length = (ccs.map some).length := by rw [his]
    have h2 : (ccs'.map Prod.fst).length = (ccs.map Prod.fst).length := by rw [hfst]
    simp only [List.length_map] at h1 h2
    omega
  intro k x hkx
  obtain ⟨i, c, hi, hx⟩ := jx_mem.mp (List.mem_of_getElem? hkx)
  rw [← hput] at hi
  rcases jx_put_get hl hi with h | ⟨h1, h2⟩
  · obtain ⟨j, hj⟩ := List.mem_iff_getElem?.mp h
    obtain ⟨k', hk'⟩ := List.mem_iff_getElem?.mp (jx_mem.mpr ⟨j, c, hj, hx⟩)
    exact hP1 k' x hk'
  · obtain ⟨r, hr⟩ := List.mem_iff_getElem?.mp hx
    have hat := hP _ _ (jx_pos h2 hr)
    have hlt := hat.lt
    refine hat.kept (hk x.1 hlt (fun hA => ?_))
    rcases hA with ⟨k2, e, hA⟩ | hA
    · obtain ⟨j, d, hj, hy⟩ := jx_mem.mp (List.mem_of_getElem? hA)
      obtain ⟨i2, m2, -, n2⟩ := jx_pick his hj
      exact jx_apart hD h2 n2 (fun e => h1 (by rw [e]; exact m2)) hx hy rfl
    · omega
end JX2
