/-! ===== the property: isTree ===== -/
theorem q_lesser {Q : Int → Prop} {a b : Int} (ha : jx_R a) (hb : jx_R b) (h : Q (min a b)) : wp_L_lesser Q a b :=
  ⟨ha, hb, fun c => by rw [show min a b = a by omega] at h; exact h, fun c => by rw [show min a b = b by omega] at h; exact h⟩
theorem q_greater {Q : Int → Prop} {a b : Int} (ha : jx_R a) (hb : jx_R b) (h : Q (max a b)) : wp_L_greater Q a b :=
  ⟨ha, hb, fun c => by rw [show max a b = b by omega] at h; exact h, fun c => by rw [show max a b = a by omega] at h; exact h⟩
def mnI (f : Int → Int) (T : Int → Prop) (g : Prop) (t a : Int) : Prop := 0 ≤ a ∧ a ≤ 100 ∧ (∀ y, T y → a ≤ f y) ∧ (g → t ≤ a)
def mxI (f : Int → Int) (T : Int → Prop) (g : Prop) (t a : Int) : Prop := -1 ≤ a ∧ a ≤ 128 ∧ (∀ y, T y → f y ≤ a) ∧ (g → a ≤ t)
theorem mnI.R {f : Int → Int} {T : Int → Prop} {g : Prop} {t a : Int} (h : mnI f T g t a) : jx_R a := jx_inR (by have := h.1; omega) (by have := h.2.1; omega)
theorem mxI.R {f : Int → Int} {T : Int → Prop} {g : Prop} {t a : Int} (h : mxI f T g t a) : jx_R a := jx_inR (by have := h.1; omega) (by have := h.2.1; omega)
theorem mnI.step {f : Int → Int} {T T' : Int → Prop} {g : Prop} {t a z : Int} (h : mnI f T g t a) (h0 : 0 ≤ f z) (ht : t ≤ f z) (hT : ∀ y, T' y → T y ∨ f y = f z) : mnI f T' g t (min a (f z)) := by
  obtain ⟨h1, h2, h3, h4⟩ := h
  refine ⟨by omega, by omega, fun y hy => ?_, fun q => by have := h4 q; omega⟩
  rcases hT y hy with c | c
  · have := h3 y c; omega
  · omega
theorem mxI.step {f : Int → Int} {T T' : Int → Prop} {g : Prop} {t a z : Int} (h : mxI f T g t a) (h0 : f z ≤ 128) (ht : f z ≤ t) (hT : ∀ y, T' y → T y ∨ f y = f z) : mxI f T' g t (max a (f z)) := by
  obtain ⟨h1, h2, h3, h4⟩ := h
  refine ⟨by omega, by omega, fun y hy => ?_, fun q => by have := h4 q; omega⟩
  rcases hT y hy with c | c
  · have := h3 y c; omega
  · omega
theorem mnI.same {f : Int → Int} {T T' : Int → Prop} {g : Prop} {t a : Int} (h : mnI f T g t a) (hT : ∀ y, T' y → T y) : mnI f T' g t a := ⟨h.1, h.2.1, fun y hy => h.2.2.1 y (hT y hy), h.2.2.2⟩
theorem mxI.same {f : Int → Int} {T T' : Int → Prop} {g : Prop} {t a : Int} (h : mxI f T g t a) (hT : ∀ y, T' y → T y) : mxI f T' g t a := ⟨h.1, h.2.1, fun y hy => h.2.2.1 y (hT y hy), h.2.2.2⟩
theorem mnI.fin {f : Int → Int} {T : Int → Prop} {g : Prop} {t a : Int} (h : mnI f T g t a) (hg : g) (he : ∃ y, T y ∧ t = f y) : a = t := by
  obtain ⟨y, hy, e⟩ := he
  have h1 := h.2.2.1 y hy
  have h2 := h.2.2.2 hg
  omega
theorem mxI.fin {f : Int → Int} {T : Int → Prop} {g : Prop} {t a : Int} (h : mxI f T g t a) (hg : g) (he : ∃ y, T y ∧ t = f y) : a = t := by
  obtain ⟨y, hy, e⟩ := he
  have h1 := h.2.2.1 y hy
  have h2 := h.2.2.2 hg
  omega
theorem bs_127 (b w : Int) : 0 ≤ bs b w ∧ bs b w ≤ 127 := ⟨bs_ge b w, by have := bs_lt b w; omega⟩
/-- sides of a box that is there, of a node -/
theorem aB_side {σ : jx_St} {b k : Int} (hb : nb b) (hn : σ 0 b ≠ -1) (k0 : 0 ≤ k) (k1 : k < 4) : aB σ b k = bs (σ 0 b) k := by
  have := hb.1
  have := hb.2
  unfold aB
  rw [if_neg (by omega), if_neg hn, if_neg (by omega), if_neg (by omega)]
theorem aN_side {σ : jx_St} {l p k x : Int} (l0 : 0 ≤ l) (p0 : 0 ≤ p) (h : (row σ l)[p.toNat]? = some x) (h3 : σ 3 x ≠ 0) (k0 : 0 ≤ k) (k1 : k < 4) : aN σ l p k = bs (σ 4 x) k := by
  unfold aN
  rw [if_neg (by omega), h]
  dsimp only
  rw [if_neg (by omega), if_neg (by omega), if_neg h3]
/-- how many things are below the nodes ahead -/
def blw (σ : jx_St) (l : Int) (p : Nat) : Int := ((((row σ l).take p).flatMap (kids σ)).length : Nat)
theorem take_at {L : List Int} {p : Nat} {x : Int} (h : L[p]? = some x) : L.take (p + 1) = L.take p ++ [x] ∧ L = L.take p ++ x :: L.drop (p + 1) := by
  obtain ⟨hp, hx⟩ := List.getElem?_eq_some_iff.mp h
  constructor
  · rw [List.take_succ, h]; rfl
  · rw [← hx, List.getElem_cons_drop, List.take_append_drop]
theorem blw_succ {σ : jx_St} (hI : Inv σ) {l x : Int} {p : Nat} (h : (row σ l)[p]? = some x) : blw σ l (p + 1) = blw σ l p + σ 3 x := by
  have hx := ((mem_row hI.1).mp (List.mem_of_getElem? h)).1
  have s := (hI.1.sh.1 x hx).1
  unfold blw
  rw [(take_at h).1, List.flatMap_append, List.length_append, List.flatMap_cons, List.flatMap_nil, List.append_nil, kids_len]
  omega
theorem flat_at {L : List Int} {f : Int → List Int} {p k : Nat} {x : Int} (h : L[p]? = some x) (hk : k < (f x).length) : (L.flatMap f)[((L.take p).flatMap f).length + k]? = (f x)[k]? := by
  have e := (take_at h).2
  generalize L.take p = A at e ⊢
  generalize L.drop (p + 1) = B at e
  subst e
  rw [List.flatMap_append, List.flatMap_cons, List.getElem?_append_right (by omega), Nat.add_sub_cancel_left, List.getElem?_append_left hk]
theorem kid_at {σ : jx_St} {l x k : Int} {p : Nat} (l1 : 1 ≤ l) (l2 : l ≤ σ 2 (σ 7 0)) (h : (row σ l)[p]? = some x) (k0 : 0 ≤ k) (k1 : k < σ 3 x) : (row σ (l - 1))[(blw σ l p + k).toNat]? = some (th σ x k) := by
  rw [row_down (l := l - 1) (by omega) (by omega), show l - 1 + 1 = l by omega]
  unfold blw
  rw [show (((((row σ l).take p).flatMap (kids σ)).length : Int) + k).toNat = (((row σ l).take p).flatMap (kids σ)).length + k.toNat by omega, flat_at h (by rw [kids_len]; omega), kids_get (by omega), toNat_cast k0]
theorem blw_all {σ : jx_St} {l : Int} (l1 : 1 ≤ l) (l2 : l ≤ σ 2 (σ 7 0)) : blw σ l (row σ l).length = ((row σ (l - 1)).length : Int) := by
  unfold blw
  rw [List.take_length, row_down (l := l - 1) (by omega) (by omega), show l - 1 + 1 = l by omega]
theorem blw_all0 {σ : jx_St} : blw σ 0 (row σ 0).length = ((bxs σ).length : Int) := by
  unfold blw bxs
  rw [List.take_length]
theorem aN_first {σ : jx_St} (hI : Inv σ) {l x : Int} {p : Nat} (l1 : 1 ≤ l) (l2 : l ≤ σ 2 (σ 7 0)) (h : (row σ l)[p]? = some x) : aN σ l (p : Int) 5 = blw σ l p := by
  obtain ⟨hx, he⟩ := (mem_row hI.1).mp (List.mem_of_getElem? h)
  have hs := (node_size hI hx).2.2.1 (by omega)
  unfold aN
  rw [if_neg (by omega), Int.toNat_natCast, h]
  dsimp only
  rw [if_neg (by decide), if_pos rfl, if_neg (by omega)]
  have hk := kid_at l1 l2 h (Int.le_refl 0) (by omega)
  rw [Int.add_zero] at hk
  rw [pl_eq hI.1 hk]
  unfold blw
  omega
theorem aN_set {σ : jx_St} {x : Int} {p : Nat} (h : (row σ 0)[p]? = some x) : aN σ 0 (p : Int) 5 = orL (th σ x) (σ 3 x).toNat := by
  unfold aN
  rw [if_neg (by omega), Int.toNat_natCast, h]
  dsimp only
  rw [if_neg (by decide), if_pos rfl, if_pos rfl]
/-- the inner loop, over a leaf -/
theorem t_leaf {Q : Int → jx_St → Prop} {sB sC σ sH sO ψ : jx_St} {K : jx_St × Int × Int × Int × Int × Int × Int → Prop} {l1 l2 l3 l4 l7 x : Int} {p : Nat} (hI : Inv σ) (hp : (row σ 0)[p]? = some x)
    (h : ∀ ψ' a b c d, (1 ≤ σ 3 x → a = bs (σ 4 x) 0 ∧ b = bs (σ 4 x) 1 ∧ c = bs (σ 4 x) 2 ∧ d = bs (σ 4 x) 3) → jx_R a ∧ jx_R b ∧ jx_R c ∧ jx_R d → K (ψ', 1, a, b, c, d, σ 3 x)) :
    jx_lp (fun B95v v95 => wp_L_isTree_95 Q sB sC σ sH sO K l1 l2 l3 l4 0 l7 (p : Int) (σ 3 x) (orL (th σ x) (σ 3 x).toNat) B95v v95.1 v95.2.1 v95.2.2.1 v95.2.2.2.1 v95.2.2.2.2.1 v95.2.2.2.2.2.1 v95.2.2.2.2.2.2.1 v95.2.2.2.2.2.2.2) (ψ, 1, 100, 100, (-1), (-1), 0, 0) := by
  obtain ⟨hx, he⟩ := (mem_row hI.1).mp (List.mem_of_getElem? hp)
  have s3 := node_size hI hx
  have hnd := hI.1.2.2.2.2.2.1 x hx
  have kn : ∀ y, y ∈ kids σ x → nb y ∧ σ 0 y ≠ -1 := fun y hy => by
    rcases (hI.1.2.2.2.2.1 x y hx hy).1 with ⟨_, a, b⟩ | ⟨a, _⟩
    · exact ⟨a, b⟩
    · omega
  -- how the hull lies to the boxes
  have side : ∀ q, 0 ≤ q → q < 4 → ∀ y, y ∈ kids σ x → 1 ≤ σ 3 x ∧ (q < 2 → bs (σ 4 x) q ≤ bs (σ 0 y) q) ∧ (¬ q < 2 → bs (σ 0 y) q ≤ bs (σ 4 x) q) := fun q q0 q1 y hy => by
    obtain ⟨k, k0, k1, e⟩ := mem_kids.mp hy
    have h2 := (hull_side hI hx (by omega) q0 q1).2 k k0 k1
    rw [e, he, hv_0] at h2
    exact ⟨by omega, h2⟩
  have att : ∀ q, 0 ≤ q → q < 4 → 1 ≤ σ 3 x → ∃ y, y ∈ kids σ x ∧ bs (σ 4 x) q = bs (σ 0 y) q := fun q q0 q1 h1 => by
    obtain ⟨j, j0, j1, e⟩ := (hull_side hI hx h1 q0 q1).1
    rw [he, hv_0] at e
    exact ⟨_, th_kids j0 j1, e⟩
  have hv4 : 1 ≤ σ 3 x → bs (σ 4 x) 0 ≤ 100 ∧ bs (σ 4 x) 1 ≤ 100 := fun c => by
    obtain ⟨_, _, a1, a2, a3, a4⟩ := vh_hull hI.1 hI.2.1 hx c
    omega
  have g127 := fun b w => bs_127 b w
  refine jx_loop (fun v => v.2.1 = 1 ∧ 0 ≤ v.2.2.2.2.2.2.2 ∧ v.2.2.2.2.2.2.2 ≤ 31 ∧ v.2.2.2.2.2.2.1 = ((sN (cL (kids σ x)) v.2.2.2.2.2.2.2.toNat : Nat) : Int) ∧ mnI (fun y => bs (σ 0 y) 0) (fun y => y ∈ kids σ x ∧ y < v.2.2.2.2.2.2.2) (1 ≤ σ 3 x) (bs (σ 4 x) 0) v.2.2.1 ∧ mnI (fun y => bs (σ 0 y) 1) (fun y => y ∈ kids σ x ∧ y < v.2.2.2.2.2.2.2) (1 ≤ σ 3 x) (bs (σ 4 x) 1) v.2.2.2.1 ∧ mxI (fun y => bs (σ 0 y) 2) (fun y => y ∈ kids σ x ∧ y < v.2.2.2.2.2.2.2) (1 ≤ σ 3 x) (bs (σ 4 x) 2) v.2.2.2.2.1 ∧ mxI (fun y => bs (σ 0 y) 3) (fun y => y ∈ kids σ x ∧ y < v.2.2.2.2.2.2.2) (1 ≤ σ 3 x) (bs (σ 4 x) 3) v.2.2.2.2.2.1) (fun v => (31 - v.2.2.2.2.2.2.2).toNat) (fun B v hJ hB => ?_)
    ⟨rfl, Int.le_refl _, by dsimp only; omega, rfl, ⟨by dsimp only; omega, by dsimp only; omega, fun y hy => by have := (kn y hy.1).1.1; have := hy.2; dsimp only at this; omega, fun c => (hv4 c).1⟩, ⟨by dsimp only; omega, by dsimp only; omega, fun y hy => by have := (kn y hy.1).1.1; have := hy.2; dsimp only at this; omega, fun c => (hv4 c).2⟩, ⟨by dsimp only; omega, by dsimp only; omega, fun y hy => by have := (kn y hy.1).1.1; have := hy.2; dsimp only at this; omega, fun _ => by have := g127 (σ 4 x) 2; dsimp only; omega⟩, ⟨by dsimp only; omega, by dsimp only; omega, fun y hy => by have := (kn y hy.1).1.1; have := hy.2; dsimp only at this; omega, fun _ => by have := g127 (σ 4 x) 3; dsimp only; omega⟩⟩
  obtain ⟨ψ1, is, a, b, c, d, found, k⟩ := v
  obtain ⟨j1, j2, j3, j4, j5, j6, j7, j8⟩ := hJ
  dsimp only at j1 j2 j3 j4 j5 j6 j7 j8
  show wp_L_isTree_95 Q sB sC σ sH sO K l1 l2 l3 l4 0 l7 (p : Int) (σ 3 x) (orL (th σ x) (σ 3 x).toNat) B ψ1 is a b c d found k
  subst j1
  have kR : jx_R k := jx_inR (by omega) (by omega)
  have z0 := R_lit 0 (by decide)
  have o1 := R_lit 1 (by decide)
  refine ⟨z0, fun _ => ⟨kR, R_lit 31 (by decide), fun q => ⟨z0, fun _ => ?_, fun z => absurd (Int.le_refl 0) z⟩, fun q => ?_⟩, fun z => absurd rfl z⟩
  · have hb : nb k := ⟨j2, q⟩
    rw [leaf_bit hI hx he hb]
    have nsucc : (k + 1).toNat = k.toNat + 1 := by omega
    have ks : sN (cL (kids σ x)) (k + 1).toNat = sN (cL (kids σ x)) k.toNat + if k ∈ kids σ x then 1 else 0 := by
      rw [nsucc]
      simp only [sN]
      unfold cL
      rw [toNat_cast j2]
    by_cases m : k ∈ kids σ x
    · rw [if_pos m] at ks ⊢
      refine ⟨Or.inr rfl, fun _ => ?_, fun z => absurd rfl z⟩
      show wp_L_isTree_133 Q sB sC σ sH sO B K ψ1 l1 l2 l3 l4 1 0 l7 (p : Int) (σ 3 x) _ a b c d found k 1
      refine ⟨o1, fun z => absurd z (by decide), fun _ => ⟨o1, fun z => absurd z (by decide), fun _ => ⟨z0, fun _ => ?_, fun z => absurd rfl z⟩⟩⟩
      have sd : ∀ q, 0 ≤ q → q < 4 → aB σ k q = bs (σ 0 k) q := fun q q0 q1 => aB_side hb (kn k m).2 q0 q1
      have hom : σ 1 k = x := by
        have := (hI.1.2.2.2.2.1 x k hx m).2.1
        rw [he] at this
        unfold hm at this
        rw [if_pos rfl] at this
        exact this
      have e4 : aB σ k 4 = (p : Int) := by
        have := hb.1
        have := hb.2
        unfold aB
        rw [if_neg (by omega), if_neg (kn k m).2, if_pos rfl, hom]
        exact pl_eq hI.1 hp
      have e5 : aB σ k 5 = kix σ x k := by
        have := hb.1
        have := hb.2
        unfold aB
        rw [if_neg (by omega), if_neg (kn k m).2, if_neg (by decide), if_pos rfl, hom]
      obtain ⟨x1, x2, _⟩ := kix_bd m
      have ofR := fun w => bs_R (σ 0 k) w
      refine q_boxOf hI kR z0 (fun _ => ?_)
      rw [sd 0 (by decide) (by decide)]
      refine q_lesser j5.R (ofR _) (q_boxOf hI kR o1 (fun _ => ?_))
      rw [sd 1 (by decide) (by decide)]
      refine q_lesser j6.R (ofR _) (q_boxOf hI kR (R_lit 2 (by decide)) (fun _ => ?_))
      rw [sd 2 (by decide) (by decide)]
      refine q_greater j7.R (ofR _) (q_boxOf hI kR (R_lit 3 (by decide)) (fun _ => ?_))
      rw [sd 3 (by decide) (by decide)]
      refine q_greater j8.R (ofR _) ⟨o1, fun z => absurd z (by decide), fun _ => q_boxOf hI kR (R_lit 4 (by decide)) (fun _ => ⟨Or.inr e4, fun _ => q_boxOf hI kR (R_lit 5 (by decide)) (fun _ => ?_), fun z => absurd e4 z⟩)⟩
      rw [e5]
      have kxR : jx_R (kix σ x k) := jx_inR (by omega) (by omega)
      refine ⟨kxR, fun z => absurd z (by omega), fun _ => q_boxOf hI kR (R_lit 5 (by decide)) (fun _ => ?_)⟩
      rw [e5]
      refine ⟨kxR, jx_inR (by omega) (by omega), fun _ => ?_, fun z => absurd x2 z⟩
      have spl : ∀ y, (y ∈ kids σ x ∧ y < k + 1) → (y ∈ kids σ x ∧ y < k) ∨ y = k := fun y hy => by
        by_cases e : y = k
        · exact Or.inr e
        · exact Or.inl ⟨hy.1, by have := hy.2; omega⟩
      refine hB _ ⟨rfl, by dsimp only; omega, by dsimp only; omega, by dsimp only; rw [ks, j4]; omega, ?_, ?_, ?_, ?_⟩ (by dsimp only; omega)
      · exact j5.step (z := k) (g127 _ _).1 ((side 0 (by decide) (by decide) k m).2.1 (by decide)) (fun y hy => (spl y hy).imp id (fun e => by rw [e]))
      · exact j6.step (z := k) (g127 _ _).1 ((side 1 (by decide) (by decide) k m).2.1 (by decide)) (fun y hy => (spl y hy).imp id (fun e => by rw [e]))
      · exact j7.step (z := k) (by have := (g127 (σ 0 k) 2).2; omega) ((side 2 (by decide) (by decide) k m).2.2 (by decide)) (fun y hy => (spl y hy).imp id (fun e => by rw [e]))
      · exact j8.step (z := k) (by have := (g127 (σ 0 k) 3).2; omega) ((side 3 (by decide) (by decide) k m).2.2 (by decide)) (fun y hy => (spl y hy).imp id (fun e => by rw [e]))
    · rw [if_neg m] at ks ⊢
      have spl : ∀ y, (y ∈ kids σ x ∧ y < k + 1) → (y ∈ kids σ x ∧ y < k) := fun y hy => ⟨hy.1, by
        have := hy.2
        have : y ≠ k := fun e => m (by rw [← e]; exact hy.1)
        omega⟩
      refine ⟨Or.inl ⟨z0, o1⟩, fun z => absurd z (by decide), fun _ => ⟨z0, fun _ => ⟨z0, fun _ => ⟨z0, fun _ => hB _ ⟨rfl, by dsimp only; omega, by dsimp only; omega, by dsimp only; rw [ks, j4]; omega, j5.same spl, j6.same spl, j7.same spl, j8.same spl⟩ (by dsimp only; omega), fun z => absurd rfl z⟩, fun z => absurd rfl z⟩, fun z => absurd rfl z⟩⟩
  · have e31 : k = 31 := by omega
    subst e31
    have hlen : (sN (cL (kids σ x)) (31 : Int).toNat : Nat) = (σ 3 x).toNat := by
      rw [show (31 : Int).toNat = 31 from rfl, sN_len hnd (fun y hy => (kn y hy).1), kids_len]
    have ef : found = σ 3 x := by rw [j4, hlen]; omega
    rw [ef]
    refine h ψ1 a b c d (fun c1' => ?_) ⟨j5.R, j6.R, j7.R, j8.R⟩
    have fin : ∀ q, 0 ≤ q → q < 4 → ∃ y, (y ∈ kids σ x ∧ y < 31) ∧ bs (σ 4 x) q = bs (σ 0 y) q := fun q q0 q1 => by
      obtain ⟨y, hy, e⟩ := att q q0 q1 c1'
      exact ⟨y, ⟨hy, (kn y hy).1.2⟩, e⟩
    exact ⟨j5.fin c1' (fin 0 (by decide) (by decide)), j6.fin c1' (fin 1 (by decide) (by decide)), j7.fin c1' (fin 2 (by decide) (by decide)), j8.fin c1' (fin 3 (by decide) (by decide))⟩
