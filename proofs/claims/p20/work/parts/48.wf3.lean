/-! ===== the pure part: new nodes, dropped ones, boxes that come and go, another root ===== -/
theorem kids_0 {σ : jx_St} {n : Int} (h : σ 3 n = 0) : kids σ n = [] := by unfold kids; rw [h]; rfl
/-- a new node, which waits -/
theorem ws_new {σ : jx_St} {P : List (Int × Int)} {E : List Int} {f l : Int} (h : Ws σ P E) (hf : nd f) (he : σ 2 f = -1) (hl : 0 ≤ l ∧ l ≤ σ 2 (σ 7 0)) : Ws (jx_su σ 2 f l) ((f, l + 1) :: P) (f :: E) := by
  obtain ⟨w1, w2, w3, w4, w5, w6, w7, w8, w9, w10⟩ := h
  obtain ⟨f3, f5⟩ := w3 f hf he
  have rf : σ 7 0 ≠ f := fun e => by have := w1.1.2; rw [e] at this; omega
  have e2 : ∀ i, jx_su σ 2 f l 2 i = if i = f then l else σ 2 i := fun i => jx_su_same
  have en : ∀ k i, k ≠ 2 → jx_su σ 2 f l k i = σ k i := fun k i hk => jx_su_ne hk
  have ek : ∀ n, kids (jx_su σ 2 f l) n = kids σ n := fun n => kids_same (en 3 n (by decide)) (fun k _ _ => en 6 _ (by decide))
  have eh : ∀ y m, hm (jx_su σ 2 f l) y m = hm σ y m := fun y m => by unfold hm; rw [en 1 _ (by decide), en 5 _ (by decide)]
  have el : ∀ n, lvn (jx_su σ 2 f l) n ↔ lvn σ n ∨ n = f := fun n => by
    unfold lvn
    rw [e2]
    by_cases z : n = f
    · rw [if_pos z]; exact ⟨fun _ => Or.inr z, fun _ => ⟨by rw [z]; exact hf, hl.1⟩⟩
    · rw [if_neg z]; exact ⟨Or.inl, fun q => q.resolve_right z⟩
  have nf : ∀ n, lvn σ n → n ≠ f := fun n q e => by have := q.2; rw [e] at this; omega
  have ea : ∀ y m, alv (jx_su σ 2 f l) y m ↔ alv σ y m ∨ (y = f ∧ m = l + 1) := fun y m => by
    unfold alv
    rw [e2, el, en 0 _ (by decide), en 7 _ (by decide)]
    by_cases z : y = f
    · subst z
      rw [if_pos rfl]
      constructor
      · rintro (a | ⟨a, _, b, _⟩)
        · exact Or.inl (Or.inl a)
        · exact Or.inr ⟨rfl, by omega⟩
      · rintro ((a | ⟨_, a, _⟩) | ⟨_, a⟩)
        · exact Or.inl a
        · exact absurd rfl (nf _ a)
        · exact Or.inr ⟨by omega, Or.inr rfl, by omega, fun q => rf q.symm⟩
    · rw [if_neg z]
      constructor
      · rintro (a | ⟨a, b, c⟩)
        · exact Or.inl (Or.inl a)
        · exact Or.inl (Or.inr ⟨a, b.resolve_right z, c⟩)
      · rintro ((a | ⟨a, b, c⟩) | ⟨a, _⟩)
        · exact Or.inl a
        · exact Or.inr ⟨a, Or.inl b, c⟩
        · exact absurd a z
  have e2r : jx_su σ 2 f l 2 (σ 7 0) = σ 2 (σ 7 0) := by rw [e2, if_neg rf]
  have fnew : (f, l + 1) ∉ P := fun q => by
    rcases (w8 f (l + 1) q).1 with ⟨a, _⟩ | ⟨_, a, _⟩
    · omega
    · exact nf _ a rfl
  refine ⟨?_, ?_, ?_, ?_, ?_, ?_, ?_, ?_, List.nodup_cons.mpr ⟨fnew, w9⟩, ?_⟩
  · rw [en 7 _ (by decide), e2r, el, en 5 _ (by decide)]; exact ⟨Or.inl w1.1, w1.2⟩
  · intro n hn
    rw [en 7 _ (by decide), e2r, e2]
    by_cases z : n = f
    · rw [if_pos z]; exact Or.inr hl
    · rw [if_neg z]; exact w2 n hn
  · intro n hn h2
    rw [e2] at h2
    rw [en 3 _ (by decide), en 5 _ (by decide)]
    by_cases z : n = f
    · rw [if_pos z] at h2; omega
    · rw [if_neg z] at h2; exact w3 n hn h2
  · intro n hn
    rw [en 3 _ (by decide), en 7 _ (by decide), e2]
    rcases (el n).mp hn with z | z
    · obtain ⟨a, b, c⟩ := w4 n z
      rw [if_neg (nf n z)]
      exact ⟨a, b, c.imp_left (fun q => List.mem_cons_of_mem _ q)⟩
    · rw [z, f3]
      exact ⟨by decide, by decide, Or.inl List.mem_cons_self⟩
  · intro n y hn hy
    rw [ek] at hy
    rcases (el n).mp hn with z | z
    · obtain ⟨a, b, c⟩ := w5 n y z hy
      rw [e2, if_neg (nf n z), eh, ea]
      refine ⟨Or.inl a, b, fun q => ?_⟩
      rcases List.mem_cons.mp q with q | q
      · have q1 : y = f := congrArg Prod.fst q
        rcases a with ⟨a1, _⟩ | ⟨_, a, _⟩
        · have q2 : σ 2 n = l + 1 := congrArg Prod.snd q
          omega
        · exact nf _ a q1
      · exact c q
    · rw [z, kids_0 f3] at hy
      exact absurd hy (List.not_mem_nil)
  · intro n hn
    rw [ek]
    rcases (el n).mp hn with z | z
    · exact w6 n z
    · rw [z, kids_0 f3]; exact List.nodup_nil
  · intro y m hy
    rw [eh, el, ek, e2]
    rcases (ea y m).mp hy with z | ⟨z, z2⟩
    · rcases w7 y m z with a | ⟨a, b, c⟩
      · exact Or.inl (List.mem_cons_of_mem _ a)
      · rw [if_neg (nf _ a)]; exact Or.inr ⟨Or.inl a, b, c⟩
    · rw [z, z2]; exact Or.inl List.mem_cons_self
  · intro y m hy
    rw [ea, en 5 _ (by decide)]
    rcases List.mem_cons.mp hy with z | z
    · have z1 : y = f := congrArg Prod.fst z
      have z2 : m = l + 1 := congrArg Prod.snd z
      rw [z1, z2]
      exact ⟨Or.inr ⟨rfl, rfl⟩, fun _ => f5⟩
    · exact ⟨Or.inl (w8 y m z).1, (w8 y m z).2⟩
  · intro b hb
    rw [en 0 _ (by decide)]; exact w10 b hb
/-- a node that is new is the root now; the old one waits -/
theorem ws_raise {σ : jx_St} {P : List (Int × Int)} {E : List Int} {r : Int} (h : Ws σ P E) (hr : nd r) (he : σ 2 r = -1) (hl : σ 2 (σ 7 0) ≤ 2) (hs : 2 ≤ σ 3 (σ 7 0)) : Ws (jx_su (jx_su σ 2 r (σ 2 (σ 7 0) + 1)) 7 0 r) ((σ 7 0, σ 2 (σ 7 0) + 1) :: P) (r :: E) := by
  obtain ⟨w1, w2, w3, w4, w5, w6, w7, w8, w9, w10⟩ := h
  obtain ⟨f3, f5⟩ := w3 r hr he
  have r0 := w1.1.2
  have rf : σ 7 0 ≠ r := fun e => by rw [e] at r0; omega
  have e2 : ∀ i, jx_su (jx_su σ 2 r (σ 2 (σ 7 0) + 1)) 7 0 r 2 i = if i = r then σ 2 (σ 7 0) + 1 else σ 2 i := fun i => by rw [jx_su_ne (by decide)]; exact jx_su_same
  have e7 : jx_su (jx_su σ 2 r (σ 2 (σ 7 0) + 1)) 7 0 r 7 0 = r := jx_su_eq
  have en : ∀ k i, k ≠ 2 → k ≠ 7 → jx_su (jx_su σ 2 r (σ 2 (σ 7 0) + 1)) 7 0 r k i = σ k i := fun k i hk h7 => by rw [jx_su_ne h7]; exact jx_su_ne hk
  have ek : ∀ n, kids (jx_su (jx_su σ 2 r (σ 2 (σ 7 0) + 1)) 7 0 r) n = kids σ n := fun n => kids_same (en 3 n (by decide) (by decide)) (fun k _ _ => en 6 _ (by decide) (by decide))
  have eh : ∀ y m, hm (jx_su (jx_su σ 2 r (σ 2 (σ 7 0) + 1)) 7 0 r) y m = hm σ y m := fun y m => by unfold hm; rw [en 1 _ (by decide) (by decide), en 5 _ (by decide) (by decide)]
  have nf : ∀ n, lvn σ n → n ≠ r := fun n q e => by have := q.2; rw [e] at this; omega
  have el : ∀ n, lvn (jx_su (jx_su σ 2 r (σ 2 (σ 7 0) + 1)) 7 0 r) n ↔ lvn σ n ∨ n = r := fun n => by
    unfold lvn
    rw [e2]
    by_cases z : n = r
    · rw [if_pos z]; exact ⟨fun _ => Or.inr z, fun _ => ⟨by rw [z]; exact hr, by omega⟩⟩
    · rw [if_neg z]; exact ⟨Or.inl, fun q => q.resolve_right z⟩
  have ea : ∀ y m, alv (jx_su (jx_su σ 2 r (σ 2 (σ 7 0) + 1)) 7 0 r) y m ↔ alv σ y m ∨ (y = σ 7 0 ∧ m = σ 2 (σ 7 0) + 1) := fun y m => by
    unfold alv
    rw [e2, el, en 0 _ (by decide) (by decide), e7]
    by_cases z : y = r
    · subst z
      constructor
      · rintro (a | ⟨_, _, _, a⟩)
        · exact Or.inl (Or.inl a)
        · exact absurd rfl a
      · rintro ((a | ⟨_, a, _⟩) | ⟨a, _⟩)
        · exact Or.inl a
        · exact absurd rfl (nf _ a)
        · exact absurd a.symm rf
    · rw [if_neg z]
      constructor
      · rintro (a | ⟨a, b, c, _⟩)
        · exact Or.inl (Or.inl a)
        · by_cases y7 : y = σ 7 0
          · rw [y7] at c; exact Or.inr ⟨y7, by omega⟩
          · exact Or.inl (Or.inr ⟨a, b.resolve_right z, c, y7⟩)
      · rintro ((a | ⟨a, b, c, _⟩) | ⟨a, b⟩)
        · exact Or.inl a
        · exact Or.inr ⟨a, Or.inl b, c, z⟩
        · rw [a, b]; exact Or.inr ⟨by omega, Or.inl w1.1, by omega, rf⟩
  have fnew : (σ 7 0, σ 2 (σ 7 0) + 1) ∉ P := fun q => by
    rcases (w8 _ _ q).1 with ⟨a, _⟩ | ⟨_, _, _, a⟩
    · omega
    · exact a rfl
  refine ⟨?_, ?_, ?_, ?_, ?_, ?_, ?_, ?_, List.nodup_cons.mpr ⟨fnew, w9⟩, ?_⟩
  · rw [e7, e2, if_pos rfl, el, en 5 _ (by decide) (by decide)]; exact ⟨Or.inr rfl, by omega, f5⟩
  · intro n hn
    rw [e7, e2, e2, if_pos rfl]
    by_cases z : n = r
    · rw [if_pos z]; exact Or.inr ⟨by omega, by omega⟩
    · rw [if_neg z]
      rcases w2 n hn with a | a
      · exact Or.inl a
      · exact Or.inr ⟨a.1, by omega⟩
  · intro n hn h2
    rw [e2] at h2
    rw [en 3 _ (by decide) (by decide), en 5 _ (by decide) (by decide)]
    by_cases z : n = r
    · rw [if_pos z] at h2; omega
    · rw [if_neg z] at h2; exact w3 n hn h2
  · intro n hn
    rw [en 3 _ (by decide) (by decide), e7, e2]
    rcases (el n).mp hn with z | z
    · obtain ⟨a, b, c⟩ := w4 n z
      rw [if_neg (nf n z)]
      refine ⟨a, b, ?_⟩
      rcases c with c | c
      · exact Or.inl (List.mem_cons_of_mem _ c)
      · refine Or.inr ⟨fun _ => ?_, c.2⟩
        by_cases q : n = σ 7 0
        · rw [q]; exact hs
        · exact c.1 q
    · rw [z, f3]
      exact ⟨by decide, by decide, Or.inl List.mem_cons_self⟩
  · intro n y hn hy
    rw [ek] at hy
    rcases (el n).mp hn with z | z
    · obtain ⟨a, b, c⟩ := w5 n y z hy
      rw [e2, if_neg (nf n z), eh, ea]
      refine ⟨Or.inl a, b, fun q => ?_⟩
      rcases List.mem_cons.mp q with q | q
      · have q1 : y = σ 7 0 := congrArg Prod.fst q
        rcases a with ⟨a1, _⟩ | ⟨_, _, _, a⟩
        · have q2 : σ 2 n = σ 2 (σ 7 0) + 1 := congrArg Prod.snd q
          omega
        · exact a q1
      · exact c q
    · rw [z, kids_0 f3] at hy
      exact absurd hy (List.not_mem_nil)
  · intro n hn
    rw [ek]
    rcases (el n).mp hn with z | z
    · exact w6 n z
    · rw [z, kids_0 f3]; exact List.nodup_nil
  · intro y m hy
    rw [eh, el, ek, e2]
    rcases (ea y m).mp hy with z | ⟨z, z2⟩
    · rcases w7 y m z with a | ⟨a, b, c⟩
      · exact Or.inl (List.mem_cons_of_mem _ a)
      · rw [if_neg (nf _ a)]; exact Or.inr ⟨Or.inl a, b, c⟩
    · rw [z, z2]; exact Or.inl List.mem_cons_self
  · intro y m hy
    rw [ea, en 5 _ (by decide) (by decide)]
    rcases List.mem_cons.mp hy with z | z
    · have z1 : y = σ 7 0 := congrArg Prod.fst z
      have z2 : m = σ 2 (σ 7 0) + 1 := congrArg Prod.snd z
      rw [z1, z2]
      exact ⟨Or.inr ⟨rfl, rfl⟩, fun _ => w1.2.2⟩
    · exact ⟨Or.inl (w8 y m z).1, (w8 y m z).2⟩
  · intro b hb
    rw [en 0 _ (by decide) (by decide)]; exact w10 b hb
/-- a box that comes, and waits -/
theorem ws_box {σ : jx_St} {P : List (Int × Int)} {E : List Int} {b v : Int} (h : Ws σ P E) (hb : nb b) (he : σ 0 b = -1) (hv : vb v) : Ws (jx_su σ 0 b v) ((b, 0) :: P) E := by
  obtain ⟨w1, w2, w3, w4, w5, w6, w7, w8, w9, w10⟩ := h
  have v0 : v ≠ -1 := fun q => by have := hv.1; omega
  have e0 : ∀ i, jx_su σ 0 b v 0 i = if i = b then v else σ 0 i := fun i => jx_su_same
  have en : ∀ k, k ≠ 0 → jx_su σ 0 b v k = σ k := fun k hk => by funext i; exact jx_su_ne hk
  have ek : ∀ n, kids (jx_su σ 0 b v) n = kids σ n := fun n => kids_same (by rw [en 3 (by decide)]) (fun k _ _ => by unfold th; rw [en 6 (by decide)])
  have eh : ∀ y m, hm (jx_su σ 0 b v) y m = hm σ y m := fun y m => by unfold hm; rw [en 1 (by decide), en 5 (by decide)]
  have el : ∀ n, lvn (jx_su σ 0 b v) n ↔ lvn σ n := fun n => by unfold lvn; rw [en 2 (by decide)]
  have ea : ∀ y m, alv (jx_su σ 0 b v) y m ↔ alv σ y m ∨ (y = b ∧ m = 0) := fun y m => by
    unfold alv
    rw [e0, en 2 (by decide), en 7 (by decide), el]
    by_cases z : y = b
    · subst z
      rw [if_pos rfl]
      constructor
      · rintro (⟨a, _⟩ | a)
        · exact Or.inr ⟨rfl, a⟩
        · exact Or.inl (Or.inr a)
      · rintro ((⟨_, _, a⟩ | a) | ⟨_, a⟩)
        · exact absurd he a
        · exact Or.inr a
        · exact Or.inl ⟨a, hb, v0⟩
    · rw [if_neg z]
      exact ⟨Or.inl, fun q => q.resolve_right (fun r => z r.1)⟩
  have fnew : (b, (0 : Int)) ∉ P := fun q => by
    rcases (w8 _ _ q).1 with ⟨_, _, a⟩ | ⟨a, _⟩
    · exact a he
    · omega
  refine ⟨?_, ?_, ?_, ?_, ?_, ?_, ?_, ?_, List.nodup_cons.mpr ⟨fnew, w9⟩, ?_⟩
  · rw [en 7 (by decide), en 2 (by decide), en 5 (by decide), el]; exact w1
  · rw [en 7 (by decide), en 2 (by decide)]; exact w2
  · rw [en 3 (by decide), en 2 (by decide), en 5 (by decide)]; exact w3
  · intro n hn
    rw [en 7 (by decide), en 2 (by decide), en 3 (by decide)]; exact w4 n ((el n).mp hn)
  · intro n y hn hy
    rw [ek] at hy
    rw [en 2 (by decide), eh, ea]
    obtain ⟨a, c, d⟩ := w5 n y ((el n).mp hn) hy
    refine ⟨Or.inl a, c, fun q => ?_⟩
    rcases List.mem_cons.mp q with q | q
    · have q1 : y = b := congrArg Prod.fst q
      have q2 : σ 2 n = 0 := congrArg Prod.snd q
      rcases a with ⟨_, _, a⟩ | ⟨a, _⟩
      · rw [q1] at a; exact a he
      · omega
    · exact d q
  · intro n hn
    rw [ek]; exact w6 n ((el n).mp hn)
  · intro y m hy
    rw [eh, el, ek, en 2 (by decide)]
    rcases (ea y m).mp hy with z | ⟨z, z2⟩
    · exact (w7 y m z).imp_left (fun a => List.mem_cons_of_mem _ a)
    · rw [z, z2]; exact Or.inl List.mem_cons_self
  · intro y m hy
    rw [ea, en 5 (by decide)]
    rcases List.mem_cons.mp hy with z | z
    · have z1 : y = b := congrArg Prod.fst z
      have z2 : m = 0 := congrArg Prod.snd z
      exact ⟨Or.inr ⟨z1, z2⟩, fun q => by omega⟩
    · exact ⟨Or.inl (w8 y m z).1, (w8 y m z).2⟩
  · intro c hc
    rw [e0]
    by_cases z : c = b
    · rw [if_pos z]; exact Or.inr hv
    · rw [if_neg z]; exact w10 c hc
/-- a box that waits goes -/
theorem ws_unbox {σ : jx_St} {P : List (Int × Int)} {E : List Int} {b : Int} (h : Ws σ ((b, 0) :: P) E) : Ws (jx_su σ 0 b (-1)) P E := by
  obtain ⟨w1, w2, w3, w4, w5, w6, w7, w8, w9, w10⟩ := h
  have bP := (List.nodup_cons.mp w9).1
  have e0 : ∀ i, jx_su σ 0 b (-1) 0 i = if i = b then -1 else σ 0 i := fun i => jx_su_same
  have en : ∀ k, k ≠ 0 → jx_su σ 0 b (-1) k = σ k := fun k hk => by funext i; exact jx_su_ne hk
  have ek : ∀ n, kids (jx_su σ 0 b (-1)) n = kids σ n := fun n => kids_same (by rw [en 3 (by decide)]) (fun k _ _ => by unfold th; rw [en 6 (by decide)])
  have eh : ∀ y m, hm (jx_su σ 0 b (-1)) y m = hm σ y m := fun y m => by unfold hm; rw [en 1 (by decide), en 5 (by decide)]
  have el : ∀ n, lvn (jx_su σ 0 b (-1)) n ↔ lvn σ n := fun n => by unfold lvn; rw [en 2 (by decide)]
  have ea : ∀ y m, alv (jx_su σ 0 b (-1)) y m ↔ alv σ y m ∧ ¬ (y = b ∧ m = 0) := fun y m => by
    unfold alv
    rw [e0, en 2 (by decide), en 7 (by decide), el]
    by_cases z : y = b
    · subst z
      rw [if_pos rfl]
      constructor
      · rintro (⟨_, _, a⟩ | a)
        · exact absurd rfl a
        · exact ⟨Or.inr a, fun q => by have := a.1; omega⟩
      · rintro ⟨a | a, c⟩
        · exact absurd ⟨rfl, a.1⟩ c
        · exact Or.inr a
    · rw [if_neg z]
      exact ⟨fun q => ⟨q, fun r => z r.1⟩, fun q => q.1⟩
  refine ⟨?_, ?_, ?_, ?_, ?_, ?_, ?_, ?_, (List.nodup_cons.mp w9).2, ?_⟩
  · rw [en 7 (by decide), en 2 (by decide), en 5 (by decide), el]; exact w1
  · rw [en 7 (by decide), en 2 (by decide)]; exact w2
  · rw [en 3 (by decide), en 2 (by decide), en 5 (by decide)]; exact w3
  · intro n hn
    rw [en 7 (by decide), en 2 (by decide), en 3 (by decide)]; exact w4 n ((el n).mp hn)
  · intro n y hn hy
    rw [ek] at hy
    rw [en 2 (by decide), eh, ea]
    obtain ⟨a, c, d⟩ := w5 n y ((el n).mp hn) hy
    exact ⟨⟨a, fun q => d (by rw [q.1, q.2]; exact List.mem_cons_self)⟩, c, fun q => d (List.mem_cons_of_mem _ q)⟩
  · intro n hn
    rw [ek]; exact w6 n ((el n).mp hn)
  · intro y m hy
    rw [eh, el, ek, en 2 (by decide)]
    obtain ⟨a, c⟩ := (ea y m).mp hy
    rcases w7 y m a with d | d
    · rcases List.mem_cons.mp d with q | q
      · exact absurd ⟨congrArg Prod.fst q, congrArg Prod.snd q⟩ c
      · exact Or.inl q
    · exact Or.inr d
  · intro y m hy
    rw [ea, en 5 (by decide)]
    obtain ⟨a, c⟩ := w8 y m (List.mem_cons_of_mem _ hy)
    exact ⟨⟨a, fun q => bP (by rw [q.1, q.2] at hy; exact hy)⟩, c⟩
  · intro c hc
    rw [e0]
    by_cases z : c = b
    · rw [if_pos z]; exact Or.inl rfl
    · rw [if_neg z]; exact w10 c hc
