/-! ===== the pure part: what holds of a tree, the other changes ===== -/
theorem ws_congr {σ τ : jx_St} {P : List (Int × Int)} {E : List Int} (h : Ws σ P E) (e0 : τ 0 = σ 0) (e1 : τ 1 = σ 1) (e2 : τ 2 = σ 2) (e3 : τ 3 = σ 3) (e5 : τ 5 = σ 5) (e6 : τ 6 = σ 6) (e7 : τ 7 = σ 7) : Ws τ P E := by
  have ek : ∀ n, kids τ n = kids σ n := fun n => kids_same (by rw [e3]) (fun k _ _ => by unfold th; rw [e6])
  have eh : ∀ x l, hm τ x l = hm σ x l := fun x l => by unfold hm; rw [e1, e5]
  have el : ∀ n, lvn τ n ↔ lvn σ n := fun n => by unfold lvn; rw [e2]
  have ea : ∀ x l, alv τ x l ↔ alv σ x l := fun x l => by unfold alv; rw [e0, e2, e7, el]
  unfold Ws
  simp only [e0, e2, e3, e5, e7, ek, eh, el, ea]
  exact h
theorem ws_perm {σ : jx_St} {P P' : List (Int × Int)} {E : List Int} (h : Ws σ P E) (hp : ∀ a, a ∈ P' ↔ a ∈ P) (hn : P'.Nodup) : Ws σ P' E := by
  obtain ⟨w1, w2, w3, w4, w5, w6, w7, w8, w9, w10⟩ := h
  exact ⟨w1, w2, w3, w4, fun n x a b => by rw [hp]; exact w5 n x a b, w6, fun x l a => by rw [hp]; exact w7 x l a, fun x l a => w8 x l ((hp _).mp a), hn, w10⟩
theorem ws_E {σ : jx_St} {P : List (Int × Int)} {E E' : List Int} (h : Ws σ P E) (he : ∀ n ∈ E, n ∈ E' ∨ (lvn σ n → (n ≠ σ 7 0 → 2 ≤ σ 3 n) ∧ (0 < σ 2 n → 1 ≤ σ 3 n))) : Ws σ P E' := by
  obtain ⟨w1, w2, w3, w4, w5, w6, w7, w8, w9, w10⟩ := h
  refine ⟨w1, w2, w3, fun n hn => ?_, w5, w6, w7, w8, w9, w10⟩
  obtain ⟨a, b, c⟩ := w4 n hn
  refine ⟨a, b, ?_⟩
  rcases c with c | c
  · rcases he n c with d | d
    · exact Or.inl d
    · exact Or.inr (d hn)
  · exact Or.inr c
theorem th_rm {σ : jx_St} {n p k : Int} (k1 : k < σ 3 n - 1) : th (rmF σ n p) n k = if p ≤ k then th σ n (k + 1) else th σ n k := by
  simp only [th, rmF, if_true]
  by_cases a : p ≤ k
  · rw [if_pos (by omega), if_pos a]
    congr 1; omega
  · rw [if_neg (by omega), if_neg (by omega), if_neg a]
theorem th_rm_ne {σ : jx_St} {n p m k : Int} (hne : m ≠ n) (k0 : 0 ≤ k) (k1 : k < 5) (h5 : σ 3 n ≤ 5) (hp : 0 ≤ p ∧ p < σ 3 n) : th (rmF σ n p) m k = th σ m k := by
  simp only [th, rmF, if_true]
  rw [if_neg (by omega), if_neg (by omega)]
theorem kids_rm_ne {σ : jx_St} {n p m : Int} (hne : m ≠ n) (hm : σ 3 m ≤ 5) (h5 : σ 3 n ≤ 5) (hp : 0 ≤ p ∧ p < σ 3 n) : kids (rmF σ n p) m = kids σ m := by
  apply kids_same
  · simp only [rmF]; simp [hne]
  · intro k k0 k1
    exact th_rm_ne hne k0 (by omega) h5 hp
theorem kids_rm {σ : jx_St} {n p y : Int} (hp : 0 ≤ p ∧ p < σ 3 n) (hd : (kids σ n).Nodup) : y ∈ kids (rmF σ n p) n ↔ y ∈ kids σ n ∧ y ≠ th σ n p := by
  have e3 : rmF σ n p 3 n = σ 3 n - 1 := by simp [rmF]
  rw [mem_kids, mem_kids, e3]
  constructor
  · rintro ⟨k, k0, k1, e⟩
    rw [th_rm k1] at e
    by_cases a : p ≤ k
    · rw [if_pos a] at e
      refine ⟨⟨k + 1, by omega, by omega, e⟩, fun q => ?_⟩
      have := nodup_th hd (by omega) (by omega) hp.1 hp.2 (e.trans q)
      omega
    · rw [if_neg a] at e
      refine ⟨⟨k, by omega, by omega, e⟩, fun q => ?_⟩
      have := nodup_th hd (by omega) (by omega) hp.1 hp.2 (e.trans q)
      omega
  · rintro ⟨⟨k, k0, k1, e⟩, hne⟩
    have : k ≠ p := fun q => hne (by rw [← e, q])
    by_cases a : k < p
    · exact ⟨k, k0, by omega, by rw [th_rm (by omega), if_neg (by omega), e]⟩
    · exact ⟨k - 1, by omega, by omega, by rw [th_rm (by omega), if_pos (by omega), show k - 1 + 1 = k by omega, e]⟩
theorem kids_rm_nodup {σ : jx_St} {n p : Int} (hp : 0 ≤ p ∧ p < σ 3 n) (hd : (kids σ n).Nodup) : (kids (rmF σ n p) n).Nodup := by
  have e3 : rmF σ n p 3 n = σ 3 n - 1 := by simp [rmF]
  refine nodup_kids (fun j k j0 jk k1 e => ?_)
  rw [e3] at k1
  rw [th_rm (by omega), th_rm (by omega)] at e
  by_cases a : p ≤ j
  · rw [if_pos a, if_pos (by omega)] at e
    have := nodup_th hd (by omega) (by omega) (by omega) (by omega) e
    omega
  · rw [if_neg a] at e
    by_cases b : p ≤ k
    · rw [if_pos b] at e
      have := nodup_th hd (by omega) (by omega) (by omega) (by omega) e
      omega
    · rw [if_neg b] at e
      have := nodup_th hd (by omega) (by omega) (by omega) (by omega) e
      omega
theorem hm_rm {σ : jx_St} {n p y m : Int} (hx : alv σ (th σ n p) (σ 2 n)) (hy : alv σ y m) : hm (rmF σ n p) y m = if y = th σ n p ∧ m = σ 2 n then -1 else hm σ y m := by
  by_cases e : m = 0 ↔ σ 2 n = 0
  · have e5 : hm (rmF σ n p) y m = if y = th σ n p then -1 else hm σ y m := by
      by_cases z : σ 2 n = 0
      · simp only [hm, rmF, if_pos z, if_pos (e.mpr z)]
        simp
      · simp only [hm, rmF, if_neg z, if_neg (fun q => z (e.mp q))]
        simp
    rw [e5]
    by_cases yx : y = th σ n p
    · rw [if_pos yx, if_pos ⟨yx, alv_uniq hy (by rw [yx]; exact hx) e⟩]
    · rw [if_neg yx, if_neg (fun q => yx q.1)]
  · rw [if_neg (fun q => e (by rw [q.2]))]
    by_cases z : σ 2 n = 0
    · simp only [hm, rmF, if_pos z, if_neg (fun q => e ⟨fun _ => z, fun _ => q⟩ : ¬ m = 0)]
      simp
    · have z2 : m = 0 := Decidable.byContradiction (fun q => e ⟨fun a => absurd a q, fun a => absurd a z⟩)
      simp only [hm, rmF, if_neg z, if_pos z2]
      simp
/-- a thing leaves its row and waits -/
theorem ws_detach {σ : jx_St} {P : List (Int × Int)} {E : List Int} {n p : Int} (h : Ws σ P E) (hn : lvn σ n) (hp : 0 ≤ p ∧ p < σ 3 n) : Ws (rmF σ n p) ((th σ n p, σ 2 n) :: P) (n :: E) := by
  obtain ⟨w1, w2, w3, w4, w5, w6, w7, w8, w9, w10⟩ := h
  have n4 := w4 n hn
  obtain ⟨xa, xh, xP⟩ := w5 n _ hn (th_kids hp.1 hp.2)
  have e0 : rmF σ n p 0 = σ 0 := by funext i; simp only [rmF]; rw [if_neg (by decide), if_neg (by decide), if_neg (by split <;> decide)]
  have e2 : rmF σ n p 2 = σ 2 := by funext i; simp only [rmF]; rw [if_neg (by decide), if_neg (by decide), if_neg (by split <;> decide)]
  have e7 : rmF σ n p 7 = σ 7 := by funext i; simp only [rmF]; rw [if_neg (by decide), if_neg (by decide), if_neg (by split <;> decide)]
  have e3 : ∀ m, rmF σ n p 3 m = if m = n then σ 3 n - 1 else σ 3 m := fun m => by simp [rmF]
  have e5 : ∀ m, rmF σ n p 5 m = σ 5 m ∨ rmF σ n p 5 m = -1 := fun m => by
    simp only [rmF]
    rw [if_neg (by decide), if_neg (by decide)]
    by_cases z : σ 2 n = 0
    · rw [if_pos z, if_neg (by decide)]; exact Or.inl rfl
    · rw [if_neg z, if_pos rfl]
      by_cases y : m = th σ n p
      · rw [if_pos y]; exact Or.inr rfl
      · rw [if_neg y]; exact Or.inl rfl
  have e5x : 0 < σ 2 n → rmF σ n p 5 (th σ n p) = -1 := fun z => by
    simp only [rmF]
    rw [if_neg (by decide), if_neg (by decide), if_neg (by omega : ¬ σ 2 n = 0), if_pos rfl, if_pos trivial]
  have lv' : ∀ m, lvn (rmF σ n p) m ↔ lvn σ m := fun m => by unfold lvn; rw [e2]
  have al' : ∀ y m, alv (rmF σ n p) y m ↔ alv σ y m := fun y m => by unfold alv; rw [e0, e2, e7, lv']
  have kn : ∀ m, lvn σ m → m ≠ n → kids (rmF σ n p) m = kids σ m := fun m hm hne => kids_rm_ne hne (w4 m hm).2.1 n4.2.1 hp
  have sub : ∀ m y, lvn σ m → y ∈ kids (rmF σ n p) m → y ∈ kids σ m ∧ (y, σ 2 m) ≠ (th σ n p, σ 2 n) := fun m y hq hy => by
    by_cases e : m = n
    · subst e
      have := (kids_rm hp (w6 m hq)).mp hy
      exact ⟨this.1, fun q => this.2 (congrArg Prod.fst q)⟩
    · rw [kn m hq e] at hy
      refine ⟨hy, fun q => e ?_⟩
      have q1 : y = th σ n p := congrArg Prod.fst q
      have q2 : σ 2 m = σ 2 n := congrArg Prod.snd q
      have := (w5 m y hq hy).2.1
      rw [q1, q2, xh] at this
      exact this.symm
  refine ⟨?_, ?_, ?_, ?_, ?_, ?_, ?_, ?_, List.nodup_cons.mpr ⟨xP, w9⟩, by rw [e0]; exact w10⟩
  · rw [e7, e2, lv']
    refine ⟨w1.1, w1.2.1, ?_⟩
    rcases e5 (σ 7 0) with a | a
    · rw [a]; exact w1.2.2
    · exact a
  · rw [e7, e2]; exact w2
  · intro m hm h2
    rw [e2] at h2
    rw [e3, if_neg (fun e => by subst e; have := hn.2; omega)]
    refine ⟨(w3 m hm h2).1, ?_⟩
    rcases e5 m with a | a
    · rw [a]; exact (w3 m hm h2).2
    · exact a
  · intro m hm
    have hm' := (lv' m).mp hm
    obtain ⟨a, b, c⟩ := w4 m hm'
    rw [e7, e2, e3]
    split
    · next e => subst e; exact ⟨by omega, by omega, Or.inl List.mem_cons_self⟩
    · exact ⟨a, b, c.imp_left (fun q => List.mem_cons_of_mem _ q)⟩
  · intro m y hm hy
    have hm' := (lv' m).mp hm
    rw [e2, al']
    obtain ⟨s1, s2⟩ := sub m y hm' hy
    obtain ⟨a, b, c⟩ := w5 m y hm' s1
    refine ⟨a, ?_, fun q => ?_⟩
    · rw [hm_rm xa a, if_neg (fun q => s2 (by rw [q.1, q.2]))]
      exact b
    · rcases List.mem_cons.mp q with z | z
      · exact s2 z
      · exact c z
  · intro m hm
    have hm' := (lv' m).mp hm
    by_cases e : m = n
    · subst e
      exact kids_rm_nodup hp (w6 m hm')
    · rw [kn m hm' e]; exact w6 m hm'
  · intro y m hy
    have hy' := (al' y m).mp hy
    rw [hm_rm xa hy', lv', e2]
    by_cases e : y = th σ n p ∧ m = σ 2 n
    · exact Or.inl (by rw [e.1, e.2]; exact List.mem_cons_self)
    · rw [if_neg e]
      rcases w7 y m hy' with a | ⟨a, b, c⟩
      · exact Or.inl (List.mem_cons_of_mem _ a)
      · refine Or.inr ⟨a, b, ?_⟩
        by_cases e2 : hm σ y m = n
        · rw [e2] at c b ⊢
          exact (kids_rm hp (w6 n hn)).mpr ⟨c, fun q => e ⟨q, b.symm⟩⟩
        · rw [kn _ a e2]; exact c
  · intro y m hy
    rw [al']
    rcases List.mem_cons.mp hy with z | z
    · have z1 : y = th σ n p := congrArg Prod.fst z
      have z2 : m = σ 2 n := congrArg Prod.snd z
      rw [z1, z2]
      exact ⟨xa, e5x⟩
    · obtain ⟨a, b⟩ := w8 y m z
      refine ⟨a, fun q => ?_⟩
      rcases e5 y with c | c
      · rw [c]; exact b q
      · exact c
