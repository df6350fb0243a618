/-! ===== the pure part: the nodes that are seen from a node ===== -/
def ch (σ : jx_St) (x : Int) : List Int := if 0 < σ 2 x then kids σ x else []
theorem mem_ch {σ : jx_St} {x y : Int} : y ∈ ch σ x ↔ 0 < σ 2 x ∧ y ∈ kids σ x := by
  unfold ch
  split
  · next h => exact ⟨fun q => ⟨h, q⟩, fun q => q.2⟩
  · next h => exact ⟨fun q => absurd q List.not_mem_nil, fun q => absurd q.1 h⟩
theorem kids_fl {σ : jx_St} {x : Int} : kids σ x = fl (th σ x) (σ 3 x).toNat := rfl
theorem fl_len (f : Int → Int) (k : Nat) : (fl f k).length = k := by unfold fl; simp
theorem mem_fl {f : Int → Int} {k : Nat} {y : Int} : y ∈ fl f k ↔ ∃ j : Int, 0 ≤ j ∧ j < (k : Int) ∧ f j = y := by
  unfold fl
  rw [List.mem_map]
  constructor
  · rintro ⟨j, hj, e⟩
    rw [List.mem_range] at hj
    exact ⟨(j : Int), by omega, by omega, e⟩
  · rintro ⟨j, j0, j1, e⟩
    exact ⟨j.toNat, List.mem_range.mpr (by omega), by rw [Int.toNat_of_nonneg j0]; exact e⟩
theorem fl_inj {f : Int → Int} {k : Nat} (h : (fl f k).Nodup) {i j : Int} (i0 : 0 ≤ i) (i1 : i < (k : Int)) (j0 : 0 ≤ j) (j1 : j < (k : Int)) (e : f i = f j) : i = j := by
  have g : ∀ (i : Int), 0 ≤ i → i < (k : Int) → (fl f k)[i.toNat]? = some (f i) := fun i i0 i1 => by
    unfold fl
    rw [List.getElem?_map, List.getElem?_range (by omega)]
    show some (f ((i.toNat : Nat) : Int)) = some (f i)
    rw [Int.toNat_of_nonneg i0]
  have hi := g i i0 i1
  have hj := g j j0 j1
  rw [e, ← hj] at hi
  have := (List.getElem?_inj (by rw [fl_len]; omega) h).mp hi
  omega
theorem p_note {Q : jx_St → Prop} {ψ : jx_St} {x : Int} (h0 : 0 ≤ ψ 2 0) (h1 : ψ 2 0 < 32) (h : ∀ ψ' : jx_St, ψ' 2 0 = ψ 2 0 + 1 → (∀ j, ψ' 1 j = if j = ψ 2 0 then x else ψ 1 j) → Q ψ') : wp_S_note Q ψ x := by
  refine ⟨jx_inR (by omega) (by omega), fun _ => ⟨jx_inR (by omega) (by omega), ?_⟩, fun q => absurd h1 q⟩
  rw [jx_se_in h0 h1]
  refine h _ ?_ (fun j => ?_)
  · rw [jx_su_eq, jx_su_ne (by decide)]
  · rw [jx_su_ne (by decide), jx_su_same]
/-- the list of the nodes that are seen -/
def Sn (σ ψ : jx_St) (top : Int) (S : List Int) : Prop :=
  0 ≤ ψ 2 0 ∧ ψ 2 0 ≤ 32 ∧ S = fl (ψ 1) (ψ 2 0).toNat ∧ S = top :: S.flatMap (ch σ) ∧ S.Nodup ∧ (∀ x ∈ S, lvn σ x ∧ σ 2 x ≤ σ 2 top)
theorem p_lookFrom {Q : jx_St → Prop} {ψ σ : jx_St} {P : List (Int × Int)} {E : List Int} {top : Int} (hW : Ws σ P E) (ht : lvn σ top) (h : ∀ ψ' S, Sn σ ψ' top S → Q ψ') : wp_S_lookFrom Q ψ σ top := by
  have hS := hW.sh
  refine p_note (by rw [jx_su_eq]; decide) (by rw [jx_su_eq]; decide) (fun ψ0 n1 n2 => ?_)
  rw [jx_su_eq] at n1 n2
  refine jx_loop (fun v => 0 ≤ v.2 ∧ v.2 ≤ v.1 2 0 ∧ v.1 2 0 ≤ 32 ∧ fl (v.1 1) (v.1 2 0).toNat = top :: (fl (v.1 1) v.2.toNat).flatMap (ch σ) ∧ (fl (v.1 1) (v.1 2 0).toNat).Nodup ∧ (∀ x ∈ fl (v.1 1) (v.1 2 0).toNat, lvn σ x ∧ σ 2 x ≤ σ 2 top)) (fun v => (32 - v.2).toNat) (fun B v hI hB => ?_) ⟨Int.le_refl _, by show 0 ≤ ψ0 2 0; rw [n1]; decide, by show ψ0 2 0 ≤ 32; rw [n1]; decide, ?_, ?_, ?_⟩
  · obtain ⟨ψ1, i⟩ := v
    obtain ⟨a1, a2, a3, a4, a5, a6⟩ := hI
    dsimp only at a1 a2 a3 a4 a5 a6 ⊢
    have fin : ¬ (i < 32 ∧ i < ψ1 2 0) → Q ψ1 := by
      intro q
      have ei : i = ψ1 2 0 := by omega
      refine h ψ1 _ ⟨by omega, a3, rfl, ?_, a5, a6⟩
      rw [ei] at a4
      exact a4
    refine ⟨jx_inR (by omega) (by omega), fun q => ⟨jx_inR (by omega) (by omega), jx_inR (by omega) (by omega), fun q2 => ⟨jx_inR (by omega) (by omega), ?_⟩, fun q2 => fin (fun z => q2 z.2)⟩, fun q => fin (fun z => q z.1)⟩
    rw [jx_at_in a1 (by omega)]
    have hc : (((ψ1 2 0).toNat : Nat) : Int) = ψ1 2 0 := Int.toNat_of_nonneg (by omega)
    have hx := a6 (ψ1 1 i) (mem_fl.mpr ⟨i, a1, by omega, rfl⟩)
    generalize hxx : ψ1 1 i = x at hx ⊢
    obtain ⟨hx, hxt⟩ := hx
    have sx := hS.1 x hx
    have full : (fl (ψ1 1) (ψ1 2 0).toNat ++ ch σ x).Nodup ∧ ∀ y ∈ fl (ψ1 1) (ψ1 2 0).toNat ++ ch σ x, lvn σ y ∧ σ 2 y ≤ σ 2 top := by
      refine ⟨List.nodup_append.mpr ⟨a5, ?_, fun a ha b hb e => ?_⟩, fun y hy => ?_⟩
      · unfold ch
        split
        · exact hW.2.2.2.2.2.1 x hx
        · exact List.nodup_nil
      · subst e
        obtain ⟨l0, hk⟩ := mem_ch.mp hb
        obtain ⟨k1, k2, k3, _⟩ := hW.kid hx l0 hk
        rw [a4] at ha
        rcases List.mem_cons.mp ha with z | z
        · rw [z] at k2; omega
        · obtain ⟨w, hw, hw2⟩ := List.mem_flatMap.mp z
          obtain ⟨j, j0, j1, ej⟩ := mem_fl.mp hw
          obtain ⟨m0, mk⟩ := mem_ch.mp hw2
          have hwl := a6 w (mem_fl.mpr ⟨j, j0, by omega, ej⟩)
          obtain ⟨_, _, p3, _⟩ := hW.kid hwl.1 m0 mk
          rw [k3] at p3
          have : j = i := fl_inj a5 j0 (by omega) a1 (by omega) (by rw [ej, hxx, p3])
          omega
      · rcases List.mem_append.mp hy with z | z
        · exact a6 y z
        · obtain ⟨l0, hk⟩ := mem_ch.mp z
          obtain ⟨k1, k2, _, _⟩ := hW.kid hx l0 hk
          exact ⟨k1, by omega⟩
    have flen : (ψ1 2 0).toNat + (ch σ x).length ≤ 32 := by
      have := List.Nodup.length_le_of_subset (l₂ := nds) full.1 (fun y hy => mem_nds.mpr (full.2 y hy).1.1)
      rw [List.length_append, fl_len] at this
      have e : nds.length = 32 := by unfold nds; rw [List.length_map, List.length_range]
      omega
    have inner : ∀ s : Int, s = (if 0 < σ 2 x then σ 3 x else 0) → wp_S_lookFrom_58 Q σ top B ψ1 i x s := by
      intro s hs
      have hs0 : 0 ≤ s ∧ s ≤ 5 := by rw [hs]; split <;> omega
      have hcl : ch σ x = fl (th σ x) s.toNat := by
        unfold ch
        rw [hs]
        split
        · exact kids_fl
        · rfl
      rw [hcl, fl_len] at flen
      refine jx_loop (fun v => 0 ≤ v.2 ∧ v.2 ≤ s ∧ v.1 2 0 = ψ1 2 0 + v.2 ∧ fl (v.1 1) (v.1 2 0).toNat = fl (ψ1 1) (ψ1 2 0).toNat ++ fl (th σ x) v.2.toNat ∧ ∀ j, 0 ≤ j → j < ψ1 2 0 → v.1 1 j = ψ1 1 j) (fun v => (s - v.2).toNat) (fun B2 v hI2 hB2 => ?_) ⟨Int.le_refl _, hs0.1, by show ψ1 2 0 = ψ1 2 0 + 0; omega, ?_, fun _ _ _ => rfl⟩
      · obtain ⟨ψ2, k⟩ := v
        obtain ⟨b1, b2, b3, b4, b5⟩ := hI2
        dsimp only at b1 b2 b3 b4 b5 ⊢
        refine ⟨jx_inR (by omega) (by omega), jx_inR (by omega) (by omega), fun z => ?_, fun z => ?_⟩
        · refine p_thingAt hx.1 ⟨b1, by omega⟩ (p_note (by omega) (by omega) (fun ψ3 m1 m2 => ?_))
          have e3 : (ψ3 2 0).toNat = (ψ2 2 0).toNat + 1 := by omega
          have ec : (((ψ2 2 0).toNat : Nat) : Int) = ψ2 2 0 := Int.toNat_of_nonneg (by omega)
          refine hB2 _ ⟨by show 0 ≤ k + 1; omega, by show k + 1 ≤ s; omega, by show ψ3 2 0 = ψ1 2 0 + (k + 1); omega, ?_, fun j j0 j1 => ?_⟩ (by show (s - (k + 1)).toNat < (s - k).toNat; omega)
          · dsimp only
            have ek : (((k.toNat : Nat)) : Int) = k := Int.toNat_of_nonneg b1
            rw [e3, fl_succ, show (k + 1).toNat = k.toNat + 1 by omega, fl_succ, ← List.append_assoc, ← b4, ec, ek, m2, if_pos rfl]
            congr 1
            exact fl_same _ (fun j j0 j1 => by rw [m2, if_neg (by omega)])
          · dsimp only
            rw [m2, if_neg (by omega)]
            exact b5 j j0 j1
        · have ek : k = s := by omega
          subst ek
          refine hB _ ⟨by show 0 ≤ i + 1; omega, by show i + 1 ≤ ψ2 2 0; omega, by show ψ2 2 0 ≤ 32; omega, ?_, ?_, ?_⟩ (by show (32 - (i + 1)).toNat < (32 - i).toNat; omega)
          · dsimp only
            rw [b4, a4, show (i + 1).toNat = i.toNat + 1 by omega, fl_succ, List.flatMap_append, ← hcl]
            have ei : ((i.toNat : Nat) : Int) = i := Int.toNat_of_nonneg a1
            rw [ei, b5 i a1 q2, hxx, fl_same (f := ψ2 1) (g := ψ1 1) i.toNat (fun j j0 j1 => b5 j j0 (by omega))]
            simp
          · dsimp only
            rw [b4, ← hcl]; exact full.1
          · dsimp only
            rw [b4, ← hcl]; exact full.2
      · dsimp only
        show fl (ψ1 1) (ψ1 2 0).toNat = fl (ψ1 1) (ψ1 2 0).toNat ++ []
        rw [List.append_nil]
    refine p_levelOf hx.1 ⟨hW.R2 hx, fun z => inner 0 (by rw [if_neg (by omega)]), fun z => p_sizeOf hx.1 (inner _ (by rw [if_pos (by omega)]))⟩
  · dsimp only
    rw [n1]
    show [ψ0 1 0] = [top]
    rw [n2, if_pos rfl]
  · dsimp only
    rw [n1]
    show [ψ0 1 0].Nodup
    simp
  · dsimp only
    rw [n1]
    intro x hx
    have hx : x ∈ [ψ0 1 0] := hx
    rw [List.mem_singleton, n2, if_pos rfl] at hx
    rw [hx]
    exact ⟨ht, Int.le_refl _⟩
