theorem jx_NW_on {w : Cond} (h : w ∈ jx_NW) : w.onTables = true := by
  have h2 := (List.mem_filter.mp h).2
  cases w <;> first | rfl | (simp [jx_isN] at h2)
theorem jx_T_of {args : Array Value} {s : State} (hts : ∀ w ∈ lw_tbl, w.before args s = true) : ∀ w ∈ jx_T, w.before args s = true := fun w hw => hts w (List.mem_filter.mp hw).1
set_option maxRecDepth 100000 in
set_option maxHeartbeats 40000000 in
theorem law_core {p : Program} {e : Env} {s : State} {m : MethodId} {below : List Frame} {meth : Method} {c : Code} (l : Launch) {b L : Nat} {xs : Nat → Int32} (hL : L ≤ 260) (C0 : lw_At p s m meth c b L xs) (PT : jx_St → Prop) (hPT : ∀ sT : jx_St, sT = (fun _ _ => 0) → wp_T_init PT sT) (hW : ∀ sT sU sH0 sH1 sH2 sH3 : jx_St, PT sT → PT sU → PT sH0 → PT sH1 → PT sH2 → PT sH3 → wp_L_law (fun r => r = 1) L xs (fun _ _ => 0) (fun _ _ => 0) (fun _ _ => 0) sT (fun _ _ => 0) (fun _ _ => 0) sU (fun _ _ => 0) sH0 sH1 sH2 sH3 (fun _ _ => 0)) : W p l e room_1 s m #[Value.ref b] below meth c s.heap [] 0 0 (lw_Z below #[Value.ref b] s) (entryFrame m ([Value.ref b] : List Value).toArray 17) := by
  obtain ⟨hx, hb, hr, hml, hown, hts, hX, hbl, hlocks, hgv⟩ := id C0
  have C : jx_C p s m #[Value.ref b] c code RL 17 := ⟨hx, hb, hml, hown, jx_T_of hts⟩
  obtain ⟨A, hAe⟩ : ∃ A : Nat → Prop, A = (fun q : Nat => s.heap.size ≤ q) := ⟨_, rfl⟩
  have hA : ∀ q : Nat, s.heap.size ≤ q → A q := fun q h => by rw [hAe]; exact h
  obtain ⟨c0, i0, hk0⟩ := u_known (C := RX1) (T := TX1) (N := 12) (n := 12) hts inX1 (hts (.instantiable RX1 12) (List.mem_of_getElem? (i := 131) (by decide +kernel)))
  obtain ⟨c1, i1, hk1⟩ := u_known (C := RX2) (T := TX2) (N := 3) (n := 3) hts inX2 (hts (.instantiable RX2 3) (List.mem_of_getElem? (i := 175) (by decide +kernel)))
  obtain ⟨c2, i2, hk2⟩ := u_known (C := RX3) (T := TX3) (N := 9) (n := 9) hts inX3 (hts (.instantiable RX3 9) (List.mem_of_getElem? (i := 195) (by decide +kernel)))
  obtain ⟨c3, i3, hk3⟩ := u_known (C := RX5) (T := TX5) (N := 3) (n := 3) hts inX5 (hts (.instantiable RX5 3) (List.mem_of_getElem? (i := 115) (by decide +kernel)))
  obtain ⟨c4, i4, hk4⟩ := u_known (C := RX6) (T := TX6) (N := 11) (n := 11) hts inX6 (hts (.instantiable RX6 11) (List.mem_of_getElem? (i := 47) (by decide +kernel)))
  obtain ⟨c5, i5, hk5⟩ := u_known (C := RX7) (T := TX7) (N := 9) (n := 9) hts inX7 (hts (.instantiable RX7 9) (List.mem_of_getElem? (i := 39) (by decide +kernel)))
  obtain ⟨dC, dI, hKc⟩ : ∃ (dC : Nat → ClassId) (dI : Nat → Nat → Nat), ∀ (k : Nat) (q : vw_C), vwCl[k]? = some q → u_Kn s q.1 q.2.1 q.2.2 (dC k) (dI k) := by
    refine ⟨fun k => if k = 0 then c0 else if k = 1 then c1 else if k = 2 then c2 else if k = 3 then c3 else if k = 4 then c4 else c5, fun k => if k = 0 then i0 else if k = 1 then i1 else if k = 2 then i2 else if k = 3 then i3 else if k = 4 then i4 else i5, ?_⟩
    intro k q hq
    match k, hq with
    | 0, hq => cases hq; exact hk0
    | 1, hq => cases hq; exact hk1
    | 2, hq => cases hq; exact hk2
    | 3, hq => cases hq; exact hk3
    | 4, hq => cases hq; exact hk4
    | 5, hq => cases hq; exact hk5
    | k + 6, hq => simp [vwCl] at hq
  have hac : (Cond.arrayClass .int).before #[Value.ref b] s = true := hts _ (List.mem_of_getElem? (i := 113) (by decide +kernel))
  have hao : (Cond.arrayOver (.object "BoxCourt$Tree")).before #[Value.ref b] s = true := hts _ (List.mem_of_getElem? (i := 181) (by decide +kernel))
  obtain ⟨cI, kI, comp, f1, f2, f3⟩ := Cond.arrayClass_spec hac
  obtain ⟨compT, cT, kT, g1, g2, g3, g4, g5⟩ := Cond.arrayOver_spec hao
  have hK : jx_K (dC, dI) cI cT s := by
    refine ⟨⟨hKc, fun k q hq => ?_⟩, fun w hw => va_Nw.of (jx_NW_on hw) (hts w (List.mem_filter.mp hw).1), va_AO.of hao⟩
    match k, hq with
    | 0, hq => cases hq; exact ⟨fun n z => ⟨fun k h => (by cases h), kI, f2, comp, f3⟩, f1⟩
    | 1, hq => cases hq; exact ⟨fun n z => ⟨fun k h => (by cases h), kT, g3, compT, g4⟩, kT, compT, g3, g4, g1, g5⟩
    | k + 2, hq => simp [jx_ty] at hq
  have hS : va_S A s.heap s.heap [] := va_S.rf
  have hP : va_P (dC, dI) vwCl [] s.heap := fun k q h => by simp at h
  have hD : va_D A [] := ⟨fun i j p q h => by simp at h, fun k q h => by simp at h⟩
  generalize (dC, dI) = D at hK hP
  have hl := lv_entry ([.ref b]) (n := 17) (Nat.le_of_ble_eq_true rfl)
  rw [lg_entry_eq]
  generalize (lg_sl ([.ref b]) ++ List.replicate (17 - (lg_sl ([.ref b])).length) Slot.unset).toArray = ls at hl ⊢
  have hl : lv_has ls 17 [(0, .ref b)] := hl
  refine jx_newB C hK hP hD hS hA ne_L_14 rfl rfl dL_law_0 (fun q1 H hP hD hS => ?_)
  refine lv_dup hx hb dL_law_3 rfl ?_
  refine jx_callB (ws := []) C hK hP hD hS hA (ct_B_init l D cI cT q1 PT hPT) mi_X7 lo_L_85 rfl rfl hl.1 rfl rfl dL_law_4 (fun u H locs hu hP hD hS => ?_)
  obtain ⟨aB, aT, aS, aC, aU, aV, aW, aH, hT, aO, sT, sU, sH0, sH1, sH2, sH3, rfl, haB, qT, qU, q0, q1_, q2, q3⟩ := hu
  have hP : va_P D vwCl (jx_ws cI cT [(cp_B aB (aT 0) (aS 0) (aC 0) (aU 0) (aV 0) (aW 0) (aH 0) (aO 0), (fun _ _ => 0)), (cp_T aT, sT), (cp_S aS (aT 0), (fun _ _ => 0)), (cp_C aC (aT 0) (aS 0), (fun _ _ => 0)), (cp_T aU, sU), (cp_S aV (aU 0), (fun _ _ => 0)), (cp_C aW (aU 0) (aV 0), (fun _ _ => 0)), (cp_H aH (fun j => hT j 0), (fun _ _ => 0)), (cp_T (hT 0), sH0), (cp_T (hT 1), sH1), (cp_T (hT 2), sH2), (cp_T (hT 3), sH3), (cp_O aO, (fun _ _ => 0))]) H := hP
  have hD : va_D A (jx_ws cI cT [(cp_B aB (aT 0) (aS 0) (aC 0) (aU 0) (aV 0) (aW 0) (aH 0) (aO 0), (fun _ _ => 0)), (cp_T aT, sT), (cp_S aS (aT 0), (fun _ _ => 0)), (cp_C aC (aT 0) (aS 0), (fun _ _ => 0)), (cp_T aU, sU), (cp_S aV (aU 0), (fun _ _ => 0)), (cp_C aW (aU 0) (aV 0), (fun _ _ => 0)), (cp_H aH (fun j => hT j 0), (fun _ _ => 0)), (cp_T (hT 0), sH0), (cp_T (hT 1), sH1), (cp_T (hT 2), sH2), (cp_T (hT 3), sH3), (cp_O aO, (fun _ _ => 0))]) := hD
  rw [← haB]
  refine lv_astore_n (lv' := [(1, .ref (aB 0)), (0, .ref b)]) hx hb dL_law_7 rfl hl (by decide) rfl (fun ls hl => ?_)
  have hP : va_P D vwCl (jx_ws cI cT [(cp_B aB (aT 0) (aS 0) (aC 0) (aU 0) (aV 0) (aW 0) (aH 0) (aO 0), (fun _ _ => 0)), (cp_C aC (aT 0) (aS 0), (fun _ _ => 0)), (cp_S aS (aT 0), (fun _ _ => 0)), (cp_T aT, sT), (cp_C aW (aU 0) (aV 0), (fun _ _ => 0)), (cp_S aV (aU 0), (fun _ _ => 0)), (cp_T aU, sU), (cp_H aH (fun j => hT j 0), (fun _ _ => 0)), (cp_T (hT 0), sH0), (cp_T (hT 1), sH1), (cp_T (hT 2), sH2), (cp_T (hT 3), sH3), (cp_O aO, (fun _ _ => 0))]) H := jx_P_sub (cs := [(cp_B aB (aT 0) (aS 0) (aC 0) (aU 0) (aV 0) (aW 0) (aH 0) (aO 0), (fun _ _ => 0)), (cp_T aT, sT), (cp_S aS (aT 0), (fun _ _ => 0)), (cp_C aC (aT 0) (aS 0), (fun _ _ => 0)), (cp_T aU, sU), (cp_S aV (aU 0), (fun _ _ => 0)), (cp_C aW (aU 0) (aV 0), (fun _ _ => 0)), (cp_H aH (fun j => hT j 0), (fun _ _ => 0)), (cp_T (hT 0), sH0), (cp_T (hT 1), sH1), (cp_T (hT 2), sH2), (cp_T (hT 3), sH3), (cp_O aO, (fun _ _ => 0))]) (ccs := [(cp_B aB (aT 0) (aS 0) (aC 0) (aU 0) (aV 0) (aW 0) (aH 0) (aO 0), (fun _ _ => 0)), (cp_C aC (aT 0) (aS 0), (fun _ _ => 0)), (cp_S aS (aT 0), (fun _ _ => 0)), (cp_T aT, sT), (cp_C aW (aU 0) (aV 0), (fun _ _ => 0)), (cp_S aV (aU 0), (fun _ _ => 0)), (cp_T aU, sU), (cp_H aH (fun j => hT j 0), (fun _ _ => 0)), (cp_T (hT 0), sH0), (cp_T (hT 1), sH1), (cp_T (hT 2), sH2), (cp_T (hT 3), sH3), (cp_O aO, (fun _ _ => 0))]) (is := [0, 3, 2, 1, 6, 5, 4, 7, 8, 9, 10, 11, 12]) hP rfl
  have hD : va_D A (jx_ws cI cT [(cp_B aB (aT 0) (aS 0) (aC 0) (aU 0) (aV 0) (aW 0) (aH 0) (aO 0), (fun _ _ => 0)), (cp_C aC (aT 0) (aS 0), (fun _ _ => 0)), (cp_S aS (aT 0), (fun _ _ => 0)), (cp_T aT, sT), (cp_C aW (aU 0) (aV 0), (fun _ _ => 0)), (cp_S aV (aU 0), (fun _ _ => 0)), (cp_T aU, sU), (cp_H aH (fun j => hT j 0), (fun _ _ => 0)), (cp_T (hT 0), sH0), (cp_T (hT 1), sH1), (cp_T (hT 2), sH2), (cp_T (hT 3), sH3), (cp_O aO, (fun _ _ => 0))]) := jx_D_sub (cs := [(cp_B aB (aT 0) (aS 0) (aC 0) (aU 0) (aV 0) (aW 0) (aH 0) (aO 0), (fun _ _ => 0)), (cp_T aT, sT), (cp_S aS (aT 0), (fun _ _ => 0)), (cp_C aC (aT 0) (aS 0), (fun _ _ => 0)), (cp_T aU, sU), (cp_S aV (aU 0), (fun _ _ => 0)), (cp_C aW (aU 0) (aV 0), (fun _ _ => 0)), (cp_H aH (fun j => hT j 0), (fun _ _ => 0)), (cp_T (hT 0), sH0), (cp_T (hT 1), sH1), (cp_T (hT 2), sH2), (cp_T (hT 3), sH3), (cp_O aO, (fun _ _ => 0))]) (ccs := [(cp_B aB (aT 0) (aS 0) (aC 0) (aU 0) (aV 0) (aW 0) (aH 0) (aO 0), (fun _ _ => 0)), (cp_C aC (aT 0) (aS 0), (fun _ _ => 0)), (cp_S aS (aT 0), (fun _ _ => 0)), (cp_T aT, sT), (cp_C aW (aU 0) (aV 0), (fun _ _ => 0)), (cp_S aV (aU 0), (fun _ _ => 0)), (cp_T aU, sU), (cp_H aH (fun j => hT j 0), (fun _ _ => 0)), (cp_T (hT 0), sH0), (cp_T (hT 1), sH1), (cp_T (hT 2), sH2), (cp_T (hT 3), sH3), (cp_O aO, (fun _ _ => 0))]) (is := [0, 3, 2, 1, 6, 5, 4, 7, 8, 9, 10, 11, 12]) hD rfl rfl
  refine W.widen (k := 75) (n := 2929) (Nat.le_of_ble_eq_true rfl) (Nat.le_of_ble_eq_true rfl) ?_
  exact law_walk hL C hr hlocks hX hbl hK hAe rfl aB aC aS aT aW aV aU aH hT aO (fun r => r = 1) (fun _ _ => 0) (fun _ _ => 0) (fun _ _ => 0) sT (fun _ _ => 0) (fun _ _ => 0) sU (fun _ _ => 0) sH0 sH1 sH2 sH3 (fun _ _ => 0) (fun _ h => h) (hW sT sU sH0 sH1 sH2 sH3 qT qU q0 q1_ q2 q3) H locs hP hD hS ls (lv_sub hl [1, 0] rfl)
