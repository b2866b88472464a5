theorem am_W_req {cy : Nat → ClassId} {ad : Nat → Nat} {m : am_M} {X : am_Rf} (h : an_req m X = true) : am_W cy ad am_SH m = am_W cy ad am_SH (m.1, m.2.1, m.2.2.1, am_rf X) := by
  unfold am_W
  apply List.map_congr_left
  intro k hk
  have hk' : k < am_SH.length := List.mem_range.mp hk
  obtain ⟨x, hx⟩ : ∃ x, am_SH[k]? = some x := ⟨_, List.getElem?_eq_getElem hk'⟩
  have h1 := List.all_eq_true.mp h k hk
  rw [hx] at h1
  have hg : am_SH.getD k (.inr (0, 0)) = x := by simp [List.getD, hx]
  rw [hg]
  congr 1
  match x, h1 with
  | .inl o, h1 =>
    simp only [am_cell]
    congr 2
    apply List.map_congr_left
    intro j hj
    have h2 := List.all_eq_true.mp h1 j hj
    unfold am_fv
    congr 1
    by_cases h3 : o.2.getD j 0 = 3
    · have h4 : (o.2.getD j 0 == 3) = true := by simpa using h3
      rw [h4] at h2
      have h5 := of_decide_eq_true h2
      rw [h3]
      simp only [am_rv]
      rw [h5]
    · unfold am_rv
      split
      · rfl
      · rfl
      · rfl
      · next h6 => exact absurd h6 h3
      · rfl
  | .inr (0, n), _ => rfl
  | .inr (1, n), _ => rfl
  | .inr (2, n), _ => rfl
  | .inr (3, n), _ => rfl
  | .inr (n + 4, k), _ => rfl
set_option maxRecDepth 100000 in
theorem an_mi_wf : an_wf1 am_SH an_mi = true := by decide +kernel
theorem lw_d0 : decode code 0 = .ok (.new 8, 3) := by decide +kernel
theorem lw_d4 : decode code 4 = .ok (.invokespecial 17, 3) := by decide +kernel
theorem lw_d8 : decode code 8 = .ok (.new 18, 3) := by decide +kernel
theorem lw_d12 : decode code 12 = .ok (.invokespecial 20, 3) := by decide +kernel
theorem lw_d17 : decode code 17 = .ok (.newarray .double, 2) := by decide +kernel
theorem lw_d3 : decode code 3 = .ok (.dup, 1) := by decide +kernel
theorem lw_d11 : decode code 11 = .ok (.dup, 1) := by decide +kernel
theorem lw_d7 : decode code 7 = .ok (.astore_n 1, 1) := by decide +kernel
theorem lw_d15 : decode code 15 = .ok (.astore_n 2, 1) := by decide +kernel
theorem lw_d16 : decode code 16 = .ok (.iconst 1, 1) := by decide +kernel
theorem lw_d19 : decode code 19 = .ok (.astore_n 3, 1) := by decide +kernel
theorem lw_d20 : decode code 20 = .ok (.iconst 0, 1) := by decide +kernel
theorem lw_d21 : decode code 21 = .ok (.istore 4, 2) := by decide +kernel
/-- the memory with which the loop begins -/
def lw_m0 : am_M := (an_mi.1, an_mi.2.1, an_mi.2.2.1, am_rf (2, 11, 11, 2, 2, 2))
set_option maxHeartbeats 4000000 in
set_option maxRecDepth 100000 in
/-- from the law's entry to its loop -/
theorem lw_begin {p : Program} {e : Env} {s : State} {m : MethodId} {below : List Frame} {meth : Method} {c : Code} (l : Launch) {b L : Nat} {xs : Nat → Int32} {Q : State → Prop} (C0 : lw_At p s m meth c b L xs)
    (kk : ∀ (D : va_G) (cy : Nat → ClassId) (ad : Nat → Nat), va_K D am_cl (am_tys cy) s → (∀ k, k < am_SH.length → s.heap.size ≤ ad k) → ad 82 = b → lw_W p l e s m b below meth c Q D cy ad (23, lw_ls 0, [], lw_m0)) :
    W p l e room_1 s m #[Value.ref b] below meth c s.heap [] 0 0 Q (entryFrame m ([Value.ref b] : List Value).toArray 8) := by
  obtain ⟨hx, hb, hr, hml, hown, hts, hX, hbl, hlocks, hgv⟩ := C0
  have htsU : ∀ w ∈ am_U, w.before #[Value.ref b] s = true := fun w h => hts w (List.mem_filter.mp h).1
  obtain ⟨D, cy, hK⟩ := lw_known htsU
  have hA : ∀ q : Nat, s.heap.size ≤ q → (fun q : Nat => s.heap.size ≤ q) q := fun _ h => h
  have hS : va_S (fun q : Nat => s.heap.size ≤ q) s.heap s.heap [] := va_S.rf
  have hP : va_P D am_cl (am_W cy (fun _ => b) [] an_m0) s.heap := fun k q h => by simp [am_W] at h
  have hD : va_D (fun q : Nat => s.heap.size ≤ q) (am_W cy (fun _ => b) [] an_m0) := ⟨fun i j p q h => by simp [am_W] at h, fun k q h => by simp [am_W] at h⟩
  obtain ⟨hy1, hy2, hy3⟩ := an_y_ok
  cases hxx : an_x with
  | none => rw [hxx] at hy1; cases hy1
  | some r =>
    rw [hxx] at hy1
    simp only [Bool.and_eq_true, decide_eq_true_eq] at hy1
    obtain ⟨hr1, hrw⟩ := hy1
    have hrl : r.1.length = 42 := by rw [hr1]; rfl
    have hrb : am_shB r.1 = true := an_ex_shB 4 7 _ _ _ r hxx (by decide +kernel)
    cases hyy : an_y with
    | none => rw [hyy] at hy2; cases hy2
    | some r2 =>
      rw [hyy] at hy2
      simp only [Bool.and_eq_true, decide_eq_true_eq] at hy2
      obtain ⟨hr2, hrw2⟩ := hy2
      have hrl2 : r2.1.length = 81 := by rw [hr2]; rfl
      have hyx : an_ex an_Yc am_Ys 1000 2 8 [.ref 42] (r.1 ++ [.inl (8, am_ks 8)]) (am_new r.2 42) = some r2 := by
        have := hyy
        unfold an_y at this
        rw [hxx] at this
        exact this
      have hmi : an_mi = am_new r2.2 81 := by
        unfold an_mi
        rw [hyy]
      have hl := lv_entry ([.ref b]) (n := 8) (Nat.le_of_ble_eq_true rfl)
      rw [lg_entry_eq]
      generalize (lg_sl ([.ref b]) ++ List.replicate (8 - (lg_sl ([.ref b])).length) Slot.unset).toArray = ls at hl ⊢
      have hl : lv_has ls 8 [(0, .ref b)] := hl
      have s42 : am_sz r.1 = am_sz (am_SH.take 42) := by rw [hr1]
      have s81 : am_sz r2.1 = am_sz (am_SH.take 81) := by rw [hr2]
      have z42 : am_sz (am_SH.take 42) ≤ 10000 := by decide +kernel
      have z81 : am_sz (am_SH.take 81) ≤ 20000 := by decide +kernel
      refine an_new1 (R := room_1) (ci := 7) (ad := fun _ => b) (sh := []) (mem := an_m0) hx hb hown htsU hK hA lw_d0 rfl (by decide) (an_mem_ok (by decide +kernel)) (an_mem_ok (by decide +kernel)) (an_mem_ok (by decide +kernel)) rfl (by decide) (by decide) hP hD hS (fun q0 H hP hD hS => ?_)
      refine lv_dup hx hb lw_d3 rfl ?_
      refine an_con1 (R := room_1) (nL := 8) (j := 7) (b0 := 0) (d := 4) (ad := an_up (fun _ => b) 0 q0) (rest := [.ref q0]) (r2 := r) hx hb hml hown htsU hK hA lw_d4 rfl rfl (an_mem_ok (by decide +kernel)) (an_mem_ok (by decide +kernel)) rfl (by decide +kernel) (an_exW am_U_uw am_cl_ok am_nk_ok an_nk_ok am_yk_ok an_yk_ok 1000 4 7 [.ref 0] _ _ r _ (by decide +kernel) hxx rfl) (by decide) (by decide) (by rw [hrl]; decide) (by rw [s42]; show 0 + 11 + (am_sz (am_SH.take 42) - _) ≤ 7293034; omega) hl.1 (Nat.le_of_ble_eq_true rfl) hP hD hS (fun ad2 H locs hag hP hD hS => ?_)
      have hq0 : ad2 0 = q0 := (hag 0 (by decide)).trans rfl
      refine lv_astore_n (lv' := [(1, .ref q0), (0, .ref b)]) hx hb lw_d7 rfl hl (by decide) rfl (fun ls hl => ?_)
      refine an_new1 (R := room_1) (ci := 8) (ad := ad2) (sh := r.1) (mem := r.2) hx hb hown htsU hK hA lw_d8 rfl (by decide) (an_mem_ok (by decide +kernel)) (an_mem_ok (by decide +kernel)) (an_mem_ok (by decide +kernel)) hrw (by rw [hrl]; decide) (by rw [s42]; show 0 + 11 + (am_sz (am_SH.take 42) - _) + 69 ≤ 7293034; omega) hP hD hS (fun q1 H hP hD hS => ?_)
      refine lv_dup hx hb lw_d11 rfl ?_
      rw [hrl] at hP hD
      have hup42 : an_up ad2 42 q1 42 = q1 := an_up_on
      have hM2 : an_Mt l D cy am_U _ 2 [.ref 42] (r.1 ++ [.inl (8, am_ks 8)]) (am_new r.2 42) r2 := an_exW am_U_uw am_cl_ok am_nk_ok an_nk_ok am_yk_ok an_yk_ok 1000 2 8 [.ref 42] _ _ r2 _ (am_shB_app hrb (by decide)) hyx rfl
      have hl43 : (r.1 ++ [Sum.inl (8, am_ks 8)] : am_Sh).length = 43 := by rw [List.length_append, hrl]; rfl
      have hs43 : am_sz (r.1 ++ [Sum.inl (8, am_ks 8)]) = am_sz (am_SH.take 42) + 69 := by rw [am_sz_app, s42]; rfl
      refine W.eq (g2 := F0 m (8 + 3 + 1) ls (.ref (an_up ad2 42 q1 42) :: [.ref q1])) (by rw [hup42]) ?_
      refine an_con1 (R := room_1) (nL := 8) (j := 8) (b0 := 42) (d := 2) (ad := an_up ad2 42 q1) (rest := [.ref q1]) (r2 := r2) hx hb hml hown htsU hK hA lw_d12 rfl rfl (an_mem_ok (by decide +kernel)) (an_mem_ok (by decide +kernel)) rfl (by decide +kernel) hM2 (by decide) (by decide) (by rw [hl43, hrl, hrl2]; decide) (by rw [hs43, s42, s81]; show 0 + 11 + (am_sz (am_SH.take 42) - _) + 69 + (am_sz (am_SH.take 81) - (am_sz (am_SH.take 42) + 69)) ≤ 7293034; omega) hl.1 (Nat.le_of_ble_eq_true rfl) hP hD hS (fun ad4 H locs hag4 hP hD hS => ?_)
      rw [hl43] at hag4
      have hq0' : ad4 0 = q0 := (hag4 0 (by decide)).trans ((an_up_off (by decide)).trans hq0)
      have hq1 : ad4 42 = q1 := (hag4 42 (by decide)).trans hup42
      refine lv_astore_n (lv' := [(2, .ref q1), (1, .ref q0), (0, .ref b)]) hx hb lw_d15 rfl hl (by decide) rfl (fun ls hl => ?_)
      refine lv_iconst (v := 1) hx hb lw_d16 (by decide) ?_
      refine an_na1 (R := room_1) (v := 1) (ad := ad4) (sh := r2.1) (mem := r2.2) hx hb htsU hK hA lw_d17 (an_mem_ok (by decide +kernel)) hrw2 (by decide) (by decide) (by rw [hl43, hrl, hrl2]; decide) (by rw [hs43, s42, s81]; show 0 + 11 + (am_sz (am_SH.take 42) - _) + 69 + (am_sz (am_SH.take 81) - (am_sz (am_SH.take 42) + 69)) + 1 ≤ 7293034; omega) hP hD hS (fun q2 H hP hD hS => ?_)
      refine lv_astore_n (lv' := [(3, .ref q2), (2, .ref q1), (1, .ref q0), (0, .ref b)]) hx hb lw_d19 rfl hl (by decide) rfl (fun ls hl => ?_)
      refine lv_iconst (v := 0) hx hb lw_d20 (by decide) ?_
      refine lv_istore (lv' := [(4, .int 0), (3, .ref q2), (2, .ref q1), (1, .ref q0), (0, .ref b)]) hx hb lw_d21 hl (by decide) rfl (fun ls hl => ?_)
      rw [hrl2] at hP hD
      have hsh : r2.1 ++ [Sum.inr (2, (1 : Int32).toNatClampNeg)] = am_SH := by rw [hr2]; decide +kernel
      rw [hsh, ← hmi] at hP hD
      have hagf : ∀ k, k < am_SH.length → an_up (an_up ad4 81 q2) 82 b k = an_up ad4 81 q2 k := fun k h => an_up_off h
      rw [← an_W_grow hagf an_mi_wf, am_W_req hy3] at hP hD
      have hc : ∀ x y : Nat, x = am_SH.length → y = am_sz am_SH → W p l e room_1 s m #[Value.ref b] below meth c H locs x y Q (F0 m 23 ls []) := by
        intro x y h1 h2
        subst h1
        subst h2
        have hnA : ∀ k, k < am_SH.length → s.heap.size ≤ an_up (an_up ad4 81 q2) 82 b k := fun k h => am_W_in hD h
        refine kk D cy (an_up (an_up ad4 81 q2) 82 b) hK hnA an_up_on H locs ls hP hD hS ?_ rfl
        refine am_has_sub hl fun q hq => ?_
        obtain ⟨i, u⟩ := q
        obtain ⟨v, hv, rfl⟩ := am_lv_mem.mp hq
        have e0 : an_up (an_up ad4 81 q2) 82 b 0 = q0 := hq0'
        have e1 : an_up (an_up ad4 81 q2) 82 b 42 = q1 := hq1
        have e2 : an_up (an_up ad4 81 q2) 82 b 81 = q2 := rfl
        have e3 : an_up (an_up ad4 81 q2) 82 b 82 = b := rfl
        match i, hv with
        | 0, hv => cases hv; simp [am_cv, e3]
        | 1, hv => cases hv; simp [am_cv, e0]
        | 2, hv => cases hv; simp [am_cv, e1]
        | 3, hv => cases hv; simp [am_cv, e2]
        | 4, hv => cases hv; simp [am_cv]
        | 5, hv => cases hv
        | 6, hv => cases hv
        | 7, hv => cases hv
        | i + 8, hv => simp [lw_ls] at hv
      refine hc _ _ ?_ ?_
      · rw [hl43, hrl, hrl2]; rfl
      · rw [hs43, s42, s81]; decide +kernel
