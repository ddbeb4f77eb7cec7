/-! THE LAW, WHOLE -/
theorem lw_67 : (km_of cs_sh M0c).length = 69 := by rw [km_of, km_of_len]; exact km_shc.1
theorem lw_29 : (km_of ms_sh M0m).length = 29 := by rw [km_of, km_of_len]; exact km_shm.1
theorem lw_mc : mk_c = 28 := by
  show (km_of ms_sh M0m).length - km_w10.length = 28
  rw [lw_29]; rfl
theorem lw_ms : mk_s ≤ 10000 := km_shm.2.2
theorem whole_start {p : Program} {e : Env} {s : State} {m : MethodId} {below : List Frame} {meth : Method} {c : Code} (l : Launch) {b L : Nat} {xs : Nat → Int32} (hst : l.stackTraces = false) (hL : L ≤ 3072) (C0 : lw_At p s m meth c b L xs) : W p l e room_1 s m #[Value.ref b] below meth c s.heap [] 0 0 (lw_Z below #[Value.ref b] s) (entryFrame m ([Value.ref b] : List Value).toArray 7) := by
  obtain ⟨z, ao, cy, cyL, D, C⟩ := lc_of C0 hL hst
  obtain ⟨M1, M2, hm1, hm2, hInv⟩ := m_start (N := 4200) (Nat.le_refl _)
  obtain ⟨⟨hx, hb, hr, hml, hown, hlk⟩, hts, ⟨hX, hbl, -⟩, ⟨hK, hAO, hKL, hnc⟩, -⟩ := id C
  have hl := lv_entry (n := 7) [Value.ref b] (Nat.le_of_ble_eq_true rfl)
  rw [lg_entry_eq]
  generalize (lg_sl [Value.ref b] ++ List.replicate (7 - (lg_sl [Value.ref b]).length) Slot.unset).toArray = ls at hl ⊢
  have hl : lv_has ls 7 [(0, .ref b)] := hl
  refine lw_new (ci := 9) (w := []) C rfl nt_cl9 nt_in9 nt_iz9 rfl (fun k q h => by cases h) va_S.rf (by decide) (by decide) (lc_at lw_lk 15 rfl) (fun H1 hP1 hS1 hz1 => ?_)
  have hP1 : va_P D vwCl (km_wd s.heap.size cy km_w9) H1 := hP1
  refine lv_dup hx hb (lc_at lw_lk 16 rfl) rfl ?_
  refine W.eq (g2 := F0 m 4 ls ((([] : List Value).map (am_tv (km_ad s.heap.size))).reverse ++ .ref (s.heap.size + 0) :: [.ref s.heap.size])) rfl ?_
  have hd9 : km_sl (km_of cs_sh M0c) - km_sl km_w9 ≤ 10000 := km_shc.2.2
  have e67 : (km_of cs_sh M0c).length - km_w9.length = 68 := by rw [lw_67]; rfl
  refine km_call (A0 := km_A s.heap.size) (H0 := s.heap) (e' := ke_X9_init) (w := km_w9) (w' := km_of cs_sh M0c) (as := []) (r := 0) (km_walk 3000) (km_mka _ (km_mt_in (n := 9) rfl)) hx hb hown hts hK hAO (by rw [hl.1, hml]) km_run9 (fun _ h => nomatch h) rfl hz1 nt_ml9 nt_im9 nt_iz9 (by decide) (Nat.le_of_ble_eq_true rfl) (lc_at lw_lk 17 rfl) (by rw [e67]; decide) (by show 0 + 16 + _ ≤ 7293034; omega) hP1 hS1 (fun _ h => h) (fun H2 locs2 hP2 hz2 hk2 hS2 => ?_)
  refine W.widen (k := 69) (n := 10016) (by rw [e67]; decide) (by omega) ?_
  refine lv_astore_n hx hb (lc_at lw_lk 18 rfl) rfl hl (by decide) rfl (fun ls1 hl1 => ?_)
  refine lw_new (ci := 10) (w := km_of cs_sh M0c) C rfl nt_clx nt_inx nt_izx lw_67.symm hP2 hS2 (by decide) (by decide) (lc_at lw_lk 19 rfl) (fun H3 hP3 hS3 hz3 => ?_)
  rw [lw_67] at hz3 ⊢
  have hlw : (km_wd s.heap.size cy (km_of cs_sh M0c)).length = 69 := by rw [km_wd, km_wd_len, lw_67]
  have hC3 : va_P D vwCl (am_wd (lc_ad s.heap.size ao) cy cs_sh M0c) H3 := by
    refine km_of_P (fun i hi => lc_ad_lo hi) (by rw [km_shc.1]; exact Nat.le_of_ble_eq_true rfl) km_shc.2.1 km_Mz (fun k q hk => hP3 k q ?_)
    rw [km_wd_app, List.getElem?_append_left (List.getElem?_eq_some_iff.mp hk).1]
    exact hk
  have hM3 : va_P D vwCl (km_wd (s.heap.size + 69) cy km_w10) H3 := by
    intro k q hk
    obtain ⟨k1, k2⟩ := km_wd_some hk
    have k1 : k < 1 := k1
    obtain rfl : k = 0 := by omega
    have h9 := hP3 69 (s.heap.size + 69, km_ce s.heap.size cy (.inr (.inl (10, (List.range 66).map (fun j => defaultValue (km_ty 10 j)))))) (by
      rw [km_wd_app, List.getElem?_append_right (by rw [hlw]; exact Nat.le_refl _), hlw, lw_67]; rfl)
    have e9 : km_ce s.heap.size cy (.inr (.inl (10, (List.range 66).map (fun j => defaultValue (km_ty 10 j))))) = km_ce (s.heap.size + 69) cy (.inr (.inl (10, (List.range 66).map (fun j => defaultValue (km_ty 10 j))))) := by
      show (Sum.inr (10, _) : va_E) = Sum.inr (10, _)
      have e8 : ((List.range 66).map (fun j => defaultValue (km_ty 10 j))).map (am_tv (km_ad s.heap.size)) = ((List.range 66).map (fun j => defaultValue (km_ty 10 j))).map (am_tv (km_ad (s.heap.size + 69))) := by
        rw [List.map_map, List.map_map]
        refine List.map_congr_left (fun j _ => ?_)
        show am_tv (km_ad s.heap.size) (defaultValue _) = am_tv (km_ad (s.heap.size + 69)) (defaultValue _)
        rw [km_tvd, km_tvd]
      rw [e8]
    rw [e9] at h9
    have h8 : (km_wd (s.heap.size + 69) cy km_w10)[0]? = some (s.heap.size + 69, km_ce (s.heap.size + 69) cy (.inr (.inl (10, (List.range 66).map (fun j => defaultValue (km_ty 10 j)))))) := rfl
    rw [h8] at hk
    cases hk
    exact h9
  refine lv_dup hx hb (lc_at lw_lk 20 rfl) rfl ?_
  have hmc := lw_mc
  have hms := lw_ms
  refine mk_call C hm1 hm2 hl1.1 hz3 (Nat.le_of_ble_eq_true rfl) (lc_at lw_lk 21 rfl) (by show 69 + 1 + _ ≤ 601024; omega) (by show 10016 + 66 + _ ≤ 7293034; omega) hM3 hS3 (fun H4 locs4 hP4 hz4 hk4 hS4 => ?_)
  refine W.widen (k := 98) (n := 20100) (by omega) (by omega) ?_
  refine lv_astore_n hx hb (lc_at lw_lk 22 rfl) rfl hl1 (by decide) rfl (fun ls2 hl2 => ?_)
  refine lv_iconst (v := 1) hx hb (lc_at lw_lk 23 rfl) rfl ?_
  refine km_sized fun hz => ?_
  have hz96 : H4.size = s.heap.size + 98 := by
    have h28 : 28 < ms_sh.length := by rw [km_shm.1]; decide
    have h9 := (hP4 28 _ (am_wd_get (List.getElem?_eq_getElem h28))).lt
    dsimp only at h9
    rw [lc_ad_lo (by decide)] at h9
    omega
  refine va_newaK (atype := .long) hx hb (hts _ nt_arl) rfl (lc_at lw_lk 24 rfl) rfl (by decide) (N := 1) rfl (by decide) (by decide) (by decide) hz96 (fun H5 cA e5 z5 o5 hAr hNm => ?_)
  have hcy := (hKL.2 0 _ rfl).2
  obtain rfl : cA = cyL := Option.some.inj (hNm.symm.trans hcy)
  show W p l e room_1 s m #[Value.ref b] below meth c H5 locs4 (98 + 1) (20100 + 1) (lw_Z below #[Value.ref b] s) (F0 m 19 ls2 [.ref (s.heap.size + 98)])
  have hC4 : va_P D vwCl (am_wd (lc_ad s.heap.size ao) cy cs_sh M0c) H4 := lc_keep (A := km_A (s.heap.size + 69)) (by rw [km_shc.1]; exact Nat.le_of_ble_eq_true rfl) hC3 (fun q _ h => hk4 q (by have h : ¬ s.heap.size + 69 ≤ q := h; omega)) (fun i hi h => by
    rw [km_shc.1] at hi
    have h : s.heap.size + 69 ≤ s.heap.size + i := h
    omega)
  have hC5 : va_P D vwCl (am_wd (lc_ad s.heap.size ao) cy cs_sh M0c) H5 := lc_keep (A := fun _ => False) (by rw [km_shc.1]; exact Nat.le_of_ble_eq_true rfl) hC4 (fun q h _ => o5 q (by omega)) (fun i hi h => h)
  have hM5 : va_P D vwCl (am_wd (lc_ad (s.heap.size + 69) ao) cy ms_sh M2) H5 := lc_keep (A := fun _ => False) (by rw [km_shm.1]; exact Nat.le_of_ble_eq_true rfl) hP4 (fun q h _ => o5 q (by omega)) (fun i hi h => h)
  have hO5 : va_P D vwCl (lh_ow (s.heap.size + 98) cA (fun _ => 0)) H5 := by
    intro k q hk
    have h1 : k < 1 := (List.getElem?_eq_some_iff.mp hk).1
    obtain rfl : k = 0 := by omega
    cases hk
    exact e5
  have hS5 : va_S (km_A s.heap.size) s.heap H5 locs4 := ⟨by omega, fun q q1 q2 => by rw [o5 q (by omega)]; exact hS4.2.1 q q1 q2, hS4.2.2⟩
  refine lv_astore_n hx hb (lc_at lw_lk 25 rfl) rfl hl2 (by decide) rfl (fun ls3 hl3 => ?_)
  refine lv_iconst (v := 0) hx hb (lc_at lw_lk 26 rfl) rfl ?_
  refine lv_istore hx hb (lc_at lw_lk 27 rfl) hl3 (by decide) rfl (fun ls4 hl4 => ?_)
  refine W.widen (k := 99 + 0) (n := 30000 + 6 * 0) (by omega) (by omega) (lw_loop C 513 0 rfl hInv ⟨hC5, hM5, hO5, by omega⟩ hS5 ⟨hl4.1, hl4.2.1, fun q hq => hl4.2.2 q ?_⟩)
  have e9 : q ∈ ([(4, .int 0), (3, .ref (s.heap.size + 98)), (2, .ref (s.heap.size + 69)), (1, .ref s.heap.size), (0, .ref b)] : List (Nat × Value)) := by
    have e0 : (i32 ((6 * 0 : Nat) : Int)) = 0 := rfl
    simp only [List.mem_cons, List.not_mem_nil, or_false] at hq ⊢
    rcases hq with h | h | h | h | h
    · exact Or.inr (Or.inr (Or.inr (Or.inr h)))
    · exact Or.inr (Or.inr (Or.inr (Or.inl h)))
    · exact Or.inr (Or.inr (Or.inl h))
    · exact Or.inr (Or.inl h)
    · rw [e0] at h; exact Or.inl h
  exact e9
