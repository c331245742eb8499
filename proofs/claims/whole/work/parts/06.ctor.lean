theorem d_N_init_0 : decode c_N_init 0 = .ok (.aload_n 0, 1) := by decide +kernel
theorem d_N_init_1 : decode c_N_init 1 = .ok (.invokespecial 3, 3) := by decide +kernel
theorem d_N_init_4 : decode c_N_init 4 = .ok (.aload_n 0, 1) := by decide +kernel
theorem d_N_init_5 : decode c_N_init 5 = .ok (.bipush 48, 2) := by decide +kernel
theorem d_N_init_7 : decode c_N_init 7 = .ok (.newarray .int, 2) := by decide +kernel
theorem d_N_init_9 : decode c_N_init 9 = .ok (.putfield 9, 3) := by decide +kernel
theorem d_N_init_12 : decode c_N_init 12 = .ok (.aload_n 0, 1) := by decide +kernel
theorem d_N_init_13 : decode c_N_init 13 = .ok (.iconst 0, 1) := by decide +kernel
theorem d_N_init_14 : decode c_N_init 14 = .ok (.putfield 13, 3) := by decide +kernel
theorem d_N_init_17 : decode c_N_init 17 = .ok (.return_, 1) := by decide +kernel
set_option maxHeartbeats 4000000 in
set_option maxRecDepth 100000 in
theorem k_N_init (κ : zC) (X : zXT) (hX : zX κ X) (l : Launch) (a_t : Nat) (sz : Nat) : zMetC κ X l y_N_init c_N_init 1 1 48 1 12 [.ref a_t] sz [(a_t, .inr (2, [.null, .int 0]))] (zQv κ (fun (_ : Nat) => True) (fun u => [(a_t, .inr (2, [.ref u, .int 0])), (u, .inl (κ.2.1, 48, .inl fun _ => 0))])) := by
  refine zMetC.ofV (by decide +kernel) (Nat.le_of_ble_eq_true rfl) ?_
  intro p e s m args below meth c ls A Q hF hnm hK hP hD hA hXs hS hl hret
  obtain ⟨hx, hb, hml, hown, hts⟩ := id hF
  replace hl : lv_has ls 1 [(0, .ref a_t)] := hl
  refine lv_aload_n hx hb d_N_init_0 rfl (lv_at hl 0 rfl) ?_
  refine W.objInit hx hb hown (hts _ zml_N_3) (hts _ zim_JO_init) (hts _ zco_JO_init) rfl (by rw [hml]; exact hl.1) rfl d_N_init_1 (Nat.le_of_ble_eq_true rfl) (Nat.le_of_ble_eq_true rfl) ?_
  refine W.eq (g2 := F0 m 4 ls []) rfl ?_
  refine lv_aload_n hx hb d_N_init_4 rfl (lv_at hl 0 rfl) ?_
  refine lv_bipush (v := 48) hx hb d_N_init_5 (by decide) ?_
  refine zNewI (N := 48) hF hK hA hP hD hS (by decide) (by decide) (by decide) ⟨by decide, by decide⟩ d_N_init_7 (fun q7 H hP hD hS => ?_)
  replace hP : zP κ [(a_t, .inr (2, [.null, .int 0])), (q7, .inl (κ.2.1, 48, .inl fun _ => 0))] H := hP
  replace hD : va_D A [(a_t, .inr (2, [.null, .int 0])), (q7, .inl (κ.2.1, 48, .inl fun _ => 0))] := hD
  refine W.widen (k := 1) (n := 48) (by decide) (by decide) ?_
  refine va_putF (C := R_N) (T := F_N) (N := 2) hx hb hts i_N ty_N ty_N_ok n_N hown hK hP hD hS 0 rfl rfl 0 (by decide) (hts _ zfl_N_9) (fun _ h9 => h9) rfl hnm rfl (ty_N_ok 0 (by decide)) rfl rfl (Nat.le_of_ble_eq_true rfl) d_N_init_9 (fun H locs hP hD hS => ?_)
  replace hP : zP κ [(a_t, .inr (2, [.ref q7, .int 0])), (q7, .inl (κ.2.1, 48, .inl fun _ => 0))] H := hP
  replace hD : va_D A [(a_t, .inr (2, [.ref q7, .int 0])), (q7, .inl (κ.2.1, 48, .inl fun _ => 0))] := hD
  refine lv_aload_n hx hb d_N_init_12 rfl (lv_at hl 0 rfl) ?_
  refine lv_iconst (v := 0) hx hb d_N_init_13 (by decide) ?_
  refine va_put (C := R_N) (T := F_N) (N := 2) hx hb hts i_N ty_N ty_N_ok n_N hown hK hP hD hS 0 rfl rfl 1 (by decide) (hts _ zfl_N_13) (fun _ h9 => h9) rfl (ty_N_ok 1 (by decide)) rfl rfl (Nat.le_of_ble_eq_true rfl) d_N_init_14 (fun H locs hP hD hS => ?_)
  replace hP : zP κ [(a_t, .inr (2, [.ref q7, .int 0])), (q7, .inl (κ.2.1, 48, .inl fun _ => 0))] H := hP
  replace hD : va_D A [(a_t, .inr (2, [.ref q7, .int 0])), (q7, .inl (κ.2.1, 48, .inl fun _ => 0))] := hD
  exact hret q7 H locs ls _ d_N_init_17 (hP.sub (ws' := [(a_t, .inr (2, [.ref q7, .int 0])), (q7, .inl (κ.2.1, 48, .inl fun _ => 0))]) [0, 1] rfl) (hD.sub (ws' := [(a_t, .inr (2, [.ref q7, .int 0])), (q7, .inl (κ.2.1, 48, .inl fun _ => 0))]) [0, 1] (by decide) rfl) hS trivial
theorem d_P_init_0 : decode c_P_init 0 = .ok (.aload_n 0, 1) := by decide +kernel
theorem d_P_init_1 : decode c_P_init 1 = .ok (.invokespecial 1, 3) := by decide +kernel
theorem d_P_init_4 : decode c_P_init 4 = .ok (.aload_n 0, 1) := by decide +kernel
theorem d_P_init_5 : decode c_P_init 5 = .ok (.sipush 1100, 3) := by decide +kernel
theorem d_P_init_8 : decode c_P_init 8 = .ok (.newarray .char, 2) := by decide +kernel
theorem d_P_init_10 : decode c_P_init 10 = .ok (.putfield 9, 3) := by decide +kernel
theorem d_P_init_13 : decode c_P_init 13 = .ok (.aload_n 0, 1) := by decide +kernel
theorem d_P_init_14 : decode c_P_init 14 = .ok (.iconst 0, 1) := by decide +kernel
theorem d_P_init_15 : decode c_P_init 15 = .ok (.putfield 13, 3) := by decide +kernel
theorem d_P_init_18 : decode c_P_init 18 = .ok (.return_, 1) := by decide +kernel
set_option maxHeartbeats 4000000 in
set_option maxRecDepth 100000 in
theorem k_P_init (κ : zC) (X : zXT) (hX : zX κ X) (l : Launch) (a_t : Nat) (sz : Nat) : zMetC κ X l y_P_init c_P_init 1 1 1100 1 12 [.ref a_t] sz [(a_t, .inr (3, [.null, .int 0]))] (zQv κ (fun (_ : Nat) => True) (fun u => [(a_t, .inr (3, [.ref u, .int 0])), (u, .inl (κ.2.2.1, 1100, .inl fun _ => 0))])) := by
  refine zMetC.ofV (by decide +kernel) (Nat.le_of_ble_eq_true rfl) ?_
  intro p e s m args below meth c ls A Q hF hnm hK hP hD hA hXs hS hl hret
  obtain ⟨hx, hb, hml, hown, hts⟩ := id hF
  replace hl : lv_has ls 1 [(0, .ref a_t)] := hl
  refine lv_aload_n hx hb d_P_init_0 rfl (lv_at hl 0 rfl) ?_
  refine W.objInit hx hb hown (hts _ zml_P_1) (hts _ zim_JO_init) (hts _ zco_JO_init) rfl (by rw [hml]; exact hl.1) rfl d_P_init_1 (Nat.le_of_ble_eq_true rfl) (Nat.le_of_ble_eq_true rfl) ?_
  refine W.eq (g2 := F0 m 4 ls []) rfl ?_
  refine lv_aload_n hx hb d_P_init_4 rfl (lv_at hl 0 rfl) ?_
  refine lv_sipush (v := 1100) hx hb d_P_init_5 (by decide) ?_
  refine zNewC (N := 1100) hF hK hA hP hD hS (by decide) (by decide) (by decide) ⟨by decide, by decide⟩ d_P_init_8 (fun q8 H hP hD hS => ?_)
  replace hP : zP κ [(a_t, .inr (3, [.null, .int 0])), (q8, .inl (κ.2.2.1, 1100, .inl fun _ => 0))] H := hP
  replace hD : va_D A [(a_t, .inr (3, [.null, .int 0])), (q8, .inl (κ.2.2.1, 1100, .inl fun _ => 0))] := hD
  refine W.widen (k := 1) (n := 1100) (by decide) (by decide) ?_
  refine va_putF (C := R_P) (T := F_P) (N := 2) hx hb hts i_P ty_P ty_P_ok n_P hown hK hP hD hS 0 rfl rfl 0 (by decide) (hts _ zfl_P_9) (fun _ h9 => h9) rfl hnm rfl (ty_P_ok 0 (by decide)) rfl rfl (Nat.le_of_ble_eq_true rfl) d_P_init_10 (fun H locs hP hD hS => ?_)
  replace hP : zP κ [(a_t, .inr (3, [.ref q8, .int 0])), (q8, .inl (κ.2.2.1, 1100, .inl fun _ => 0))] H := hP
  replace hD : va_D A [(a_t, .inr (3, [.ref q8, .int 0])), (q8, .inl (κ.2.2.1, 1100, .inl fun _ => 0))] := hD
  refine lv_aload_n hx hb d_P_init_13 rfl (lv_at hl 0 rfl) ?_
  refine lv_iconst (v := 0) hx hb d_P_init_14 (by decide) ?_
  refine va_put (C := R_P) (T := F_P) (N := 2) hx hb hts i_P ty_P ty_P_ok n_P hown hK hP hD hS 0 rfl rfl 1 (by decide) (hts _ zfl_P_13) (fun _ h9 => h9) rfl (ty_P_ok 1 (by decide)) rfl rfl (Nat.le_of_ble_eq_true rfl) d_P_init_15 (fun H locs hP hD hS => ?_)
  replace hP : zP κ [(a_t, .inr (3, [.ref q8, .int 0])), (q8, .inl (κ.2.2.1, 1100, .inl fun _ => 0))] H := hP
  replace hD : va_D A [(a_t, .inr (3, [.ref q8, .int 0])), (q8, .inl (κ.2.2.1, 1100, .inl fun _ => 0))] := hD
  exact hret q8 H locs ls _ d_P_init_18 (hP.sub (ws' := [(a_t, .inr (3, [.ref q8, .int 0])), (q8, .inl (κ.2.2.1, 1100, .inl fun _ => 0))]) [0, 1] rfl) (hD.sub (ws' := [(a_t, .inr (3, [.ref q8, .int 0])), (q8, .inl (κ.2.2.1, 1100, .inl fun _ => 0))]) [0, 1] (by decide) rfl) hS trivial
theorem d_E_init_0 : decode c_E_init 0 = .ok (.aload_n 0, 1) := by decide +kernel
theorem d_E_init_1 : decode c_E_init 1 = .ok (.invokespecial 1, 3) := by decide +kernel
theorem d_E_init_4 : decode c_E_init 4 = .ok (.aload_n 0, 1) := by decide +kernel
theorem d_E_init_5 : decode c_E_init 5 = .ok (.bipush 48, 2) := by decide +kernel
theorem d_E_init_7 : decode c_E_init 7 = .ok (.newarray .int, 2) := by decide +kernel
theorem d_E_init_9 : decode c_E_init 9 = .ok (.putfield 9, 3) := by decide +kernel
theorem d_E_init_12 : decode c_E_init 12 = .ok (.aload_n 0, 1) := by decide +kernel
theorem d_E_init_13 : decode c_E_init 13 = .ok (.new 13, 3) := by decide +kernel
theorem d_E_init_16 : decode c_E_init 16 = .ok (.dup, 1) := by decide +kernel
theorem d_E_init_17 : decode c_E_init 17 = .ok (.invokespecial 15, 3) := by decide +kernel
theorem d_E_init_20 : decode c_E_init 20 = .ok (.putfield 16, 3) := by decide +kernel
theorem d_E_init_23 : decode c_E_init 23 = .ok (.aload_n 0, 1) := by decide +kernel
theorem d_E_init_24 : decode c_E_init 24 = .ok (.new 13, 3) := by decide +kernel
theorem d_E_init_27 : decode c_E_init 27 = .ok (.dup, 1) := by decide +kernel
theorem d_E_init_28 : decode c_E_init 28 = .ok (.invokespecial 15, 3) := by decide +kernel
theorem d_E_init_31 : decode c_E_init 31 = .ok (.putfield 20, 3) := by decide +kernel
theorem d_E_init_34 : decode c_E_init 34 = .ok (.aload_n 0, 1) := by decide +kernel
theorem d_E_init_35 : decode c_E_init 35 = .ok (.new 13, 3) := by decide +kernel
theorem d_E_init_38 : decode c_E_init 38 = .ok (.dup, 1) := by decide +kernel
theorem d_E_init_39 : decode c_E_init 39 = .ok (.invokespecial 15, 3) := by decide +kernel
theorem d_E_init_42 : decode c_E_init 42 = .ok (.putfield 23, 3) := by decide +kernel
theorem d_E_init_45 : decode c_E_init 45 = .ok (.aload_n 0, 1) := by decide +kernel
theorem d_E_init_46 : decode c_E_init 46 = .ok (.new 13, 3) := by decide +kernel
theorem d_E_init_49 : decode c_E_init 49 = .ok (.dup, 1) := by decide +kernel
theorem d_E_init_50 : decode c_E_init 50 = .ok (.invokespecial 15, 3) := by decide +kernel
theorem d_E_init_53 : decode c_E_init 53 = .ok (.putfield 26, 3) := by decide +kernel
theorem d_E_init_56 : decode c_E_init 56 = .ok (.aload_n 0, 1) := by decide +kernel
theorem d_E_init_57 : decode c_E_init 57 = .ok (.new 13, 3) := by decide +kernel
theorem d_E_init_60 : decode c_E_init 60 = .ok (.dup, 1) := by decide +kernel
theorem d_E_init_61 : decode c_E_init 61 = .ok (.invokespecial 15, 3) := by decide +kernel
theorem d_E_init_64 : decode c_E_init 64 = .ok (.putfield 29, 3) := by decide +kernel
theorem d_E_init_67 : decode c_E_init 67 = .ok (.aload_n 0, 1) := by decide +kernel
theorem d_E_init_68 : decode c_E_init 68 = .ok (.iconst 0, 1) := by decide +kernel
theorem d_E_init_69 : decode c_E_init 69 = .ok (.putfield 32, 3) := by decide +kernel
theorem d_E_init_72 : decode c_E_init 72 = .ok (.aload_n 0, 1) := by decide +kernel
theorem d_E_init_73 : decode c_E_init 73 = .ok (.iconst 1, 1) := by decide +kernel
theorem d_E_init_74 : decode c_E_init 74 = .ok (.putfield 36, 3) := by decide +kernel
theorem d_E_init_77 : decode c_E_init 77 = .ok (.return_, 1) := by decide +kernel
theorem zni_E_15 : zNI R_E 15 y_N_init c_N_init 1 0 := ⟨zco_N_init, zin_N, zml_E_15, zim_N_init, rfl, by decide +kernel⟩
set_option maxHeartbeats 4000000 in
set_option maxRecDepth 100000 in
theorem k_E_init (κ : zC) (X : zXT) (hX : zX κ X) (l : Launch) (a_t : Nat) (sz : Nat) : zMetC κ X l y_E_init c_E_init 1 11 298 2 32 [.ref a_t] sz [(a_t, .inr (1, [.null, .int 0, .int 0, .null, .null, .null, .null, .null]))] (zQv κ (fun (_ : Nat × Nat × Nat × Nat × Nat × Nat × Nat × Nat × Nat × Nat × Nat) => True) (fun u => [(a_t, .inr (1, [.ref u.1, .int 0, .int 1, .ref u.2.1, .ref u.2.2.2.1, .ref u.2.2.2.2.2.1, .ref u.2.2.2.2.2.2.2.1, .ref u.2.2.2.2.2.2.2.2.2.1])), (u.1, .inl (κ.2.1, 48, .inl fun _ => 0)), (u.2.1, .inr (2, [.ref u.2.2.1, .int 0])), (u.2.2.1, .inl (κ.2.1, 48, .inl fun _ => 0)), (u.2.2.2.1, .inr (2, [.ref u.2.2.2.2.1, .int 0])), (u.2.2.2.2.1, .inl (κ.2.1, 48, .inl fun _ => 0)), (u.2.2.2.2.2.1, .inr (2, [.ref u.2.2.2.2.2.2.1, .int 0])), (u.2.2.2.2.2.2.1, .inl (κ.2.1, 48, .inl fun _ => 0)), (u.2.2.2.2.2.2.2.1, .inr (2, [.ref u.2.2.2.2.2.2.2.2.1, .int 0])), (u.2.2.2.2.2.2.2.2.1, .inl (κ.2.1, 48, .inl fun _ => 0)), (u.2.2.2.2.2.2.2.2.2.1, .inr (2, [.ref u.2.2.2.2.2.2.2.2.2.2, .int 0])), (u.2.2.2.2.2.2.2.2.2.2, .inl (κ.2.1, 48, .inl fun _ => 0))])) := by
  refine zMetC.ofV (by decide +kernel) (Nat.le_of_ble_eq_true rfl) ?_
  intro p e s m args below meth c ls A Q hF hnm hK hP hD hA hXs hS hl hret
  obtain ⟨hx, hb, hml, hown, hts⟩ := id hF
  replace hl : lv_has ls 1 [(0, .ref a_t)] := hl
  refine lv_aload_n hx hb d_E_init_0 rfl (lv_at hl 0 rfl) ?_
  refine W.objInit hx hb hown (hts _ zml_E_1) (hts _ zim_JO_init) (hts _ zco_JO_init) rfl (by rw [hml]; exact hl.1) rfl d_E_init_1 (Nat.le_of_ble_eq_true rfl) (Nat.le_of_ble_eq_true rfl) ?_
  refine W.eq (g2 := F0 m 4 ls []) rfl ?_
  refine lv_aload_n hx hb d_E_init_4 rfl (lv_at hl 0 rfl) ?_
  refine lv_bipush (v := 48) hx hb d_E_init_5 (by decide) ?_
  refine zNewI (N := 48) hF hK hA hP hD hS (by decide) (by decide) (by decide) ⟨by decide, by decide⟩ d_E_init_7 (fun q7 H hP hD hS => ?_)
  replace hP : zP κ [(a_t, .inr (1, [.null, .int 0, .int 0, .null, .null, .null, .null, .null])), (q7, .inl (κ.2.1, 48, .inl fun _ => 0))] H := hP
  replace hD : va_D A [(a_t, .inr (1, [.null, .int 0, .int 0, .null, .null, .null, .null, .null])), (q7, .inl (κ.2.1, 48, .inl fun _ => 0))] := hD
  refine W.widen (k := 1) (n := 48) (by decide) (by decide) ?_
  refine va_putF (C := R_E) (T := F_E) (N := 8) hx hb hts i_E ty_E ty_E_ok n_E hown hK hP hD hS 0 rfl rfl 0 (by decide) (hts _ zfl_E_9) (fun _ h9 => h9) rfl hnm rfl (ty_E_ok 0 (by decide)) rfl rfl (Nat.le_of_ble_eq_true rfl) d_E_init_9 (fun H locs hP hD hS => ?_)
  replace hP : zP κ [(a_t, .inr (1, [.ref q7, .int 0, .int 0, .null, .null, .null, .null, .null])), (q7, .inl (κ.2.1, 48, .inl fun _ => 0))] H := hP
  replace hD : va_D A [(a_t, .inr (1, [.ref q7, .int 0, .int 0, .null, .null, .null, .null, .null])), (q7, .inl (κ.2.1, 48, .inl fun _ => 0))] := hD
  refine lv_aload_n hx hb d_E_init_12 rfl (lv_at hl 0 rfl) ?_
  refine va_new (ci := 2) (fs := [.null, .int 0]) (C := R_N) (T := F_N) (N := 2) hx hb hts i_N ty_N ty_N_ok hown (hts _ zcl_E_13) (hts _ zis_N) (hts _ zin_N) hK hP hD hS hA rfl (by decide) (by decide) (by decide) d_E_init_13 (fun q13 H hP hD hS => ?_)
  replace hP : zP κ [(a_t, .inr (1, [.ref q7, .int 0, .int 0, .null, .null, .null, .null, .null])), (q7, .inl (κ.2.1, 48, .inl fun _ => 0)), (q13, .inr (2, [.null, .int 0]))] H := hP
  replace hD : va_D A [(a_t, .inr (1, [.ref q7, .int 0, .int 0, .null, .null, .null, .null, .null])), (q7, .inl (κ.2.1, 48, .inl fun _ => 0)), (q13, .inr (2, [.null, .int 0]))] := hD
  refine W.widen (k := 2) (n := 50) (by decide) (by decide) ?_
  refine lv_dup hx hb d_E_init_16 rfl ?_
  refine zIv (isC := [2]) (isR := [0, 1]) (wc := [(q13, .inr (2, [.null, .int 0]))]) (wr := [(a_t, .inr (1, [.ref q7, .int 0, .int 0, .null, .null, .null, .null, .null])), (q7, .inl (κ.2.1, 48, .inl fun _ => 0))]) (rest := [.ref q13, .ref a_t]) (As := []) hF zni_E_15 (k_N_init κ X hX l q13 H.size) hX hXs hK hA hP hD hS ⟨by decide, by decide⟩ ⟨rfl, rfl, rfl, rfl, rfl, by decide⟩ rfl hl.1 rfl (Nat.le_of_ble_eq_true rfl) ⟨by decide, by decide⟩ d_E_init_17 (fun u H locs hw hP hD hS => ?_)
  obtain ⟨v17_0, rfl⟩ : ∃ z, z = u := ⟨_, rfl⟩
  replace hP : zP κ [(a_t, .inr (1, [.ref q7, .int 0, .int 0, .null, .null, .null, .null, .null])), (q7, .inl (κ.2.1, 48, .inl fun _ => 0)), (q13, .inr (2, [.ref v17_0, .int 0])), (v17_0, .inl (κ.2.1, 48, .inl fun _ => 0))] H := hP
  replace hD : va_D A [(a_t, .inr (1, [.ref q7, .int 0, .int 0, .null, .null, .null, .null, .null])), (q7, .inl (κ.2.1, 48, .inl fun _ => 0)), (q13, .inr (2, [.ref v17_0, .int 0])), (v17_0, .inl (κ.2.1, 48, .inl fun _ => 0))] := hD
  refine W.widen (k := 3) (n := 98) (by decide) (by decide) ?_
  refine va_putF (C := R_E) (T := F_E) (N := 8) hx hb hts i_E ty_E ty_E_ok n_E hown hK hP hD hS 0 rfl rfl 3 (by decide) (hts _ zfl_E_16) (fun _ h9 => h9) rfl hnm rfl (ty_E_ok 3 (by decide)) rfl rfl (Nat.le_of_ble_eq_true rfl) d_E_init_20 (fun H locs hP hD hS => ?_)
  replace hP : zP κ [(a_t, .inr (1, [.ref q7, .int 0, .int 0, .ref q13, .null, .null, .null, .null])), (q7, .inl (κ.2.1, 48, .inl fun _ => 0)), (q13, .inr (2, [.ref v17_0, .int 0])), (v17_0, .inl (κ.2.1, 48, .inl fun _ => 0))] H := hP
  replace hD : va_D A [(a_t, .inr (1, [.ref q7, .int 0, .int 0, .ref q13, .null, .null, .null, .null])), (q7, .inl (κ.2.1, 48, .inl fun _ => 0)), (q13, .inr (2, [.ref v17_0, .int 0])), (v17_0, .inl (κ.2.1, 48, .inl fun _ => 0))] := hD
  refine lv_aload_n hx hb d_E_init_23 rfl (lv_at hl 0 rfl) ?_
  refine va_new (ci := 2) (fs := [.null, .int 0]) (C := R_N) (T := F_N) (N := 2) hx hb hts i_N ty_N ty_N_ok hown (hts _ zcl_E_13) (hts _ zis_N) (hts _ zin_N) hK hP hD hS hA rfl (by decide) (by decide) (by decide) d_E_init_24 (fun q24 H hP hD hS => ?_)
  replace hP : zP κ [(a_t, .inr (1, [.ref q7, .int 0, .int 0, .ref q13, .null, .null, .null, .null])), (q7, .inl (κ.2.1, 48, .inl fun _ => 0)), (q13, .inr (2, [.ref v17_0, .int 0])), (v17_0, .inl (κ.2.1, 48, .inl fun _ => 0)), (q24, .inr (2, [.null, .int 0]))] H := hP
  replace hD : va_D A [(a_t, .inr (1, [.ref q7, .int 0, .int 0, .ref q13, .null, .null, .null, .null])), (q7, .inl (κ.2.1, 48, .inl fun _ => 0)), (q13, .inr (2, [.ref v17_0, .int 0])), (v17_0, .inl (κ.2.1, 48, .inl fun _ => 0)), (q24, .inr (2, [.null, .int 0]))] := hD
  refine W.widen (k := 4) (n := 100) (by decide) (by decide) ?_
  refine lv_dup hx hb d_E_init_27 rfl ?_
  refine zIv (isC := [4]) (isR := [0, 1, 2, 3]) (wc := [(q24, .inr (2, [.null, .int 0]))]) (wr := [(a_t, .inr (1, [.ref q7, .int 0, .int 0, .ref q13, .null, .null, .null, .null])), (q7, .inl (κ.2.1, 48, .inl fun _ => 0)), (q13, .inr (2, [.ref v17_0, .int 0])), (v17_0, .inl (κ.2.1, 48, .inl fun _ => 0))]) (rest := [.ref q24, .ref a_t]) (As := []) hF zni_E_15 (k_N_init κ X hX l q24 H.size) hX hXs hK hA hP hD hS ⟨by decide, by decide⟩ ⟨rfl, rfl, rfl, rfl, rfl, by decide⟩ rfl hl.1 rfl (Nat.le_of_ble_eq_true rfl) ⟨by decide, by decide⟩ d_E_init_28 (fun u H locs hw hP hD hS => ?_)
  obtain ⟨v28_0, rfl⟩ : ∃ z, z = u := ⟨_, rfl⟩
  replace hP : zP κ [(a_t, .inr (1, [.ref q7, .int 0, .int 0, .ref q13, .null, .null, .null, .null])), (q7, .inl (κ.2.1, 48, .inl fun _ => 0)), (q13, .inr (2, [.ref v17_0, .int 0])), (v17_0, .inl (κ.2.1, 48, .inl fun _ => 0)), (q24, .inr (2, [.ref v28_0, .int 0])), (v28_0, .inl (κ.2.1, 48, .inl fun _ => 0))] H := hP
  replace hD : va_D A [(a_t, .inr (1, [.ref q7, .int 0, .int 0, .ref q13, .null, .null, .null, .null])), (q7, .inl (κ.2.1, 48, .inl fun _ => 0)), (q13, .inr (2, [.ref v17_0, .int 0])), (v17_0, .inl (κ.2.1, 48, .inl fun _ => 0)), (q24, .inr (2, [.ref v28_0, .int 0])), (v28_0, .inl (κ.2.1, 48, .inl fun _ => 0))] := hD
  refine W.widen (k := 5) (n := 148) (by decide) (by decide) ?_
  refine va_putF (C := R_E) (T := F_E) (N := 8) hx hb hts i_E ty_E ty_E_ok n_E hown hK hP hD hS 0 rfl rfl 4 (by decide) (hts _ zfl_E_20) (fun _ h9 => h9) rfl hnm rfl (ty_E_ok 4 (by decide)) rfl rfl (Nat.le_of_ble_eq_true rfl) d_E_init_31 (fun H locs hP hD hS => ?_)
  replace hP : zP κ [(a_t, .inr (1, [.ref q7, .int 0, .int 0, .ref q13, .ref q24, .null, .null, .null])), (q7, .inl (κ.2.1, 48, .inl fun _ => 0)), (q13, .inr (2, [.ref v17_0, .int 0])), (v17_0, .inl (κ.2.1, 48, .inl fun _ => 0)), (q24, .inr (2, [.ref v28_0, .int 0])), (v28_0, .inl (κ.2.1, 48, .inl fun _ => 0))] H := hP
  replace hD : va_D A [(a_t, .inr (1, [.ref q7, .int 0, .int 0, .ref q13, .ref q24, .null, .null, .null])), (q7, .inl (κ.2.1, 48, .inl fun _ => 0)), (q13, .inr (2, [.ref v17_0, .int 0])), (v17_0, .inl (κ.2.1, 48, .inl fun _ => 0)), (q24, .inr (2, [.ref v28_0, .int 0])), (v28_0, .inl (κ.2.1, 48, .inl fun _ => 0))] := hD
  refine lv_aload_n hx hb d_E_init_34 rfl (lv_at hl 0 rfl) ?_
  refine va_new (ci := 2) (fs := [.null, .int 0]) (C := R_N) (T := F_N) (N := 2) hx hb hts i_N ty_N ty_N_ok hown (hts _ zcl_E_13) (hts _ zis_N) (hts _ zin_N) hK hP hD hS hA rfl (by decide) (by decide) (by decide) d_E_init_35 (fun q35 H hP hD hS => ?_)
  replace hP : zP κ [(a_t, .inr (1, [.ref q7, .int 0, .int 0, .ref q13, .ref q24, .null, .null, .null])), (q7, .inl (κ.2.1, 48, .inl fun _ => 0)), (q13, .inr (2, [.ref v17_0, .int 0])), (v17_0, .inl (κ.2.1, 48, .inl fun _ => 0)), (q24, .inr (2, [.ref v28_0, .int 0])), (v28_0, .inl (κ.2.1, 48, .inl fun _ => 0)), (q35, .inr (2, [.null, .int 0]))] H := hP
  replace hD : va_D A [(a_t, .inr (1, [.ref q7, .int 0, .int 0, .ref q13, .ref q24, .null, .null, .null])), (q7, .inl (κ.2.1, 48, .inl fun _ => 0)), (q13, .inr (2, [.ref v17_0, .int 0])), (v17_0, .inl (κ.2.1, 48, .inl fun _ => 0)), (q24, .inr (2, [.ref v28_0, .int 0])), (v28_0, .inl (κ.2.1, 48, .inl fun _ => 0)), (q35, .inr (2, [.null, .int 0]))] := hD
  refine W.widen (k := 6) (n := 150) (by decide) (by decide) ?_
  refine lv_dup hx hb d_E_init_38 rfl ?_
  refine zIv (isC := [6]) (isR := [0, 1, 2, 3, 4, 5]) (wc := [(q35, .inr (2, [.null, .int 0]))]) (wr := [(a_t, .inr (1, [.ref q7, .int 0, .int 0, .ref q13, .ref q24, .null, .null, .null])), (q7, .inl (κ.2.1, 48, .inl fun _ => 0)), (q13, .inr (2, [.ref v17_0, .int 0])), (v17_0, .inl (κ.2.1, 48, .inl fun _ => 0)), (q24, .inr (2, [.ref v28_0, .int 0])), (v28_0, .inl (κ.2.1, 48, .inl fun _ => 0))]) (rest := [.ref q35, .ref a_t]) (As := []) hF zni_E_15 (k_N_init κ X hX l q35 H.size) hX hXs hK hA hP hD hS ⟨by decide, by decide⟩ ⟨rfl, rfl, rfl, rfl, rfl, by decide⟩ rfl hl.1 rfl (Nat.le_of_ble_eq_true rfl) ⟨by decide, by decide⟩ d_E_init_39 (fun u H locs hw hP hD hS => ?_)
  obtain ⟨v39_0, rfl⟩ : ∃ z, z = u := ⟨_, rfl⟩
  replace hP : zP κ [(a_t, .inr (1, [.ref q7, .int 0, .int 0, .ref q13, .ref q24, .null, .null, .null])), (q7, .inl (κ.2.1, 48, .inl fun _ => 0)), (q13, .inr (2, [.ref v17_0, .int 0])), (v17_0, .inl (κ.2.1, 48, .inl fun _ => 0)), (q24, .inr (2, [.ref v28_0, .int 0])), (v28_0, .inl (κ.2.1, 48, .inl fun _ => 0)), (q35, .inr (2, [.ref v39_0, .int 0])), (v39_0, .inl (κ.2.1, 48, .inl fun _ => 0))] H := hP
  replace hD : va_D A [(a_t, .inr (1, [.ref q7, .int 0, .int 0, .ref q13, .ref q24, .null, .null, .null])), (q7, .inl (κ.2.1, 48, .inl fun _ => 0)), (q13, .inr (2, [.ref v17_0, .int 0])), (v17_0, .inl (κ.2.1, 48, .inl fun _ => 0)), (q24, .inr (2, [.ref v28_0, .int 0])), (v28_0, .inl (κ.2.1, 48, .inl fun _ => 0)), (q35, .inr (2, [.ref v39_0, .int 0])), (v39_0, .inl (κ.2.1, 48, .inl fun _ => 0))] := hD
  refine W.widen (k := 7) (n := 198) (by decide) (by decide) ?_
  refine va_putF (C := R_E) (T := F_E) (N := 8) hx hb hts i_E ty_E ty_E_ok n_E hown hK hP hD hS 0 rfl rfl 5 (by decide) (hts _ zfl_E_23) (fun _ h9 => h9) rfl hnm rfl (ty_E_ok 5 (by decide)) rfl rfl (Nat.le_of_ble_eq_true rfl) d_E_init_42 (fun H locs hP hD hS => ?_)
  replace hP : zP κ [(a_t, .inr (1, [.ref q7, .int 0, .int 0, .ref q13, .ref q24, .ref q35, .null, .null])), (q7, .inl (κ.2.1, 48, .inl fun _ => 0)), (q13, .inr (2, [.ref v17_0, .int 0])), (v17_0, .inl (κ.2.1, 48, .inl fun _ => 0)), (q24, .inr (2, [.ref v28_0, .int 0])), (v28_0, .inl (κ.2.1, 48, .inl fun _ => 0)), (q35, .inr (2, [.ref v39_0, .int 0])), (v39_0, .inl (κ.2.1, 48, .inl fun _ => 0))] H := hP
  replace hD : va_D A [(a_t, .inr (1, [.ref q7, .int 0, .int 0, .ref q13, .ref q24, .ref q35, .null, .null])), (q7, .inl (κ.2.1, 48, .inl fun _ => 0)), (q13, .inr (2, [.ref v17_0, .int 0])), (v17_0, .inl (κ.2.1, 48, .inl fun _ => 0)), (q24, .inr (2, [.ref v28_0, .int 0])), (v28_0, .inl (κ.2.1, 48, .inl fun _ => 0)), (q35, .inr (2, [.ref v39_0, .int 0])), (v39_0, .inl (κ.2.1, 48, .inl fun _ => 0))] := hD
  refine lv_aload_n hx hb d_E_init_45 rfl (lv_at hl 0 rfl) ?_
  refine va_new (ci := 2) (fs := [.null, .int 0]) (C := R_N) (T := F_N) (N := 2) hx hb hts i_N ty_N ty_N_ok hown (hts _ zcl_E_13) (hts _ zis_N) (hts _ zin_N) hK hP hD hS hA rfl (by decide) (by decide) (by decide) d_E_init_46 (fun q46 H hP hD hS => ?_)
  replace hP : zP κ [(a_t, .inr (1, [.ref q7, .int 0, .int 0, .ref q13, .ref q24, .ref q35, .null, .null])), (q7, .inl (κ.2.1, 48, .inl fun _ => 0)), (q13, .inr (2, [.ref v17_0, .int 0])), (v17_0, .inl (κ.2.1, 48, .inl fun _ => 0)), (q24, .inr (2, [.ref v28_0, .int 0])), (v28_0, .inl (κ.2.1, 48, .inl fun _ => 0)), (q35, .inr (2, [.ref v39_0, .int 0])), (v39_0, .inl (κ.2.1, 48, .inl fun _ => 0)), (q46, .inr (2, [.null, .int 0]))] H := hP
  replace hD : va_D A [(a_t, .inr (1, [.ref q7, .int 0, .int 0, .ref q13, .ref q24, .ref q35, .null, .null])), (q7, .inl (κ.2.1, 48, .inl fun _ => 0)), (q13, .inr (2, [.ref v17_0, .int 0])), (v17_0, .inl (κ.2.1, 48, .inl fun _ => 0)), (q24, .inr (2, [.ref v28_0, .int 0])), (v28_0, .inl (κ.2.1, 48, .inl fun _ => 0)), (q35, .inr (2, [.ref v39_0, .int 0])), (v39_0, .inl (κ.2.1, 48, .inl fun _ => 0)), (q46, .inr (2, [.null, .int 0]))] := hD
  refine W.widen (k := 8) (n := 200) (by decide) (by decide) ?_
  refine lv_dup hx hb d_E_init_49 rfl ?_
  refine zIv (isC := [8]) (isR := [0, 1, 2, 3, 4, 5, 6, 7]) (wc := [(q46, .inr (2, [.null, .int 0]))]) (wr := [(a_t, .inr (1, [.ref q7, .int 0, .int 0, .ref q13, .ref q24, .ref q35, .null, .null])), (q7, .inl (κ.2.1, 48, .inl fun _ => 0)), (q13, .inr (2, [.ref v17_0, .int 0])), (v17_0, .inl (κ.2.1, 48, .inl fun _ => 0)), (q24, .inr (2, [.ref v28_0, .int 0])), (v28_0, .inl (κ.2.1, 48, .inl fun _ => 0)), (q35, .inr (2, [.ref v39_0, .int 0])), (v39_0, .inl (κ.2.1, 48, .inl fun _ => 0))]) (rest := [.ref q46, .ref a_t]) (As := []) hF zni_E_15 (k_N_init κ X hX l q46 H.size) hX hXs hK hA hP hD hS ⟨by decide, by decide⟩ ⟨rfl, rfl, rfl, rfl, rfl, by decide⟩ rfl hl.1 rfl (Nat.le_of_ble_eq_true rfl) ⟨by decide, by decide⟩ d_E_init_50 (fun u H locs hw hP hD hS => ?_)
  obtain ⟨v50_0, rfl⟩ : ∃ z, z = u := ⟨_, rfl⟩
  replace hP : zP κ [(a_t, .inr (1, [.ref q7, .int 0, .int 0, .ref q13, .ref q24, .ref q35, .null, .null])), (q7, .inl (κ.2.1, 48, .inl fun _ => 0)), (q13, .inr (2, [.ref v17_0, .int 0])), (v17_0, .inl (κ.2.1, 48, .inl fun _ => 0)), (q24, .inr (2, [.ref v28_0, .int 0])), (v28_0, .inl (κ.2.1, 48, .inl fun _ => 0)), (q35, .inr (2, [.ref v39_0, .int 0])), (v39_0, .inl (κ.2.1, 48, .inl fun _ => 0)), (q46, .inr (2, [.ref v50_0, .int 0])), (v50_0, .inl (κ.2.1, 48, .inl fun _ => 0))] H := hP
  replace hD : va_D A [(a_t, .inr (1, [.ref q7, .int 0, .int 0, .ref q13, .ref q24, .ref q35, .null, .null])), (q7, .inl (κ.2.1, 48, .inl fun _ => 0)), (q13, .inr (2, [.ref v17_0, .int 0])), (v17_0, .inl (κ.2.1, 48, .inl fun _ => 0)), (q24, .inr (2, [.ref v28_0, .int 0])), (v28_0, .inl (κ.2.1, 48, .inl fun _ => 0)), (q35, .inr (2, [.ref v39_0, .int 0])), (v39_0, .inl (κ.2.1, 48, .inl fun _ => 0)), (q46, .inr (2, [.ref v50_0, .int 0])), (v50_0, .inl (κ.2.1, 48, .inl fun _ => 0))] := hD
  refine W.widen (k := 9) (n := 248) (by decide) (by decide) ?_
  refine va_putF (C := R_E) (T := F_E) (N := 8) hx hb hts i_E ty_E ty_E_ok n_E hown hK hP hD hS 0 rfl rfl 6 (by decide) (hts _ zfl_E_26) (fun _ h9 => h9) rfl hnm rfl (ty_E_ok 6 (by decide)) rfl rfl (Nat.le_of_ble_eq_true rfl) d_E_init_53 (fun H locs hP hD hS => ?_)
  replace hP : zP κ [(a_t, .inr (1, [.ref q7, .int 0, .int 0, .ref q13, .ref q24, .ref q35, .ref q46, .null])), (q7, .inl (κ.2.1, 48, .inl fun _ => 0)), (q13, .inr (2, [.ref v17_0, .int 0])), (v17_0, .inl (κ.2.1, 48, .inl fun _ => 0)), (q24, .inr (2, [.ref v28_0, .int 0])), (v28_0, .inl (κ.2.1, 48, .inl fun _ => 0)), (q35, .inr (2, [.ref v39_0, .int 0])), (v39_0, .inl (κ.2.1, 48, .inl fun _ => 0)), (q46, .inr (2, [.ref v50_0, .int 0])), (v50_0, .inl (κ.2.1, 48, .inl fun _ => 0))] H := hP
  replace hD : va_D A [(a_t, .inr (1, [.ref q7, .int 0, .int 0, .ref q13, .ref q24, .ref q35, .ref q46, .null])), (q7, .inl (κ.2.1, 48, .inl fun _ => 0)), (q13, .inr (2, [.ref v17_0, .int 0])), (v17_0, .inl (κ.2.1, 48, .inl fun _ => 0)), (q24, .inr (2, [.ref v28_0, .int 0])), (v28_0, .inl (κ.2.1, 48, .inl fun _ => 0)), (q35, .inr (2, [.ref v39_0, .int 0])), (v39_0, .inl (κ.2.1, 48, .inl fun _ => 0)), (q46, .inr (2, [.ref v50_0, .int 0])), (v50_0, .inl (κ.2.1, 48, .inl fun _ => 0))] := hD
  refine lv_aload_n hx hb d_E_init_56 rfl (lv_at hl 0 rfl) ?_
  refine va_new (ci := 2) (fs := [.null, .int 0]) (C := R_N) (T := F_N) (N := 2) hx hb hts i_N ty_N ty_N_ok hown (hts _ zcl_E_13) (hts _ zis_N) (hts _ zin_N) hK hP hD hS hA rfl (by decide) (by decide) (by decide) d_E_init_57 (fun q57 H hP hD hS => ?_)
  replace hP : zP κ [(a_t, .inr (1, [.ref q7, .int 0, .int 0, .ref q13, .ref q24, .ref q35, .ref q46, .null])), (q7, .inl (κ.2.1, 48, .inl fun _ => 0)), (q13, .inr (2, [.ref v17_0, .int 0])), (v17_0, .inl (κ.2.1, 48, .inl fun _ => 0)), (q24, .inr (2, [.ref v28_0, .int 0])), (v28_0, .inl (κ.2.1, 48, .inl fun _ => 0)), (q35, .inr (2, [.ref v39_0, .int 0])), (v39_0, .inl (κ.2.1, 48, .inl fun _ => 0)), (q46, .inr (2, [.ref v50_0, .int 0])), (v50_0, .inl (κ.2.1, 48, .inl fun _ => 0)), (q57, .inr (2, [.null, .int 0]))] H := hP
  replace hD : va_D A [(a_t, .inr (1, [.ref q7, .int 0, .int 0, .ref q13, .ref q24, .ref q35, .ref q46, .null])), (q7, .inl (κ.2.1, 48, .inl fun _ => 0)), (q13, .inr (2, [.ref v17_0, .int 0])), (v17_0, .inl (κ.2.1, 48, .inl fun _ => 0)), (q24, .inr (2, [.ref v28_0, .int 0])), (v28_0, .inl (κ.2.1, 48, .inl fun _ => 0)), (q35, .inr (2, [.ref v39_0, .int 0])), (v39_0, .inl (κ.2.1, 48, .inl fun _ => 0)), (q46, .inr (2, [.ref v50_0, .int 0])), (v50_0, .inl (κ.2.1, 48, .inl fun _ => 0)), (q57, .inr (2, [.null, .int 0]))] := hD
  refine W.widen (k := 10) (n := 250) (by decide) (by decide) ?_
  refine lv_dup hx hb d_E_init_60 rfl ?_
  refine zIv (isC := [10]) (isR := [0, 1, 2, 3, 4, 5, 6, 7, 8, 9]) (wc := [(q57, .inr (2, [.null, .int 0]))]) (wr := [(a_t, .inr (1, [.ref q7, .int 0, .int 0, .ref q13, .ref q24, .ref q35, .ref q46, .null])), (q7, .inl (κ.2.1, 48, .inl fun _ => 0)), (q13, .inr (2, [.ref v17_0, .int 0])), (v17_0, .inl (κ.2.1, 48, .inl fun _ => 0)), (q24, .inr (2, [.ref v28_0, .int 0])), (v28_0, .inl (κ.2.1, 48, .inl fun _ => 0)), (q35, .inr (2, [.ref v39_0, .int 0])), (v39_0, .inl (κ.2.1, 48, .inl fun _ => 0)), (q46, .inr (2, [.ref v50_0, .int 0])), (v50_0, .inl (κ.2.1, 48, .inl fun _ => 0))]) (rest := [.ref q57, .ref a_t]) (As := []) hF zni_E_15 (k_N_init κ X hX l q57 H.size) hX hXs hK hA hP hD hS ⟨by decide, by decide⟩ ⟨rfl, rfl, rfl, rfl, rfl, by decide⟩ rfl hl.1 rfl (Nat.le_of_ble_eq_true rfl) ⟨by decide, by decide⟩ d_E_init_61 (fun u H locs hw hP hD hS => ?_)
  obtain ⟨v61_0, rfl⟩ : ∃ z, z = u := ⟨_, rfl⟩
  replace hP : zP κ [(a_t, .inr (1, [.ref q7, .int 0, .int 0, .ref q13, .ref q24, .ref q35, .ref q46, .null])), (q7, .inl (κ.2.1, 48, .inl fun _ => 0)), (q13, .inr (2, [.ref v17_0, .int 0])), (v17_0, .inl (κ.2.1, 48, .inl fun _ => 0)), (q24, .inr (2, [.ref v28_0, .int 0])), (v28_0, .inl (κ.2.1, 48, .inl fun _ => 0)), (q35, .inr (2, [.ref v39_0, .int 0])), (v39_0, .inl (κ.2.1, 48, .inl fun _ => 0)), (q46, .inr (2, [.ref v50_0, .int 0])), (v50_0, .inl (κ.2.1, 48, .inl fun _ => 0)), (q57, .inr (2, [.ref v61_0, .int 0])), (v61_0, .inl (κ.2.1, 48, .inl fun _ => 0))] H := hP
  replace hD : va_D A [(a_t, .inr (1, [.ref q7, .int 0, .int 0, .ref q13, .ref q24, .ref q35, .ref q46, .null])), (q7, .inl (κ.2.1, 48, .inl fun _ => 0)), (q13, .inr (2, [.ref v17_0, .int 0])), (v17_0, .inl (κ.2.1, 48, .inl fun _ => 0)), (q24, .inr (2, [.ref v28_0, .int 0])), (v28_0, .inl (κ.2.1, 48, .inl fun _ => 0)), (q35, .inr (2, [.ref v39_0, .int 0])), (v39_0, .inl (κ.2.1, 48, .inl fun _ => 0)), (q46, .inr (2, [.ref v50_0, .int 0])), (v50_0, .inl (κ.2.1, 48, .inl fun _ => 0)), (q57, .inr (2, [.ref v61_0, .int 0])), (v61_0, .inl (κ.2.1, 48, .inl fun _ => 0))] := hD
  refine W.widen (k := 11) (n := 298) (by decide) (by decide) ?_
  refine va_putF (C := R_E) (T := F_E) (N := 8) hx hb hts i_E ty_E ty_E_ok n_E hown hK hP hD hS 0 rfl rfl 7 (by decide) (hts _ zfl_E_29) (fun _ h9 => h9) rfl hnm rfl (ty_E_ok 7 (by decide)) rfl rfl (Nat.le_of_ble_eq_true rfl) d_E_init_64 (fun H locs hP hD hS => ?_)
  replace hP : zP κ [(a_t, .inr (1, [.ref q7, .int 0, .int 0, .ref q13, .ref q24, .ref q35, .ref q46, .ref q57])), (q7, .inl (κ.2.1, 48, .inl fun _ => 0)), (q13, .inr (2, [.ref v17_0, .int 0])), (v17_0, .inl (κ.2.1, 48, .inl fun _ => 0)), (q24, .inr (2, [.ref v28_0, .int 0])), (v28_0, .inl (κ.2.1, 48, .inl fun _ => 0)), (q35, .inr (2, [.ref v39_0, .int 0])), (v39_0, .inl (κ.2.1, 48, .inl fun _ => 0)), (q46, .inr (2, [.ref v50_0, .int 0])), (v50_0, .inl (κ.2.1, 48, .inl fun _ => 0)), (q57, .inr (2, [.ref v61_0, .int 0])), (v61_0, .inl (κ.2.1, 48, .inl fun _ => 0))] H := hP
  replace hD : va_D A [(a_t, .inr (1, [.ref q7, .int 0, .int 0, .ref q13, .ref q24, .ref q35, .ref q46, .ref q57])), (q7, .inl (κ.2.1, 48, .inl fun _ => 0)), (q13, .inr (2, [.ref v17_0, .int 0])), (v17_0, .inl (κ.2.1, 48, .inl fun _ => 0)), (q24, .inr (2, [.ref v28_0, .int 0])), (v28_0, .inl (κ.2.1, 48, .inl fun _ => 0)), (q35, .inr (2, [.ref v39_0, .int 0])), (v39_0, .inl (κ.2.1, 48, .inl fun _ => 0)), (q46, .inr (2, [.ref v50_0, .int 0])), (v50_0, .inl (κ.2.1, 48, .inl fun _ => 0)), (q57, .inr (2, [.ref v61_0, .int 0])), (v61_0, .inl (κ.2.1, 48, .inl fun _ => 0))] := hD
  refine lv_aload_n hx hb d_E_init_67 rfl (lv_at hl 0 rfl) ?_
  refine lv_iconst (v := 0) hx hb d_E_init_68 (by decide) ?_
  refine va_put (C := R_E) (T := F_E) (N := 8) hx hb hts i_E ty_E ty_E_ok n_E hown hK hP hD hS 0 rfl rfl 1 (by decide) (hts _ zfl_E_32) (fun _ h9 => h9) rfl (ty_E_ok 1 (by decide)) rfl rfl (Nat.le_of_ble_eq_true rfl) d_E_init_69 (fun H locs hP hD hS => ?_)
  replace hP : zP κ [(a_t, .inr (1, [.ref q7, .int 0, .int 0, .ref q13, .ref q24, .ref q35, .ref q46, .ref q57])), (q7, .inl (κ.2.1, 48, .inl fun _ => 0)), (q13, .inr (2, [.ref v17_0, .int 0])), (v17_0, .inl (κ.2.1, 48, .inl fun _ => 0)), (q24, .inr (2, [.ref v28_0, .int 0])), (v28_0, .inl (κ.2.1, 48, .inl fun _ => 0)), (q35, .inr (2, [.ref v39_0, .int 0])), (v39_0, .inl (κ.2.1, 48, .inl fun _ => 0)), (q46, .inr (2, [.ref v50_0, .int 0])), (v50_0, .inl (κ.2.1, 48, .inl fun _ => 0)), (q57, .inr (2, [.ref v61_0, .int 0])), (v61_0, .inl (κ.2.1, 48, .inl fun _ => 0))] H := hP
  replace hD : va_D A [(a_t, .inr (1, [.ref q7, .int 0, .int 0, .ref q13, .ref q24, .ref q35, .ref q46, .ref q57])), (q7, .inl (κ.2.1, 48, .inl fun _ => 0)), (q13, .inr (2, [.ref v17_0, .int 0])), (v17_0, .inl (κ.2.1, 48, .inl fun _ => 0)), (q24, .inr (2, [.ref v28_0, .int 0])), (v28_0, .inl (κ.2.1, 48, .inl fun _ => 0)), (q35, .inr (2, [.ref v39_0, .int 0])), (v39_0, .inl (κ.2.1, 48, .inl fun _ => 0)), (q46, .inr (2, [.ref v50_0, .int 0])), (v50_0, .inl (κ.2.1, 48, .inl fun _ => 0)), (q57, .inr (2, [.ref v61_0, .int 0])), (v61_0, .inl (κ.2.1, 48, .inl fun _ => 0))] := hD
  refine lv_aload_n hx hb d_E_init_72 rfl (lv_at hl 0 rfl) ?_
  refine lv_iconst (v := 1) hx hb d_E_init_73 (by decide) ?_
  refine va_put (C := R_E) (T := F_E) (N := 8) hx hb hts i_E ty_E ty_E_ok n_E hown hK hP hD hS 0 rfl rfl 2 (by decide) (hts _ zfl_E_36) (fun _ h9 => h9) rfl (ty_E_ok 2 (by decide)) rfl rfl (Nat.le_of_ble_eq_true rfl) d_E_init_74 (fun H locs hP hD hS => ?_)
  replace hP : zP κ [(a_t, .inr (1, [.ref q7, .int 0, .int 1, .ref q13, .ref q24, .ref q35, .ref q46, .ref q57])), (q7, .inl (κ.2.1, 48, .inl fun _ => 0)), (q13, .inr (2, [.ref v17_0, .int 0])), (v17_0, .inl (κ.2.1, 48, .inl fun _ => 0)), (q24, .inr (2, [.ref v28_0, .int 0])), (v28_0, .inl (κ.2.1, 48, .inl fun _ => 0)), (q35, .inr (2, [.ref v39_0, .int 0])), (v39_0, .inl (κ.2.1, 48, .inl fun _ => 0)), (q46, .inr (2, [.ref v50_0, .int 0])), (v50_0, .inl (κ.2.1, 48, .inl fun _ => 0)), (q57, .inr (2, [.ref v61_0, .int 0])), (v61_0, .inl (κ.2.1, 48, .inl fun _ => 0))] H := hP
  replace hD : va_D A [(a_t, .inr (1, [.ref q7, .int 0, .int 1, .ref q13, .ref q24, .ref q35, .ref q46, .ref q57])), (q7, .inl (κ.2.1, 48, .inl fun _ => 0)), (q13, .inr (2, [.ref v17_0, .int 0])), (v17_0, .inl (κ.2.1, 48, .inl fun _ => 0)), (q24, .inr (2, [.ref v28_0, .int 0])), (v28_0, .inl (κ.2.1, 48, .inl fun _ => 0)), (q35, .inr (2, [.ref v39_0, .int 0])), (v39_0, .inl (κ.2.1, 48, .inl fun _ => 0)), (q46, .inr (2, [.ref v50_0, .int 0])), (v50_0, .inl (κ.2.1, 48, .inl fun _ => 0)), (q57, .inr (2, [.ref v61_0, .int 0])), (v61_0, .inl (κ.2.1, 48, .inl fun _ => 0))] := hD
  exact hret (q7, q13, v17_0, q24, v28_0, q35, v39_0, q46, v50_0, q57, v61_0) H locs ls _ d_E_init_77 (hP.sub (ws' := [(a_t, .inr (1, [.ref q7, .int 0, .int 1, .ref q13, .ref q24, .ref q35, .ref q46, .ref q57])), (q7, .inl (κ.2.1, 48, .inl fun _ => 0)), (q13, .inr (2, [.ref v17_0, .int 0])), (v17_0, .inl (κ.2.1, 48, .inl fun _ => 0)), (q24, .inr (2, [.ref v28_0, .int 0])), (v28_0, .inl (κ.2.1, 48, .inl fun _ => 0)), (q35, .inr (2, [.ref v39_0, .int 0])), (v39_0, .inl (κ.2.1, 48, .inl fun _ => 0)), (q46, .inr (2, [.ref v50_0, .int 0])), (v50_0, .inl (κ.2.1, 48, .inl fun _ => 0)), (q57, .inr (2, [.ref v61_0, .int 0])), (v61_0, .inl (κ.2.1, 48, .inl fun _ => 0))]) [0, 1, 2, 3, 4, 5, 6, 7, 8, 9, 10, 11] rfl) (hD.sub (ws' := [(a_t, .inr (1, [.ref q7, .int 0, .int 1, .ref q13, .ref q24, .ref q35, .ref q46, .ref q57])), (q7, .inl (κ.2.1, 48, .inl fun _ => 0)), (q13, .inr (2, [.ref v17_0, .int 0])), (v17_0, .inl (κ.2.1, 48, .inl fun _ => 0)), (q24, .inr (2, [.ref v28_0, .int 0])), (v28_0, .inl (κ.2.1, 48, .inl fun _ => 0)), (q35, .inr (2, [.ref v39_0, .int 0])), (v39_0, .inl (κ.2.1, 48, .inl fun _ => 0)), (q46, .inr (2, [.ref v50_0, .int 0])), (v50_0, .inl (κ.2.1, 48, .inl fun _ => 0)), (q57, .inr (2, [.ref v61_0, .int 0])), (v61_0, .inl (κ.2.1, 48, .inl fun _ => 0))]) [0, 1, 2, 3, 4, 5, 6, 7, 8, 9, 10, 11] (by decide) rfl) hS trivial
theorem d_R_init_0 : decode c_R_init 0 = .ok (.aload_n 0, 1) := by decide +kernel
theorem d_R_init_1 : decode c_R_init 1 = .ok (.invokespecial 1, 3) := by decide +kernel
theorem d_R_init_4 : decode c_R_init 4 = .ok (.aload_n 0, 1) := by decide +kernel
theorem d_R_init_5 : decode c_R_init 5 = .ok (.sipush 600, 3) := by decide +kernel
theorem d_R_init_8 : decode c_R_init 8 = .ok (.newarray .int, 2) := by decide +kernel
theorem d_R_init_10 : decode c_R_init 10 = .ok (.putfield 9, 3) := by decide +kernel
theorem d_R_init_13 : decode c_R_init 13 = .ok (.aload_n 0, 1) := by decide +kernel
theorem d_R_init_14 : decode c_R_init 14 = .ok (.iconst 0, 1) := by decide +kernel
theorem d_R_init_15 : decode c_R_init 15 = .ok (.putfield 13, 3) := by decide +kernel
theorem d_R_init_18 : decode c_R_init 18 = .ok (.aload_n 0, 1) := by decide +kernel
theorem d_R_init_19 : decode c_R_init 19 = .ok (.iconst 0, 1) := by decide +kernel
theorem d_R_init_20 : decode c_R_init 20 = .ok (.putfield 17, 3) := by decide +kernel
theorem d_R_init_23 : decode c_R_init 23 = .ok (.aload_n 0, 1) := by decide +kernel
theorem d_R_init_24 : decode c_R_init 24 = .ok (.iconst 0, 1) := by decide +kernel
theorem d_R_init_25 : decode c_R_init 25 = .ok (.putfield 20, 3) := by decide +kernel
theorem d_R_init_28 : decode c_R_init 28 = .ok (.aload_n 0, 1) := by decide +kernel
theorem d_R_init_29 : decode c_R_init 29 = .ok (.new 23, 3) := by decide +kernel
theorem d_R_init_32 : decode c_R_init 32 = .ok (.dup, 1) := by decide +kernel
theorem d_R_init_33 : decode c_R_init 33 = .ok (.invokespecial 25, 3) := by decide +kernel
theorem d_R_init_36 : decode c_R_init 36 = .ok (.putfield 26, 3) := by decide +kernel
theorem d_R_init_39 : decode c_R_init 39 = .ok (.aload_n 0, 1) := by decide +kernel
theorem d_R_init_40 : decode c_R_init 40 = .ok (.new 23, 3) := by decide +kernel
theorem d_R_init_43 : decode c_R_init 43 = .ok (.dup, 1) := by decide +kernel
theorem d_R_init_44 : decode c_R_init 44 = .ok (.invokespecial 25, 3) := by decide +kernel
theorem d_R_init_47 : decode c_R_init 47 = .ok (.putfield 30, 3) := by decide +kernel
theorem d_R_init_50 : decode c_R_init 50 = .ok (.aload_n 0, 1) := by decide +kernel
theorem d_R_init_51 : decode c_R_init 51 = .ok (.iconst 0, 1) := by decide +kernel
theorem d_R_init_52 : decode c_R_init 52 = .ok (.putfield 33, 3) := by decide +kernel
theorem d_R_init_55 : decode c_R_init 55 = .ok (.aload_n 0, 1) := by decide +kernel
theorem d_R_init_56 : decode c_R_init 56 = .ok (.iconst 0, 1) := by decide +kernel
theorem d_R_init_57 : decode c_R_init 57 = .ok (.putfield 36, 3) := by decide +kernel
theorem d_R_init_60 : decode c_R_init 60 = .ok (.return_, 1) := by decide +kernel
theorem zni_R_25 : zNI R_R 25 y_N_init c_N_init 1 0 := ⟨zco_N_init, zin_N, zml_R_25, zim_N_init, rfl, by decide +kernel⟩
set_option maxHeartbeats 4000000 in
set_option maxRecDepth 100000 in
theorem k_R_init (κ : zC) (X : zXT) (hX : zX κ X) (l : Launch) (a_t : Nat) (sz : Nat) : zMetC κ X l y_R_init c_R_init 1 5 700 2 32 [.ref a_t] sz [(a_t, .inr (4, [.null, .int 0, .int 0, .int 0, .null, .null, .int 0, .int 0]))] (zQv κ (fun (_ : Nat × Nat × Nat × Nat × Nat) => True) (fun u => [(a_t, .inr (4, [.ref u.1, .int 0, .int 0, .int 0, .ref u.2.1, .ref u.2.2.2.1, .int 0, .int 0])), (u.1, .inl (κ.2.1, 600, .inl fun _ => 0)), (u.2.1, .inr (2, [.ref u.2.2.1, .int 0])), (u.2.2.1, .inl (κ.2.1, 48, .inl fun _ => 0)), (u.2.2.2.1, .inr (2, [.ref u.2.2.2.2, .int 0])), (u.2.2.2.2, .inl (κ.2.1, 48, .inl fun _ => 0))])) := by
  refine zMetC.ofV (by decide +kernel) (Nat.le_of_ble_eq_true rfl) ?_
  intro p e s m args below meth c ls A Q hF hnm hK hP hD hA hXs hS hl hret
  obtain ⟨hx, hb, hml, hown, hts⟩ := id hF
  replace hl : lv_has ls 1 [(0, .ref a_t)] := hl
  refine lv_aload_n hx hb d_R_init_0 rfl (lv_at hl 0 rfl) ?_
  refine W.objInit hx hb hown (hts _ zml_R_1) (hts _ zim_JO_init) (hts _ zco_JO_init) rfl (by rw [hml]; exact hl.1) rfl d_R_init_1 (Nat.le_of_ble_eq_true rfl) (Nat.le_of_ble_eq_true rfl) ?_
  refine W.eq (g2 := F0 m 4 ls []) rfl ?_
  refine lv_aload_n hx hb d_R_init_4 rfl (lv_at hl 0 rfl) ?_
  refine lv_sipush (v := 600) hx hb d_R_init_5 (by decide) ?_
  refine zNewI (N := 600) hF hK hA hP hD hS (by decide) (by decide) (by decide) ⟨by decide, by decide⟩ d_R_init_8 (fun q8 H hP hD hS => ?_)
  replace hP : zP κ [(a_t, .inr (4, [.null, .int 0, .int 0, .int 0, .null, .null, .int 0, .int 0])), (q8, .inl (κ.2.1, 600, .inl fun _ => 0))] H := hP
  replace hD : va_D A [(a_t, .inr (4, [.null, .int 0, .int 0, .int 0, .null, .null, .int 0, .int 0])), (q8, .inl (κ.2.1, 600, .inl fun _ => 0))] := hD
  refine W.widen (k := 1) (n := 600) (by decide) (by decide) ?_
  refine va_putF (C := R_R) (T := F_R) (N := 8) hx hb hts i_R ty_R ty_R_ok n_R hown hK hP hD hS 0 rfl rfl 0 (by decide) (hts _ zfl_R_9) (fun _ h9 => h9) rfl hnm rfl (ty_R_ok 0 (by decide)) rfl rfl (Nat.le_of_ble_eq_true rfl) d_R_init_10 (fun H locs hP hD hS => ?_)
  replace hP : zP κ [(a_t, .inr (4, [.ref q8, .int 0, .int 0, .int 0, .null, .null, .int 0, .int 0])), (q8, .inl (κ.2.1, 600, .inl fun _ => 0))] H := hP
  replace hD : va_D A [(a_t, .inr (4, [.ref q8, .int 0, .int 0, .int 0, .null, .null, .int 0, .int 0])), (q8, .inl (κ.2.1, 600, .inl fun _ => 0))] := hD
  refine lv_aload_n hx hb d_R_init_13 rfl (lv_at hl 0 rfl) ?_
  refine lv_iconst (v := 0) hx hb d_R_init_14 (by decide) ?_
  refine va_put (C := R_R) (T := F_R) (N := 8) hx hb hts i_R ty_R ty_R_ok n_R hown hK hP hD hS 0 rfl rfl 1 (by decide) (hts _ zfl_R_13) (fun _ h9 => h9) rfl (ty_R_ok 1 (by decide)) rfl rfl (Nat.le_of_ble_eq_true rfl) d_R_init_15 (fun H locs hP hD hS => ?_)
  replace hP : zP κ [(a_t, .inr (4, [.ref q8, .int 0, .int 0, .int 0, .null, .null, .int 0, .int 0])), (q8, .inl (κ.2.1, 600, .inl fun _ => 0))] H := hP
  replace hD : va_D A [(a_t, .inr (4, [.ref q8, .int 0, .int 0, .int 0, .null, .null, .int 0, .int 0])), (q8, .inl (κ.2.1, 600, .inl fun _ => 0))] := hD
  refine lv_aload_n hx hb d_R_init_18 rfl (lv_at hl 0 rfl) ?_
  refine lv_iconst (v := 0) hx hb d_R_init_19 (by decide) ?_
  refine va_put (C := R_R) (T := F_R) (N := 8) hx hb hts i_R ty_R ty_R_ok n_R hown hK hP hD hS 0 rfl rfl 2 (by decide) (hts _ zfl_R_17) (fun _ h9 => h9) rfl (ty_R_ok 2 (by decide)) rfl rfl (Nat.le_of_ble_eq_true rfl) d_R_init_20 (fun H locs hP hD hS => ?_)
  replace hP : zP κ [(a_t, .inr (4, [.ref q8, .int 0, .int 0, .int 0, .null, .null, .int 0, .int 0])), (q8, .inl (κ.2.1, 600, .inl fun _ => 0))] H := hP
  replace hD : va_D A [(a_t, .inr (4, [.ref q8, .int 0, .int 0, .int 0, .null, .null, .int 0, .int 0])), (q8, .inl (κ.2.1, 600, .inl fun _ => 0))] := hD
  refine lv_aload_n hx hb d_R_init_23 rfl (lv_at hl 0 rfl) ?_
  refine lv_iconst (v := 0) hx hb d_R_init_24 (by decide) ?_
  refine va_put (C := R_R) (T := F_R) (N := 8) hx hb hts i_R ty_R ty_R_ok n_R hown hK hP hD hS 0 rfl rfl 3 (by decide) (hts _ zfl_R_20) (fun _ h9 => h9) rfl (ty_R_ok 3 (by decide)) rfl rfl (Nat.le_of_ble_eq_true rfl) d_R_init_25 (fun H locs hP hD hS => ?_)
  replace hP : zP κ [(a_t, .inr (4, [.ref q8, .int 0, .int 0, .int 0, .null, .null, .int 0, .int 0])), (q8, .inl (κ.2.1, 600, .inl fun _ => 0))] H := hP
  replace hD : va_D A [(a_t, .inr (4, [.ref q8, .int 0, .int 0, .int 0, .null, .null, .int 0, .int 0])), (q8, .inl (κ.2.1, 600, .inl fun _ => 0))] := hD
  refine lv_aload_n hx hb d_R_init_28 rfl (lv_at hl 0 rfl) ?_
  refine va_new (ci := 2) (fs := [.null, .int 0]) (C := R_N) (T := F_N) (N := 2) hx hb hts i_N ty_N ty_N_ok hown (hts _ zcl_R_23) (hts _ zis_N) (hts _ zin_N) hK hP hD hS hA rfl (by decide) (by decide) (by decide) d_R_init_29 (fun q29 H hP hD hS => ?_)
  replace hP : zP κ [(a_t, .inr (4, [.ref q8, .int 0, .int 0, .int 0, .null, .null, .int 0, .int 0])), (q8, .inl (κ.2.1, 600, .inl fun _ => 0)), (q29, .inr (2, [.null, .int 0]))] H := hP
  replace hD : va_D A [(a_t, .inr (4, [.ref q8, .int 0, .int 0, .int 0, .null, .null, .int 0, .int 0])), (q8, .inl (κ.2.1, 600, .inl fun _ => 0)), (q29, .inr (2, [.null, .int 0]))] := hD
  refine W.widen (k := 2) (n := 602) (by decide) (by decide) ?_
  refine lv_dup hx hb d_R_init_32 rfl ?_
  refine zIv (isC := [2]) (isR := [0, 1]) (wc := [(q29, .inr (2, [.null, .int 0]))]) (wr := [(a_t, .inr (4, [.ref q8, .int 0, .int 0, .int 0, .null, .null, .int 0, .int 0])), (q8, .inl (κ.2.1, 600, .inl fun _ => 0))]) (rest := [.ref q29, .ref a_t]) (As := []) hF zni_R_25 (k_N_init κ X hX l q29 H.size) hX hXs hK hA hP hD hS ⟨by decide, by decide⟩ ⟨rfl, rfl, rfl, rfl, rfl, by decide⟩ rfl hl.1 rfl (Nat.le_of_ble_eq_true rfl) ⟨by decide, by decide⟩ d_R_init_33 (fun u H locs hw hP hD hS => ?_)
  obtain ⟨v33_0, rfl⟩ : ∃ z, z = u := ⟨_, rfl⟩
  replace hP : zP κ [(a_t, .inr (4, [.ref q8, .int 0, .int 0, .int 0, .null, .null, .int 0, .int 0])), (q8, .inl (κ.2.1, 600, .inl fun _ => 0)), (q29, .inr (2, [.ref v33_0, .int 0])), (v33_0, .inl (κ.2.1, 48, .inl fun _ => 0))] H := hP
  replace hD : va_D A [(a_t, .inr (4, [.ref q8, .int 0, .int 0, .int 0, .null, .null, .int 0, .int 0])), (q8, .inl (κ.2.1, 600, .inl fun _ => 0)), (q29, .inr (2, [.ref v33_0, .int 0])), (v33_0, .inl (κ.2.1, 48, .inl fun _ => 0))] := hD
  refine W.widen (k := 3) (n := 650) (by decide) (by decide) ?_
  refine va_putF (C := R_R) (T := F_R) (N := 8) hx hb hts i_R ty_R ty_R_ok n_R hown hK hP hD hS 0 rfl rfl 4 (by decide) (hts _ zfl_R_26) (fun _ h9 => h9) rfl hnm rfl (ty_R_ok 4 (by decide)) rfl rfl (Nat.le_of_ble_eq_true rfl) d_R_init_36 (fun H locs hP hD hS => ?_)
  replace hP : zP κ [(a_t, .inr (4, [.ref q8, .int 0, .int 0, .int 0, .ref q29, .null, .int 0, .int 0])), (q8, .inl (κ.2.1, 600, .inl fun _ => 0)), (q29, .inr (2, [.ref v33_0, .int 0])), (v33_0, .inl (κ.2.1, 48, .inl fun _ => 0))] H := hP
  replace hD : va_D A [(a_t, .inr (4, [.ref q8, .int 0, .int 0, .int 0, .ref q29, .null, .int 0, .int 0])), (q8, .inl (κ.2.1, 600, .inl fun _ => 0)), (q29, .inr (2, [.ref v33_0, .int 0])), (v33_0, .inl (κ.2.1, 48, .inl fun _ => 0))] := hD
  refine lv_aload_n hx hb d_R_init_39 rfl (lv_at hl 0 rfl) ?_
  refine va_new (ci := 2) (fs := [.null, .int 0]) (C := R_N) (T := F_N) (N := 2) hx hb hts i_N ty_N ty_N_ok hown (hts _ zcl_R_23) (hts _ zis_N) (hts _ zin_N) hK hP hD hS hA rfl (by decide) (by decide) (by decide) d_R_init_40 (fun q40 H hP hD hS => ?_)
  replace hP : zP κ [(a_t, .inr (4, [.ref q8, .int 0, .int 0, .int 0, .ref q29, .null, .int 0, .int 0])), (q8, .inl (κ.2.1, 600, .inl fun _ => 0)), (q29, .inr (2, [.ref v33_0, .int 0])), (v33_0, .inl (κ.2.1, 48, .inl fun _ => 0)), (q40, .inr (2, [.null, .int 0]))] H := hP
  replace hD : va_D A [(a_t, .inr (4, [.ref q8, .int 0, .int 0, .int 0, .ref q29, .null, .int 0, .int 0])), (q8, .inl (κ.2.1, 600, .inl fun _ => 0)), (q29, .inr (2, [.ref v33_0, .int 0])), (v33_0, .inl (κ.2.1, 48, .inl fun _ => 0)), (q40, .inr (2, [.null, .int 0]))] := hD
  refine W.widen (k := 4) (n := 652) (by decide) (by decide) ?_
  refine lv_dup hx hb d_R_init_43 rfl ?_
  refine zIv (isC := [4]) (isR := [0, 1, 2, 3]) (wc := [(q40, .inr (2, [.null, .int 0]))]) (wr := [(a_t, .inr (4, [.ref q8, .int 0, .int 0, .int 0, .ref q29, .null, .int 0, .int 0])), (q8, .inl (κ.2.1, 600, .inl fun _ => 0)), (q29, .inr (2, [.ref v33_0, .int 0])), (v33_0, .inl (κ.2.1, 48, .inl fun _ => 0))]) (rest := [.ref q40, .ref a_t]) (As := []) hF zni_R_25 (k_N_init κ X hX l q40 H.size) hX hXs hK hA hP hD hS ⟨by decide, by decide⟩ ⟨rfl, rfl, rfl, rfl, rfl, by decide⟩ rfl hl.1 rfl (Nat.le_of_ble_eq_true rfl) ⟨by decide, by decide⟩ d_R_init_44 (fun u H locs hw hP hD hS => ?_)
  obtain ⟨v44_0, rfl⟩ : ∃ z, z = u := ⟨_, rfl⟩
  replace hP : zP κ [(a_t, .inr (4, [.ref q8, .int 0, .int 0, .int 0, .ref q29, .null, .int 0, .int 0])), (q8, .inl (κ.2.1, 600, .inl fun _ => 0)), (q29, .inr (2, [.ref v33_0, .int 0])), (v33_0, .inl (κ.2.1, 48, .inl fun _ => 0)), (q40, .inr (2, [.ref v44_0, .int 0])), (v44_0, .inl (κ.2.1, 48, .inl fun _ => 0))] H := hP
  replace hD : va_D A [(a_t, .inr (4, [.ref q8, .int 0, .int 0, .int 0, .ref q29, .null, .int 0, .int 0])), (q8, .inl (κ.2.1, 600, .inl fun _ => 0)), (q29, .inr (2, [.ref v33_0, .int 0])), (v33_0, .inl (κ.2.1, 48, .inl fun _ => 0)), (q40, .inr (2, [.ref v44_0, .int 0])), (v44_0, .inl (κ.2.1, 48, .inl fun _ => 0))] := hD
  refine W.widen (k := 5) (n := 700) (by decide) (by decide) ?_
  refine va_putF (C := R_R) (T := F_R) (N := 8) hx hb hts i_R ty_R ty_R_ok n_R hown hK hP hD hS 0 rfl rfl 5 (by decide) (hts _ zfl_R_30) (fun _ h9 => h9) rfl hnm rfl (ty_R_ok 5 (by decide)) rfl rfl (Nat.le_of_ble_eq_true rfl) d_R_init_47 (fun H locs hP hD hS => ?_)
  replace hP : zP κ [(a_t, .inr (4, [.ref q8, .int 0, .int 0, .int 0, .ref q29, .ref q40, .int 0, .int 0])), (q8, .inl (κ.2.1, 600, .inl fun _ => 0)), (q29, .inr (2, [.ref v33_0, .int 0])), (v33_0, .inl (κ.2.1, 48, .inl fun _ => 0)), (q40, .inr (2, [.ref v44_0, .int 0])), (v44_0, .inl (κ.2.1, 48, .inl fun _ => 0))] H := hP
  replace hD : va_D A [(a_t, .inr (4, [.ref q8, .int 0, .int 0, .int 0, .ref q29, .ref q40, .int 0, .int 0])), (q8, .inl (κ.2.1, 600, .inl fun _ => 0)), (q29, .inr (2, [.ref v33_0, .int 0])), (v33_0, .inl (κ.2.1, 48, .inl fun _ => 0)), (q40, .inr (2, [.ref v44_0, .int 0])), (v44_0, .inl (κ.2.1, 48, .inl fun _ => 0))] := hD
  refine lv_aload_n hx hb d_R_init_50 rfl (lv_at hl 0 rfl) ?_
  refine lv_iconst (v := 0) hx hb d_R_init_51 (by decide) ?_
  refine va_put (C := R_R) (T := F_R) (N := 8) hx hb hts i_R ty_R ty_R_ok n_R hown hK hP hD hS 0 rfl rfl 6 (by decide) (hts _ zfl_R_33) (fun _ h9 => h9) rfl (ty_R_ok 6 (by decide)) rfl rfl (Nat.le_of_ble_eq_true rfl) d_R_init_52 (fun H locs hP hD hS => ?_)
  replace hP : zP κ [(a_t, .inr (4, [.ref q8, .int 0, .int 0, .int 0, .ref q29, .ref q40, .int 0, .int 0])), (q8, .inl (κ.2.1, 600, .inl fun _ => 0)), (q29, .inr (2, [.ref v33_0, .int 0])), (v33_0, .inl (κ.2.1, 48, .inl fun _ => 0)), (q40, .inr (2, [.ref v44_0, .int 0])), (v44_0, .inl (κ.2.1, 48, .inl fun _ => 0))] H := hP
  replace hD : va_D A [(a_t, .inr (4, [.ref q8, .int 0, .int 0, .int 0, .ref q29, .ref q40, .int 0, .int 0])), (q8, .inl (κ.2.1, 600, .inl fun _ => 0)), (q29, .inr (2, [.ref v33_0, .int 0])), (v33_0, .inl (κ.2.1, 48, .inl fun _ => 0)), (q40, .inr (2, [.ref v44_0, .int 0])), (v44_0, .inl (κ.2.1, 48, .inl fun _ => 0))] := hD
  refine lv_aload_n hx hb d_R_init_55 rfl (lv_at hl 0 rfl) ?_
  refine lv_iconst (v := 0) hx hb d_R_init_56 (by decide) ?_
  refine va_put (C := R_R) (T := F_R) (N := 8) hx hb hts i_R ty_R ty_R_ok n_R hown hK hP hD hS 0 rfl rfl 7 (by decide) (hts _ zfl_R_36) (fun _ h9 => h9) rfl (ty_R_ok 7 (by decide)) rfl rfl (Nat.le_of_ble_eq_true rfl) d_R_init_57 (fun H locs hP hD hS => ?_)
  replace hP : zP κ [(a_t, .inr (4, [.ref q8, .int 0, .int 0, .int 0, .ref q29, .ref q40, .int 0, .int 0])), (q8, .inl (κ.2.1, 600, .inl fun _ => 0)), (q29, .inr (2, [.ref v33_0, .int 0])), (v33_0, .inl (κ.2.1, 48, .inl fun _ => 0)), (q40, .inr (2, [.ref v44_0, .int 0])), (v44_0, .inl (κ.2.1, 48, .inl fun _ => 0))] H := hP
  replace hD : va_D A [(a_t, .inr (4, [.ref q8, .int 0, .int 0, .int 0, .ref q29, .ref q40, .int 0, .int 0])), (q8, .inl (κ.2.1, 600, .inl fun _ => 0)), (q29, .inr (2, [.ref v33_0, .int 0])), (v33_0, .inl (κ.2.1, 48, .inl fun _ => 0)), (q40, .inr (2, [.ref v44_0, .int 0])), (v44_0, .inl (κ.2.1, 48, .inl fun _ => 0))] := hD
  exact hret (q8, q29, v33_0, q40, v44_0) H locs ls _ d_R_init_60 (hP.sub (ws' := [(a_t, .inr (4, [.ref q8, .int 0, .int 0, .int 0, .ref q29, .ref q40, .int 0, .int 0])), (q8, .inl (κ.2.1, 600, .inl fun _ => 0)), (q29, .inr (2, [.ref v33_0, .int 0])), (v33_0, .inl (κ.2.1, 48, .inl fun _ => 0)), (q40, .inr (2, [.ref v44_0, .int 0])), (v44_0, .inl (κ.2.1, 48, .inl fun _ => 0))]) [0, 1, 2, 3, 4, 5] rfl) (hD.sub (ws' := [(a_t, .inr (4, [.ref q8, .int 0, .int 0, .int 0, .ref q29, .ref q40, .int 0, .int 0])), (q8, .inl (κ.2.1, 600, .inl fun _ => 0)), (q29, .inr (2, [.ref v33_0, .int 0])), (v33_0, .inl (κ.2.1, 48, .inl fun _ => 0)), (q40, .inr (2, [.ref v44_0, .int 0])), (v44_0, .inl (κ.2.1, 48, .inl fun _ => 0))]) [0, 1, 2, 3, 4, 5] (by decide) rfl) hS trivial
theorem d_T_init_0 : decode c_T_init 0 = .ok (.aload_n 0, 1) := by decide +kernel
theorem d_T_init_1 : decode c_T_init 1 = .ok (.invokespecial 1, 3) := by decide +kernel
theorem d_T_init_4 : decode c_T_init 4 = .ok (.aload_n 0, 1) := by decide +kernel
theorem d_T_init_5 : decode c_T_init 5 = .ok (.new 7, 3) := by decide +kernel
theorem d_T_init_8 : decode c_T_init 8 = .ok (.dup, 1) := by decide +kernel
theorem d_T_init_9 : decode c_T_init 9 = .ok (.invokespecial 9, 3) := by decide +kernel
theorem d_T_init_12 : decode c_T_init 12 = .ok (.putfield 10, 3) := by decide +kernel
theorem d_T_init_15 : decode c_T_init 15 = .ok (.aload_n 0, 1) := by decide +kernel
theorem d_T_init_16 : decode c_T_init 16 = .ok (.new 16, 3) := by decide +kernel
theorem d_T_init_19 : decode c_T_init 19 = .ok (.dup, 1) := by decide +kernel
theorem d_T_init_20 : decode c_T_init 20 = .ok (.invokespecial 18, 3) := by decide +kernel
theorem d_T_init_23 : decode c_T_init 23 = .ok (.putfield 19, 3) := by decide +kernel
theorem d_T_init_26 : decode c_T_init 26 = .ok (.aload_n 0, 1) := by decide +kernel
theorem d_T_init_27 : decode c_T_init 27 = .ok (.new 23, 3) := by decide +kernel
theorem d_T_init_30 : decode c_T_init 30 = .ok (.dup, 1) := by decide +kernel
theorem d_T_init_31 : decode c_T_init 31 = .ok (.invokespecial 25, 3) := by decide +kernel
theorem d_T_init_34 : decode c_T_init 34 = .ok (.putfield 26, 3) := by decide +kernel
theorem d_T_init_37 : decode c_T_init 37 = .ok (.return_, 1) := by decide +kernel
theorem zni_T_9 : zNI R_T 9 y_P_init c_P_init 1 0 := ⟨zco_P_init, zin_P, zml_T_9, zim_P_init, rfl, by decide +kernel⟩
theorem zni_T_18 : zNI R_T 18 y_E_init c_E_init 1 0 := ⟨zco_E_init, zin_E, zml_T_18, zim_E_init, rfl, by decide +kernel⟩
theorem zni_T_25 : zNI R_T 25 y_N_init c_N_init 1 0 := ⟨zco_N_init, zin_N, zml_T_25, zim_N_init, rfl, by decide +kernel⟩
set_option maxHeartbeats 4000000 in
set_option maxRecDepth 100000 in
theorem k_T_init (κ : zC) (X : zXT) (hX : zX κ X) (l : Launch) (a_t : Nat) (sz : Nat) : zMetC κ X l y_T_init c_T_init 1 16 1458 3 52 [.ref a_t] sz [(a_t, .inr (5, [.null, .null, .null]))] (zQv κ (fun (_ : Nat × Nat × Nat × Nat × Nat × Nat × Nat × Nat × Nat × Nat × Nat × Nat × Nat × Nat × Nat × Nat) => True) (fun u => [(a_t, .inr (5, [.ref u.1, .ref u.2.2.1, .ref u.2.2.2.2.2.2.2.2.2.2.2.2.2.2.1])), (u.1, .inr (3, [.ref u.2.1, .int 0])), (u.2.1, .inl (κ.2.2.1, 1100, .inl fun _ => 0)), (u.2.2.1, .inr (1, [.ref u.2.2.2.1, .int 0, .int 1, .ref u.2.2.2.2.1, .ref u.2.2.2.2.2.2.1, .ref u.2.2.2.2.2.2.2.2.1, .ref u.2.2.2.2.2.2.2.2.2.2.1, .ref u.2.2.2.2.2.2.2.2.2.2.2.2.1])), (u.2.2.2.1, .inl (κ.2.1, 48, .inl fun _ => 0)), (u.2.2.2.2.1, .inr (2, [.ref u.2.2.2.2.2.1, .int 0])), (u.2.2.2.2.2.1, .inl (κ.2.1, 48, .inl fun _ => 0)), (u.2.2.2.2.2.2.1, .inr (2, [.ref u.2.2.2.2.2.2.2.1, .int 0])), (u.2.2.2.2.2.2.2.1, .inl (κ.2.1, 48, .inl fun _ => 0)), (u.2.2.2.2.2.2.2.2.1, .inr (2, [.ref u.2.2.2.2.2.2.2.2.2.1, .int 0])), (u.2.2.2.2.2.2.2.2.2.1, .inl (κ.2.1, 48, .inl fun _ => 0)), (u.2.2.2.2.2.2.2.2.2.2.1, .inr (2, [.ref u.2.2.2.2.2.2.2.2.2.2.2.1, .int 0])), (u.2.2.2.2.2.2.2.2.2.2.2.1, .inl (κ.2.1, 48, .inl fun _ => 0)), (u.2.2.2.2.2.2.2.2.2.2.2.2.1, .inr (2, [.ref u.2.2.2.2.2.2.2.2.2.2.2.2.2.1, .int 0])), (u.2.2.2.2.2.2.2.2.2.2.2.2.2.1, .inl (κ.2.1, 48, .inl fun _ => 0)), (u.2.2.2.2.2.2.2.2.2.2.2.2.2.2.1, .inr (2, [.ref u.2.2.2.2.2.2.2.2.2.2.2.2.2.2.2, .int 0])), (u.2.2.2.2.2.2.2.2.2.2.2.2.2.2.2, .inl (κ.2.1, 48, .inl fun _ => 0))])) := by
  refine zMetC.ofV (by decide +kernel) (Nat.le_of_ble_eq_true rfl) ?_
  intro p e s m args below meth c ls A Q hF hnm hK hP hD hA hXs hS hl hret
  obtain ⟨hx, hb, hml, hown, hts⟩ := id hF
  replace hl : lv_has ls 1 [(0, .ref a_t)] := hl
  refine lv_aload_n hx hb d_T_init_0 rfl (lv_at hl 0 rfl) ?_
  refine W.objInit hx hb hown (hts _ zml_T_1) (hts _ zim_JO_init) (hts _ zco_JO_init) rfl (by rw [hml]; exact hl.1) rfl d_T_init_1 (Nat.le_of_ble_eq_true rfl) (Nat.le_of_ble_eq_true rfl) ?_
  refine W.eq (g2 := F0 m 4 ls []) rfl ?_
  refine lv_aload_n hx hb d_T_init_4 rfl (lv_at hl 0 rfl) ?_
  refine va_new (ci := 3) (fs := [.null, .int 0]) (C := R_P) (T := F_P) (N := 2) hx hb hts i_P ty_P ty_P_ok hown (hts _ zcl_T_7) (hts _ zis_P) (hts _ zin_P) hK hP hD hS hA rfl (by decide) (by decide) (by decide) d_T_init_5 (fun q5 H hP hD hS => ?_)
  replace hP : zP κ [(a_t, .inr (5, [.null, .null, .null])), (q5, .inr (3, [.null, .int 0]))] H := hP
  replace hD : va_D A [(a_t, .inr (5, [.null, .null, .null])), (q5, .inr (3, [.null, .int 0]))] := hD
  refine W.widen (k := 1) (n := 2) (by decide) (by decide) ?_
  refine lv_dup hx hb d_T_init_8 rfl ?_
  refine zIv (isC := [1]) (isR := [0]) (wc := [(q5, .inr (3, [.null, .int 0]))]) (wr := [(a_t, .inr (5, [.null, .null, .null]))]) (rest := [.ref q5, .ref a_t]) (As := []) hF zni_T_9 (k_P_init κ X hX l q5 H.size) hX hXs hK hA hP hD hS ⟨by decide, by decide⟩ ⟨rfl, rfl, rfl, rfl, rfl, by decide⟩ rfl hl.1 rfl (Nat.le_of_ble_eq_true rfl) ⟨by decide, by decide⟩ d_T_init_9 (fun u H locs hw hP hD hS => ?_)
  obtain ⟨v9_0, rfl⟩ : ∃ z, z = u := ⟨_, rfl⟩
  replace hP : zP κ [(a_t, .inr (5, [.null, .null, .null])), (q5, .inr (3, [.ref v9_0, .int 0])), (v9_0, .inl (κ.2.2.1, 1100, .inl fun _ => 0))] H := hP
  replace hD : va_D A [(a_t, .inr (5, [.null, .null, .null])), (q5, .inr (3, [.ref v9_0, .int 0])), (v9_0, .inl (κ.2.2.1, 1100, .inl fun _ => 0))] := hD
  refine W.widen (k := 2) (n := 1102) (by decide) (by decide) ?_
  refine va_putF (C := R_T) (T := F_T) (N := 3) hx hb hts i_T ty_T ty_T_ok n_T hown hK hP hD hS 0 rfl rfl 0 (by decide) (hts _ zfl_T_10) (fun _ h9 => h9) rfl hnm rfl (ty_T_ok 0 (by decide)) rfl rfl (Nat.le_of_ble_eq_true rfl) d_T_init_12 (fun H locs hP hD hS => ?_)
  replace hP : zP κ [(a_t, .inr (5, [.ref q5, .null, .null])), (q5, .inr (3, [.ref v9_0, .int 0])), (v9_0, .inl (κ.2.2.1, 1100, .inl fun _ => 0))] H := hP
  replace hD : va_D A [(a_t, .inr (5, [.ref q5, .null, .null])), (q5, .inr (3, [.ref v9_0, .int 0])), (v9_0, .inl (κ.2.2.1, 1100, .inl fun _ => 0))] := hD
  refine lv_aload_n hx hb d_T_init_15 rfl (lv_at hl 0 rfl) ?_
  refine va_new (ci := 1) (fs := [.null, .int 0, .int 0, .null, .null, .null, .null, .null]) (C := R_E) (T := F_E) (N := 8) hx hb hts i_E ty_E ty_E_ok hown (hts _ zcl_T_16) (hts _ zis_E) (hts _ zin_E) hK hP hD hS hA rfl (by decide) (by decide) (by decide) d_T_init_16 (fun q16 H hP hD hS => ?_)
  replace hP : zP κ [(a_t, .inr (5, [.ref q5, .null, .null])), (q5, .inr (3, [.ref v9_0, .int 0])), (v9_0, .inl (κ.2.2.1, 1100, .inl fun _ => 0)), (q16, .inr (1, [.null, .int 0, .int 0, .null, .null, .null, .null, .null]))] H := hP
  replace hD : va_D A [(a_t, .inr (5, [.ref q5, .null, .null])), (q5, .inr (3, [.ref v9_0, .int 0])), (v9_0, .inl (κ.2.2.1, 1100, .inl fun _ => 0)), (q16, .inr (1, [.null, .int 0, .int 0, .null, .null, .null, .null, .null]))] := hD
  refine W.widen (k := 3) (n := 1110) (by decide) (by decide) ?_
  refine lv_dup hx hb d_T_init_19 rfl ?_
  refine zIv (isC := [3]) (isR := [0, 1, 2]) (wc := [(q16, .inr (1, [.null, .int 0, .int 0, .null, .null, .null, .null, .null]))]) (wr := [(a_t, .inr (5, [.ref q5, .null, .null])), (q5, .inr (3, [.ref v9_0, .int 0])), (v9_0, .inl (κ.2.2.1, 1100, .inl fun _ => 0))]) (rest := [.ref q16, .ref a_t]) (As := []) hF zni_T_18 (k_E_init κ X hX l q16 H.size) hX hXs hK hA hP hD hS ⟨by decide, by decide⟩ ⟨rfl, rfl, rfl, rfl, rfl, by decide⟩ rfl hl.1 rfl (Nat.le_of_ble_eq_true rfl) ⟨by decide, by decide⟩ d_T_init_20 (fun u H locs hw hP hD hS => ?_)
  obtain ⟨v20_0, v20_1, v20_2, v20_3, v20_4, v20_5, v20_6, v20_7, v20_8, v20_9, v20_10⟩ := u
  replace hP : zP κ [(a_t, .inr (5, [.ref q5, .null, .null])), (q5, .inr (3, [.ref v9_0, .int 0])), (v9_0, .inl (κ.2.2.1, 1100, .inl fun _ => 0)), (q16, .inr (1, [.ref v20_0, .int 0, .int 1, .ref v20_1, .ref v20_3, .ref v20_5, .ref v20_7, .ref v20_9])), (v20_0, .inl (κ.2.1, 48, .inl fun _ => 0)), (v20_1, .inr (2, [.ref v20_2, .int 0])), (v20_2, .inl (κ.2.1, 48, .inl fun _ => 0)), (v20_3, .inr (2, [.ref v20_4, .int 0])), (v20_4, .inl (κ.2.1, 48, .inl fun _ => 0)), (v20_5, .inr (2, [.ref v20_6, .int 0])), (v20_6, .inl (κ.2.1, 48, .inl fun _ => 0)), (v20_7, .inr (2, [.ref v20_8, .int 0])), (v20_8, .inl (κ.2.1, 48, .inl fun _ => 0)), (v20_9, .inr (2, [.ref v20_10, .int 0])), (v20_10, .inl (κ.2.1, 48, .inl fun _ => 0))] H := hP
  replace hD : va_D A [(a_t, .inr (5, [.ref q5, .null, .null])), (q5, .inr (3, [.ref v9_0, .int 0])), (v9_0, .inl (κ.2.2.1, 1100, .inl fun _ => 0)), (q16, .inr (1, [.ref v20_0, .int 0, .int 1, .ref v20_1, .ref v20_3, .ref v20_5, .ref v20_7, .ref v20_9])), (v20_0, .inl (κ.2.1, 48, .inl fun _ => 0)), (v20_1, .inr (2, [.ref v20_2, .int 0])), (v20_2, .inl (κ.2.1, 48, .inl fun _ => 0)), (v20_3, .inr (2, [.ref v20_4, .int 0])), (v20_4, .inl (κ.2.1, 48, .inl fun _ => 0)), (v20_5, .inr (2, [.ref v20_6, .int 0])), (v20_6, .inl (κ.2.1, 48, .inl fun _ => 0)), (v20_7, .inr (2, [.ref v20_8, .int 0])), (v20_8, .inl (κ.2.1, 48, .inl fun _ => 0)), (v20_9, .inr (2, [.ref v20_10, .int 0])), (v20_10, .inl (κ.2.1, 48, .inl fun _ => 0))] := hD
  refine W.widen (k := 14) (n := 1408) (by decide) (by decide) ?_
  refine va_putF (C := R_T) (T := F_T) (N := 3) hx hb hts i_T ty_T ty_T_ok n_T hown hK hP hD hS 0 rfl rfl 1 (by decide) (hts _ zfl_T_19) (fun _ h9 => h9) rfl hnm rfl (ty_T_ok 1 (by decide)) rfl rfl (Nat.le_of_ble_eq_true rfl) d_T_init_23 (fun H locs hP hD hS => ?_)
  replace hP : zP κ [(a_t, .inr (5, [.ref q5, .ref q16, .null])), (q5, .inr (3, [.ref v9_0, .int 0])), (v9_0, .inl (κ.2.2.1, 1100, .inl fun _ => 0)), (q16, .inr (1, [.ref v20_0, .int 0, .int 1, .ref v20_1, .ref v20_3, .ref v20_5, .ref v20_7, .ref v20_9])), (v20_0, .inl (κ.2.1, 48, .inl fun _ => 0)), (v20_1, .inr (2, [.ref v20_2, .int 0])), (v20_2, .inl (κ.2.1, 48, .inl fun _ => 0)), (v20_3, .inr (2, [.ref v20_4, .int 0])), (v20_4, .inl (κ.2.1, 48, .inl fun _ => 0)), (v20_5, .inr (2, [.ref v20_6, .int 0])), (v20_6, .inl (κ.2.1, 48, .inl fun _ => 0)), (v20_7, .inr (2, [.ref v20_8, .int 0])), (v20_8, .inl (κ.2.1, 48, .inl fun _ => 0)), (v20_9, .inr (2, [.ref v20_10, .int 0])), (v20_10, .inl (κ.2.1, 48, .inl fun _ => 0))] H := hP
  replace hD : va_D A [(a_t, .inr (5, [.ref q5, .ref q16, .null])), (q5, .inr (3, [.ref v9_0, .int 0])), (v9_0, .inl (κ.2.2.1, 1100, .inl fun _ => 0)), (q16, .inr (1, [.ref v20_0, .int 0, .int 1, .ref v20_1, .ref v20_3, .ref v20_5, .ref v20_7, .ref v20_9])), (v20_0, .inl (κ.2.1, 48, .inl fun _ => 0)), (v20_1, .inr (2, [.ref v20_2, .int 0])), (v20_2, .inl (κ.2.1, 48, .inl fun _ => 0)), (v20_3, .inr (2, [.ref v20_4, .int 0])), (v20_4, .inl (κ.2.1, 48, .inl fun _ => 0)), (v20_5, .inr (2, [.ref v20_6, .int 0])), (v20_6, .inl (κ.2.1, 48, .inl fun _ => 0)), (v20_7, .inr (2, [.ref v20_8, .int 0])), (v20_8, .inl (κ.2.1, 48, .inl fun _ => 0)), (v20_9, .inr (2, [.ref v20_10, .int 0])), (v20_10, .inl (κ.2.1, 48, .inl fun _ => 0))] := hD
  refine lv_aload_n hx hb d_T_init_26 rfl (lv_at hl 0 rfl) ?_
  refine va_new (ci := 2) (fs := [.null, .int 0]) (C := R_N) (T := F_N) (N := 2) hx hb hts i_N ty_N ty_N_ok hown (hts _ zcl_T_23) (hts _ zis_N) (hts _ zin_N) hK hP hD hS hA rfl (by decide) (by decide) (by decide) d_T_init_27 (fun q27 H hP hD hS => ?_)
  replace hP : zP κ [(a_t, .inr (5, [.ref q5, .ref q16, .null])), (q5, .inr (3, [.ref v9_0, .int 0])), (v9_0, .inl (κ.2.2.1, 1100, .inl fun _ => 0)), (q16, .inr (1, [.ref v20_0, .int 0, .int 1, .ref v20_1, .ref v20_3, .ref v20_5, .ref v20_7, .ref v20_9])), (v20_0, .inl (κ.2.1, 48, .inl fun _ => 0)), (v20_1, .inr (2, [.ref v20_2, .int 0])), (v20_2, .inl (κ.2.1, 48, .inl fun _ => 0)), (v20_3, .inr (2, [.ref v20_4, .int 0])), (v20_4, .inl (κ.2.1, 48, .inl fun _ => 0)), (v20_5, .inr (2, [.ref v20_6, .int 0])), (v20_6, .inl (κ.2.1, 48, .inl fun _ => 0)), (v20_7, .inr (2, [.ref v20_8, .int 0])), (v20_8, .inl (κ.2.1, 48, .inl fun _ => 0)), (v20_9, .inr (2, [.ref v20_10, .int 0])), (v20_10, .inl (κ.2.1, 48, .inl fun _ => 0)), (q27, .inr (2, [.null, .int 0]))] H := hP
  replace hD : va_D A [(a_t, .inr (5, [.ref q5, .ref q16, .null])), (q5, .inr (3, [.ref v9_0, .int 0])), (v9_0, .inl (κ.2.2.1, 1100, .inl fun _ => 0)), (q16, .inr (1, [.ref v20_0, .int 0, .int 1, .ref v20_1, .ref v20_3, .ref v20_5, .ref v20_7, .ref v20_9])), (v20_0, .inl (κ.2.1, 48, .inl fun _ => 0)), (v20_1, .inr (2, [.ref v20_2, .int 0])), (v20_2, .inl (κ.2.1, 48, .inl fun _ => 0)), (v20_3, .inr (2, [.ref v20_4, .int 0])), (v20_4, .inl (κ.2.1, 48, .inl fun _ => 0)), (v20_5, .inr (2, [.ref v20_6, .int 0])), (v20_6, .inl (κ.2.1, 48, .inl fun _ => 0)), (v20_7, .inr (2, [.ref v20_8, .int 0])), (v20_8, .inl (κ.2.1, 48, .inl fun _ => 0)), (v20_9, .inr (2, [.ref v20_10, .int 0])), (v20_10, .inl (κ.2.1, 48, .inl fun _ => 0)), (q27, .inr (2, [.null, .int 0]))] := hD
  refine W.widen (k := 15) (n := 1410) (by decide) (by decide) ?_
  refine lv_dup hx hb d_T_init_30 rfl ?_
  refine zIv (isC := [15]) (isR := [0, 1, 2, 3, 4, 5, 6, 7, 8, 9, 10, 11, 12, 13, 14]) (wc := [(q27, .inr (2, [.null, .int 0]))]) (wr := [(a_t, .inr (5, [.ref q5, .ref q16, .null])), (q5, .inr (3, [.ref v9_0, .int 0])), (v9_0, .inl (κ.2.2.1, 1100, .inl fun _ => 0)), (q16, .inr (1, [.ref v20_0, .int 0, .int 1, .ref v20_1, .ref v20_3, .ref v20_5, .ref v20_7, .ref v20_9])), (v20_0, .inl (κ.2.1, 48, .inl fun _ => 0)), (v20_1, .inr (2, [.ref v20_2, .int 0])), (v20_2, .inl (κ.2.1, 48, .inl fun _ => 0)), (v20_3, .inr (2, [.ref v20_4, .int 0])), (v20_4, .inl (κ.2.1, 48, .inl fun _ => 0)), (v20_5, .inr (2, [.ref v20_6, .int 0])), (v20_6, .inl (κ.2.1, 48, .inl fun _ => 0)), (v20_7, .inr (2, [.ref v20_8, .int 0])), (v20_8, .inl (κ.2.1, 48, .inl fun _ => 0)), (v20_9, .inr (2, [.ref v20_10, .int 0])), (v20_10, .inl (κ.2.1, 48, .inl fun _ => 0))]) (rest := [.ref q27, .ref a_t]) (As := []) hF zni_T_25 (k_N_init κ X hX l q27 H.size) hX hXs hK hA hP hD hS ⟨by decide, by decide⟩ ⟨rfl, rfl, rfl, rfl, rfl, by decide⟩ rfl hl.1 rfl (Nat.le_of_ble_eq_true rfl) ⟨by decide, by decide⟩ d_T_init_31 (fun u H locs hw hP hD hS => ?_)
  obtain ⟨v31_0, rfl⟩ : ∃ z, z = u := ⟨_, rfl⟩
  replace hP : zP κ [(a_t, .inr (5, [.ref q5, .ref q16, .null])), (q5, .inr (3, [.ref v9_0, .int 0])), (v9_0, .inl (κ.2.2.1, 1100, .inl fun _ => 0)), (q16, .inr (1, [.ref v20_0, .int 0, .int 1, .ref v20_1, .ref v20_3, .ref v20_5, .ref v20_7, .ref v20_9])), (v20_0, .inl (κ.2.1, 48, .inl fun _ => 0)), (v20_1, .inr (2, [.ref v20_2, .int 0])), (v20_2, .inl (κ.2.1, 48, .inl fun _ => 0)), (v20_3, .inr (2, [.ref v20_4, .int 0])), (v20_4, .inl (κ.2.1, 48, .inl fun _ => 0)), (v20_5, .inr (2, [.ref v20_6, .int 0])), (v20_6, .inl (κ.2.1, 48, .inl fun _ => 0)), (v20_7, .inr (2, [.ref v20_8, .int 0])), (v20_8, .inl (κ.2.1, 48, .inl fun _ => 0)), (v20_9, .inr (2, [.ref v20_10, .int 0])), (v20_10, .inl (κ.2.1, 48, .inl fun _ => 0)), (q27, .inr (2, [.ref v31_0, .int 0])), (v31_0, .inl (κ.2.1, 48, .inl fun _ => 0))] H := hP
  replace hD : va_D A [(a_t, .inr (5, [.ref q5, .ref q16, .null])), (q5, .inr (3, [.ref v9_0, .int 0])), (v9_0, .inl (κ.2.2.1, 1100, .inl fun _ => 0)), (q16, .inr (1, [.ref v20_0, .int 0, .int 1, .ref v20_1, .ref v20_3, .ref v20_5, .ref v20_7, .ref v20_9])), (v20_0, .inl (κ.2.1, 48, .inl fun _ => 0)), (v20_1, .inr (2, [.ref v20_2, .int 0])), (v20_2, .inl (κ.2.1, 48, .inl fun _ => 0)), (v20_3, .inr (2, [.ref v20_4, .int 0])), (v20_4, .inl (κ.2.1, 48, .inl fun _ => 0)), (v20_5, .inr (2, [.ref v20_6, .int 0])), (v20_6, .inl (κ.2.1, 48, .inl fun _ => 0)), (v20_7, .inr (2, [.ref v20_8, .int 0])), (v20_8, .inl (κ.2.1, 48, .inl fun _ => 0)), (v20_9, .inr (2, [.ref v20_10, .int 0])), (v20_10, .inl (κ.2.1, 48, .inl fun _ => 0)), (q27, .inr (2, [.ref v31_0, .int 0])), (v31_0, .inl (κ.2.1, 48, .inl fun _ => 0))] := hD
  refine W.widen (k := 16) (n := 1458) (by decide) (by decide) ?_
  refine va_putF (C := R_T) (T := F_T) (N := 3) hx hb hts i_T ty_T ty_T_ok n_T hown hK hP hD hS 0 rfl rfl 2 (by decide) (hts _ zfl_T_26) (fun _ h9 => h9) rfl hnm rfl (ty_T_ok 2 (by decide)) rfl rfl (Nat.le_of_ble_eq_true rfl) d_T_init_34 (fun H locs hP hD hS => ?_)
  replace hP : zP κ [(a_t, .inr (5, [.ref q5, .ref q16, .ref q27])), (q5, .inr (3, [.ref v9_0, .int 0])), (v9_0, .inl (κ.2.2.1, 1100, .inl fun _ => 0)), (q16, .inr (1, [.ref v20_0, .int 0, .int 1, .ref v20_1, .ref v20_3, .ref v20_5, .ref v20_7, .ref v20_9])), (v20_0, .inl (κ.2.1, 48, .inl fun _ => 0)), (v20_1, .inr (2, [.ref v20_2, .int 0])), (v20_2, .inl (κ.2.1, 48, .inl fun _ => 0)), (v20_3, .inr (2, [.ref v20_4, .int 0])), (v20_4, .inl (κ.2.1, 48, .inl fun _ => 0)), (v20_5, .inr (2, [.ref v20_6, .int 0])), (v20_6, .inl (κ.2.1, 48, .inl fun _ => 0)), (v20_7, .inr (2, [.ref v20_8, .int 0])), (v20_8, .inl (κ.2.1, 48, .inl fun _ => 0)), (v20_9, .inr (2, [.ref v20_10, .int 0])), (v20_10, .inl (κ.2.1, 48, .inl fun _ => 0)), (q27, .inr (2, [.ref v31_0, .int 0])), (v31_0, .inl (κ.2.1, 48, .inl fun _ => 0))] H := hP
  replace hD : va_D A [(a_t, .inr (5, [.ref q5, .ref q16, .ref q27])), (q5, .inr (3, [.ref v9_0, .int 0])), (v9_0, .inl (κ.2.2.1, 1100, .inl fun _ => 0)), (q16, .inr (1, [.ref v20_0, .int 0, .int 1, .ref v20_1, .ref v20_3, .ref v20_5, .ref v20_7, .ref v20_9])), (v20_0, .inl (κ.2.1, 48, .inl fun _ => 0)), (v20_1, .inr (2, [.ref v20_2, .int 0])), (v20_2, .inl (κ.2.1, 48, .inl fun _ => 0)), (v20_3, .inr (2, [.ref v20_4, .int 0])), (v20_4, .inl (κ.2.1, 48, .inl fun _ => 0)), (v20_5, .inr (2, [.ref v20_6, .int 0])), (v20_6, .inl (κ.2.1, 48, .inl fun _ => 0)), (v20_7, .inr (2, [.ref v20_8, .int 0])), (v20_8, .inl (κ.2.1, 48, .inl fun _ => 0)), (v20_9, .inr (2, [.ref v20_10, .int 0])), (v20_10, .inl (κ.2.1, 48, .inl fun _ => 0)), (q27, .inr (2, [.ref v31_0, .int 0])), (v31_0, .inl (κ.2.1, 48, .inl fun _ => 0))] := hD
  exact hret (q5, v9_0, q16, v20_0, v20_1, v20_2, v20_3, v20_4, v20_5, v20_6, v20_7, v20_8, v20_9, v20_10, q27, v31_0) H locs ls _ d_T_init_37 (hP.sub (ws' := [(a_t, .inr (5, [.ref q5, .ref q16, .ref q27])), (q5, .inr (3, [.ref v9_0, .int 0])), (v9_0, .inl (κ.2.2.1, 1100, .inl fun _ => 0)), (q16, .inr (1, [.ref v20_0, .int 0, .int 1, .ref v20_1, .ref v20_3, .ref v20_5, .ref v20_7, .ref v20_9])), (v20_0, .inl (κ.2.1, 48, .inl fun _ => 0)), (v20_1, .inr (2, [.ref v20_2, .int 0])), (v20_2, .inl (κ.2.1, 48, .inl fun _ => 0)), (v20_3, .inr (2, [.ref v20_4, .int 0])), (v20_4, .inl (κ.2.1, 48, .inl fun _ => 0)), (v20_5, .inr (2, [.ref v20_6, .int 0])), (v20_6, .inl (κ.2.1, 48, .inl fun _ => 0)), (v20_7, .inr (2, [.ref v20_8, .int 0])), (v20_8, .inl (κ.2.1, 48, .inl fun _ => 0)), (v20_9, .inr (2, [.ref v20_10, .int 0])), (v20_10, .inl (κ.2.1, 48, .inl fun _ => 0)), (q27, .inr (2, [.ref v31_0, .int 0])), (v31_0, .inl (κ.2.1, 48, .inl fun _ => 0))]) [0, 1, 2, 3, 4, 5, 6, 7, 8, 9, 10, 11, 12, 13, 14, 15, 16] rfl) (hD.sub (ws' := [(a_t, .inr (5, [.ref q5, .ref q16, .ref q27])), (q5, .inr (3, [.ref v9_0, .int 0])), (v9_0, .inl (κ.2.2.1, 1100, .inl fun _ => 0)), (q16, .inr (1, [.ref v20_0, .int 0, .int 1, .ref v20_1, .ref v20_3, .ref v20_5, .ref v20_7, .ref v20_9])), (v20_0, .inl (κ.2.1, 48, .inl fun _ => 0)), (v20_1, .inr (2, [.ref v20_2, .int 0])), (v20_2, .inl (κ.2.1, 48, .inl fun _ => 0)), (v20_3, .inr (2, [.ref v20_4, .int 0])), (v20_4, .inl (κ.2.1, 48, .inl fun _ => 0)), (v20_5, .inr (2, [.ref v20_6, .int 0])), (v20_6, .inl (κ.2.1, 48, .inl fun _ => 0)), (v20_7, .inr (2, [.ref v20_8, .int 0])), (v20_8, .inl (κ.2.1, 48, .inl fun _ => 0)), (v20_9, .inr (2, [.ref v20_10, .int 0])), (v20_10, .inl (κ.2.1, 48, .inl fun _ => 0)), (q27, .inr (2, [.ref v31_0, .int 0])), (v31_0, .inl (κ.2.1, 48, .inl fun _ => 0))]) [0, 1, 2, 3, 4, 5, 6, 7, 8, 9, 10, 11, 12, 13, 14, 15, 16] (by decide) rfl) hS trivial
theorem d_D_init_0 : decode c_D_init 0 = .ok (.aload_n 0, 1) := by decide +kernel
theorem d_D_init_1 : decode c_D_init 1 = .ok (.invokespecial 1, 3) := by decide +kernel
theorem d_D_init_4 : decode c_D_init 4 = .ok (.aload_n 0, 1) := by decide +kernel
theorem d_D_init_5 : decode c_D_init 5 = .ok (.new 7, 3) := by decide +kernel
theorem d_D_init_8 : decode c_D_init 8 = .ok (.dup, 1) := by decide +kernel
theorem d_D_init_9 : decode c_D_init 9 = .ok (.invokespecial 9, 3) := by decide +kernel
theorem d_D_init_12 : decode c_D_init 12 = .ok (.putfield 10, 3) := by decide +kernel
theorem d_D_init_15 : decode c_D_init 15 = .ok (.aload_n 0, 1) := by decide +kernel
theorem d_D_init_16 : decode c_D_init 16 = .ok (.new 16, 3) := by decide +kernel
theorem d_D_init_19 : decode c_D_init 19 = .ok (.dup, 1) := by decide +kernel
theorem d_D_init_20 : decode c_D_init 20 = .ok (.invokespecial 18, 3) := by decide +kernel
theorem d_D_init_23 : decode c_D_init 23 = .ok (.putfield 19, 3) := by decide +kernel
theorem d_D_init_26 : decode c_D_init 26 = .ok (.return_, 1) := by decide +kernel
theorem zni_D_9 : zNI R_D 9 y_R_init c_R_init 1 0 := ⟨zco_R_init, zin_R, zml_D_9, zim_R_init, rfl, by decide +kernel⟩
theorem zni_D_18 : zNI R_D 18 y_T_init c_T_init 1 0 := ⟨zco_T_init, zin_T, zml_D_18, zim_T_init, rfl, by decide +kernel⟩
set_option maxHeartbeats 4000000 in
set_option maxRecDepth 100000 in
theorem k_D_init (κ : zC) (X : zXT) (hX : zX κ X) (l : Launch) (a_t : Nat) (sz : Nat) : zMetC κ X l y_D_init c_D_init 1 23 2169 4 72 [.ref a_t] sz [(a_t, .inr (0, [.null, .null]))] (zQv κ (fun (_ : Nat × Nat × Nat × Nat × Nat × Nat × Nat × Nat × Nat × Nat × Nat × Nat × Nat × Nat × Nat × Nat × Nat × Nat × Nat × Nat × Nat × Nat × Nat) => True) (fun u => [(a_t, .inr (0, [.ref u.1, .ref u.2.2.2.2.2.2.1])), (u.1, .inr (4, [.ref u.2.1, .int 0, .int 0, .int 0, .ref u.2.2.1, .ref u.2.2.2.2.1, .int 0, .int 0])), (u.2.1, .inl (κ.2.1, 600, .inl fun _ => 0)), (u.2.2.1, .inr (2, [.ref u.2.2.2.1, .int 0])), (u.2.2.2.1, .inl (κ.2.1, 48, .inl fun _ => 0)), (u.2.2.2.2.1, .inr (2, [.ref u.2.2.2.2.2.1, .int 0])), (u.2.2.2.2.2.1, .inl (κ.2.1, 48, .inl fun _ => 0)), (u.2.2.2.2.2.2.1, .inr (5, [.ref u.2.2.2.2.2.2.2.1, .ref u.2.2.2.2.2.2.2.2.2.1, .ref u.2.2.2.2.2.2.2.2.2.2.2.2.2.2.2.2.2.2.2.2.2.1])), (u.2.2.2.2.2.2.2.1, .inr (3, [.ref u.2.2.2.2.2.2.2.2.1, .int 0])), (u.2.2.2.2.2.2.2.2.1, .inl (κ.2.2.1, 1100, .inl fun _ => 0)), (u.2.2.2.2.2.2.2.2.2.1, .inr (1, [.ref u.2.2.2.2.2.2.2.2.2.2.1, .int 0, .int 1, .ref u.2.2.2.2.2.2.2.2.2.2.2.1, .ref u.2.2.2.2.2.2.2.2.2.2.2.2.2.1, .ref u.2.2.2.2.2.2.2.2.2.2.2.2.2.2.2.1, .ref u.2.2.2.2.2.2.2.2.2.2.2.2.2.2.2.2.2.1, .ref u.2.2.2.2.2.2.2.2.2.2.2.2.2.2.2.2.2.2.2.1])), (u.2.2.2.2.2.2.2.2.2.2.1, .inl (κ.2.1, 48, .inl fun _ => 0)), (u.2.2.2.2.2.2.2.2.2.2.2.1, .inr (2, [.ref u.2.2.2.2.2.2.2.2.2.2.2.2.1, .int 0])), (u.2.2.2.2.2.2.2.2.2.2.2.2.1, .inl (κ.2.1, 48, .inl fun _ => 0)), (u.2.2.2.2.2.2.2.2.2.2.2.2.2.1, .inr (2, [.ref u.2.2.2.2.2.2.2.2.2.2.2.2.2.2.1, .int 0])), (u.2.2.2.2.2.2.2.2.2.2.2.2.2.2.1, .inl (κ.2.1, 48, .inl fun _ => 0)), (u.2.2.2.2.2.2.2.2.2.2.2.2.2.2.2.1, .inr (2, [.ref u.2.2.2.2.2.2.2.2.2.2.2.2.2.2.2.2.1, .int 0])), (u.2.2.2.2.2.2.2.2.2.2.2.2.2.2.2.2.1, .inl (κ.2.1, 48, .inl fun _ => 0)), (u.2.2.2.2.2.2.2.2.2.2.2.2.2.2.2.2.2.1, .inr (2, [.ref u.2.2.2.2.2.2.2.2.2.2.2.2.2.2.2.2.2.2.1, .int 0])), (u.2.2.2.2.2.2.2.2.2.2.2.2.2.2.2.2.2.2.1, .inl (κ.2.1, 48, .inl fun _ => 0)), (u.2.2.2.2.2.2.2.2.2.2.2.2.2.2.2.2.2.2.2.1, .inr (2, [.ref u.2.2.2.2.2.2.2.2.2.2.2.2.2.2.2.2.2.2.2.2.1, .int 0])), (u.2.2.2.2.2.2.2.2.2.2.2.2.2.2.2.2.2.2.2.2.1, .inl (κ.2.1, 48, .inl fun _ => 0)), (u.2.2.2.2.2.2.2.2.2.2.2.2.2.2.2.2.2.2.2.2.2.1, .inr (2, [.ref u.2.2.2.2.2.2.2.2.2.2.2.2.2.2.2.2.2.2.2.2.2.2, .int 0])), (u.2.2.2.2.2.2.2.2.2.2.2.2.2.2.2.2.2.2.2.2.2.2, .inl (κ.2.1, 48, .inl fun _ => 0))])) := by
  refine zMetC.ofV (by decide +kernel) (Nat.le_of_ble_eq_true rfl) ?_
  intro p e s m args below meth c ls A Q hF hnm hK hP hD hA hXs hS hl hret
  obtain ⟨hx, hb, hml, hown, hts⟩ := id hF
  replace hl : lv_has ls 1 [(0, .ref a_t)] := hl
  refine lv_aload_n hx hb d_D_init_0 rfl (lv_at hl 0 rfl) ?_
  refine W.objInit hx hb hown (hts _ zml_D_1) (hts _ zim_JO_init) (hts _ zco_JO_init) rfl (by rw [hml]; exact hl.1) rfl d_D_init_1 (Nat.le_of_ble_eq_true rfl) (Nat.le_of_ble_eq_true rfl) ?_
  refine W.eq (g2 := F0 m 4 ls []) rfl ?_
  refine lv_aload_n hx hb d_D_init_4 rfl (lv_at hl 0 rfl) ?_
  refine va_new (ci := 4) (fs := [.null, .int 0, .int 0, .int 0, .null, .null, .int 0, .int 0]) (C := R_R) (T := F_R) (N := 8) hx hb hts i_R ty_R ty_R_ok hown (hts _ zcl_D_7) (hts _ zis_R) (hts _ zin_R) hK hP hD hS hA rfl (by decide) (by decide) (by decide) d_D_init_5 (fun q5 H hP hD hS => ?_)
  replace hP : zP κ [(a_t, .inr (0, [.null, .null])), (q5, .inr (4, [.null, .int 0, .int 0, .int 0, .null, .null, .int 0, .int 0]))] H := hP
  replace hD : va_D A [(a_t, .inr (0, [.null, .null])), (q5, .inr (4, [.null, .int 0, .int 0, .int 0, .null, .null, .int 0, .int 0]))] := hD
  refine W.widen (k := 1) (n := 8) (by decide) (by decide) ?_
  refine lv_dup hx hb d_D_init_8 rfl ?_
  refine zIv (isC := [1]) (isR := [0]) (wc := [(q5, .inr (4, [.null, .int 0, .int 0, .int 0, .null, .null, .int 0, .int 0]))]) (wr := [(a_t, .inr (0, [.null, .null]))]) (rest := [.ref q5, .ref a_t]) (As := []) hF zni_D_9 (k_R_init κ X hX l q5 H.size) hX hXs hK hA hP hD hS ⟨by decide, by decide⟩ ⟨rfl, rfl, rfl, rfl, rfl, by decide⟩ rfl hl.1 rfl (Nat.le_of_ble_eq_true rfl) ⟨by decide, by decide⟩ d_D_init_9 (fun u H locs hw hP hD hS => ?_)
  obtain ⟨v9_0, v9_1, v9_2, v9_3, v9_4⟩ := u
  replace hP : zP κ [(a_t, .inr (0, [.null, .null])), (q5, .inr (4, [.ref v9_0, .int 0, .int 0, .int 0, .ref v9_1, .ref v9_3, .int 0, .int 0])), (v9_0, .inl (κ.2.1, 600, .inl fun _ => 0)), (v9_1, .inr (2, [.ref v9_2, .int 0])), (v9_2, .inl (κ.2.1, 48, .inl fun _ => 0)), (v9_3, .inr (2, [.ref v9_4, .int 0])), (v9_4, .inl (κ.2.1, 48, .inl fun _ => 0))] H := hP
  replace hD : va_D A [(a_t, .inr (0, [.null, .null])), (q5, .inr (4, [.ref v9_0, .int 0, .int 0, .int 0, .ref v9_1, .ref v9_3, .int 0, .int 0])), (v9_0, .inl (κ.2.1, 600, .inl fun _ => 0)), (v9_1, .inr (2, [.ref v9_2, .int 0])), (v9_2, .inl (κ.2.1, 48, .inl fun _ => 0)), (v9_3, .inr (2, [.ref v9_4, .int 0])), (v9_4, .inl (κ.2.1, 48, .inl fun _ => 0))] := hD
  refine W.widen (k := 6) (n := 708) (by decide) (by decide) ?_
  refine va_putF (C := R_D) (T := F_D) (N := 2) hx hb hts i_D ty_D ty_D_ok n_D hown hK hP hD hS 0 rfl rfl 0 (by decide) (hts _ zfl_D_10) (fun _ h9 => h9) rfl hnm rfl (ty_D_ok 0 (by decide)) rfl rfl (Nat.le_of_ble_eq_true rfl) d_D_init_12 (fun H locs hP hD hS => ?_)
  replace hP : zP κ [(a_t, .inr (0, [.ref q5, .null])), (q5, .inr (4, [.ref v9_0, .int 0, .int 0, .int 0, .ref v9_1, .ref v9_3, .int 0, .int 0])), (v9_0, .inl (κ.2.1, 600, .inl fun _ => 0)), (v9_1, .inr (2, [.ref v9_2, .int 0])), (v9_2, .inl (κ.2.1, 48, .inl fun _ => 0)), (v9_3, .inr (2, [.ref v9_4, .int 0])), (v9_4, .inl (κ.2.1, 48, .inl fun _ => 0))] H := hP
  replace hD : va_D A [(a_t, .inr (0, [.ref q5, .null])), (q5, .inr (4, [.ref v9_0, .int 0, .int 0, .int 0, .ref v9_1, .ref v9_3, .int 0, .int 0])), (v9_0, .inl (κ.2.1, 600, .inl fun _ => 0)), (v9_1, .inr (2, [.ref v9_2, .int 0])), (v9_2, .inl (κ.2.1, 48, .inl fun _ => 0)), (v9_3, .inr (2, [.ref v9_4, .int 0])), (v9_4, .inl (κ.2.1, 48, .inl fun _ => 0))] := hD
  refine lv_aload_n hx hb d_D_init_15 rfl (lv_at hl 0 rfl) ?_
  refine va_new (ci := 5) (fs := [.null, .null, .null]) (C := R_T) (T := F_T) (N := 3) hx hb hts i_T ty_T ty_T_ok hown (hts _ zcl_D_16) (hts _ zis_T) (hts _ zin_T) hK hP hD hS hA rfl (by decide) (by decide) (by decide) d_D_init_16 (fun q16 H hP hD hS => ?_)
  replace hP : zP κ [(a_t, .inr (0, [.ref q5, .null])), (q5, .inr (4, [.ref v9_0, .int 0, .int 0, .int 0, .ref v9_1, .ref v9_3, .int 0, .int 0])), (v9_0, .inl (κ.2.1, 600, .inl fun _ => 0)), (v9_1, .inr (2, [.ref v9_2, .int 0])), (v9_2, .inl (κ.2.1, 48, .inl fun _ => 0)), (v9_3, .inr (2, [.ref v9_4, .int 0])), (v9_4, .inl (κ.2.1, 48, .inl fun _ => 0)), (q16, .inr (5, [.null, .null, .null]))] H := hP
  replace hD : va_D A [(a_t, .inr (0, [.ref q5, .null])), (q5, .inr (4, [.ref v9_0, .int 0, .int 0, .int 0, .ref v9_1, .ref v9_3, .int 0, .int 0])), (v9_0, .inl (κ.2.1, 600, .inl fun _ => 0)), (v9_1, .inr (2, [.ref v9_2, .int 0])), (v9_2, .inl (κ.2.1, 48, .inl fun _ => 0)), (v9_3, .inr (2, [.ref v9_4, .int 0])), (v9_4, .inl (κ.2.1, 48, .inl fun _ => 0)), (q16, .inr (5, [.null, .null, .null]))] := hD
  refine W.widen (k := 7) (n := 711) (by decide) (by decide) ?_
  refine lv_dup hx hb d_D_init_19 rfl ?_
  refine zIv (isC := [7]) (isR := [0, 1, 2, 3, 4, 5, 6]) (wc := [(q16, .inr (5, [.null, .null, .null]))]) (wr := [(a_t, .inr (0, [.ref q5, .null])), (q5, .inr (4, [.ref v9_0, .int 0, .int 0, .int 0, .ref v9_1, .ref v9_3, .int 0, .int 0])), (v9_0, .inl (κ.2.1, 600, .inl fun _ => 0)), (v9_1, .inr (2, [.ref v9_2, .int 0])), (v9_2, .inl (κ.2.1, 48, .inl fun _ => 0)), (v9_3, .inr (2, [.ref v9_4, .int 0])), (v9_4, .inl (κ.2.1, 48, .inl fun _ => 0))]) (rest := [.ref q16, .ref a_t]) (As := []) hF zni_D_18 (k_T_init κ X hX l q16 H.size) hX hXs hK hA hP hD hS ⟨by decide, by decide⟩ ⟨rfl, rfl, rfl, rfl, rfl, by decide⟩ rfl hl.1 rfl (Nat.le_of_ble_eq_true rfl) ⟨by decide, by decide⟩ d_D_init_20 (fun u H locs hw hP hD hS => ?_)
  obtain ⟨v20_0, v20_1, v20_2, v20_3, v20_4, v20_5, v20_6, v20_7, v20_8, v20_9, v20_10, v20_11, v20_12, v20_13, v20_14, v20_15⟩ := u
  replace hP : zP κ [(a_t, .inr (0, [.ref q5, .null])), (q5, .inr (4, [.ref v9_0, .int 0, .int 0, .int 0, .ref v9_1, .ref v9_3, .int 0, .int 0])), (v9_0, .inl (κ.2.1, 600, .inl fun _ => 0)), (v9_1, .inr (2, [.ref v9_2, .int 0])), (v9_2, .inl (κ.2.1, 48, .inl fun _ => 0)), (v9_3, .inr (2, [.ref v9_4, .int 0])), (v9_4, .inl (κ.2.1, 48, .inl fun _ => 0)), (q16, .inr (5, [.ref v20_0, .ref v20_2, .ref v20_14])), (v20_0, .inr (3, [.ref v20_1, .int 0])), (v20_1, .inl (κ.2.2.1, 1100, .inl fun _ => 0)), (v20_2, .inr (1, [.ref v20_3, .int 0, .int 1, .ref v20_4, .ref v20_6, .ref v20_8, .ref v20_10, .ref v20_12])), (v20_3, .inl (κ.2.1, 48, .inl fun _ => 0)), (v20_4, .inr (2, [.ref v20_5, .int 0])), (v20_5, .inl (κ.2.1, 48, .inl fun _ => 0)), (v20_6, .inr (2, [.ref v20_7, .int 0])), (v20_7, .inl (κ.2.1, 48, .inl fun _ => 0)), (v20_8, .inr (2, [.ref v20_9, .int 0])), (v20_9, .inl (κ.2.1, 48, .inl fun _ => 0)), (v20_10, .inr (2, [.ref v20_11, .int 0])), (v20_11, .inl (κ.2.1, 48, .inl fun _ => 0)), (v20_12, .inr (2, [.ref v20_13, .int 0])), (v20_13, .inl (κ.2.1, 48, .inl fun _ => 0)), (v20_14, .inr (2, [.ref v20_15, .int 0])), (v20_15, .inl (κ.2.1, 48, .inl fun _ => 0))] H := hP
  replace hD : va_D A [(a_t, .inr (0, [.ref q5, .null])), (q5, .inr (4, [.ref v9_0, .int 0, .int 0, .int 0, .ref v9_1, .ref v9_3, .int 0, .int 0])), (v9_0, .inl (κ.2.1, 600, .inl fun _ => 0)), (v9_1, .inr (2, [.ref v9_2, .int 0])), (v9_2, .inl (κ.2.1, 48, .inl fun _ => 0)), (v9_3, .inr (2, [.ref v9_4, .int 0])), (v9_4, .inl (κ.2.1, 48, .inl fun _ => 0)), (q16, .inr (5, [.ref v20_0, .ref v20_2, .ref v20_14])), (v20_0, .inr (3, [.ref v20_1, .int 0])), (v20_1, .inl (κ.2.2.1, 1100, .inl fun _ => 0)), (v20_2, .inr (1, [.ref v20_3, .int 0, .int 1, .ref v20_4, .ref v20_6, .ref v20_8, .ref v20_10, .ref v20_12])), (v20_3, .inl (κ.2.1, 48, .inl fun _ => 0)), (v20_4, .inr (2, [.ref v20_5, .int 0])), (v20_5, .inl (κ.2.1, 48, .inl fun _ => 0)), (v20_6, .inr (2, [.ref v20_7, .int 0])), (v20_7, .inl (κ.2.1, 48, .inl fun _ => 0)), (v20_8, .inr (2, [.ref v20_9, .int 0])), (v20_9, .inl (κ.2.1, 48, .inl fun _ => 0)), (v20_10, .inr (2, [.ref v20_11, .int 0])), (v20_11, .inl (κ.2.1, 48, .inl fun _ => 0)), (v20_12, .inr (2, [.ref v20_13, .int 0])), (v20_13, .inl (κ.2.1, 48, .inl fun _ => 0)), (v20_14, .inr (2, [.ref v20_15, .int 0])), (v20_15, .inl (κ.2.1, 48, .inl fun _ => 0))] := hD
  refine W.widen (k := 23) (n := 2169) (by decide) (by decide) ?_
  refine va_putF (C := R_D) (T := F_D) (N := 2) hx hb hts i_D ty_D ty_D_ok n_D hown hK hP hD hS 0 rfl rfl 1 (by decide) (hts _ zfl_D_19) (fun _ h9 => h9) rfl hnm rfl (ty_D_ok 1 (by decide)) rfl rfl (Nat.le_of_ble_eq_true rfl) d_D_init_23 (fun H locs hP hD hS => ?_)
  replace hP : zP κ [(a_t, .inr (0, [.ref q5, .ref q16])), (q5, .inr (4, [.ref v9_0, .int 0, .int 0, .int 0, .ref v9_1, .ref v9_3, .int 0, .int 0])), (v9_0, .inl (κ.2.1, 600, .inl fun _ => 0)), (v9_1, .inr (2, [.ref v9_2, .int 0])), (v9_2, .inl (κ.2.1, 48, .inl fun _ => 0)), (v9_3, .inr (2, [.ref v9_4, .int 0])), (v9_4, .inl (κ.2.1, 48, .inl fun _ => 0)), (q16, .inr (5, [.ref v20_0, .ref v20_2, .ref v20_14])), (v20_0, .inr (3, [.ref v20_1, .int 0])), (v20_1, .inl (κ.2.2.1, 1100, .inl fun _ => 0)), (v20_2, .inr (1, [.ref v20_3, .int 0, .int 1, .ref v20_4, .ref v20_6, .ref v20_8, .ref v20_10, .ref v20_12])), (v20_3, .inl (κ.2.1, 48, .inl fun _ => 0)), (v20_4, .inr (2, [.ref v20_5, .int 0])), (v20_5, .inl (κ.2.1, 48, .inl fun _ => 0)), (v20_6, .inr (2, [.ref v20_7, .int 0])), (v20_7, .inl (κ.2.1, 48, .inl fun _ => 0)), (v20_8, .inr (2, [.ref v20_9, .int 0])), (v20_9, .inl (κ.2.1, 48, .inl fun _ => 0)), (v20_10, .inr (2, [.ref v20_11, .int 0])), (v20_11, .inl (κ.2.1, 48, .inl fun _ => 0)), (v20_12, .inr (2, [.ref v20_13, .int 0])), (v20_13, .inl (κ.2.1, 48, .inl fun _ => 0)), (v20_14, .inr (2, [.ref v20_15, .int 0])), (v20_15, .inl (κ.2.1, 48, .inl fun _ => 0))] H := hP
  replace hD : va_D A [(a_t, .inr (0, [.ref q5, .ref q16])), (q5, .inr (4, [.ref v9_0, .int 0, .int 0, .int 0, .ref v9_1, .ref v9_3, .int 0, .int 0])), (v9_0, .inl (κ.2.1, 600, .inl fun _ => 0)), (v9_1, .inr (2, [.ref v9_2, .int 0])), (v9_2, .inl (κ.2.1, 48, .inl fun _ => 0)), (v9_3, .inr (2, [.ref v9_4, .int 0])), (v9_4, .inl (κ.2.1, 48, .inl fun _ => 0)), (q16, .inr (5, [.ref v20_0, .ref v20_2, .ref v20_14])), (v20_0, .inr (3, [.ref v20_1, .int 0])), (v20_1, .inl (κ.2.2.1, 1100, .inl fun _ => 0)), (v20_2, .inr (1, [.ref v20_3, .int 0, .int 1, .ref v20_4, .ref v20_6, .ref v20_8, .ref v20_10, .ref v20_12])), (v20_3, .inl (κ.2.1, 48, .inl fun _ => 0)), (v20_4, .inr (2, [.ref v20_5, .int 0])), (v20_5, .inl (κ.2.1, 48, .inl fun _ => 0)), (v20_6, .inr (2, [.ref v20_7, .int 0])), (v20_7, .inl (κ.2.1, 48, .inl fun _ => 0)), (v20_8, .inr (2, [.ref v20_9, .int 0])), (v20_9, .inl (κ.2.1, 48, .inl fun _ => 0)), (v20_10, .inr (2, [.ref v20_11, .int 0])), (v20_11, .inl (κ.2.1, 48, .inl fun _ => 0)), (v20_12, .inr (2, [.ref v20_13, .int 0])), (v20_13, .inl (κ.2.1, 48, .inl fun _ => 0)), (v20_14, .inr (2, [.ref v20_15, .int 0])), (v20_15, .inl (κ.2.1, 48, .inl fun _ => 0))] := hD
  exact hret (q5, v9_0, v9_1, v9_2, v9_3, v9_4, q16, v20_0, v20_1, v20_2, v20_3, v20_4, v20_5, v20_6, v20_7, v20_8, v20_9, v20_10, v20_11, v20_12, v20_13, v20_14, v20_15) H locs ls _ d_D_init_26 (hP.sub (ws' := [(a_t, .inr (0, [.ref q5, .ref q16])), (q5, .inr (4, [.ref v9_0, .int 0, .int 0, .int 0, .ref v9_1, .ref v9_3, .int 0, .int 0])), (v9_0, .inl (κ.2.1, 600, .inl fun _ => 0)), (v9_1, .inr (2, [.ref v9_2, .int 0])), (v9_2, .inl (κ.2.1, 48, .inl fun _ => 0)), (v9_3, .inr (2, [.ref v9_4, .int 0])), (v9_4, .inl (κ.2.1, 48, .inl fun _ => 0)), (q16, .inr (5, [.ref v20_0, .ref v20_2, .ref v20_14])), (v20_0, .inr (3, [.ref v20_1, .int 0])), (v20_1, .inl (κ.2.2.1, 1100, .inl fun _ => 0)), (v20_2, .inr (1, [.ref v20_3, .int 0, .int 1, .ref v20_4, .ref v20_6, .ref v20_8, .ref v20_10, .ref v20_12])), (v20_3, .inl (κ.2.1, 48, .inl fun _ => 0)), (v20_4, .inr (2, [.ref v20_5, .int 0])), (v20_5, .inl (κ.2.1, 48, .inl fun _ => 0)), (v20_6, .inr (2, [.ref v20_7, .int 0])), (v20_7, .inl (κ.2.1, 48, .inl fun _ => 0)), (v20_8, .inr (2, [.ref v20_9, .int 0])), (v20_9, .inl (κ.2.1, 48, .inl fun _ => 0)), (v20_10, .inr (2, [.ref v20_11, .int 0])), (v20_11, .inl (κ.2.1, 48, .inl fun _ => 0)), (v20_12, .inr (2, [.ref v20_13, .int 0])), (v20_13, .inl (κ.2.1, 48, .inl fun _ => 0)), (v20_14, .inr (2, [.ref v20_15, .int 0])), (v20_15, .inl (κ.2.1, 48, .inl fun _ => 0))]) [0, 1, 2, 3, 4, 5, 6, 7, 8, 9, 10, 11, 12, 13, 14, 15, 16, 17, 18, 19, 20, 21, 22, 23] rfl) (hD.sub (ws' := [(a_t, .inr (0, [.ref q5, .ref q16])), (q5, .inr (4, [.ref v9_0, .int 0, .int 0, .int 0, .ref v9_1, .ref v9_3, .int 0, .int 0])), (v9_0, .inl (κ.2.1, 600, .inl fun _ => 0)), (v9_1, .inr (2, [.ref v9_2, .int 0])), (v9_2, .inl (κ.2.1, 48, .inl fun _ => 0)), (v9_3, .inr (2, [.ref v9_4, .int 0])), (v9_4, .inl (κ.2.1, 48, .inl fun _ => 0)), (q16, .inr (5, [.ref v20_0, .ref v20_2, .ref v20_14])), (v20_0, .inr (3, [.ref v20_1, .int 0])), (v20_1, .inl (κ.2.2.1, 1100, .inl fun _ => 0)), (v20_2, .inr (1, [.ref v20_3, .int 0, .int 1, .ref v20_4, .ref v20_6, .ref v20_8, .ref v20_10, .ref v20_12])), (v20_3, .inl (κ.2.1, 48, .inl fun _ => 0)), (v20_4, .inr (2, [.ref v20_5, .int 0])), (v20_5, .inl (κ.2.1, 48, .inl fun _ => 0)), (v20_6, .inr (2, [.ref v20_7, .int 0])), (v20_7, .inl (κ.2.1, 48, .inl fun _ => 0)), (v20_8, .inr (2, [.ref v20_9, .int 0])), (v20_9, .inl (κ.2.1, 48, .inl fun _ => 0)), (v20_10, .inr (2, [.ref v20_11, .int 0])), (v20_11, .inl (κ.2.1, 48, .inl fun _ => 0)), (v20_12, .inr (2, [.ref v20_13, .int 0])), (v20_13, .inl (κ.2.1, 48, .inl fun _ => 0)), (v20_14, .inr (2, [.ref v20_15, .int 0])), (v20_15, .inl (κ.2.1, 48, .inl fun _ => 0))]) [0, 1, 2, 3, 4, 5, 6, 7, 8, 9, 10, 11, 12, 13, 14, 15, 16, 17, 18, 19, 20, 21, 22, 23] (by decide) rfl) hS trivial
theorem d_M_init_0 : decode c_M_init 0 = .ok (.aload_n 0, 1) := by decide +kernel
theorem d_M_init_1 : decode c_M_init 1 = .ok (.invokespecial 1, 3) := by decide +kernel
theorem d_M_init_4 : decode c_M_init 4 = .ok (.aload_n 0, 1) := by decide +kernel
theorem d_M_init_5 : decode c_M_init 5 = .ok (.sipush 600, 3) := by decide +kernel
theorem d_M_init_8 : decode c_M_init 8 = .ok (.newarray .int, 2) := by decide +kernel
theorem d_M_init_10 : decode c_M_init 10 = .ok (.putfield 7, 3) := by decide +kernel
theorem d_M_init_13 : decode c_M_init 13 = .ok (.aload_n 0, 1) := by decide +kernel
theorem d_M_init_14 : decode c_M_init 14 = .ok (.sipush 1200, 3) := by decide +kernel
theorem d_M_init_17 : decode c_M_init 17 = .ok (.newarray .int, 2) := by decide +kernel
theorem d_M_init_19 : decode c_M_init 19 = .ok (.putfield 13, 3) := by decide +kernel
theorem d_M_init_22 : decode c_M_init 22 = .ok (.aload_n 0, 1) := by decide +kernel
theorem d_M_init_23 : decode c_M_init 23 = .ok (.sipush 624, 3) := by decide +kernel
theorem d_M_init_26 : decode c_M_init 26 = .ok (.newarray .int, 2) := by decide +kernel
theorem d_M_init_28 : decode c_M_init 28 = .ok (.putfield 16, 3) := by decide +kernel
theorem d_M_init_31 : decode c_M_init 31 = .ok (.aload_n 0, 1) := by decide +kernel
theorem d_M_init_32 : decode c_M_init 32 = .ok (.sipush 420, 3) := by decide +kernel
theorem d_M_init_35 : decode c_M_init 35 = .ok (.newarray .int, 2) := by decide +kernel
theorem d_M_init_37 : decode c_M_init 37 = .ok (.putfield 19, 3) := by decide +kernel
theorem d_M_init_40 : decode c_M_init 40 = .ok (.return_, 1) := by decide +kernel
set_option maxHeartbeats 4000000 in
set_option maxRecDepth 100000 in
theorem k_M_init (κ : zC) (X : zXT) (hX : zX κ X) (l : Launch) (a_t : Nat) (sz : Nat) : zMetC κ X l y_M_init c_M_init 1 4 2844 1 12 [.ref a_t] sz [(a_t, .inr (6, [.int 0, .null, .int 0, .null, .int 0, .null, .null, .int 0, .int 0]))] (zQv κ (fun (_ : Nat × Nat × Nat × Nat) => True) (fun u => [(a_t, .inr (6, [.int 0, .ref u.1, .int 0, .ref u.2.1, .int 0, .ref u.2.2.1, .ref u.2.2.2, .int 0, .int 0])), (u.1, .inl (κ.2.1, 600, .inl fun _ => 0)), (u.2.1, .inl (κ.2.1, 1200, .inl fun _ => 0)), (u.2.2.1, .inl (κ.2.1, 624, .inl fun _ => 0)), (u.2.2.2, .inl (κ.2.1, 420, .inl fun _ => 0))])) := by
  refine zMetC.ofV (by decide +kernel) (Nat.le_of_ble_eq_true rfl) ?_
  intro p e s m args below meth c ls A Q hF hnm hK hP hD hA hXs hS hl hret
  obtain ⟨hx, hb, hml, hown, hts⟩ := id hF
  replace hl : lv_has ls 1 [(0, .ref a_t)] := hl
  refine lv_aload_n hx hb d_M_init_0 rfl (lv_at hl 0 rfl) ?_
  refine W.objInit hx hb hown (hts _ zml_M_1) (hts _ zim_JO_init) (hts _ zco_JO_init) rfl (by rw [hml]; exact hl.1) rfl d_M_init_1 (Nat.le_of_ble_eq_true rfl) (Nat.le_of_ble_eq_true rfl) ?_
  refine W.eq (g2 := F0 m 4 ls []) rfl ?_
  refine lv_aload_n hx hb d_M_init_4 rfl (lv_at hl 0 rfl) ?_
  refine lv_sipush (v := 600) hx hb d_M_init_5 (by decide) ?_
  refine zNewI (N := 600) hF hK hA hP hD hS (by decide) (by decide) (by decide) ⟨by decide, by decide⟩ d_M_init_8 (fun q8 H hP hD hS => ?_)
  replace hP : zP κ [(a_t, .inr (6, [.int 0, .null, .int 0, .null, .int 0, .null, .null, .int 0, .int 0])), (q8, .inl (κ.2.1, 600, .inl fun _ => 0))] H := hP
  replace hD : va_D A [(a_t, .inr (6, [.int 0, .null, .int 0, .null, .int 0, .null, .null, .int 0, .int 0])), (q8, .inl (κ.2.1, 600, .inl fun _ => 0))] := hD
  refine W.widen (k := 1) (n := 600) (by decide) (by decide) ?_
  refine va_putF (C := R_M) (T := F_M) (N := 9) hx hb hts i_M ty_M ty_M_ok n_M hown hK hP hD hS 0 rfl rfl 1 (by decide) (hts _ zfl_M_7) (fun _ h9 => h9) rfl hnm rfl (ty_M_ok 1 (by decide)) rfl rfl (Nat.le_of_ble_eq_true rfl) d_M_init_10 (fun H locs hP hD hS => ?_)
  replace hP : zP κ [(a_t, .inr (6, [.int 0, .ref q8, .int 0, .null, .int 0, .null, .null, .int 0, .int 0])), (q8, .inl (κ.2.1, 600, .inl fun _ => 0))] H := hP
  replace hD : va_D A [(a_t, .inr (6, [.int 0, .ref q8, .int 0, .null, .int 0, .null, .null, .int 0, .int 0])), (q8, .inl (κ.2.1, 600, .inl fun _ => 0))] := hD
  refine lv_aload_n hx hb d_M_init_13 rfl (lv_at hl 0 rfl) ?_
  refine lv_sipush (v := 1200) hx hb d_M_init_14 (by decide) ?_
  refine zNewI (N := 1200) hF hK hA hP hD hS (by decide) (by decide) (by decide) ⟨by decide, by decide⟩ d_M_init_17 (fun q17 H hP hD hS => ?_)
  replace hP : zP κ [(a_t, .inr (6, [.int 0, .ref q8, .int 0, .null, .int 0, .null, .null, .int 0, .int 0])), (q8, .inl (κ.2.1, 600, .inl fun _ => 0)), (q17, .inl (κ.2.1, 1200, .inl fun _ => 0))] H := hP
  replace hD : va_D A [(a_t, .inr (6, [.int 0, .ref q8, .int 0, .null, .int 0, .null, .null, .int 0, .int 0])), (q8, .inl (κ.2.1, 600, .inl fun _ => 0)), (q17, .inl (κ.2.1, 1200, .inl fun _ => 0))] := hD
  refine W.widen (k := 2) (n := 1800) (by decide) (by decide) ?_
  refine va_putF (C := R_M) (T := F_M) (N := 9) hx hb hts i_M ty_M ty_M_ok n_M hown hK hP hD hS 0 rfl rfl 3 (by decide) (hts _ zfl_M_13) (fun _ h9 => h9) rfl hnm rfl (ty_M_ok 3 (by decide)) rfl rfl (Nat.le_of_ble_eq_true rfl) d_M_init_19 (fun H locs hP hD hS => ?_)
  replace hP : zP κ [(a_t, .inr (6, [.int 0, .ref q8, .int 0, .ref q17, .int 0, .null, .null, .int 0, .int 0])), (q8, .inl (κ.2.1, 600, .inl fun _ => 0)), (q17, .inl (κ.2.1, 1200, .inl fun _ => 0))] H := hP
  replace hD : va_D A [(a_t, .inr (6, [.int 0, .ref q8, .int 0, .ref q17, .int 0, .null, .null, .int 0, .int 0])), (q8, .inl (κ.2.1, 600, .inl fun _ => 0)), (q17, .inl (κ.2.1, 1200, .inl fun _ => 0))] := hD
  refine lv_aload_n hx hb d_M_init_22 rfl (lv_at hl 0 rfl) ?_
  refine lv_sipush (v := 624) hx hb d_M_init_23 (by decide) ?_
  refine zNewI (N := 624) hF hK hA hP hD hS (by decide) (by decide) (by decide) ⟨by decide, by decide⟩ d_M_init_26 (fun q26 H hP hD hS => ?_)
  replace hP : zP κ [(a_t, .inr (6, [.int 0, .ref q8, .int 0, .ref q17, .int 0, .null, .null, .int 0, .int 0])), (q8, .inl (κ.2.1, 600, .inl fun _ => 0)), (q17, .inl (κ.2.1, 1200, .inl fun _ => 0)), (q26, .inl (κ.2.1, 624, .inl fun _ => 0))] H := hP
  replace hD : va_D A [(a_t, .inr (6, [.int 0, .ref q8, .int 0, .ref q17, .int 0, .null, .null, .int 0, .int 0])), (q8, .inl (κ.2.1, 600, .inl fun _ => 0)), (q17, .inl (κ.2.1, 1200, .inl fun _ => 0)), (q26, .inl (κ.2.1, 624, .inl fun _ => 0))] := hD
  refine W.widen (k := 3) (n := 2424) (by decide) (by decide) ?_
  refine va_putF (C := R_M) (T := F_M) (N := 9) hx hb hts i_M ty_M ty_M_ok n_M hown hK hP hD hS 0 rfl rfl 5 (by decide) (hts _ zfl_M_16) (fun _ h9 => h9) rfl hnm rfl (ty_M_ok 5 (by decide)) rfl rfl (Nat.le_of_ble_eq_true rfl) d_M_init_28 (fun H locs hP hD hS => ?_)
  replace hP : zP κ [(a_t, .inr (6, [.int 0, .ref q8, .int 0, .ref q17, .int 0, .ref q26, .null, .int 0, .int 0])), (q8, .inl (κ.2.1, 600, .inl fun _ => 0)), (q17, .inl (κ.2.1, 1200, .inl fun _ => 0)), (q26, .inl (κ.2.1, 624, .inl fun _ => 0))] H := hP
  replace hD : va_D A [(a_t, .inr (6, [.int 0, .ref q8, .int 0, .ref q17, .int 0, .ref q26, .null, .int 0, .int 0])), (q8, .inl (κ.2.1, 600, .inl fun _ => 0)), (q17, .inl (κ.2.1, 1200, .inl fun _ => 0)), (q26, .inl (κ.2.1, 624, .inl fun _ => 0))] := hD
  refine lv_aload_n hx hb d_M_init_31 rfl (lv_at hl 0 rfl) ?_
  refine lv_sipush (v := 420) hx hb d_M_init_32 (by decide) ?_
  refine zNewI (N := 420) hF hK hA hP hD hS (by decide) (by decide) (by decide) ⟨by decide, by decide⟩ d_M_init_35 (fun q35 H hP hD hS => ?_)
  replace hP : zP κ [(a_t, .inr (6, [.int 0, .ref q8, .int 0, .ref q17, .int 0, .ref q26, .null, .int 0, .int 0])), (q8, .inl (κ.2.1, 600, .inl fun _ => 0)), (q17, .inl (κ.2.1, 1200, .inl fun _ => 0)), (q26, .inl (κ.2.1, 624, .inl fun _ => 0)), (q35, .inl (κ.2.1, 420, .inl fun _ => 0))] H := hP
  replace hD : va_D A [(a_t, .inr (6, [.int 0, .ref q8, .int 0, .ref q17, .int 0, .ref q26, .null, .int 0, .int 0])), (q8, .inl (κ.2.1, 600, .inl fun _ => 0)), (q17, .inl (κ.2.1, 1200, .inl fun _ => 0)), (q26, .inl (κ.2.1, 624, .inl fun _ => 0)), (q35, .inl (κ.2.1, 420, .inl fun _ => 0))] := hD
  refine W.widen (k := 4) (n := 2844) (by decide) (by decide) ?_
  refine va_putF (C := R_M) (T := F_M) (N := 9) hx hb hts i_M ty_M ty_M_ok n_M hown hK hP hD hS 0 rfl rfl 6 (by decide) (hts _ zfl_M_19) (fun _ h9 => h9) rfl hnm rfl (ty_M_ok 6 (by decide)) rfl rfl (Nat.le_of_ble_eq_true rfl) d_M_init_37 (fun H locs hP hD hS => ?_)
  replace hP : zP κ [(a_t, .inr (6, [.int 0, .ref q8, .int 0, .ref q17, .int 0, .ref q26, .ref q35, .int 0, .int 0])), (q8, .inl (κ.2.1, 600, .inl fun _ => 0)), (q17, .inl (κ.2.1, 1200, .inl fun _ => 0)), (q26, .inl (κ.2.1, 624, .inl fun _ => 0)), (q35, .inl (κ.2.1, 420, .inl fun _ => 0))] H := hP
  replace hD : va_D A [(a_t, .inr (6, [.int 0, .ref q8, .int 0, .ref q17, .int 0, .ref q26, .ref q35, .int 0, .int 0])), (q8, .inl (κ.2.1, 600, .inl fun _ => 0)), (q17, .inl (κ.2.1, 1200, .inl fun _ => 0)), (q26, .inl (κ.2.1, 624, .inl fun _ => 0)), (q35, .inl (κ.2.1, 420, .inl fun _ => 0))] := hD
  exact hret (q8, q17, q26, q35) H locs ls _ d_M_init_40 (hP.sub (ws' := [(a_t, .inr (6, [.int 0, .ref q8, .int 0, .ref q17, .int 0, .ref q26, .ref q35, .int 0, .int 0])), (q8, .inl (κ.2.1, 600, .inl fun _ => 0)), (q17, .inl (κ.2.1, 1200, .inl fun _ => 0)), (q26, .inl (κ.2.1, 624, .inl fun _ => 0)), (q35, .inl (κ.2.1, 420, .inl fun _ => 0))]) [0, 1, 2, 3, 4] rfl) (hD.sub (ws' := [(a_t, .inr (6, [.int 0, .ref q8, .int 0, .ref q17, .int 0, .ref q26, .ref q35, .int 0, .int 0])), (q8, .inl (κ.2.1, 600, .inl fun _ => 0)), (q17, .inl (κ.2.1, 1200, .inl fun _ => 0)), (q26, .inl (κ.2.1, 624, .inl fun _ => 0)), (q35, .inl (κ.2.1, 420, .inl fun _ => 0))]) [0, 1, 2, 3, 4] (by decide) rfl) hS trivial
