theorem d_P_clear_0 : decode c_P_clear 0 = .ok (.aload_n 0, 1) := by decide +kernel
theorem d_P_clear_1 : decode c_P_clear 1 = .ok (.iconst 0, 1) := by decide +kernel
theorem d_P_clear_2 : decode c_P_clear 2 = .ok (.putfield 13, 3) := by decide +kernel
theorem d_P_clear_5 : decode c_P_clear 5 = .ok (.return_, 1) := by decide +kernel
set_option maxHeartbeats 4000000 in
set_option maxRecDepth 100000 in
theorem k_P_clear (κ : zC) (X : zXT) (hX : zX κ X) (l : Launch) (a_t a_t_units : Nat) (sz : Nat) (t_count : Int32) (out : (Int32)) (hf : f_P_clear t_count = some out) : zMet κ X l y_P_clear c_P_clear 1 none 0 0 [.ref a_t] sz [(a_t, .inr (3, [.ref a_t_units, .int t_count]))] (zQv κ (fun (u : (Int32)) => u = out) (fun u => [(a_t, .inr (3, [.ref a_t_units, .int u]))])) := by
  refine zMet.ofV (by decide +kernel) (Nat.le_of_ble_eq_true rfl) ?_
  intro p e s m args below meth c ls A Q hF hK hP hD hA hXs hS hl hret
  obtain ⟨hx, hb, hml, hown, hts⟩ := id hF
  obtain ⟨H, hH⟩ : ∃ H, H = s.heap := ⟨_, rfl⟩
  obtain ⟨locs, hlo⟩ : ∃ z : List Loc, z = [] := ⟨_, rfl⟩
  replace hP : zP κ [(a_t, .inr (3, [.ref a_t_units, .int t_count]))] H := by rw [hH]; exact hP
  replace hS : va_S A s.heap H locs := by rw [hH, hlo]; exact hS
  suffices hgo : W p l e (zR 0 0) s m args below meth c H locs 0 0 Q (F0 m 0 ls []) by rw [hH, hlo] at hgo; exact hgo
  clear hH hlo
  replace hl : lv_has ls 1 [(0, .ref a_t)] := hl
  unfold f_P_clear at hf
  refine lv_aload_n hx hb d_P_clear_0 rfl (lv_at hl 0 rfl) ?_
  refine lv_iconst (v := 0) hx hb d_P_clear_1 (by decide) ?_
  refine va_put (C := R_P) (T := F_P) (N := 2) hx hb hts i_P ty_P ty_P_ok n_P hown hK hP hD hS 0 rfl rfl 1 (by decide) (hts _ zfl_P_13) (fun _ h9 => h9) rfl (ty_P_ok 1 (by decide)) rfl rfl (Nat.le_of_ble_eq_true rfl) d_P_clear_2 (fun H locs hP hD hS => ?_)
  have hP : zP κ [(a_t, .inr (3, [.ref a_t_units, .int 0]))] H := hP
  have hD : va_D A [(a_t, .inr (3, [.ref a_t_units, .int 0]))] := hD
  exact hret (0) H locs ls _ d_P_clear_5 hP hD hS (Option.some.inj hf)
theorem d_P_length_0 : decode c_P_length 0 = .ok (.aload_n 0, 1) := by decide +kernel
theorem d_P_length_1 : decode c_P_length 1 = .ok (.getfield 13, 3) := by decide +kernel
theorem d_P_length_4 : decode c_P_length 4 = .ok (.ireturn, 1) := by decide +kernel
set_option maxHeartbeats 4000000 in
set_option maxRecDepth 100000 in
theorem k_P_length (κ : zC) (X : zXT) (hX : zX κ X) (l : Launch) (a_t a_t_units : Nat) (sz : Nat) (t_count : Int32) (out : Int32) (hf : f_P_length t_count = some out) : zMet κ X l y_P_length c_P_length 1 (some .int) 0 0 [.ref a_t] sz [(a_t, .inr (3, [.ref a_t_units, .int t_count]))] (zQi κ (fun (r : Int32) (_ : Unit) => r = out) (fun u => [(a_t, .inr (3, [.ref a_t_units, .int t_count]))])) := by
  refine zMet.ofI (by decide +kernel) (Nat.le_of_ble_eq_true rfl) ?_
  intro p e s m args below meth c ls A Q hF hK hP hD hA hXs hS hl hret
  obtain ⟨hx, hb, hml, hown, hts⟩ := id hF
  obtain ⟨H, hH⟩ : ∃ H, H = s.heap := ⟨_, rfl⟩
  obtain ⟨locs, hlo⟩ : ∃ z : List Loc, z = [] := ⟨_, rfl⟩
  replace hP : zP κ [(a_t, .inr (3, [.ref a_t_units, .int t_count]))] H := by rw [hH]; exact hP
  replace hS : va_S A s.heap H locs := by rw [hH, hlo]; exact hS
  suffices hgo : W p l e (zR 0 0) s m args below meth c H locs 0 0 Q (F0 m 0 ls []) by rw [hH, hlo] at hgo; exact hgo
  clear hH hlo
  replace hl : lv_has ls 1 [(0, .ref a_t)] := hl
  unfold f_P_length at hf
  refine lv_aload_n hx hb d_P_length_0 rfl (lv_at hl 0 rfl) ?_
  refine va_get (C := R_P) (T := F_P) (N := 2) hx hb hts i_P hown hK hP 0 rfl rfl 1 (by decide) (hts _ zfl_P_13) (fun _ h9 => h9) rfl d_P_length_1 ?_
  exact hret (t_count) () H locs ls _ d_P_length_4 hP hD hS (Option.some.inj hf)
theorem d_P_unitAt_0 : decode c_P_unitAt 0 = .ok (.iload_n 1, 1) := by decide +kernel
theorem d_P_unitAt_1 : decode c_P_unitAt 1 = .ok (.ifCond .lt 20, 3) := by decide +kernel
theorem d_P_unitAt_4 : decode c_P_unitAt 4 = .ok (.iload_n 1, 1) := by decide +kernel
theorem d_P_unitAt_5 : decode c_P_unitAt 5 = .ok (.aload_n 0, 1) := by decide +kernel
theorem d_P_unitAt_6 : decode c_P_unitAt 6 = .ok (.getfield 13, 3) := by decide +kernel
theorem d_P_unitAt_9 : decode c_P_unitAt 9 = .ok (.if_icmp .ge 12, 3) := by decide +kernel
theorem d_P_unitAt_12 : decode c_P_unitAt 12 = .ok (.aload_n 0, 1) := by decide +kernel
theorem d_P_unitAt_13 : decode c_P_unitAt 13 = .ok (.getfield 9, 3) := by decide +kernel
theorem d_P_unitAt_16 : decode c_P_unitAt 16 = .ok (.iload_n 1, 1) := by decide +kernel
theorem d_P_unitAt_17 : decode c_P_unitAt 17 = .ok (.caload, 1) := by decide +kernel
theorem d_P_unitAt_18 : decode c_P_unitAt 18 = .ok (.goto 4, 3) := by decide +kernel
theorem d_P_unitAt_21 : decode c_P_unitAt 21 = .ok (.iconst 0, 1) := by decide +kernel
theorem d_P_unitAt_22 : decode c_P_unitAt 22 = .ok (.ireturn, 1) := by decide +kernel
set_option maxHeartbeats 4000000 in
set_option maxRecDepth 100000 in
theorem k_P_unitAt (κ : zC) (X : zXT) (hX : zX κ X) (l : Launch) (a_t a_t_units : Nat) (sz : Nat) (t_count : Int32) (t_units : Nat → Int32) (x1 : Int32) (out : Int32) (hf : f_P_unitAt t_count t_units x1 = some out) : zMet κ X l y_P_unitAt c_P_unitAt 2 (some .int) 0 0 [.ref a_t, .int x1] sz [(a_t, .inr (3, [.ref a_t_units, .int t_count])), (a_t_units, .inl (κ.2.2.1, 1100, .inl t_units))] (zQi κ (fun (r : Int32) (_ : Unit) => r = out) (fun u => [(a_t, .inr (3, [.ref a_t_units, .int t_count])), (a_t_units, .inl (κ.2.2.1, 1100, .inl t_units))])) := by
  refine zMet.ofI (by decide +kernel) (Nat.le_of_ble_eq_true rfl) ?_
  intro p e s m args below meth c ls A Q hF hK hP hD hA hXs hS hl hret
  obtain ⟨hx, hb, hml, hown, hts⟩ := id hF
  obtain ⟨H, hH⟩ : ∃ H, H = s.heap := ⟨_, rfl⟩
  obtain ⟨locs, hlo⟩ : ∃ z : List Loc, z = [] := ⟨_, rfl⟩
  replace hP : zP κ [(a_t, .inr (3, [.ref a_t_units, .int t_count])), (a_t_units, .inl (κ.2.2.1, 1100, .inl t_units))] H := by rw [hH]; exact hP
  replace hS : va_S A s.heap H locs := by rw [hH, hlo]; exact hS
  suffices hgo : W p l e (zR 0 0) s m args below meth c H locs 0 0 Q (F0 m 0 ls []) by rw [hH, hlo] at hgo; exact hgo
  clear hH hlo
  replace hl : lv_has ls 2 [(0, .ref a_t), (1, .int x1)] := hl
  unfold f_P_unitAt at hf
  refine lv_iload_n hx hb d_P_unitAt_0 rfl (lv_at hl 1 rfl) ?_
  refine lv_if_lt (tgt := 21) hx hb d_P_unitAt_1 (by decide) (fun c_1 => ?_) (fun c_1 => ?_)
  · have hf := (zbr hf).1 c_1
    refine lv_iconst (v := 0) hx hb d_P_unitAt_21 (by decide) ?_
    exact hret ((0 : Int32)) () H locs ls _ d_P_unitAt_22 hP hD hS (Option.some.inj hf)
  · have hf := (zbr hf).2 c_1
    refine lv_iload_n hx hb d_P_unitAt_4 rfl (lv_at hl 1 rfl) ?_
    refine lv_aload_n hx hb d_P_unitAt_5 rfl (lv_at hl 0 rfl) ?_
    refine va_get (C := R_P) (T := F_P) (N := 2) hx hb hts i_P hown hK hP 0 rfl rfl 1 (by decide) (hts _ zfl_P_13) (fun _ h9 => h9) rfl d_P_unitAt_6 ?_
    refine lv_icmp_ge (tgt := 21) hx hb d_P_unitAt_9 (by decide) (fun c_9 => ?_) (fun c_9 => ?_)
    · have hf := (zbr hf).1 c_9
      refine lv_iconst (v := 0) hx hb d_P_unitAt_21 (by decide) ?_
      exact hret ((0 : Int32)) () H locs ls _ d_P_unitAt_22 hP hD hS (Option.some.inj hf)
    · have hf := (zbr hf).2 c_9
      refine lv_aload_n hx hb d_P_unitAt_12 rfl (lv_at hl 0 rfl) ?_
      refine va_get (C := R_P) (T := F_P) (N := 2) hx hb hts i_P hown hK hP 0 rfl rfl 0 (by decide) (hts _ zfl_P_9) (fun _ h9 => h9) rfl d_P_unitAt_13 ?_
      refine lv_iload_n hx hb d_P_unitAt_16 rfl (lv_at hl 1 rfl) ?_
      obtain ⟨g_17, hf⟩ := zgd hf
      refine va_cald hx hb hK hP 1 1 rfl rfl (zin_vp g_17) d_P_unitAt_17 ?_
      refine lv_goto (tgt := 22) hx hb d_P_unitAt_18 (by decide) ?_
      exact hret ((t_units x1.toNatClampNeg)) () H locs ls _ d_P_unitAt_22 hP hD hS (Option.some.inj hf)
theorem d_P_add_0 : decode c_P_add 0 = .ok (.aload_n 0, 1) := by decide +kernel
theorem d_P_add_1 : decode c_P_add 1 = .ok (.getfield 13, 3) := by decide +kernel
theorem d_P_add_4 : decode c_P_add 4 = .ok (.sipush 1100, 3) := by decide +kernel
theorem d_P_add_7 : decode c_P_add 7 = .ok (.if_icmp .ge 23, 3) := by decide +kernel
theorem d_P_add_10 : decode c_P_add 10 = .ok (.aload_n 0, 1) := by decide +kernel
theorem d_P_add_11 : decode c_P_add 11 = .ok (.getfield 9, 3) := by decide +kernel
theorem d_P_add_14 : decode c_P_add 14 = .ok (.aload_n 0, 1) := by decide +kernel
theorem d_P_add_15 : decode c_P_add 15 = .ok (.getfield 13, 3) := by decide +kernel
theorem d_P_add_18 : decode c_P_add 18 = .ok (.iload_n 1, 1) := by decide +kernel
theorem d_P_add_19 : decode c_P_add 19 = .ok (.castore, 1) := by decide +kernel
theorem d_P_add_20 : decode c_P_add 20 = .ok (.aload_n 0, 1) := by decide +kernel
theorem d_P_add_21 : decode c_P_add 21 = .ok (.dup, 1) := by decide +kernel
theorem d_P_add_22 : decode c_P_add 22 = .ok (.getfield 13, 3) := by decide +kernel
theorem d_P_add_25 : decode c_P_add 25 = .ok (.iconst 1, 1) := by decide +kernel
theorem d_P_add_26 : decode c_P_add 26 = .ok (.iadd, 1) := by decide +kernel
theorem d_P_add_27 : decode c_P_add 27 = .ok (.putfield 13, 3) := by decide +kernel
theorem d_P_add_30 : decode c_P_add 30 = .ok (.return_, 1) := by decide +kernel
set_option maxHeartbeats 4000000 in
set_option maxRecDepth 100000 in
theorem k_P_add (κ : zC) (X : zXT) (hX : zX κ X) (l : Launch) (a_t a_t_units : Nat) (sz : Nat) (t_count : Int32) (t_units : Nat → Int32) (x1 : Int32) (out : (Int32) × (Nat → Int32)) (hf : f_P_add t_count t_units x1 = some out) : zMet κ X l y_P_add c_P_add 2 none 0 0 [.ref a_t, .int x1] sz [(a_t, .inr (3, [.ref a_t_units, .int t_count])), (a_t_units, .inl (κ.2.2.1, 1100, .inl t_units))] (zQv κ (fun (u : (Int32) × (Nat → Int32)) => u = out) (fun u => [(a_t, .inr (3, [.ref a_t_units, .int u.1])), (a_t_units, .inl (κ.2.2.1, 1100, .inl u.2))])) := by
  refine zMet.ofV (by decide +kernel) (Nat.le_of_ble_eq_true rfl) ?_
  intro p e s m args below meth c ls A Q hF hK hP hD hA hXs hS hl hret
  obtain ⟨hx, hb, hml, hown, hts⟩ := id hF
  obtain ⟨H, hH⟩ : ∃ H, H = s.heap := ⟨_, rfl⟩
  obtain ⟨locs, hlo⟩ : ∃ z : List Loc, z = [] := ⟨_, rfl⟩
  replace hP : zP κ [(a_t, .inr (3, [.ref a_t_units, .int t_count])), (a_t_units, .inl (κ.2.2.1, 1100, .inl t_units))] H := by rw [hH]; exact hP
  replace hS : va_S A s.heap H locs := by rw [hH, hlo]; exact hS
  suffices hgo : W p l e (zR 0 0) s m args below meth c H locs 0 0 Q (F0 m 0 ls []) by rw [hH, hlo] at hgo; exact hgo
  clear hH hlo
  replace hl : lv_has ls 2 [(0, .ref a_t), (1, .int x1)] := hl
  unfold f_P_add at hf
  refine lv_aload_n hx hb d_P_add_0 rfl (lv_at hl 0 rfl) ?_
  refine va_get (C := R_P) (T := F_P) (N := 2) hx hb hts i_P hown hK hP 0 rfl rfl 1 (by decide) (hts _ zfl_P_13) (fun _ h9 => h9) rfl d_P_add_1 ?_
  refine lv_sipush (v := 1100) hx hb d_P_add_4 (by decide) ?_
  refine lv_icmp_ge (tgt := 30) hx hb d_P_add_7 (by decide) (fun c_7 => ?_) (fun c_7 => ?_)
  · have hf := (zbr hf).1 c_7
    exact hret ((t_count, t_units)) H locs ls _ d_P_add_30 hP hD hS (Option.some.inj hf)
  · have hf := (zbr hf).2 c_7
    refine lv_aload_n hx hb d_P_add_10 rfl (lv_at hl 0 rfl) ?_
    refine va_get (C := R_P) (T := F_P) (N := 2) hx hb hts i_P hown hK hP 0 rfl rfl 0 (by decide) (hts _ zfl_P_9) (fun _ h9 => h9) rfl d_P_add_11 ?_
    refine lv_aload_n hx hb d_P_add_14 rfl (lv_at hl 0 rfl) ?_
    refine va_get (C := R_P) (T := F_P) (N := 2) hx hb hts i_P hown hK hP 0 rfl rfl 1 (by decide) (hts _ zfl_P_13) (fun _ h9 => h9) rfl d_P_add_15 ?_
    refine lv_iload_n hx hb d_P_add_18 rfl (lv_at hl 1 rfl) ?_
    obtain ⟨g_19, hf⟩ := zgd hf
    refine va_cast hx hb hK hP hD hS 1 1 rfl rfl (zin_vp g_19) d_P_add_19 (fun H locs hP hD hS => ?_)
    have hP : zP κ [(a_t, .inr (3, [.ref a_t_units, .int t_count])), (a_t_units, .inl (κ.2.2.1, 1100, .inl (upd t_units t_count.toNatClampNeg (vp_nar .char x1))))] H := hP
    have hD : va_D A [(a_t, .inr (3, [.ref a_t_units, .int t_count])), (a_t_units, .inl (κ.2.2.1, 1100, .inl (upd t_units t_count.toNatClampNeg (vp_nar .char x1))))] := hD
    refine lv_aload_n hx hb d_P_add_20 rfl (lv_at hl 0 rfl) ?_
    refine lv_dup hx hb d_P_add_21 rfl ?_
    refine va_get (C := R_P) (T := F_P) (N := 2) hx hb hts i_P hown hK hP 0 rfl rfl 1 (by decide) (hts _ zfl_P_13) (fun _ h9 => h9) rfl d_P_add_22 ?_
    refine lv_iconst (v := 1) hx hb d_P_add_25 (by decide) ?_
    refine lv_iadd hx hb d_P_add_26 ?_
    refine va_put (C := R_P) (T := F_P) (N := 2) hx hb hts i_P ty_P ty_P_ok n_P hown hK hP hD hS 0 rfl rfl 1 (by decide) (hts _ zfl_P_13) (fun _ h9 => h9) rfl (ty_P_ok 1 (by decide)) rfl rfl (Nat.le_of_ble_eq_true rfl) d_P_add_27 (fun H locs hP hD hS => ?_)
    have hP : zP κ [(a_t, .inr (3, [.ref a_t_units, .int (t_count + 1)])), (a_t_units, .inl (κ.2.2.1, 1100, .inl (upd t_units t_count.toNatClampNeg (vp_nar .char x1))))] H := hP
    have hD : va_D A [(a_t, .inr (3, [.ref a_t_units, .int (t_count + 1)])), (a_t_units, .inl (κ.2.2.1, 1100, .inl (upd t_units t_count.toNatClampNeg (vp_nar .char x1))))] := hD
    exact hret (((t_count + 1), (upd t_units t_count.toNatClampNeg (vp_nar .char x1)))) H locs ls _ d_P_add_30 hP hD hS (Option.some.inj hf)
theorem d_P_addText_0 : decode c_P_addText 0 = .ok (.iconst 0, 1) := by decide +kernel
theorem d_P_addText_1 : decode c_P_addText 1 = .ok (.istore_n 2, 1) := by decide +kernel
theorem d_P_addText_2 : decode c_P_addText 2 = .ok (.iload_n 2, 1) := by decide +kernel
theorem d_P_addText_3 : decode c_P_addText 3 = .ok (.aload_n 1, 1) := by decide +kernel
theorem d_P_addText_4 : decode c_P_addText 4 = .ok (.invokevirtual 17, 3) := by decide +kernel
theorem d_P_addText_7 : decode c_P_addText 7 = .ok (.if_icmp .ge 18, 3) := by decide +kernel
theorem d_P_addText_10 : decode c_P_addText 10 = .ok (.aload_n 0, 1) := by decide +kernel
theorem d_P_addText_11 : decode c_P_addText 11 = .ok (.aload_n 1, 1) := by decide +kernel
theorem d_P_addText_12 : decode c_P_addText 12 = .ok (.iload_n 2, 1) := by decide +kernel
theorem d_P_addText_13 : decode c_P_addText 13 = .ok (.invokevirtual 23, 3) := by decide +kernel
theorem d_P_addText_16 : decode c_P_addText 16 = .ok (.invokevirtual 27, 3) := by decide +kernel
theorem d_P_addText_19 : decode c_P_addText 19 = .ok (.iinc 2 1, 3) := by decide +kernel
theorem d_P_addText_22 : decode c_P_addText 22 = .ok (.goto (-20), 3) := by decide +kernel
theorem d_P_addText_25 : decode c_P_addText 25 = .ok (.return_, 1) := by decide +kernel
theorem zn_P_17 : zNV R_P 17 y_JS_length c_JS_length 1 (some .int) 0 := ⟨zco_JS_length, zin_JS, zml_P_17, zim_JS_length, zse_JS_JS_length, by decide +kernel⟩
theorem zn_P_23 : zNV R_P 23 y_JS_charAt c_JS_charAt 2 (some .char) 1 := ⟨zco_JS_charAt, zin_JS, zml_P_23, zim_JS_charAt, zse_JS_JS_charAt, by decide +kernel⟩
theorem zn_P_27 : zNV R_P 27 y_P_add c_P_add 2 none 1 := ⟨zco_P_add, zin_P, zml_P_27, zim_P_add, zse_P_P_add, by decide +kernel⟩
set_option maxHeartbeats 4000000 in
set_option maxRecDepth 100000 in
theorem k_P_addText (κ : zC) (X : zXT) (hX : zX κ X) (l : Launch) (a_t a_t_units : Nat) (sz : Nat) (t_count : Int32) (t_units : Nat → Int32) (x1 : Nat) (out : (Int32) × (Nat → Int32)) (hf : f_P_addText t_count t_units x1 = some out) : zMet κ X l y_P_addText c_P_addText 3 none 4 85 [.ref a_t, .ref (κ.2.2.2.2 x1)] sz [(a_t, .inr (3, [.ref a_t_units, .int t_count])), (a_t_units, .inl (κ.2.2.1, 1100, .inl t_units))] (zQv κ (fun (u : (Int32) × (Nat → Int32)) => u = out) (fun u => [(a_t, .inr (3, [.ref a_t_units, .int u.1])), (a_t_units, .inl (κ.2.2.1, 1100, .inl u.2))])) := by
  refine zMet.ofV (by decide +kernel) (Nat.le_of_ble_eq_true rfl) ?_
  intro p e s m args below meth c ls A Q hF hK hP hD hA hXs hS hl hret
  obtain ⟨hx, hb, hml, hown, hts⟩ := id hF
  obtain ⟨H, hH⟩ : ∃ H, H = s.heap := ⟨_, rfl⟩
  obtain ⟨locs, hlo⟩ : ∃ z : List Loc, z = [] := ⟨_, rfl⟩
  replace hP : zP κ [(a_t, .inr (3, [.ref a_t_units, .int t_count])), (a_t_units, .inl (κ.2.2.1, 1100, .inl t_units))] H := by rw [hH]; exact hP
  replace hS : va_S A s.heap H locs := by rw [hH, hlo]; exact hS
  suffices hgo : W p l e (zR 4 85) s m args below meth c H locs 0 0 Q (F0 m 0 ls []) by rw [hH, hlo] at hgo; exact hgo
  clear hH hlo
  replace hl : lv_has ls 3 [(0, .ref a_t), (1, .ref (κ.2.2.2.2 x1))] := hl
  obtain ⟨av, hZ⟩ := hX.2
  obtain ⟨hpw, hpt, -, -, hst, hr0, hr1, hr2, hr3, hr4⟩ := hZ _ _ _ hXs
  have b_2 : ∀ (t_count : Int32) (t_units : Nat → Int32) (x1 : Nat) (x2 : Int32) (H : Heap) (locs : List Loc) (ls : Array Slot), f_P_addText_2 t_count t_units x1 x2 = some out → zP κ [(a_t, .inr (3, [.ref a_t_units, .int t_count])), (a_t_units, .inl (κ.2.2.1, 1100, .inl t_units))] H → va_D A [(a_t, .inr (3, [.ref a_t_units, .int t_count])), (a_t_units, .inl (κ.2.2.1, 1100, .inl t_units))] → va_S A s.heap H locs → lv_has ls 3 [(0, .ref a_t), (1, .ref (κ.2.2.2.2 x1)), (2, .int x2)] → W p l e (zR 4 85) s m args below meth c H locs 0 0 Q (F0 m 2 ls []) := by
    intro t_count t_units x1 x2 H locs ls hf hP hD hS hl
    refine zrun_ind (P := fun z : (Int32) × (Nat → Int32) × (Int32) => ∀ (H : Heap) (locs : List Loc) (ls : Array Slot), zP κ [(a_t, .inr (3, [.ref a_t_units, .int z.1])), (a_t_units, .inl (κ.2.2.1, 1100, .inl z.2.1))] H → va_D A [(a_t, .inr (3, [.ref a_t_units, .int z.1])), (a_t_units, .inl (κ.2.2.1, 1100, .inl z.2.1))] → va_S A s.heap H locs → lv_has ls 3 [(0, .ref a_t), (1, .ref (κ.2.2.2.2 x1)), (2, .int z.2.2)] → W p l e (zR 4 85) s m args below meth c H locs 0 0 Q (F0 m 2 ls [])) ?_ hf H locs ls hP hD hS hl
    clear hf hP hD hS hl H locs ls t_count t_units x2
    intro z ih hne hexit_2 H locs ls hP hD hS hl
    obtain ⟨q_2, hf⟩ := zne hne
    have hback_2 := fun y (e : q_2 = .inl y) => ih y (e ▸ hf)
    replace hexit_2 := fun y (e : q_2 = .inr y) => hexit_2 y (e ▸ hf)
    clear ih hne
    obtain ⟨t_count, t_units, x2⟩ := z
    replace hf : f_P_addText_2_body x1 t_count t_units x2 = some q_2 := hf
    replace hP : zP κ [(a_t, .inr (3, [.ref a_t_units, .int t_count])), (a_t_units, .inl (κ.2.2.1, 1100, .inl t_units))] H := hP
    replace hD : va_D A [(a_t, .inr (3, [.ref a_t_units, .int t_count])), (a_t_units, .inl (κ.2.2.1, 1100, .inl t_units))] := hD
    replace hl : lv_has ls 3 [(0, .ref a_t), (1, .ref (κ.2.2.2.2 x1)), (2, .int x2)] := hl
    unfold f_P_addText_2_body at hf
    refine lv_iload_n hx hb d_P_addText_2 rfl (lv_at hl 2 rfl) ?_
    refine lv_aload_n hx hb d_P_addText_3 rfl (lv_at hl 1 rfl) ?_
    obtain ⟨gw_4, hf⟩ := zgd hf
    refine zVs (isC := []) (isR := [0, 1]) (isN := [0, 1]) (wc := []) (wr := [(a_t, .inr (3, [.ref a_t_units, .int t_count])), (a_t_units, .inl (κ.2.2.1, 1100, .inl t_units))]) (wn := fun _ => [(a_t, .inr (3, [.ref a_t_units, .int t_count])), (a_t_units, .inl (κ.2.2.1, 1100, .inl t_units))]) (rest := [.int x2]) (As := []) hF zn_P_17 (k_JS_length κ X hX l _ x1 gw_4) hX hXs hK hA hP hD hS ⟨by decide, by decide⟩ ⟨rfl, rfl, rfl, rfl, rfl, by decide⟩ ⟨rfl, fun _ => rfl, fun _ => rfl⟩ (hst x1 gw_4).1 rfl hl.1 rfl (Nat.le_of_ble_eq_true rfl) ⟨Nat.zero_le _, Nat.zero_le _⟩ d_P_addText_4 (fun r u H locs hw hP hD hS => ?_)
    subst hw
    refine lv_icmp_ge (tgt := 25) hx hb d_P_addText_7 (by decide) (fun c_7 => ?_) (fun c_7 => ?_)
    · have hf := (zbr hf).1 c_7
      have hf := zex hf hexit_2
      exact hret ((t_count, t_units)) H locs ls _ d_P_addText_25 hP hD hS (Option.some.inj hf)
    · have hf := (zbr hf).2 c_7
      refine lv_aload_n hx hb d_P_addText_10 rfl (lv_at hl 0 rfl) ?_
      refine lv_aload_n hx hb d_P_addText_11 rfl (lv_at hl 1 rfl) ?_
      refine lv_iload_n hx hb d_P_addText_12 rfl (lv_at hl 2 rfl) ?_
      obtain ⟨gw_13, hf⟩ := zgd hf
      obtain ⟨g_13, hf⟩ := zgd hf
      refine zVs (isC := []) (isR := [0, 1]) (isN := [0, 1]) (wc := []) (wr := [(a_t, .inr (3, [.ref a_t_units, .int t_count])), (a_t_units, .inl (κ.2.2.1, 1100, .inl t_units))]) (wn := fun _ => [(a_t, .inr (3, [.ref a_t_units, .int t_count])), (a_t_units, .inl (κ.2.2.1, 1100, .inl t_units))]) (rest := [.ref a_t]) (As := [.int x2]) hF zn_P_23 (k_JS_charAt κ X hX l _ x1 gw_13 x2 g_13) hX hXs hK hA hP hD hS ⟨by decide, by decide⟩ ⟨rfl, rfl, rfl, rfl, rfl, by decide⟩ ⟨rfl, fun _ => rfl, fun _ => rfl⟩ (hst x1 gw_13).1 rfl hl.1 rfl (Nat.le_of_ble_eq_true rfl) ⟨Nat.zero_le _, Nat.zero_le _⟩ d_P_addText_13 (fun r u H locs hw hP hD hS => ?_)
      subst hw
      obtain ⟨o_16, ho_16, hf⟩ := zbd hf
      refine zVv (isC := [0, 1]) (isR := []) (isN := [0, 1]) (wc := [(a_t, .inr (3, [.ref a_t_units, .int t_count])), (a_t_units, .inl (κ.2.2.1, 1100, .inl t_units))]) (wr := []) (wn := fun u => [(a_t, .inr (3, [.ref a_t_units, .int u.1])), (a_t_units, .inl (κ.2.2.1, 1100, .inl u.2))]) (rest := []) (As := [.int (zsch x1 x2)]) hF zn_P_27 (k_P_add κ X hX l a_t a_t_units H.size t_count t_units (zsch x1 x2) o_16 ho_16) hX hXs hK hA hP hD hS ⟨by decide, by decide⟩ ⟨rfl, rfl, rfl, rfl, rfl, by decide⟩ ⟨rfl, fun _ => rfl, fun _ => rfl⟩ (ci := 3) rfl rfl rfl rfl hl.1 rfl (Nat.le_of_ble_eq_true rfl) ⟨Nat.zero_le _, Nat.zero_le _⟩ d_P_addText_16 (fun u H locs hw hP hD hS => ?_)
      obtain ⟨u16_t_count, u16_t_units⟩ := u
      have hP : zP κ [(a_t, .inr (3, [.ref a_t_units, .int u16_t_count])), (a_t_units, .inl (κ.2.2.1, 1100, .inl u16_t_units))] H := hP
      have hD : va_D A [(a_t, .inr (3, [.ref a_t_units, .int u16_t_count])), (a_t_units, .inl (κ.2.2.1, 1100, .inl u16_t_units))] := hD
      subst hw
      dsimp only at hf
      refine lv_iinc (v := (x2 + 1)) (lv' := [(2, .int (x2 + 1)), (0, .ref a_t), (1, .ref (κ.2.2.2.2 x1))]) hx hb d_P_addText_19 hl (k := 2) rfl rfl (by decide) rfl (fun ls hl => ?_)
      refine lv_goto (tgt := 2) hx hb d_P_addText_22 (by decide) ?_
      exact hback_2 _ (Option.some.inj hf).symm H locs ls hP hD hS (lv_sub hl [1, 2, 0] rfl)
  unfold f_P_addText at hf
  refine lv_iconst (v := 0) hx hb d_P_addText_0 (by decide) ?_
  refine lv_istore_n (lv' := [(2, .int 0), (0, .ref a_t), (1, .ref (κ.2.2.2.2 x1))]) hx hb d_P_addText_1 rfl hl (by decide) rfl (fun ls hl => ?_)
  exact b_2 t_count t_units x1 0 H locs ls hf hP hD hS (lv_sub hl [1, 2, 0] rfl)
theorem d_P_addDigit_0 : decode c_P_addDigit 0 = .ok (.aload_n 0, 1) := by decide +kernel
theorem d_P_addDigit_1 : decode c_P_addDigit 1 = .ok (.iload_n 1, 1) := by decide +kernel
theorem d_P_addDigit_2 : decode c_P_addDigit 2 = .ok (.bipush 10, 2) := by decide +kernel
theorem d_P_addDigit_4 : decode c_P_addDigit 4 = .ok (.if_icmp .ge 10, 3) := by decide +kernel
theorem d_P_addDigit_7 : decode c_P_addDigit 7 = .ok (.bipush 48, 2) := by decide +kernel
theorem d_P_addDigit_9 : decode c_P_addDigit 9 = .ok (.iload_n 1, 1) := by decide +kernel
theorem d_P_addDigit_10 : decode c_P_addDigit 10 = .ok (.iadd, 1) := by decide +kernel
theorem d_P_addDigit_11 : decode c_P_addDigit 11 = .ok (.goto 10, 3) := by decide +kernel
theorem d_P_addDigit_14 : decode c_P_addDigit 14 = .ok (.bipush 97, 2) := by decide +kernel
theorem d_P_addDigit_16 : decode c_P_addDigit 16 = .ok (.iload_n 1, 1) := by decide +kernel
theorem d_P_addDigit_17 : decode c_P_addDigit 17 = .ok (.iadd, 1) := by decide +kernel
theorem d_P_addDigit_18 : decode c_P_addDigit 18 = .ok (.bipush 10, 2) := by decide +kernel
theorem d_P_addDigit_20 : decode c_P_addDigit 20 = .ok (.isub, 1) := by decide +kernel
theorem d_P_addDigit_21 : decode c_P_addDigit 21 = .ok (.i2c, 1) := by decide +kernel
theorem d_P_addDigit_22 : decode c_P_addDigit 22 = .ok (.invokevirtual 27, 3) := by decide +kernel
theorem d_P_addDigit_25 : decode c_P_addDigit 25 = .ok (.return_, 1) := by decide +kernel
set_option maxHeartbeats 4000000 in
set_option maxRecDepth 100000 in
theorem k_P_addDigit (κ : zC) (X : zXT) (hX : zX κ X) (l : Launch) (a_t a_t_units : Nat) (sz : Nat) (t_count : Int32) (t_units : Nat → Int32) (x1 : Int32) (out : (Int32) × (Nat → Int32)) (hf : f_P_addDigit t_count t_units x1 = some out) : zMet κ X l y_P_addDigit c_P_addDigit 2 none 1 21 [.ref a_t, .int x1] sz [(a_t, .inr (3, [.ref a_t_units, .int t_count])), (a_t_units, .inl (κ.2.2.1, 1100, .inl t_units))] (zQv κ (fun (u : (Int32) × (Nat → Int32)) => u = out) (fun u => [(a_t, .inr (3, [.ref a_t_units, .int u.1])), (a_t_units, .inl (κ.2.2.1, 1100, .inl u.2))])) := by
  refine zMet.ofV (by decide +kernel) (Nat.le_of_ble_eq_true rfl) ?_
  intro p e s m args below meth c ls A Q hF hK hP hD hA hXs hS hl hret
  obtain ⟨hx, hb, hml, hown, hts⟩ := id hF
  obtain ⟨H, hH⟩ : ∃ H, H = s.heap := ⟨_, rfl⟩
  obtain ⟨locs, hlo⟩ : ∃ z : List Loc, z = [] := ⟨_, rfl⟩
  replace hP : zP κ [(a_t, .inr (3, [.ref a_t_units, .int t_count])), (a_t_units, .inl (κ.2.2.1, 1100, .inl t_units))] H := by rw [hH]; exact hP
  replace hS : va_S A s.heap H locs := by rw [hH, hlo]; exact hS
  suffices hgo : W p l e (zR 1 21) s m args below meth c H locs 0 0 Q (F0 m 0 ls []) by rw [hH, hlo] at hgo; exact hgo
  clear hH hlo
  replace hl : lv_has ls 2 [(0, .ref a_t), (1, .int x1)] := hl
  have b_21 : ∀ (t_count : Int32) (t_units : Nat → Int32) (s1 : Int32) (H : Heap) (locs : List Loc) (ls : Array Slot), f_P_addDigit_21 t_count t_units s1 = some out → zP κ [(a_t, .inr (3, [.ref a_t_units, .int t_count])), (a_t_units, .inl (κ.2.2.1, 1100, .inl t_units))] H → va_D A [(a_t, .inr (3, [.ref a_t_units, .int t_count])), (a_t_units, .inl (κ.2.2.1, 1100, .inl t_units))] → va_S A s.heap H locs → lv_has ls 2 [] → W p l e (zR 1 21) s m args below meth c H locs 0 0 Q (F0 m 21 ls [.int s1, .ref a_t]) := by
    intro t_count t_units s1 H locs ls hf hP hD hS hl
    unfold f_P_addDigit_21 at hf
    refine lv_i2c hx hb d_P_addDigit_21 rfl ?_
    obtain ⟨o_22, ho_22, hf⟩ := zbd hf
    refine zVv (isC := [0, 1]) (isR := []) (isN := [0, 1]) (wc := [(a_t, .inr (3, [.ref a_t_units, .int t_count])), (a_t_units, .inl (κ.2.2.1, 1100, .inl t_units))]) (wr := []) (wn := fun u => [(a_t, .inr (3, [.ref a_t_units, .int u.1])), (a_t_units, .inl (κ.2.2.1, 1100, .inl u.2))]) (rest := []) (As := [.int (ji2c s1)]) hF zn_P_27 (k_P_add κ X hX l a_t a_t_units H.size t_count t_units (ji2c s1) o_22 ho_22) hX hXs hK hA hP hD hS ⟨by decide, by decide⟩ ⟨rfl, rfl, rfl, rfl, rfl, by decide⟩ ⟨rfl, fun _ => rfl, fun _ => rfl⟩ (ci := 3) rfl rfl rfl rfl hl.1 rfl (Nat.le_of_ble_eq_true rfl) ⟨Nat.zero_le _, Nat.zero_le _⟩ d_P_addDigit_22 (fun u H locs hw hP hD hS => ?_)
    obtain ⟨u22_t_count, u22_t_units⟩ := u
    have hP : zP κ [(a_t, .inr (3, [.ref a_t_units, .int u22_t_count])), (a_t_units, .inl (κ.2.2.1, 1100, .inl u22_t_units))] H := hP
    have hD : va_D A [(a_t, .inr (3, [.ref a_t_units, .int u22_t_count])), (a_t_units, .inl (κ.2.2.1, 1100, .inl u22_t_units))] := hD
    subst hw
    dsimp only at hf
    exact hret ((u22_t_count, u22_t_units)) H locs ls _ d_P_addDigit_25 hP hD hS (Option.some.inj hf)
  unfold f_P_addDigit at hf
  refine lv_aload_n hx hb d_P_addDigit_0 rfl (lv_at hl 0 rfl) ?_
  refine lv_iload_n hx hb d_P_addDigit_1 rfl (lv_at hl 1 rfl) ?_
  refine lv_bipush (v := 10) hx hb d_P_addDigit_2 (by decide) ?_
  refine lv_icmp_ge (tgt := 14) hx hb d_P_addDigit_4 (by decide) (fun c_4 => ?_) (fun c_4 => ?_)
  · have hf := (zbr hf).1 c_4
    refine lv_bipush (v := 97) hx hb d_P_addDigit_14 (by decide) ?_
    refine lv_iload_n hx hb d_P_addDigit_16 rfl (lv_at hl 1 rfl) ?_
    refine lv_iadd hx hb d_P_addDigit_17 ?_
    refine lv_bipush (v := 10) hx hb d_P_addDigit_18 (by decide) ?_
    refine lv_isub hx hb d_P_addDigit_20 ?_
    exact b_21 t_count t_units ((97 + x1) - 10) H locs ls hf hP hD hS (lv_sub hl [] rfl)
  · have hf := (zbr hf).2 c_4
    refine lv_bipush (v := 48) hx hb d_P_addDigit_7 (by decide) ?_
    refine lv_iload_n hx hb d_P_addDigit_9 rfl (lv_at hl 1 rfl) ?_
    refine lv_iadd hx hb d_P_addDigit_10 ?_
    refine lv_goto (tgt := 21) hx hb d_P_addDigit_11 (by decide) ?_
    exact b_21 t_count t_units (48 + x1) H locs ls hf hP hD hS (lv_sub hl [] rfl)
theorem d_P_addZeros_0 : decode c_P_addZeros 0 = .ok (.iconst 0, 1) := by decide +kernel
theorem d_P_addZeros_1 : decode c_P_addZeros 1 = .ok (.istore_n 2, 1) := by decide +kernel
theorem d_P_addZeros_2 : decode c_P_addZeros 2 = .ok (.iload_n 2, 1) := by decide +kernel
theorem d_P_addZeros_3 : decode c_P_addZeros 3 = .ok (.iload_n 1, 1) := by decide +kernel
theorem d_P_addZeros_4 : decode c_P_addZeros 4 = .ok (.if_icmp .ge 15, 3) := by decide +kernel
theorem d_P_addZeros_7 : decode c_P_addZeros 7 = .ok (.aload_n 0, 1) := by decide +kernel
theorem d_P_addZeros_8 : decode c_P_addZeros 8 = .ok (.bipush 48, 2) := by decide +kernel
theorem d_P_addZeros_10 : decode c_P_addZeros 10 = .ok (.invokevirtual 27, 3) := by decide +kernel
theorem d_P_addZeros_13 : decode c_P_addZeros 13 = .ok (.iinc 2 1, 3) := by decide +kernel
theorem d_P_addZeros_16 : decode c_P_addZeros 16 = .ok (.goto (-14), 3) := by decide +kernel
theorem d_P_addZeros_19 : decode c_P_addZeros 19 = .ok (.return_, 1) := by decide +kernel
set_option maxHeartbeats 4000000 in
set_option maxRecDepth 100000 in
theorem k_P_addZeros (κ : zC) (X : zXT) (hX : zX κ X) (l : Launch) (a_t a_t_units : Nat) (sz : Nat) (t_count : Int32) (t_units : Nat → Int32) (x1 : Int32) (out : (Int32) × (Nat → Int32)) (hf : f_P_addZeros t_count t_units x1 = some out) : zMet κ X l y_P_addZeros c_P_addZeros 3 none 1 21 [.ref a_t, .int x1] sz [(a_t, .inr (3, [.ref a_t_units, .int t_count])), (a_t_units, .inl (κ.2.2.1, 1100, .inl t_units))] (zQv κ (fun (u : (Int32) × (Nat → Int32)) => u = out) (fun u => [(a_t, .inr (3, [.ref a_t_units, .int u.1])), (a_t_units, .inl (κ.2.2.1, 1100, .inl u.2))])) := by
  refine zMet.ofV (by decide +kernel) (Nat.le_of_ble_eq_true rfl) ?_
  intro p e s m args below meth c ls A Q hF hK hP hD hA hXs hS hl hret
  obtain ⟨hx, hb, hml, hown, hts⟩ := id hF
  obtain ⟨H, hH⟩ : ∃ H, H = s.heap := ⟨_, rfl⟩
  obtain ⟨locs, hlo⟩ : ∃ z : List Loc, z = [] := ⟨_, rfl⟩
  replace hP : zP κ [(a_t, .inr (3, [.ref a_t_units, .int t_count])), (a_t_units, .inl (κ.2.2.1, 1100, .inl t_units))] H := by rw [hH]; exact hP
  replace hS : va_S A s.heap H locs := by rw [hH, hlo]; exact hS
  suffices hgo : W p l e (zR 1 21) s m args below meth c H locs 0 0 Q (F0 m 0 ls []) by rw [hH, hlo] at hgo; exact hgo
  clear hH hlo
  replace hl : lv_has ls 3 [(0, .ref a_t), (1, .int x1)] := hl
  have b_2 : ∀ (t_count : Int32) (t_units : Nat → Int32) (x1 : Int32) (x2 : Int32) (H : Heap) (locs : List Loc) (ls : Array Slot), f_P_addZeros_2 t_count t_units x1 x2 = some out → zP κ [(a_t, .inr (3, [.ref a_t_units, .int t_count])), (a_t_units, .inl (κ.2.2.1, 1100, .inl t_units))] H → va_D A [(a_t, .inr (3, [.ref a_t_units, .int t_count])), (a_t_units, .inl (κ.2.2.1, 1100, .inl t_units))] → va_S A s.heap H locs → lv_has ls 3 [(0, .ref a_t), (1, .int x1), (2, .int x2)] → W p l e (zR 1 21) s m args below meth c H locs 0 0 Q (F0 m 2 ls []) := by
    intro t_count t_units x1 x2 H locs ls hf hP hD hS hl
    refine zrun_ind (P := fun z : (Int32) × (Nat → Int32) × (Int32) => ∀ (H : Heap) (locs : List Loc) (ls : Array Slot), zP κ [(a_t, .inr (3, [.ref a_t_units, .int z.1])), (a_t_units, .inl (κ.2.2.1, 1100, .inl z.2.1))] H → va_D A [(a_t, .inr (3, [.ref a_t_units, .int z.1])), (a_t_units, .inl (κ.2.2.1, 1100, .inl z.2.1))] → va_S A s.heap H locs → lv_has ls 3 [(0, .ref a_t), (1, .int x1), (2, .int z.2.2)] → W p l e (zR 1 21) s m args below meth c H locs 0 0 Q (F0 m 2 ls [])) ?_ hf H locs ls hP hD hS hl
    clear hf hP hD hS hl H locs ls t_count t_units x2
    intro z ih hne hexit_2 H locs ls hP hD hS hl
    obtain ⟨q_2, hf⟩ := zne hne
    have hback_2 := fun y (e : q_2 = .inl y) => ih y (e ▸ hf)
    replace hexit_2 := fun y (e : q_2 = .inr y) => hexit_2 y (e ▸ hf)
    clear ih hne
    obtain ⟨t_count, t_units, x2⟩ := z
    replace hf : f_P_addZeros_2_body x1 t_count t_units x2 = some q_2 := hf
    replace hP : zP κ [(a_t, .inr (3, [.ref a_t_units, .int t_count])), (a_t_units, .inl (κ.2.2.1, 1100, .inl t_units))] H := hP
    replace hD : va_D A [(a_t, .inr (3, [.ref a_t_units, .int t_count])), (a_t_units, .inl (κ.2.2.1, 1100, .inl t_units))] := hD
    replace hl : lv_has ls 3 [(0, .ref a_t), (1, .int x1), (2, .int x2)] := hl
    unfold f_P_addZeros_2_body at hf
    refine lv_iload_n hx hb d_P_addZeros_2 rfl (lv_at hl 2 rfl) ?_
    refine lv_iload_n hx hb d_P_addZeros_3 rfl (lv_at hl 1 rfl) ?_
    refine lv_icmp_ge (tgt := 19) hx hb d_P_addZeros_4 (by decide) (fun c_4 => ?_) (fun c_4 => ?_)
    · have hf := (zbr hf).1 c_4
      have hf := zex hf hexit_2
      exact hret ((t_count, t_units)) H locs ls _ d_P_addZeros_19 hP hD hS (Option.some.inj hf)
    · have hf := (zbr hf).2 c_4
      refine lv_aload_n hx hb d_P_addZeros_7 rfl (lv_at hl 0 rfl) ?_
      refine lv_bipush (v := 48) hx hb d_P_addZeros_8 (by decide) ?_
      obtain ⟨o_10, ho_10, hf⟩ := zbd hf
      refine zVv (isC := [0, 1]) (isR := []) (isN := [0, 1]) (wc := [(a_t, .inr (3, [.ref a_t_units, .int t_count])), (a_t_units, .inl (κ.2.2.1, 1100, .inl t_units))]) (wr := []) (wn := fun u => [(a_t, .inr (3, [.ref a_t_units, .int u.1])), (a_t_units, .inl (κ.2.2.1, 1100, .inl u.2))]) (rest := []) (As := [.int 48]) hF zn_P_27 (k_P_add κ X hX l a_t a_t_units H.size t_count t_units 48 o_10 ho_10) hX hXs hK hA hP hD hS ⟨by decide, by decide⟩ ⟨rfl, rfl, rfl, rfl, rfl, by decide⟩ ⟨rfl, fun _ => rfl, fun _ => rfl⟩ (ci := 3) rfl rfl rfl rfl hl.1 rfl (Nat.le_of_ble_eq_true rfl) ⟨Nat.zero_le _, Nat.zero_le _⟩ d_P_addZeros_10 (fun u H locs hw hP hD hS => ?_)
      obtain ⟨u10_t_count, u10_t_units⟩ := u
      have hP : zP κ [(a_t, .inr (3, [.ref a_t_units, .int u10_t_count])), (a_t_units, .inl (κ.2.2.1, 1100, .inl u10_t_units))] H := hP
      have hD : va_D A [(a_t, .inr (3, [.ref a_t_units, .int u10_t_count])), (a_t_units, .inl (κ.2.2.1, 1100, .inl u10_t_units))] := hD
      subst hw
      dsimp only at hf
      refine lv_iinc (v := (x2 + 1)) (lv' := [(2, .int (x2 + 1)), (0, .ref a_t), (1, .int x1)]) hx hb d_P_addZeros_13 hl (k := 2) rfl rfl (by decide) rfl (fun ls hl => ?_)
      refine lv_goto (tgt := 2) hx hb d_P_addZeros_16 (by decide) ?_
      exact hback_2 _ (Option.some.inj hf).symm H locs ls hP hD hS (lv_sub hl [1, 2, 0] rfl)
  unfold f_P_addZeros at hf
  refine lv_iconst (v := 0) hx hb d_P_addZeros_0 (by decide) ?_
  refine lv_istore_n (lv' := [(2, .int 0), (0, .ref a_t), (1, .int x1)]) hx hb d_P_addZeros_1 rfl hl (by decide) rfl (fun ls hl => ?_)
  exact b_2 t_count t_units x1 0 H locs ls hf hP hD hS (lv_sub hl [1, 2, 0] rfl)
theorem d_P_addExponent_0 : decode c_P_addExponent 0 = .ok (.aload_n 0, 1) := by decide +kernel
theorem d_P_addExponent_1 : decode c_P_addExponent 1 = .ok (.bipush 101, 2) := by decide +kernel
theorem d_P_addExponent_3 : decode c_P_addExponent 3 = .ok (.invokevirtual 27, 3) := by decide +kernel
theorem d_P_addExponent_6 : decode c_P_addExponent 6 = .ok (.aload_n 0, 1) := by decide +kernel
theorem d_P_addExponent_7 : decode c_P_addExponent 7 = .ok (.iload_n 1, 1) := by decide +kernel
theorem d_P_addExponent_8 : decode c_P_addExponent 8 = .ok (.ifCond .ge 8, 3) := by decide +kernel
theorem d_P_addExponent_11 : decode c_P_addExponent 11 = .ok (.bipush 45, 2) := by decide +kernel
theorem d_P_addExponent_13 : decode c_P_addExponent 13 = .ok (.goto 5, 3) := by decide +kernel
theorem d_P_addExponent_16 : decode c_P_addExponent 16 = .ok (.bipush 43, 2) := by decide +kernel
theorem d_P_addExponent_18 : decode c_P_addExponent 18 = .ok (.invokevirtual 27, 3) := by decide +kernel
theorem d_P_addExponent_21 : decode c_P_addExponent 21 = .ok (.iload_n 1, 1) := by decide +kernel
theorem d_P_addExponent_22 : decode c_P_addExponent 22 = .ok (.invokestatic 31, 3) := by decide +kernel
theorem d_P_addExponent_25 : decode c_P_addExponent 25 = .ok (.istore_n 2, 1) := by decide +kernel
theorem d_P_addExponent_26 : decode c_P_addExponent 26 = .ok (.iload_n 2, 1) := by decide +kernel
theorem d_P_addExponent_27 : decode c_P_addExponent 27 = .ok (.bipush 100, 2) := by decide +kernel
theorem d_P_addExponent_29 : decode c_P_addExponent 29 = .ok (.if_icmp .lt 11, 3) := by decide +kernel
theorem d_P_addExponent_32 : decode c_P_addExponent 32 = .ok (.aload_n 0, 1) := by decide +kernel
theorem d_P_addExponent_33 : decode c_P_addExponent 33 = .ok (.iload_n 2, 1) := by decide +kernel
theorem d_P_addExponent_34 : decode c_P_addExponent 34 = .ok (.bipush 100, 2) := by decide +kernel
theorem d_P_addExponent_36 : decode c_P_addExponent 36 = .ok (.idiv, 1) := by decide +kernel
theorem d_P_addExponent_37 : decode c_P_addExponent 37 = .ok (.invokevirtual 37, 3) := by decide +kernel
theorem d_P_addExponent_40 : decode c_P_addExponent 40 = .ok (.iload_n 2, 1) := by decide +kernel
theorem d_P_addExponent_41 : decode c_P_addExponent 41 = .ok (.bipush 10, 2) := by decide +kernel
theorem d_P_addExponent_43 : decode c_P_addExponent 43 = .ok (.if_icmp .lt 14, 3) := by decide +kernel
theorem d_P_addExponent_46 : decode c_P_addExponent 46 = .ok (.aload_n 0, 1) := by decide +kernel
theorem d_P_addExponent_47 : decode c_P_addExponent 47 = .ok (.iload_n 2, 1) := by decide +kernel
theorem d_P_addExponent_48 : decode c_P_addExponent 48 = .ok (.bipush 10, 2) := by decide +kernel
theorem d_P_addExponent_50 : decode c_P_addExponent 50 = .ok (.idiv, 1) := by decide +kernel
theorem d_P_addExponent_51 : decode c_P_addExponent 51 = .ok (.bipush 10, 2) := by decide +kernel
theorem d_P_addExponent_53 : decode c_P_addExponent 53 = .ok (.irem, 1) := by decide +kernel
theorem d_P_addExponent_54 : decode c_P_addExponent 54 = .ok (.invokevirtual 37, 3) := by decide +kernel
theorem d_P_addExponent_57 : decode c_P_addExponent 57 = .ok (.aload_n 0, 1) := by decide +kernel
theorem d_P_addExponent_58 : decode c_P_addExponent 58 = .ok (.iload_n 2, 1) := by decide +kernel
theorem d_P_addExponent_59 : decode c_P_addExponent 59 = .ok (.bipush 10, 2) := by decide +kernel
theorem d_P_addExponent_61 : decode c_P_addExponent 61 = .ok (.irem, 1) := by decide +kernel
theorem d_P_addExponent_62 : decode c_P_addExponent 62 = .ok (.invokevirtual 37, 3) := by decide +kernel
theorem d_P_addExponent_65 : decode c_P_addExponent 65 = .ok (.return_, 1) := by decide +kernel
theorem zn_P_37 : zNV R_P 37 y_P_addDigit c_P_addDigit 2 none 1 := ⟨zco_P_addDigit, zin_P, zml_P_37, zim_P_addDigit, zse_P_P_addDigit, by decide +kernel⟩
set_option maxHeartbeats 4000000 in
set_option maxRecDepth 100000 in
theorem k_P_addExponent (κ : zC) (X : zXT) (hX : zX κ X) (l : Launch) (a_t a_t_units : Nat) (sz : Nat) (t_count : Int32) (t_units : Nat → Int32) (x1 : Int32) (out : (Int32) × (Nat → Int32)) (hf : f_P_addExponent t_count t_units x1 = some out) : zMet κ X l y_P_addExponent c_P_addExponent 3 none 2 42 [.ref a_t, .int x1] sz [(a_t, .inr (3, [.ref a_t_units, .int t_count])), (a_t_units, .inl (κ.2.2.1, 1100, .inl t_units))] (zQv κ (fun (u : (Int32) × (Nat → Int32)) => u = out) (fun u => [(a_t, .inr (3, [.ref a_t_units, .int u.1])), (a_t_units, .inl (κ.2.2.1, 1100, .inl u.2))])) := by
  refine zMet.ofV (by decide +kernel) (Nat.le_of_ble_eq_true rfl) ?_
  intro p e s m args below meth c ls A Q hF hK hP hD hA hXs hS hl hret
  obtain ⟨hx, hb, hml, hown, hts⟩ := id hF
  obtain ⟨H, hH⟩ : ∃ H, H = s.heap := ⟨_, rfl⟩
  obtain ⟨locs, hlo⟩ : ∃ z : List Loc, z = [] := ⟨_, rfl⟩
  replace hP : zP κ [(a_t, .inr (3, [.ref a_t_units, .int t_count])), (a_t_units, .inl (κ.2.2.1, 1100, .inl t_units))] H := by rw [hH]; exact hP
  replace hS : va_S A s.heap H locs := by rw [hH, hlo]; exact hS
  suffices hgo : W p l e (zR 2 42) s m args below meth c H locs 0 0 Q (F0 m 0 ls []) by rw [hH, hlo] at hgo; exact hgo
  clear hH hlo
  replace hl : lv_has ls 3 [(0, .ref a_t), (1, .int x1)] := hl
  have b_57 : ∀ (t_count : Int32) (t_units : Nat → Int32) (x2 : Int32) (H : Heap) (locs : List Loc) (ls : Array Slot), f_P_addExponent_57 t_count t_units x2 = some out → zP κ [(a_t, .inr (3, [.ref a_t_units, .int t_count])), (a_t_units, .inl (κ.2.2.1, 1100, .inl t_units))] H → va_D A [(a_t, .inr (3, [.ref a_t_units, .int t_count])), (a_t_units, .inl (κ.2.2.1, 1100, .inl t_units))] → va_S A s.heap H locs → lv_has ls 3 [(0, .ref a_t), (2, .int x2)] → W p l e (zR 2 42) s m args below meth c H locs 0 0 Q (F0 m 57 ls []) := by
    intro t_count t_units x2 H locs ls hf hP hD hS hl
    unfold f_P_addExponent_57 at hf
    refine lv_aload_n hx hb d_P_addExponent_57 rfl (lv_at hl 0 rfl) ?_
    refine lv_iload_n hx hb d_P_addExponent_58 rfl (lv_at hl 1 rfl) ?_
    refine lv_bipush (v := 10) hx hb d_P_addExponent_59 (by decide) ?_
    refine lv_irem hx hb d_P_addExponent_61 (by decide) ?_
    obtain ⟨o_62, ho_62, hf⟩ := zbd hf
    refine zVv (isC := [0, 1]) (isR := []) (isN := [0, 1]) (wc := [(a_t, .inr (3, [.ref a_t_units, .int t_count])), (a_t_units, .inl (κ.2.2.1, 1100, .inl t_units))]) (wr := []) (wn := fun u => [(a_t, .inr (3, [.ref a_t_units, .int u.1])), (a_t_units, .inl (κ.2.2.1, 1100, .inl u.2))]) (rest := []) (As := [.int (jrem x2 10)]) hF zn_P_37 (k_P_addDigit κ X hX l a_t a_t_units H.size t_count t_units (jrem x2 10) o_62 ho_62) hX hXs hK hA hP hD hS ⟨by decide, by decide⟩ ⟨rfl, rfl, rfl, rfl, rfl, by decide⟩ ⟨rfl, fun _ => rfl, fun _ => rfl⟩ (ci := 3) rfl rfl rfl rfl hl.1 rfl (Nat.le_of_ble_eq_true rfl) ⟨Nat.zero_le _, Nat.zero_le _⟩ d_P_addExponent_62 (fun u H locs hw hP hD hS => ?_)
    obtain ⟨u62_t_count, u62_t_units⟩ := u
    have hP : zP κ [(a_t, .inr (3, [.ref a_t_units, .int u62_t_count])), (a_t_units, .inl (κ.2.2.1, 1100, .inl u62_t_units))] H := hP
    have hD : va_D A [(a_t, .inr (3, [.ref a_t_units, .int u62_t_count])), (a_t_units, .inl (κ.2.2.1, 1100, .inl u62_t_units))] := hD
    subst hw
    dsimp only at hf
    exact hret ((u62_t_count, u62_t_units)) H locs ls _ d_P_addExponent_65 hP hD hS (Option.some.inj hf)
  have b_40 : ∀ (t_count : Int32) (t_units : Nat → Int32) (x2 : Int32) (H : Heap) (locs : List Loc) (ls : Array Slot), f_P_addExponent_40 t_count t_units x2 = some out → zP κ [(a_t, .inr (3, [.ref a_t_units, .int t_count])), (a_t_units, .inl (κ.2.2.1, 1100, .inl t_units))] H → va_D A [(a_t, .inr (3, [.ref a_t_units, .int t_count])), (a_t_units, .inl (κ.2.2.1, 1100, .inl t_units))] → va_S A s.heap H locs → lv_has ls 3 [(0, .ref a_t), (2, .int x2)] → W p l e (zR 2 42) s m args below meth c H locs 0 0 Q (F0 m 40 ls []) := by
    intro t_count t_units x2 H locs ls hf hP hD hS hl
    unfold f_P_addExponent_40 at hf
    refine lv_iload_n hx hb d_P_addExponent_40 rfl (lv_at hl 1 rfl) ?_
    refine lv_bipush (v := 10) hx hb d_P_addExponent_41 (by decide) ?_
    refine lv_icmp_lt (tgt := 57) hx hb d_P_addExponent_43 (by decide) (fun c_43 => ?_) (fun c_43 => ?_)
    · have hf := (zbr hf).1 c_43
      exact b_57 t_count t_units x2 H locs ls hf hP hD hS hl
    · have hf := (zbr hf).2 c_43
      refine lv_aload_n hx hb d_P_addExponent_46 rfl (lv_at hl 0 rfl) ?_
      refine lv_iload_n hx hb d_P_addExponent_47 rfl (lv_at hl 1 rfl) ?_
      refine lv_bipush (v := 10) hx hb d_P_addExponent_48 (by decide) ?_
      refine lv_idiv hx hb d_P_addExponent_50 (by decide) ?_
      refine lv_bipush (v := 10) hx hb d_P_addExponent_51 (by decide) ?_
      refine lv_irem hx hb d_P_addExponent_53 (by decide) ?_
      obtain ⟨o_54, ho_54, hf⟩ := zbd hf
      refine zVv (isC := [0, 1]) (isR := []) (isN := [0, 1]) (wc := [(a_t, .inr (3, [.ref a_t_units, .int t_count])), (a_t_units, .inl (κ.2.2.1, 1100, .inl t_units))]) (wr := []) (wn := fun u => [(a_t, .inr (3, [.ref a_t_units, .int u.1])), (a_t_units, .inl (κ.2.2.1, 1100, .inl u.2))]) (rest := []) (As := [.int (jrem (x2 / 10) 10)]) hF zn_P_37 (k_P_addDigit κ X hX l a_t a_t_units H.size t_count t_units (jrem (x2 / 10) 10) o_54 ho_54) hX hXs hK hA hP hD hS ⟨by decide, by decide⟩ ⟨rfl, rfl, rfl, rfl, rfl, by decide⟩ ⟨rfl, fun _ => rfl, fun _ => rfl⟩ (ci := 3) rfl rfl rfl rfl hl.1 rfl (Nat.le_of_ble_eq_true rfl) ⟨Nat.zero_le _, Nat.zero_le _⟩ d_P_addExponent_54 (fun u H locs hw hP hD hS => ?_)
      obtain ⟨u54_t_count, u54_t_units⟩ := u
      have hP : zP κ [(a_t, .inr (3, [.ref a_t_units, .int u54_t_count])), (a_t_units, .inl (κ.2.2.1, 1100, .inl u54_t_units))] H := hP
      have hD : va_D A [(a_t, .inr (3, [.ref a_t_units, .int u54_t_count])), (a_t_units, .inl (κ.2.2.1, 1100, .inl u54_t_units))] := hD
      subst hw
      dsimp only at hf
      exact b_57 u54_t_count u54_t_units x2 H locs ls hf hP hD hS hl
  have b_18 : ∀ (t_count : Int32) (t_units : Nat → Int32) (x1 : Int32) (s1 : Int32) (H : Heap) (locs : List Loc) (ls : Array Slot), f_P_addExponent_18 t_count t_units x1 s1 = some out → zP κ [(a_t, .inr (3, [.ref a_t_units, .int t_count])), (a_t_units, .inl (κ.2.2.1, 1100, .inl t_units))] H → va_D A [(a_t, .inr (3, [.ref a_t_units, .int t_count])), (a_t_units, .inl (κ.2.2.1, 1100, .inl t_units))] → va_S A s.heap H locs → lv_has ls 3 [(0, .ref a_t), (1, .int x1)] → W p l e (zR 2 42) s m args below meth c H locs 0 0 Q (F0 m 18 ls [.int s1, .ref a_t]) := by
    intro t_count t_units x1 s1 H locs ls hf hP hD hS hl
    unfold f_P_addExponent_18 at hf
    obtain ⟨o_18, ho_18, hf⟩ := zbd hf
    refine zVv (isC := [0, 1]) (isR := []) (isN := [0, 1]) (wc := [(a_t, .inr (3, [.ref a_t_units, .int t_count])), (a_t_units, .inl (κ.2.2.1, 1100, .inl t_units))]) (wr := []) (wn := fun u => [(a_t, .inr (3, [.ref a_t_units, .int u.1])), (a_t_units, .inl (κ.2.2.1, 1100, .inl u.2))]) (rest := []) (As := [.int s1]) hF zn_P_27 (k_P_add κ X hX l a_t a_t_units H.size t_count t_units s1 o_18 ho_18) hX hXs hK hA hP hD hS ⟨by decide, by decide⟩ ⟨rfl, rfl, rfl, rfl, rfl, by decide⟩ ⟨rfl, fun _ => rfl, fun _ => rfl⟩ (ci := 3) rfl rfl rfl rfl hl.1 rfl (Nat.le_of_ble_eq_true rfl) ⟨Nat.zero_le _, Nat.zero_le _⟩ d_P_addExponent_18 (fun u H locs hw hP hD hS => ?_)
    obtain ⟨u18_t_count, u18_t_units⟩ := u
    have hP : zP κ [(a_t, .inr (3, [.ref a_t_units, .int u18_t_count])), (a_t_units, .inl (κ.2.2.1, 1100, .inl u18_t_units))] H := hP
    have hD : va_D A [(a_t, .inr (3, [.ref a_t_units, .int u18_t_count])), (a_t_units, .inl (κ.2.2.1, 1100, .inl u18_t_units))] := hD
    subst hw
    dsimp only at hf
    refine lv_iload_n hx hb d_P_addExponent_21 rfl (lv_at hl 1 rfl) ?_
    refine va_mabs hx hb (hml.trans hl.1.symm) hown (hts _ zml_P_31) (hts _ zst_JM_abs) (hts _ zin_JM) (hts _ zco_JM_abs) (by decide) (Nat.le_of_ble_eq_true rfl) (Nat.zero_le _) (Nat.zero_le _) d_P_addExponent_22 ?_
    refine lv_istore_n (lv' := [(2, .int (if 0 ≤ x1 then x1 else 0 - x1)), (0, .ref a_t), (1, .int x1)]) hx hb d_P_addExponent_25 rfl hl (by decide) rfl (fun ls hl => ?_)
    refine lv_iload_n hx hb d_P_addExponent_26 rfl (lv_at hl 0 rfl) ?_
    refine lv_bipush (v := 100) hx hb d_P_addExponent_27 (by decide) ?_
    refine lv_icmp_lt (tgt := 40) hx hb d_P_addExponent_29 (by decide) (fun c_29 => ?_) (fun c_29 => ?_)
    · have hf := (zbr hf).1 c_29
      exact b_40 u18_t_count u18_t_units (if 0 ≤ x1 then x1 else 0 - x1) H locs ls hf hP hD hS (lv_sub hl [1, 0] rfl)
    · have hf := (zbr hf).2 c_29
      refine lv_aload_n hx hb d_P_addExponent_32 rfl (lv_at hl 1 rfl) ?_
      refine lv_iload_n hx hb d_P_addExponent_33 rfl (lv_at hl 0 rfl) ?_
      refine lv_bipush (v := 100) hx hb d_P_addExponent_34 (by decide) ?_
      refine lv_idiv hx hb d_P_addExponent_36 (by decide) ?_
      obtain ⟨o_37, ho_37, hf⟩ := zbd hf
      refine zVv (isC := [0, 1]) (isR := []) (isN := [0, 1]) (wc := [(a_t, .inr (3, [.ref a_t_units, .int u18_t_count])), (a_t_units, .inl (κ.2.2.1, 1100, .inl u18_t_units))]) (wr := []) (wn := fun u => [(a_t, .inr (3, [.ref a_t_units, .int u.1])), (a_t_units, .inl (κ.2.2.1, 1100, .inl u.2))]) (rest := []) (As := [.int ((if 0 ≤ x1 then x1 else 0 - x1) / 100)]) hF zn_P_37 (k_P_addDigit κ X hX l a_t a_t_units H.size u18_t_count u18_t_units ((if 0 ≤ x1 then x1 else 0 - x1) / 100) o_37 ho_37) hX hXs hK hA hP hD hS ⟨by decide, by decide⟩ ⟨rfl, rfl, rfl, rfl, rfl, by decide⟩ ⟨rfl, fun _ => rfl, fun _ => rfl⟩ (ci := 3) rfl rfl rfl rfl hl.1 rfl (Nat.le_of_ble_eq_true rfl) ⟨Nat.zero_le _, Nat.zero_le _⟩ d_P_addExponent_37 (fun u H locs hw hP hD hS => ?_)
      obtain ⟨u37_t_count, u37_t_units⟩ := u
      have hP : zP κ [(a_t, .inr (3, [.ref a_t_units, .int u37_t_count])), (a_t_units, .inl (κ.2.2.1, 1100, .inl u37_t_units))] H := hP
      have hD : va_D A [(a_t, .inr (3, [.ref a_t_units, .int u37_t_count])), (a_t_units, .inl (κ.2.2.1, 1100, .inl u37_t_units))] := hD
      subst hw
      dsimp only at hf
      exact b_40 u37_t_count u37_t_units (if 0 ≤ x1 then x1 else 0 - x1) H locs ls hf hP hD hS (lv_sub hl [1, 0] rfl)
  unfold f_P_addExponent at hf
  refine lv_aload_n hx hb d_P_addExponent_0 rfl (lv_at hl 0 rfl) ?_
  refine lv_bipush (v := 101) hx hb d_P_addExponent_1 (by decide) ?_
  obtain ⟨o_3, ho_3, hf⟩ := zbd hf
  refine zVv (isC := [0, 1]) (isR := []) (isN := [0, 1]) (wc := [(a_t, .inr (3, [.ref a_t_units, .int t_count])), (a_t_units, .inl (κ.2.2.1, 1100, .inl t_units))]) (wr := []) (wn := fun u => [(a_t, .inr (3, [.ref a_t_units, .int u.1])), (a_t_units, .inl (κ.2.2.1, 1100, .inl u.2))]) (rest := []) (As := [.int 101]) hF zn_P_27 (k_P_add κ X hX l a_t a_t_units H.size t_count t_units 101 o_3 ho_3) hX hXs hK hA hP hD hS ⟨by decide, by decide⟩ ⟨rfl, rfl, rfl, rfl, rfl, by decide⟩ ⟨rfl, fun _ => rfl, fun _ => rfl⟩ (ci := 3) rfl rfl rfl rfl hl.1 rfl (Nat.le_of_ble_eq_true rfl) ⟨Nat.zero_le _, Nat.zero_le _⟩ d_P_addExponent_3 (fun u H locs hw hP hD hS => ?_)
  obtain ⟨u3_t_count, u3_t_units⟩ := u
  have hP : zP κ [(a_t, .inr (3, [.ref a_t_units, .int u3_t_count])), (a_t_units, .inl (κ.2.2.1, 1100, .inl u3_t_units))] H := hP
  have hD : va_D A [(a_t, .inr (3, [.ref a_t_units, .int u3_t_count])), (a_t_units, .inl (κ.2.2.1, 1100, .inl u3_t_units))] := hD
  subst hw
  dsimp only at hf
  refine lv_aload_n hx hb d_P_addExponent_6 rfl (lv_at hl 0 rfl) ?_
  refine lv_iload_n hx hb d_P_addExponent_7 rfl (lv_at hl 1 rfl) ?_
  refine lv_if_ge (tgt := 16) hx hb d_P_addExponent_8 (by decide) (fun c_8 => ?_) (fun c_8 => ?_)
  · have hf := (zbr hf).1 c_8
    refine lv_bipush (v := 43) hx hb d_P_addExponent_16 (by decide) ?_
    exact b_18 u3_t_count u3_t_units x1 43 H locs ls hf hP hD hS hl
  · have hf := (zbr hf).2 c_8
    refine lv_bipush (v := 45) hx hb d_P_addExponent_11 (by decide) ?_
    refine lv_goto (tgt := 18) hx hb d_P_addExponent_13 (by decide) ?_
    exact b_18 u3_t_count u3_t_units x1 45 H locs ls hf hP hD hS hl
theorem d_P_turnRoundFrom_0 : decode c_P_turnRoundFrom 0 = .ok (.iload_n 1, 1) := by decide +kernel
theorem d_P_turnRoundFrom_1 : decode c_P_turnRoundFrom 1 = .ok (.istore_n 2, 1) := by decide +kernel
theorem d_P_turnRoundFrom_2 : decode c_P_turnRoundFrom 2 = .ok (.aload_n 0, 1) := by decide +kernel
theorem d_P_turnRoundFrom_3 : decode c_P_turnRoundFrom 3 = .ok (.getfield 13, 3) := by decide +kernel
theorem d_P_turnRoundFrom_6 : decode c_P_turnRoundFrom 6 = .ok (.iconst 1, 1) := by decide +kernel
theorem d_P_turnRoundFrom_7 : decode c_P_turnRoundFrom 7 = .ok (.isub, 1) := by decide +kernel
theorem d_P_turnRoundFrom_8 : decode c_P_turnRoundFrom 8 = .ok (.istore_n 3, 1) := by decide +kernel
theorem d_P_turnRoundFrom_9 : decode c_P_turnRoundFrom 9 = .ok (.iload_n 2, 1) := by decide +kernel
theorem d_P_turnRoundFrom_10 : decode c_P_turnRoundFrom 10 = .ok (.ifCond .lt 45, 3) := by decide +kernel
theorem d_P_turnRoundFrom_13 : decode c_P_turnRoundFrom 13 = .ok (.iload_n 2, 1) := by decide +kernel
theorem d_P_turnRoundFrom_14 : decode c_P_turnRoundFrom 14 = .ok (.iload_n 3, 1) := by decide +kernel
theorem d_P_turnRoundFrom_15 : decode c_P_turnRoundFrom 15 = .ok (.if_icmp .ge 40, 3) := by decide +kernel
theorem d_P_turnRoundFrom_18 : decode c_P_turnRoundFrom 18 = .ok (.aload_n 0, 1) := by decide +kernel
theorem d_P_turnRoundFrom_19 : decode c_P_turnRoundFrom 19 = .ok (.getfield 9, 3) := by decide +kernel
theorem d_P_turnRoundFrom_22 : decode c_P_turnRoundFrom 22 = .ok (.iload_n 2, 1) := by decide +kernel
theorem d_P_turnRoundFrom_23 : decode c_P_turnRoundFrom 23 = .ok (.caload, 1) := by decide +kernel
theorem d_P_turnRoundFrom_24 : decode c_P_turnRoundFrom 24 = .ok (.istore 4, 2) := by decide +kernel
theorem d_P_turnRoundFrom_26 : decode c_P_turnRoundFrom 26 = .ok (.aload_n 0, 1) := by decide +kernel
theorem d_P_turnRoundFrom_27 : decode c_P_turnRoundFrom 27 = .ok (.getfield 9, 3) := by decide +kernel
theorem d_P_turnRoundFrom_30 : decode c_P_turnRoundFrom 30 = .ok (.iload_n 2, 1) := by decide +kernel
theorem d_P_turnRoundFrom_31 : decode c_P_turnRoundFrom 31 = .ok (.aload_n 0, 1) := by decide +kernel
theorem d_P_turnRoundFrom_32 : decode c_P_turnRoundFrom 32 = .ok (.getfield 9, 3) := by decide +kernel
theorem d_P_turnRoundFrom_35 : decode c_P_turnRoundFrom 35 = .ok (.iload_n 3, 1) := by decide +kernel
theorem d_P_turnRoundFrom_36 : decode c_P_turnRoundFrom 36 = .ok (.caload, 1) := by decide +kernel
theorem d_P_turnRoundFrom_37 : decode c_P_turnRoundFrom 37 = .ok (.castore, 1) := by decide +kernel
theorem d_P_turnRoundFrom_38 : decode c_P_turnRoundFrom 38 = .ok (.aload_n 0, 1) := by decide +kernel
theorem d_P_turnRoundFrom_39 : decode c_P_turnRoundFrom 39 = .ok (.getfield 9, 3) := by decide +kernel
theorem d_P_turnRoundFrom_42 : decode c_P_turnRoundFrom 42 = .ok (.iload_n 3, 1) := by decide +kernel
theorem d_P_turnRoundFrom_43 : decode c_P_turnRoundFrom 43 = .ok (.iload 4, 2) := by decide +kernel
theorem d_P_turnRoundFrom_45 : decode c_P_turnRoundFrom 45 = .ok (.castore, 1) := by decide +kernel
theorem d_P_turnRoundFrom_46 : decode c_P_turnRoundFrom 46 = .ok (.iinc 2 1, 3) := by decide +kernel
theorem d_P_turnRoundFrom_49 : decode c_P_turnRoundFrom 49 = .ok (.iinc 3 (-1), 3) := by decide +kernel
theorem d_P_turnRoundFrom_52 : decode c_P_turnRoundFrom 52 = .ok (.goto (-43), 3) := by decide +kernel
theorem d_P_turnRoundFrom_55 : decode c_P_turnRoundFrom 55 = .ok (.return_, 1) := by decide +kernel
set_option maxHeartbeats 4000000 in
set_option maxRecDepth 100000 in
theorem k_P_turnRoundFrom (κ : zC) (X : zXT) (hX : zX κ X) (l : Launch) (a_t a_t_units : Nat) (sz : Nat) (t_count : Int32) (t_units : Nat → Int32) (x1 : Int32) (out : (Nat → Int32)) (hf : f_P_turnRoundFrom t_count t_units x1 = some out) : zMet κ X l y_P_turnRoundFrom c_P_turnRoundFrom 5 none 0 0 [.ref a_t, .int x1] sz [(a_t, .inr (3, [.ref a_t_units, .int t_count])), (a_t_units, .inl (κ.2.2.1, 1100, .inl t_units))] (zQv κ (fun (u : (Nat → Int32)) => u = out) (fun u => [(a_t, .inr (3, [.ref a_t_units, .int t_count])), (a_t_units, .inl (κ.2.2.1, 1100, .inl u))])) := by
  refine zMet.ofV (by decide +kernel) (Nat.le_of_ble_eq_true rfl) ?_
  intro p e s m args below meth c ls A Q hF hK hP hD hA hXs hS hl hret
  obtain ⟨hx, hb, hml, hown, hts⟩ := id hF
  obtain ⟨H, hH⟩ : ∃ H, H = s.heap := ⟨_, rfl⟩
  obtain ⟨locs, hlo⟩ : ∃ z : List Loc, z = [] := ⟨_, rfl⟩
  replace hP : zP κ [(a_t, .inr (3, [.ref a_t_units, .int t_count])), (a_t_units, .inl (κ.2.2.1, 1100, .inl t_units))] H := by rw [hH]; exact hP
  replace hS : va_S A s.heap H locs := by rw [hH, hlo]; exact hS
  suffices hgo : W p l e (zR 0 0) s m args below meth c H locs 0 0 Q (F0 m 0 ls []) by rw [hH, hlo] at hgo; exact hgo
  clear hH hlo
  replace hl : lv_has ls 5 [(0, .ref a_t), (1, .int x1)] := hl
  have b_9 : ∀ (t_units : Nat → Int32) (x2 : Int32) (x3 : Int32) (H : Heap) (locs : List Loc) (ls : Array Slot), f_P_turnRoundFrom_9 t_count t_units x2 x3 = some out → zP κ [(a_t, .inr (3, [.ref a_t_units, .int t_count])), (a_t_units, .inl (κ.2.2.1, 1100, .inl t_units))] H → va_D A [(a_t, .inr (3, [.ref a_t_units, .int t_count])), (a_t_units, .inl (κ.2.2.1, 1100, .inl t_units))] → va_S A s.heap H locs → lv_has ls 5 [(0, .ref a_t), (2, .int x2), (3, .int x3)] → W p l e (zR 0 0) s m args below meth c H locs 0 0 Q (F0 m 9 ls []) := by
    intro t_units x2 x3 H locs ls hf hP hD hS hl
    refine zrun_ind (P := fun z : (Nat → Int32) × (Int32) × (Int32) => ∀ (H : Heap) (locs : List Loc) (ls : Array Slot), zP κ [(a_t, .inr (3, [.ref a_t_units, .int t_count])), (a_t_units, .inl (κ.2.2.1, 1100, .inl z.1))] H → va_D A [(a_t, .inr (3, [.ref a_t_units, .int t_count])), (a_t_units, .inl (κ.2.2.1, 1100, .inl z.1))] → va_S A s.heap H locs → lv_has ls 5 [(0, .ref a_t), (2, .int z.2.1), (3, .int z.2.2)] → W p l e (zR 0 0) s m args below meth c H locs 0 0 Q (F0 m 9 ls [])) ?_ hf H locs ls hP hD hS hl
    clear hf hP hD hS hl H locs ls t_units x2 x3
    intro z ih hne hexit_9 H locs ls hP hD hS hl
    obtain ⟨q_9, hf⟩ := zne hne
    have hback_9 := fun y (e : q_9 = .inl y) => ih y (e ▸ hf)
    replace hexit_9 := fun y (e : q_9 = .inr y) => hexit_9 y (e ▸ hf)
    clear ih hne
    obtain ⟨t_units, x2, x3⟩ := z
    replace hf : f_P_turnRoundFrom_9_body t_count t_units x2 x3 = some q_9 := hf
    replace hP : zP κ [(a_t, .inr (3, [.ref a_t_units, .int t_count])), (a_t_units, .inl (κ.2.2.1, 1100, .inl t_units))] H := hP
    replace hD : va_D A [(a_t, .inr (3, [.ref a_t_units, .int t_count])), (a_t_units, .inl (κ.2.2.1, 1100, .inl t_units))] := hD
    replace hl : lv_has ls 5 [(0, .ref a_t), (2, .int x2), (3, .int x3)] := hl
    unfold f_P_turnRoundFrom_9_body at hf
    refine lv_iload_n hx hb d_P_turnRoundFrom_9 rfl (lv_at hl 1 rfl) ?_
    refine lv_if_lt (tgt := 55) hx hb d_P_turnRoundFrom_10 (by decide) (fun c_10 => ?_) (fun c_10 => ?_)
    · have hf := (zbr hf).1 c_10
      have hf := zex hf hexit_9
      exact hret (t_units) H locs ls _ d_P_turnRoundFrom_55 hP hD hS (Option.some.inj hf)
    · have hf := (zbr hf).2 c_10
      refine lv_iload_n hx hb d_P_turnRoundFrom_13 rfl (lv_at hl 1 rfl) ?_
      refine lv_iload_n hx hb d_P_turnRoundFrom_14 rfl (lv_at hl 2 rfl) ?_
      refine lv_icmp_ge (tgt := 55) hx hb d_P_turnRoundFrom_15 (by decide) (fun c_15 => ?_) (fun c_15 => ?_)
      · have hf := (zbr hf).1 c_15
        have hf := zex hf hexit_9
        exact hret (t_units) H locs ls _ d_P_turnRoundFrom_55 hP hD hS (Option.some.inj hf)
      · have hf := (zbr hf).2 c_15
        refine lv_aload_n hx hb d_P_turnRoundFrom_18 rfl (lv_at hl 0 rfl) ?_
        refine va_get (C := R_P) (T := F_P) (N := 2) hx hb hts i_P hown hK hP 0 rfl rfl 0 (by decide) (hts _ zfl_P_9) (fun _ h9 => h9) rfl d_P_turnRoundFrom_19 ?_
        refine lv_iload_n hx hb d_P_turnRoundFrom_22 rfl (lv_at hl 1 rfl) ?_
        obtain ⟨g_23, hf⟩ := zgd hf
        refine va_cald hx hb hK hP 1 1 rfl rfl (zin_vp g_23) d_P_turnRoundFrom_23 ?_
        refine lv_istore (lv' := [(4, .int (t_units x2.toNatClampNeg)), (0, .ref a_t), (2, .int x2), (3, .int x3)]) hx hb d_P_turnRoundFrom_24 hl (by decide) rfl (fun ls hl => ?_)
        refine lv_aload_n hx hb d_P_turnRoundFrom_26 rfl (lv_at hl 1 rfl) ?_
        refine va_get (C := R_P) (T := F_P) (N := 2) hx hb hts i_P hown hK hP 0 rfl rfl 0 (by decide) (hts _ zfl_P_9) (fun _ h9 => h9) rfl d_P_turnRoundFrom_27 ?_
        refine lv_iload_n hx hb d_P_turnRoundFrom_30 rfl (lv_at hl 2 rfl) ?_
        refine lv_aload_n hx hb d_P_turnRoundFrom_31 rfl (lv_at hl 1 rfl) ?_
        refine va_get (C := R_P) (T := F_P) (N := 2) hx hb hts i_P hown hK hP 0 rfl rfl 0 (by decide) (hts _ zfl_P_9) (fun _ h9 => h9) rfl d_P_turnRoundFrom_32 ?_
        refine lv_iload_n hx hb d_P_turnRoundFrom_35 rfl (lv_at hl 3 rfl) ?_
        obtain ⟨g_36, hf⟩ := zgd hf
        refine va_cald hx hb hK hP 1 1 rfl rfl (zin_vp g_36) d_P_turnRoundFrom_36 ?_
        obtain ⟨g_37, hf⟩ := zgd hf
        refine va_cast hx hb hK hP hD hS 1 1 rfl rfl (zin_vp g_37) d_P_turnRoundFrom_37 (fun H locs hP hD hS => ?_)
        have hP : zP κ [(a_t, .inr (3, [.ref a_t_units, .int t_count])), (a_t_units, .inl (κ.2.2.1, 1100, .inl (upd t_units x2.toNatClampNeg (vp_nar .char (t_units x3.toNatClampNeg)))))] H := hP
        have hD : va_D A [(a_t, .inr (3, [.ref a_t_units, .int t_count])), (a_t_units, .inl (κ.2.2.1, 1100, .inl (upd t_units x2.toNatClampNeg (vp_nar .char (t_units x3.toNatClampNeg)))))] := hD
        refine lv_aload_n hx hb d_P_turnRoundFrom_38 rfl (lv_at hl 1 rfl) ?_
        refine va_get (C := R_P) (T := F_P) (N := 2) hx hb hts i_P hown hK hP 0 rfl rfl 0 (by decide) (hts _ zfl_P_9) (fun _ h9 => h9) rfl d_P_turnRoundFrom_39 ?_
        refine lv_iload_n hx hb d_P_turnRoundFrom_42 rfl (lv_at hl 3 rfl) ?_
        refine lv_iload hx hb d_P_turnRoundFrom_43 (lv_at hl 0 rfl) ?_
        obtain ⟨g_45, hf⟩ := zgd hf
        refine va_cast hx hb hK hP hD hS 1 1 rfl rfl (zin_vp g_45) d_P_turnRoundFrom_45 (fun H locs hP hD hS => ?_)
        have hP : zP κ [(a_t, .inr (3, [.ref a_t_units, .int t_count])), (a_t_units, .inl (κ.2.2.1, 1100, .inl (upd (upd t_units x2.toNatClampNeg (vp_nar .char (t_units x3.toNatClampNeg))) x3.toNatClampNeg (vp_nar .char (t_units x2.toNatClampNeg)))))] H := hP
        have hD : va_D A [(a_t, .inr (3, [.ref a_t_units, .int t_count])), (a_t_units, .inl (κ.2.2.1, 1100, .inl (upd (upd t_units x2.toNatClampNeg (vp_nar .char (t_units x3.toNatClampNeg))) x3.toNatClampNeg (vp_nar .char (t_units x2.toNatClampNeg)))))] := hD
        refine lv_iinc (v := (x2 + 1)) (lv' := [(2, .int (x2 + 1)), (4, .int (t_units x2.toNatClampNeg)), (0, .ref a_t), (3, .int x3)]) hx hb d_P_turnRoundFrom_46 hl (k := 2) rfl rfl (by decide) rfl (fun ls hl => ?_)
        refine lv_iinc (v := (x3 + (-1))) (lv' := [(3, .int (x3 + (-1))), (2, .int (x2 + 1)), (4, .int (t_units x2.toNatClampNeg)), (0, .ref a_t)]) hx hb d_P_turnRoundFrom_49 hl (k := 3) rfl rfl (by decide) rfl (fun ls hl => ?_)
        refine lv_goto (tgt := 9) hx hb d_P_turnRoundFrom_52 (by decide) ?_
        exact hback_9 _ (Option.some.inj hf).symm H locs ls hP hD hS (lv_sub hl [3, 1, 0] rfl)
  unfold f_P_turnRoundFrom at hf
  refine lv_iload_n hx hb d_P_turnRoundFrom_0 rfl (lv_at hl 1 rfl) ?_
  refine lv_istore_n (lv' := [(2, .int x1), (0, .ref a_t), (1, .int x1)]) hx hb d_P_turnRoundFrom_1 rfl hl (by decide) rfl (fun ls hl => ?_)
  refine lv_aload_n hx hb d_P_turnRoundFrom_2 rfl (lv_at hl 1 rfl) ?_
  refine va_get (C := R_P) (T := F_P) (N := 2) hx hb hts i_P hown hK hP 0 rfl rfl 1 (by decide) (hts _ zfl_P_13) (fun _ h9 => h9) rfl d_P_turnRoundFrom_3 ?_
  refine lv_iconst (v := 1) hx hb d_P_turnRoundFrom_6 (by decide) ?_
  refine lv_isub hx hb d_P_turnRoundFrom_7 ?_
  refine lv_istore_n (lv' := [(3, .int (t_count - 1)), (2, .int x1), (0, .ref a_t), (1, .int x1)]) hx hb d_P_turnRoundFrom_8 rfl hl (by decide) rfl (fun ls hl => ?_)
  exact b_9 t_units x1 (t_count - 1) H locs ls hf hP hD hS (lv_sub hl [2, 1, 0] rfl)
theorem d_P_dropTrailing_0 : decode c_P_dropTrailing 0 = .ok (.aload_n 0, 1) := by decide +kernel
theorem d_P_dropTrailing_1 : decode c_P_dropTrailing 1 = .ok (.getfield 13, 3) := by decide +kernel
theorem d_P_dropTrailing_4 : decode c_P_dropTrailing 4 = .ok (.ifCond .le 31, 3) := by decide +kernel
theorem d_P_dropTrailing_7 : decode c_P_dropTrailing 7 = .ok (.aload_n 0, 1) := by decide +kernel
theorem d_P_dropTrailing_8 : decode c_P_dropTrailing 8 = .ok (.getfield 9, 3) := by decide +kernel
theorem d_P_dropTrailing_11 : decode c_P_dropTrailing 11 = .ok (.aload_n 0, 1) := by decide +kernel
theorem d_P_dropTrailing_12 : decode c_P_dropTrailing 12 = .ok (.getfield 13, 3) := by decide +kernel
theorem d_P_dropTrailing_15 : decode c_P_dropTrailing 15 = .ok (.iconst 1, 1) := by decide +kernel
theorem d_P_dropTrailing_16 : decode c_P_dropTrailing 16 = .ok (.isub, 1) := by decide +kernel
theorem d_P_dropTrailing_17 : decode c_P_dropTrailing 17 = .ok (.caload, 1) := by decide +kernel
theorem d_P_dropTrailing_18 : decode c_P_dropTrailing 18 = .ok (.iload_n 1, 1) := by decide +kernel
theorem d_P_dropTrailing_19 : decode c_P_dropTrailing 19 = .ok (.if_icmp .ne 16, 3) := by decide +kernel
theorem d_P_dropTrailing_22 : decode c_P_dropTrailing 22 = .ok (.aload_n 0, 1) := by decide +kernel
theorem d_P_dropTrailing_23 : decode c_P_dropTrailing 23 = .ok (.dup, 1) := by decide +kernel
theorem d_P_dropTrailing_24 : decode c_P_dropTrailing 24 = .ok (.getfield 13, 3) := by decide +kernel
theorem d_P_dropTrailing_27 : decode c_P_dropTrailing 27 = .ok (.iconst 1, 1) := by decide +kernel
theorem d_P_dropTrailing_28 : decode c_P_dropTrailing 28 = .ok (.isub, 1) := by decide +kernel
theorem d_P_dropTrailing_29 : decode c_P_dropTrailing 29 = .ok (.putfield 13, 3) := by decide +kernel
theorem d_P_dropTrailing_32 : decode c_P_dropTrailing 32 = .ok (.goto (-32), 3) := by decide +kernel
theorem d_P_dropTrailing_35 : decode c_P_dropTrailing 35 = .ok (.return_, 1) := by decide +kernel
set_option maxHeartbeats 4000000 in
set_option maxRecDepth 100000 in
theorem k_P_dropTrailing (κ : zC) (X : zXT) (hX : zX κ X) (l : Launch) (a_t a_t_units : Nat) (sz : Nat) (t_count : Int32) (t_units : Nat → Int32) (x1 : Int32) (out : (Int32)) (hf : f_P_dropTrailing t_count t_units x1 = some out) : zMet κ X l y_P_dropTrailing c_P_dropTrailing 2 none 0 0 [.ref a_t, .int x1] sz [(a_t, .inr (3, [.ref a_t_units, .int t_count])), (a_t_units, .inl (κ.2.2.1, 1100, .inl t_units))] (zQv κ (fun (u : (Int32)) => u = out) (fun u => [(a_t, .inr (3, [.ref a_t_units, .int u])), (a_t_units, .inl (κ.2.2.1, 1100, .inl t_units))])) := by
  refine zMet.ofV (by decide +kernel) (Nat.le_of_ble_eq_true rfl) ?_
  intro p e s m args below meth c ls A Q hF hK hP hD hA hXs hS hl hret
  obtain ⟨hx, hb, hml, hown, hts⟩ := id hF
  obtain ⟨H, hH⟩ : ∃ H, H = s.heap := ⟨_, rfl⟩
  obtain ⟨locs, hlo⟩ : ∃ z : List Loc, z = [] := ⟨_, rfl⟩
  replace hP : zP κ [(a_t, .inr (3, [.ref a_t_units, .int t_count])), (a_t_units, .inl (κ.2.2.1, 1100, .inl t_units))] H := by rw [hH]; exact hP
  replace hS : va_S A s.heap H locs := by rw [hH, hlo]; exact hS
  suffices hgo : W p l e (zR 0 0) s m args below meth c H locs 0 0 Q (F0 m 0 ls []) by rw [hH, hlo] at hgo; exact hgo
  clear hH hlo
  replace hl : lv_has ls 2 [(0, .ref a_t), (1, .int x1)] := hl
  have b_0 : ∀ (t_count : Int32) (x1 : Int32) (H : Heap) (locs : List Loc) (ls : Array Slot), f_P_dropTrailing_0 t_count t_units x1 = some out → zP κ [(a_t, .inr (3, [.ref a_t_units, .int t_count])), (a_t_units, .inl (κ.2.2.1, 1100, .inl t_units))] H → va_D A [(a_t, .inr (3, [.ref a_t_units, .int t_count])), (a_t_units, .inl (κ.2.2.1, 1100, .inl t_units))] → va_S A s.heap H locs → lv_has ls 2 [(0, .ref a_t), (1, .int x1)] → W p l e (zR 0 0) s m args below meth c H locs 0 0 Q (F0 m 0 ls []) := by
    intro t_count x1 H locs ls hf hP hD hS hl
    refine zrun_ind (P := fun z : (Int32) => ∀ (H : Heap) (locs : List Loc) (ls : Array Slot), zP κ [(a_t, .inr (3, [.ref a_t_units, .int z])), (a_t_units, .inl (κ.2.2.1, 1100, .inl t_units))] H → va_D A [(a_t, .inr (3, [.ref a_t_units, .int z])), (a_t_units, .inl (κ.2.2.1, 1100, .inl t_units))] → va_S A s.heap H locs → lv_has ls 2 [(0, .ref a_t), (1, .int x1)] → W p l e (zR 0 0) s m args below meth c H locs 0 0 Q (F0 m 0 ls [])) ?_ hf H locs ls hP hD hS hl
    clear hf hP hD hS hl H locs ls t_count
    intro z ih hne hexit_0 H locs ls hP hD hS hl
    obtain ⟨q_0, hf⟩ := zne hne
    have hback_0 := fun y (e : q_0 = .inl y) => ih y (e ▸ hf)
    replace hexit_0 := fun y (e : q_0 = .inr y) => hexit_0 y (e ▸ hf)
    clear ih hne
    obtain ⟨t_count, rfl⟩ : ∃ w, w = z := ⟨_, rfl⟩
    replace hf : f_P_dropTrailing_0_body t_units x1 t_count = some q_0 := hf
    replace hP : zP κ [(a_t, .inr (3, [.ref a_t_units, .int t_count])), (a_t_units, .inl (κ.2.2.1, 1100, .inl t_units))] H := hP
    replace hD : va_D A [(a_t, .inr (3, [.ref a_t_units, .int t_count])), (a_t_units, .inl (κ.2.2.1, 1100, .inl t_units))] := hD
    replace hl : lv_has ls 2 [(0, .ref a_t), (1, .int x1)] := hl
    unfold f_P_dropTrailing_0_body at hf
    refine lv_aload_n hx hb d_P_dropTrailing_0 rfl (lv_at hl 0 rfl) ?_
    refine va_get (C := R_P) (T := F_P) (N := 2) hx hb hts i_P hown hK hP 0 rfl rfl 1 (by decide) (hts _ zfl_P_13) (fun _ h9 => h9) rfl d_P_dropTrailing_1 ?_
    refine lv_if_le (tgt := 35) hx hb d_P_dropTrailing_4 (by decide) (fun c_4 => ?_) (fun c_4 => ?_)
    · have hf := (zbr hf).1 c_4
      have hf := zex hf hexit_0
      exact hret (t_count) H locs ls _ d_P_dropTrailing_35 hP hD hS (Option.some.inj hf)
    · have hf := (zbr hf).2 c_4
      refine lv_aload_n hx hb d_P_dropTrailing_7 rfl (lv_at hl 0 rfl) ?_
      refine va_get (C := R_P) (T := F_P) (N := 2) hx hb hts i_P hown hK hP 0 rfl rfl 0 (by decide) (hts _ zfl_P_9) (fun _ h9 => h9) rfl d_P_dropTrailing_8 ?_
      refine lv_aload_n hx hb d_P_dropTrailing_11 rfl (lv_at hl 0 rfl) ?_
      refine va_get (C := R_P) (T := F_P) (N := 2) hx hb hts i_P hown hK hP 0 rfl rfl 1 (by decide) (hts _ zfl_P_13) (fun _ h9 => h9) rfl d_P_dropTrailing_12 ?_
      refine lv_iconst (v := 1) hx hb d_P_dropTrailing_15 (by decide) ?_
      refine lv_isub hx hb d_P_dropTrailing_16 ?_
      obtain ⟨g_17, hf⟩ := zgd hf
      refine va_cald hx hb hK hP 1 1 rfl rfl (zin_vp g_17) d_P_dropTrailing_17 ?_
      refine lv_iload_n hx hb d_P_dropTrailing_18 rfl (lv_at hl 1 rfl) ?_
      refine lv_icmp_ne (tgt := 35) hx hb d_P_dropTrailing_19 (by decide) (fun c_19 => ?_) (fun c_19 => ?_)
      · have hf := (zbr hf).2 c_19
        have hf := zex hf hexit_0
        exact hret (t_count) H locs ls _ d_P_dropTrailing_35 hP hD hS (Option.some.inj hf)
      · have hf := (zbr hf).1 c_19
        refine lv_aload_n hx hb d_P_dropTrailing_22 rfl (lv_at hl 0 rfl) ?_
        refine lv_dup hx hb d_P_dropTrailing_23 rfl ?_
        refine va_get (C := R_P) (T := F_P) (N := 2) hx hb hts i_P hown hK hP 0 rfl rfl 1 (by decide) (hts _ zfl_P_13) (fun _ h9 => h9) rfl d_P_dropTrailing_24 ?_
        refine lv_iconst (v := 1) hx hb d_P_dropTrailing_27 (by decide) ?_
        refine lv_isub hx hb d_P_dropTrailing_28 ?_
        refine va_put (C := R_P) (T := F_P) (N := 2) hx hb hts i_P ty_P ty_P_ok n_P hown hK hP hD hS 0 rfl rfl 1 (by decide) (hts _ zfl_P_13) (fun _ h9 => h9) rfl (ty_P_ok 1 (by decide)) rfl rfl (Nat.le_of_ble_eq_true rfl) d_P_dropTrailing_29 (fun H locs hP hD hS => ?_)
        have hP : zP κ [(a_t, .inr (3, [.ref a_t_units, .int (t_count - 1)])), (a_t_units, .inl (κ.2.2.1, 1100, .inl t_units))] H := hP
        have hD : va_D A [(a_t, .inr (3, [.ref a_t_units, .int (t_count - 1)])), (a_t_units, .inl (κ.2.2.1, 1100, .inl t_units))] := hD
        refine lv_goto (tgt := 0) hx hb d_P_dropTrailing_32 (by decide) ?_
        exact hback_0 _ (Option.some.inj hf).symm H locs ls hP hD hS hl
  unfold f_P_dropTrailing at hf
  exact b_0 t_count x1 H locs ls hf hP hD hS hl
