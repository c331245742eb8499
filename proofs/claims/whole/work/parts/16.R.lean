theorem d_R_hasRoomFor_0 : decode c_R_hasRoomFor 0 = .ok (.iload_n 1, 1) := by decide +kernel
theorem d_R_hasRoomFor_1 : decode c_R_hasRoomFor 1 = .ok (.sipush 600, 3) := by decide +kernel
theorem d_R_hasRoomFor_4 : decode c_R_hasRoomFor 4 = .ok (.aload_n 0, 1) := by decide +kernel
theorem d_R_hasRoomFor_5 : decode c_R_hasRoomFor 5 = .ok (.getfield 13, 3) := by decide +kernel
theorem d_R_hasRoomFor_8 : decode c_R_hasRoomFor 8 = .ok (.isub, 1) := by decide +kernel
theorem d_R_hasRoomFor_9 : decode c_R_hasRoomFor 9 = .ok (.if_icmp .gt 7, 3) := by decide +kernel
theorem d_R_hasRoomFor_12 : decode c_R_hasRoomFor 12 = .ok (.iconst 1, 1) := by decide +kernel
theorem d_R_hasRoomFor_13 : decode c_R_hasRoomFor 13 = .ok (.goto 4, 3) := by decide +kernel
theorem d_R_hasRoomFor_16 : decode c_R_hasRoomFor 16 = .ok (.iconst 0, 1) := by decide +kernel
theorem d_R_hasRoomFor_17 : decode c_R_hasRoomFor 17 = .ok (.ireturn, 1) := by decide +kernel
set_option maxHeartbeats 4000000 in
set_option maxRecDepth 100000 in
theorem k_R_hasRoomFor (κ : zC) (X : zXT) (hX : zX κ X) (l : Launch) (a_t a_t_units a_t_numerator a_t_denominator : Nat) (sz : Nat) (t_count : Int32) (t_at : Int32) (t_end : Int32) (t_counting : Int32) (t_power : Int32) (x1 : Int32) (out : Int32) (hf : f_R_hasRoomFor t_count t_at t_end t_counting t_power x1 = some out) : zMet κ X l y_R_hasRoomFor c_R_hasRoomFor 2 (some .boolean) 0 0 [.ref a_t, .int x1] sz [(a_t, .inr (4, [.ref a_t_units, .int t_count, .int t_at, .int t_end, .ref a_t_numerator, .ref a_t_denominator, .int t_counting, .int t_power]))] (zQi κ (fun (r : Int32) (_ : Unit) => r = out) (fun u => [(a_t, .inr (4, [.ref a_t_units, .int t_count, .int t_at, .int t_end, .ref a_t_numerator, .ref a_t_denominator, .int t_counting, .int t_power]))])) := by
  refine zMet.ofZ (by decide +kernel) (Nat.le_of_ble_eq_true rfl) ?_
  intro p e s m args below meth c ls A Q hF hK hP hD hA hXs hS hl hret
  obtain ⟨hx, hb, hml, hown, hts⟩ := id hF
  obtain ⟨H, hH⟩ : ∃ H, H = s.heap := ⟨_, rfl⟩
  obtain ⟨locs, hlo⟩ : ∃ z : List Loc, z = [] := ⟨_, rfl⟩
  replace hP : zP κ [(a_t, .inr (4, [.ref a_t_units, .int t_count, .int t_at, .int t_end, .ref a_t_numerator, .ref a_t_denominator, .int t_counting, .int t_power]))] H := by rw [hH]; exact hP
  replace hS : va_S A s.heap H locs := by rw [hH, hlo]; exact hS
  suffices hgo : W p l e (zR 0 0) s m args below meth c H locs 0 0 Q (F0 m 0 ls []) by rw [hH, hlo] at hgo; exact hgo
  clear hH hlo
  replace hl : lv_has ls 2 [(0, .ref a_t), (1, .int x1)] := hl
  unfold f_R_hasRoomFor at hf
  refine lv_iload_n hx hb d_R_hasRoomFor_0 rfl (lv_at hl 1 rfl) ?_
  refine lv_sipush (v := 600) hx hb d_R_hasRoomFor_1 (by decide) ?_
  refine lv_aload_n hx hb d_R_hasRoomFor_4 rfl (lv_at hl 0 rfl) ?_
  refine va_get (C := R_R) (T := F_R) (N := 8) hx hb hts i_R hown hK hP 0 rfl rfl 1 (by decide) (hts _ zfl_R_13) (fun _ h9 => h9) rfl d_R_hasRoomFor_5 ?_
  refine lv_isub hx hb d_R_hasRoomFor_8 ?_
  refine lv_icmp_gt (tgt := 16) hx hb d_R_hasRoomFor_9 (by decide) (fun c_9 => ?_) (fun c_9 => ?_)
  · have hf := (zbr hf).1 c_9
    refine lv_iconst (v := 0) hx hb d_R_hasRoomFor_16 (by decide) ?_
    exact hret ((0 : Int32)) () H locs ls _ d_R_hasRoomFor_17 hP hD hS (by decide) (Option.some.inj hf)
  · have hf := (zbr hf).2 c_9
    refine lv_iconst (v := 1) hx hb d_R_hasRoomFor_12 (by decide) ?_
    refine lv_goto (tgt := 17) hx hb d_R_hasRoomFor_13 (by decide) ?_
    exact hret ((1 : Int32)) () H locs ls _ d_R_hasRoomFor_17 hP hD hS (by decide) (Option.some.inj hf)
theorem d_R_append_0 : decode c_R_append 0 = .ok (.aload_n 0, 1) := by decide +kernel
theorem d_R_append_1 : decode c_R_append 1 = .ok (.getfield 13, 3) := by decide +kernel
theorem d_R_append_4 : decode c_R_append 4 = .ok (.sipush 600, 3) := by decide +kernel
theorem d_R_append_7 : decode c_R_append 7 = .ok (.if_icmp .ge 23, 3) := by decide +kernel
theorem d_R_append_10 : decode c_R_append 10 = .ok (.aload_n 0, 1) := by decide +kernel
theorem d_R_append_11 : decode c_R_append 11 = .ok (.getfield 9, 3) := by decide +kernel
theorem d_R_append_14 : decode c_R_append 14 = .ok (.aload_n 0, 1) := by decide +kernel
theorem d_R_append_15 : decode c_R_append 15 = .ok (.getfield 13, 3) := by decide +kernel
theorem d_R_append_18 : decode c_R_append 18 = .ok (.iload_n 1, 1) := by decide +kernel
theorem d_R_append_19 : decode c_R_append 19 = .ok (.iastore, 1) := by decide +kernel
theorem d_R_append_20 : decode c_R_append 20 = .ok (.aload_n 0, 1) := by decide +kernel
theorem d_R_append_21 : decode c_R_append 21 = .ok (.dup, 1) := by decide +kernel
theorem d_R_append_22 : decode c_R_append 22 = .ok (.getfield 13, 3) := by decide +kernel
theorem d_R_append_25 : decode c_R_append 25 = .ok (.iconst 1, 1) := by decide +kernel
theorem d_R_append_26 : decode c_R_append 26 = .ok (.iadd, 1) := by decide +kernel
theorem d_R_append_27 : decode c_R_append 27 = .ok (.putfield 13, 3) := by decide +kernel
theorem d_R_append_30 : decode c_R_append 30 = .ok (.return_, 1) := by decide +kernel
set_option maxHeartbeats 4000000 in
set_option maxRecDepth 100000 in
theorem k_R_append (κ : zC) (X : zXT) (hX : zX κ X) (l : Launch) (a_t a_t_units a_t_numerator a_t_denominator : Nat) (sz : Nat) (t_count : Int32) (t_at : Int32) (t_end : Int32) (t_counting : Int32) (t_power : Int32) (t_units : Nat → Int32) (x1 : Int32) (out : (Int32) × (Nat → Int32)) (hf : f_R_append t_count t_at t_end t_counting t_power t_units x1 = some out) : zMet κ X l y_R_append c_R_append 2 none 0 0 [.ref a_t, .int x1] sz [(a_t, .inr (4, [.ref a_t_units, .int t_count, .int t_at, .int t_end, .ref a_t_numerator, .ref a_t_denominator, .int t_counting, .int t_power])), (a_t_units, .inl (κ.2.1, 600, .inl t_units))] (zQv κ (fun (u : (Int32) × (Nat → Int32)) => u = out) (fun u => [(a_t, .inr (4, [.ref a_t_units, .int u.1, .int t_at, .int t_end, .ref a_t_numerator, .ref a_t_denominator, .int t_counting, .int t_power])), (a_t_units, .inl (κ.2.1, 600, .inl u.2))])) := by
  refine zMet.ofV (by decide +kernel) (Nat.le_of_ble_eq_true rfl) ?_
  intro p e s m args below meth c ls A Q hF hK hP hD hA hXs hS hl hret
  obtain ⟨hx, hb, hml, hown, hts⟩ := id hF
  obtain ⟨H, hH⟩ : ∃ H, H = s.heap := ⟨_, rfl⟩
  obtain ⟨locs, hlo⟩ : ∃ z : List Loc, z = [] := ⟨_, rfl⟩
  replace hP : zP κ [(a_t, .inr (4, [.ref a_t_units, .int t_count, .int t_at, .int t_end, .ref a_t_numerator, .ref a_t_denominator, .int t_counting, .int t_power])), (a_t_units, .inl (κ.2.1, 600, .inl t_units))] H := by rw [hH]; exact hP
  replace hS : va_S A s.heap H locs := by rw [hH, hlo]; exact hS
  suffices hgo : W p l e (zR 0 0) s m args below meth c H locs 0 0 Q (F0 m 0 ls []) by rw [hH, hlo] at hgo; exact hgo
  clear hH hlo
  replace hl : lv_has ls 2 [(0, .ref a_t), (1, .int x1)] := hl
  unfold f_R_append at hf
  refine lv_aload_n hx hb d_R_append_0 rfl (lv_at hl 0 rfl) ?_
  refine va_get (C := R_R) (T := F_R) (N := 8) hx hb hts i_R hown hK hP 0 rfl rfl 1 (by decide) (hts _ zfl_R_13) (fun _ h9 => h9) rfl d_R_append_1 ?_
  refine lv_sipush (v := 600) hx hb d_R_append_4 (by decide) ?_
  refine lv_icmp_ge (tgt := 30) hx hb d_R_append_7 (by decide) (fun c_7 => ?_) (fun c_7 => ?_)
  · have hf := (zbr hf).1 c_7
    exact hret ((t_count, t_units)) H locs ls _ d_R_append_30 hP hD hS (Option.some.inj hf)
  · have hf := (zbr hf).2 c_7
    refine lv_aload_n hx hb d_R_append_10 rfl (lv_at hl 0 rfl) ?_
    refine va_get (C := R_R) (T := F_R) (N := 8) hx hb hts i_R hown hK hP 0 rfl rfl 0 (by decide) (hts _ zfl_R_9) (fun _ h9 => h9) rfl d_R_append_11 ?_
    refine lv_aload_n hx hb d_R_append_14 rfl (lv_at hl 0 rfl) ?_
    refine va_get (C := R_R) (T := F_R) (N := 8) hx hb hts i_R hown hK hP 0 rfl rfl 1 (by decide) (hts _ zfl_R_13) (fun _ h9 => h9) rfl d_R_append_15 ?_
    refine lv_iload_n hx hb d_R_append_18 rfl (lv_at hl 1 rfl) ?_
    obtain ⟨g_19, hf⟩ := zgd hf
    refine va_iast hx hb hK hP hD hS 1 0 rfl rfl (zin_vp g_19) d_R_append_19 (fun H locs hP hD hS => ?_)
    have hP : zP κ [(a_t, .inr (4, [.ref a_t_units, .int t_count, .int t_at, .int t_end, .ref a_t_numerator, .ref a_t_denominator, .int t_counting, .int t_power])), (a_t_units, .inl (κ.2.1, 600, .inl (upd t_units t_count.toNatClampNeg x1)))] H := hP
    have hD : va_D A [(a_t, .inr (4, [.ref a_t_units, .int t_count, .int t_at, .int t_end, .ref a_t_numerator, .ref a_t_denominator, .int t_counting, .int t_power])), (a_t_units, .inl (κ.2.1, 600, .inl (upd t_units t_count.toNatClampNeg x1)))] := hD
    refine lv_aload_n hx hb d_R_append_20 rfl (lv_at hl 0 rfl) ?_
    refine lv_dup hx hb d_R_append_21 rfl ?_
    refine va_get (C := R_R) (T := F_R) (N := 8) hx hb hts i_R hown hK hP 0 rfl rfl 1 (by decide) (hts _ zfl_R_13) (fun _ h9 => h9) rfl d_R_append_22 ?_
    refine lv_iconst (v := 1) hx hb d_R_append_25 (by decide) ?_
    refine lv_iadd hx hb d_R_append_26 ?_
    refine va_put (C := R_R) (T := F_R) (N := 8) hx hb hts i_R ty_R ty_R_ok n_R hown hK hP hD hS 0 rfl rfl 1 (by decide) (hts _ zfl_R_13) (fun _ h9 => h9) rfl (ty_R_ok 1 (by decide)) rfl rfl (Nat.le_of_ble_eq_true rfl) d_R_append_27 (fun H locs hP hD hS => ?_)
    have hP : zP κ [(a_t, .inr (4, [.ref a_t_units, .int (t_count + 1), .int t_at, .int t_end, .ref a_t_numerator, .ref a_t_denominator, .int t_counting, .int t_power])), (a_t_units, .inl (κ.2.1, 600, .inl (upd t_units t_count.toNatClampNeg x1)))] H := hP
    have hD : va_D A [(a_t, .inr (4, [.ref a_t_units, .int (t_count + 1), .int t_at, .int t_end, .ref a_t_numerator, .ref a_t_denominator, .int t_counting, .int t_power])), (a_t_units, .inl (κ.2.1, 600, .inl (upd t_units t_count.toNatClampNeg x1)))] := hD
    exact hret (((t_count + 1), (upd t_units t_count.toNatClampNeg x1))) H locs ls _ d_R_append_30 hP hD hS (Option.some.inj hf)
theorem d_R_length_0 : decode c_R_length 0 = .ok (.aload_n 0, 1) := by decide +kernel
theorem d_R_length_1 : decode c_R_length 1 = .ok (.getfield 13, 3) := by decide +kernel
theorem d_R_length_4 : decode c_R_length 4 = .ok (.ireturn, 1) := by decide +kernel
set_option maxHeartbeats 4000000 in
set_option maxRecDepth 100000 in
theorem k_R_length (κ : zC) (X : zXT) (hX : zX κ X) (l : Launch) (a_t a_t_units a_t_numerator a_t_denominator : Nat) (sz : Nat) (t_count : Int32) (t_at : Int32) (t_end : Int32) (t_counting : Int32) (t_power : Int32) (out : Int32) (hf : f_R_length t_count t_at t_end t_counting t_power = some out) : zMet κ X l y_R_length c_R_length 1 (some .int) 0 0 [.ref a_t] sz [(a_t, .inr (4, [.ref a_t_units, .int t_count, .int t_at, .int t_end, .ref a_t_numerator, .ref a_t_denominator, .int t_counting, .int t_power]))] (zQi κ (fun (r : Int32) (_ : Unit) => r = out) (fun u => [(a_t, .inr (4, [.ref a_t_units, .int t_count, .int t_at, .int t_end, .ref a_t_numerator, .ref a_t_denominator, .int t_counting, .int t_power]))])) := by
  refine zMet.ofI (by decide +kernel) (Nat.le_of_ble_eq_true rfl) ?_
  intro p e s m args below meth c ls A Q hF hK hP hD hA hXs hS hl hret
  obtain ⟨hx, hb, hml, hown, hts⟩ := id hF
  obtain ⟨H, hH⟩ : ∃ H, H = s.heap := ⟨_, rfl⟩
  obtain ⟨locs, hlo⟩ : ∃ z : List Loc, z = [] := ⟨_, rfl⟩
  replace hP : zP κ [(a_t, .inr (4, [.ref a_t_units, .int t_count, .int t_at, .int t_end, .ref a_t_numerator, .ref a_t_denominator, .int t_counting, .int t_power]))] H := by rw [hH]; exact hP
  replace hS : va_S A s.heap H locs := by rw [hH, hlo]; exact hS
  suffices hgo : W p l e (zR 0 0) s m args below meth c H locs 0 0 Q (F0 m 0 ls []) by rw [hH, hlo] at hgo; exact hgo
  clear hH hlo
  replace hl : lv_has ls 1 [(0, .ref a_t)] := hl
  unfold f_R_length at hf
  refine lv_aload_n hx hb d_R_length_0 rfl (lv_at hl 0 rfl) ?_
  refine va_get (C := R_R) (T := F_R) (N := 8) hx hb hts i_R hown hK hP 0 rfl rfl 1 (by decide) (hts _ zfl_R_13) (fun _ h9 => h9) rfl d_R_length_1 ?_
  exact hret (t_count) () H locs ls _ d_R_length_4 hP hD hS (Option.some.inj hf)
theorem d_R_clear_0 : decode c_R_clear 0 = .ok (.aload_n 0, 1) := by decide +kernel
theorem d_R_clear_1 : decode c_R_clear 1 = .ok (.iconst 0, 1) := by decide +kernel
theorem d_R_clear_2 : decode c_R_clear 2 = .ok (.putfield 13, 3) := by decide +kernel
theorem d_R_clear_5 : decode c_R_clear 5 = .ok (.return_, 1) := by decide +kernel
set_option maxHeartbeats 4000000 in
set_option maxRecDepth 100000 in
theorem k_R_clear (κ : zC) (X : zXT) (hX : zX κ X) (l : Launch) (a_t a_t_units a_t_numerator a_t_denominator : Nat) (sz : Nat) (t_count : Int32) (t_at : Int32) (t_end : Int32) (t_counting : Int32) (t_power : Int32) (out : (Int32)) (hf : f_R_clear t_count t_at t_end t_counting t_power = some out) : zMet κ X l y_R_clear c_R_clear 1 none 0 0 [.ref a_t] sz [(a_t, .inr (4, [.ref a_t_units, .int t_count, .int t_at, .int t_end, .ref a_t_numerator, .ref a_t_denominator, .int t_counting, .int t_power]))] (zQv κ (fun (u : (Int32)) => u = out) (fun u => [(a_t, .inr (4, [.ref a_t_units, .int u, .int t_at, .int t_end, .ref a_t_numerator, .ref a_t_denominator, .int t_counting, .int t_power]))])) := by
  refine zMet.ofV (by decide +kernel) (Nat.le_of_ble_eq_true rfl) ?_
  intro p e s m args below meth c ls A Q hF hK hP hD hA hXs hS hl hret
  obtain ⟨hx, hb, hml, hown, hts⟩ := id hF
  obtain ⟨H, hH⟩ : ∃ H, H = s.heap := ⟨_, rfl⟩
  obtain ⟨locs, hlo⟩ : ∃ z : List Loc, z = [] := ⟨_, rfl⟩
  replace hP : zP κ [(a_t, .inr (4, [.ref a_t_units, .int t_count, .int t_at, .int t_end, .ref a_t_numerator, .ref a_t_denominator, .int t_counting, .int t_power]))] H := by rw [hH]; exact hP
  replace hS : va_S A s.heap H locs := by rw [hH, hlo]; exact hS
  suffices hgo : W p l e (zR 0 0) s m args below meth c H locs 0 0 Q (F0 m 0 ls []) by rw [hH, hlo] at hgo; exact hgo
  clear hH hlo
  replace hl : lv_has ls 1 [(0, .ref a_t)] := hl
  unfold f_R_clear at hf
  refine lv_aload_n hx hb d_R_clear_0 rfl (lv_at hl 0 rfl) ?_
  refine lv_iconst (v := 0) hx hb d_R_clear_1 (by decide) ?_
  refine va_put (C := R_R) (T := F_R) (N := 8) hx hb hts i_R ty_R ty_R_ok n_R hown hK hP hD hS 0 rfl rfl 1 (by decide) (hts _ zfl_R_13) (fun _ h9 => h9) rfl (ty_R_ok 1 (by decide)) rfl rfl (Nat.le_of_ble_eq_true rfl) d_R_clear_2 (fun H locs hP hD hS => ?_)
  have hP : zP κ [(a_t, .inr (4, [.ref a_t_units, .int 0, .int t_at, .int t_end, .ref a_t_numerator, .ref a_t_denominator, .int t_counting, .int t_power]))] H := hP
  have hD : va_D A [(a_t, .inr (4, [.ref a_t_units, .int 0, .int t_at, .int t_end, .ref a_t_numerator, .ref a_t_denominator, .int t_counting, .int t_power]))] := hD
  exact hret (0) H locs ls _ d_R_clear_5 hP hD hS (Option.some.inj hf)
theorem d_R_isDigit_0 : decode c_R_isDigit 0 = .ok (.iload_n 0, 1) := by decide +kernel
theorem d_R_isDigit_1 : decode c_R_isDigit 1 = .ok (.bipush 48, 2) := by decide +kernel
theorem d_R_isDigit_3 : decode c_R_isDigit 3 = .ok (.if_icmp .lt 13, 3) := by decide +kernel
theorem d_R_isDigit_6 : decode c_R_isDigit 6 = .ok (.iload_n 0, 1) := by decide +kernel
theorem d_R_isDigit_7 : decode c_R_isDigit 7 = .ok (.bipush 57, 2) := by decide +kernel
theorem d_R_isDigit_9 : decode c_R_isDigit 9 = .ok (.if_icmp .gt 7, 3) := by decide +kernel
theorem d_R_isDigit_12 : decode c_R_isDigit 12 = .ok (.iconst 1, 1) := by decide +kernel
theorem d_R_isDigit_13 : decode c_R_isDigit 13 = .ok (.goto 4, 3) := by decide +kernel
theorem d_R_isDigit_16 : decode c_R_isDigit 16 = .ok (.iconst 0, 1) := by decide +kernel
theorem d_R_isDigit_17 : decode c_R_isDigit 17 = .ok (.ireturn, 1) := by decide +kernel
set_option maxHeartbeats 4000000 in
set_option maxRecDepth 100000 in
theorem k_R_isDigit (κ : zC) (X : zXT) (hX : zX κ X) (l : Launch) (sz : Nat) (x0 : Int32) (out : Int32) (hf : f_R_isDigit x0 = some out) : zMet κ X l y_R_isDigit c_R_isDigit 1 (some .boolean) 0 0 [.int x0] sz [] (zQi κ (fun (r : Int32) (_ : Unit) => r = out) (fun u => [])) := by
  refine zMet.ofZ (by decide +kernel) (Nat.le_of_ble_eq_true rfl) ?_
  intro p e s m args below meth c ls A Q hF hK hP hD hA hXs hS hl hret
  obtain ⟨hx, hb, hml, hown, hts⟩ := id hF
  obtain ⟨H, hH⟩ : ∃ H, H = s.heap := ⟨_, rfl⟩
  obtain ⟨locs, hlo⟩ : ∃ z : List Loc, z = [] := ⟨_, rfl⟩
  replace hP : zP κ [] H := by rw [hH]; exact hP
  replace hS : va_S A s.heap H locs := by rw [hH, hlo]; exact hS
  suffices hgo : W p l e (zR 0 0) s m args below meth c H locs 0 0 Q (F0 m 0 ls []) by rw [hH, hlo] at hgo; exact hgo
  clear hH hlo
  replace hl : lv_has ls 1 [(0, .int x0)] := hl
  unfold f_R_isDigit at hf
  refine lv_iload_n hx hb d_R_isDigit_0 rfl (lv_at hl 0 rfl) ?_
  refine lv_bipush (v := 48) hx hb d_R_isDigit_1 (by decide) ?_
  refine lv_icmp_lt (tgt := 16) hx hb d_R_isDigit_3 (by decide) (fun c_3 => ?_) (fun c_3 => ?_)
  · have hf := (zbr hf).1 c_3
    refine lv_iconst (v := 0) hx hb d_R_isDigit_16 (by decide) ?_
    exact hret ((0 : Int32)) () H locs ls _ d_R_isDigit_17 hP hD hS (by decide) (Option.some.inj hf)
  · have hf := (zbr hf).2 c_3
    refine lv_iload_n hx hb d_R_isDigit_6 rfl (lv_at hl 0 rfl) ?_
    refine lv_bipush (v := 57) hx hb d_R_isDigit_7 (by decide) ?_
    refine lv_icmp_gt (tgt := 16) hx hb d_R_isDigit_9 (by decide) (fun c_9 => ?_) (fun c_9 => ?_)
    · have hf := (zbr hf).1 c_9
      refine lv_iconst (v := 0) hx hb d_R_isDigit_16 (by decide) ?_
      exact hret ((0 : Int32)) () H locs ls _ d_R_isDigit_17 hP hD hS (by decide) (Option.some.inj hf)
    · have hf := (zbr hf).2 c_9
      refine lv_iconst (v := 1) hx hb d_R_isDigit_12 (by decide) ?_
      refine lv_goto (tgt := 17) hx hb d_R_isDigit_13 (by decide) ?_
      exact hret ((1 : Int32)) () H locs ls _ d_R_isDigit_17 hP hD hS (by decide) (Option.some.inj hf)
theorem d_R_hexadecimalDigit_0 : decode c_R_hexadecimalDigit 0 = .ok (.iload_n 0, 1) := by decide +kernel
theorem d_R_hexadecimalDigit_1 : decode c_R_hexadecimalDigit 1 = .ok (.invokestatic 83, 3) := by decide +kernel
theorem d_R_hexadecimalDigit_4 : decode c_R_hexadecimalDigit 4 = .ok (.ifCond .eq 8, 3) := by decide +kernel
theorem d_R_hexadecimalDigit_7 : decode c_R_hexadecimalDigit 7 = .ok (.iload_n 0, 1) := by decide +kernel
theorem d_R_hexadecimalDigit_8 : decode c_R_hexadecimalDigit 8 = .ok (.bipush 48, 2) := by decide +kernel
theorem d_R_hexadecimalDigit_10 : decode c_R_hexadecimalDigit 10 = .ok (.isub, 1) := by decide +kernel
theorem d_R_hexadecimalDigit_11 : decode c_R_hexadecimalDigit 11 = .ok (.ireturn, 1) := by decide +kernel
theorem d_R_hexadecimalDigit_12 : decode c_R_hexadecimalDigit 12 = .ok (.iload_n 0, 1) := by decide +kernel
theorem d_R_hexadecimalDigit_13 : decode c_R_hexadecimalDigit 13 = .ok (.bipush 97, 2) := by decide +kernel
theorem d_R_hexadecimalDigit_15 : decode c_R_hexadecimalDigit 15 = .ok (.if_icmp .lt 17, 3) := by decide +kernel
theorem d_R_hexadecimalDigit_18 : decode c_R_hexadecimalDigit 18 = .ok (.iload_n 0, 1) := by decide +kernel
theorem d_R_hexadecimalDigit_19 : decode c_R_hexadecimalDigit 19 = .ok (.bipush 102, 2) := by decide +kernel
theorem d_R_hexadecimalDigit_21 : decode c_R_hexadecimalDigit 21 = .ok (.if_icmp .gt 11, 3) := by decide +kernel
theorem d_R_hexadecimalDigit_24 : decode c_R_hexadecimalDigit 24 = .ok (.iload_n 0, 1) := by decide +kernel
theorem d_R_hexadecimalDigit_25 : decode c_R_hexadecimalDigit 25 = .ok (.bipush 97, 2) := by decide +kernel
theorem d_R_hexadecimalDigit_27 : decode c_R_hexadecimalDigit 27 = .ok (.isub, 1) := by decide +kernel
theorem d_R_hexadecimalDigit_28 : decode c_R_hexadecimalDigit 28 = .ok (.bipush 10, 2) := by decide +kernel
theorem d_R_hexadecimalDigit_30 : decode c_R_hexadecimalDigit 30 = .ok (.iadd, 1) := by decide +kernel
theorem d_R_hexadecimalDigit_31 : decode c_R_hexadecimalDigit 31 = .ok (.ireturn, 1) := by decide +kernel
theorem d_R_hexadecimalDigit_32 : decode c_R_hexadecimalDigit 32 = .ok (.iload_n 0, 1) := by decide +kernel
theorem d_R_hexadecimalDigit_33 : decode c_R_hexadecimalDigit 33 = .ok (.bipush 65, 2) := by decide +kernel
theorem d_R_hexadecimalDigit_35 : decode c_R_hexadecimalDigit 35 = .ok (.if_icmp .lt 19, 3) := by decide +kernel
theorem d_R_hexadecimalDigit_38 : decode c_R_hexadecimalDigit 38 = .ok (.iload_n 0, 1) := by decide +kernel
theorem d_R_hexadecimalDigit_39 : decode c_R_hexadecimalDigit 39 = .ok (.bipush 70, 2) := by decide +kernel
theorem d_R_hexadecimalDigit_41 : decode c_R_hexadecimalDigit 41 = .ok (.if_icmp .gt 13, 3) := by decide +kernel
theorem d_R_hexadecimalDigit_44 : decode c_R_hexadecimalDigit 44 = .ok (.iload_n 0, 1) := by decide +kernel
theorem d_R_hexadecimalDigit_45 : decode c_R_hexadecimalDigit 45 = .ok (.bipush 65, 2) := by decide +kernel
theorem d_R_hexadecimalDigit_47 : decode c_R_hexadecimalDigit 47 = .ok (.isub, 1) := by decide +kernel
theorem d_R_hexadecimalDigit_48 : decode c_R_hexadecimalDigit 48 = .ok (.bipush 10, 2) := by decide +kernel
theorem d_R_hexadecimalDigit_50 : decode c_R_hexadecimalDigit 50 = .ok (.iadd, 1) := by decide +kernel
theorem d_R_hexadecimalDigit_51 : decode c_R_hexadecimalDigit 51 = .ok (.goto 4, 3) := by decide +kernel
theorem d_R_hexadecimalDigit_54 : decode c_R_hexadecimalDigit 54 = .ok (.iconst (-1), 1) := by decide +kernel
theorem d_R_hexadecimalDigit_55 : decode c_R_hexadecimalDigit 55 = .ok (.ireturn, 1) := by decide +kernel
theorem zn_R_83 : zNS R_R 83 y_R_isDigit c_R_isDigit 1 (some .boolean) 1 := ⟨zco_R_isDigit, zin_R, zml_R_83, zst_R_isDigit, by decide +kernel⟩
set_option maxHeartbeats 4000000 in
set_option maxRecDepth 100000 in
theorem k_R_hexadecimalDigit (κ : zC) (X : zXT) (hX : zX κ X) (l : Launch) (sz : Nat) (x0 : Int32) (out : Int32) (hf : f_R_hexadecimalDigit x0 = some out) : zMet κ X l y_R_hexadecimalDigit c_R_hexadecimalDigit 1 (some .int) 1 20 [.int x0] sz [] (zQi κ (fun (r : Int32) (_ : Unit) => r = out) (fun u => [])) := by
  refine zMet.ofI (by decide +kernel) (Nat.le_of_ble_eq_true rfl) ?_
  intro p e s m args below meth c ls A Q hF hK hP hD hA hXs hS hl hret
  obtain ⟨hx, hb, hml, hown, hts⟩ := id hF
  obtain ⟨H, hH⟩ : ∃ H, H = s.heap := ⟨_, rfl⟩
  obtain ⟨locs, hlo⟩ : ∃ z : List Loc, z = [] := ⟨_, rfl⟩
  replace hP : zP κ [] H := by rw [hH]; exact hP
  replace hS : va_S A s.heap H locs := by rw [hH, hlo]; exact hS
  suffices hgo : W p l e (zR 1 20) s m args below meth c H locs 0 0 Q (F0 m 0 ls []) by rw [hH, hlo] at hgo; exact hgo
  clear hH hlo
  replace hl : lv_has ls 1 [(0, .int x0)] := hl
  have b_32 : ∀ (x0 : Int32) (H : Heap) (locs : List Loc) (ls : Array Slot), f_R_hexadecimalDigit_32 x0 = some out → zP κ [] H → va_D A [] → va_S A s.heap H locs → lv_has ls 1 [(0, .int x0)] → W p l e (zR 1 20) s m args below meth c H locs 0 0 Q (F0 m 32 ls []) := by
    intro x0 H locs ls hf hP hD hS hl
    unfold f_R_hexadecimalDigit_32 at hf
    refine lv_iload_n hx hb d_R_hexadecimalDigit_32 rfl (lv_at hl 0 rfl) ?_
    refine lv_bipush (v := 65) hx hb d_R_hexadecimalDigit_33 (by decide) ?_
    refine lv_icmp_lt (tgt := 54) hx hb d_R_hexadecimalDigit_35 (by decide) (fun c_35 => ?_) (fun c_35 => ?_)
    · have hf := (zbr hf).1 c_35
      refine lv_iconst (v := (-1)) hx hb d_R_hexadecimalDigit_54 (by decide) ?_
      exact hret (((-1) : Int32)) () H locs ls _ d_R_hexadecimalDigit_55 hP hD hS (Option.some.inj hf)
    · have hf := (zbr hf).2 c_35
      refine lv_iload_n hx hb d_R_hexadecimalDigit_38 rfl (lv_at hl 0 rfl) ?_
      refine lv_bipush (v := 70) hx hb d_R_hexadecimalDigit_39 (by decide) ?_
      refine lv_icmp_gt (tgt := 54) hx hb d_R_hexadecimalDigit_41 (by decide) (fun c_41 => ?_) (fun c_41 => ?_)
      · have hf := (zbr hf).1 c_41
        refine lv_iconst (v := (-1)) hx hb d_R_hexadecimalDigit_54 (by decide) ?_
        exact hret (((-1) : Int32)) () H locs ls _ d_R_hexadecimalDigit_55 hP hD hS (Option.some.inj hf)
      · have hf := (zbr hf).2 c_41
        refine lv_iload_n hx hb d_R_hexadecimalDigit_44 rfl (lv_at hl 0 rfl) ?_
        refine lv_bipush (v := 65) hx hb d_R_hexadecimalDigit_45 (by decide) ?_
        refine lv_isub hx hb d_R_hexadecimalDigit_47 ?_
        refine lv_bipush (v := 10) hx hb d_R_hexadecimalDigit_48 (by decide) ?_
        refine lv_iadd hx hb d_R_hexadecimalDigit_50 ?_
        refine lv_goto (tgt := 55) hx hb d_R_hexadecimalDigit_51 (by decide) ?_
        exact hret (((x0 - 65) + 10)) () H locs ls _ d_R_hexadecimalDigit_55 hP hD hS (Option.some.inj hf)
  unfold f_R_hexadecimalDigit at hf
  refine lv_iload_n hx hb d_R_hexadecimalDigit_0 rfl (lv_at hl 0 rfl) ?_
  obtain ⟨o_1, ho_1, hf⟩ := zbd hf
  refine zSi (isC := []) (isR := []) (isN := []) (wc := []) (wr := []) (wn := fun u => []) (rest := []) (As := [.int x0]) hF zn_R_83 (k_R_isDigit κ X hX l H.size x0 o_1 ho_1) hX hXs hK hA hP hD hS ⟨by decide, by decide⟩ ⟨rfl, rfl, rfl, rfl, rfl, by decide⟩ ⟨rfl, fun _ => rfl, fun _ => rfl⟩ rfl hl.1 rfl (Nat.le_of_ble_eq_true rfl) ⟨Nat.zero_le _, Nat.zero_le _⟩ d_R_hexadecimalDigit_1 (fun r_1 u H locs hw hP hD hS => ?_)
  subst hw
  refine lv_if_eq (tgt := 12) hx hb d_R_hexadecimalDigit_4 (by decide) (fun c_4 => ?_) (fun c_4 => ?_)
  · have hf := (zbr hf).1 c_4
    refine lv_iload_n hx hb d_R_hexadecimalDigit_12 rfl (lv_at hl 0 rfl) ?_
    refine lv_bipush (v := 97) hx hb d_R_hexadecimalDigit_13 (by decide) ?_
    refine lv_icmp_lt (tgt := 32) hx hb d_R_hexadecimalDigit_15 (by decide) (fun c_15 => ?_) (fun c_15 => ?_)
    · have hf := (zbr hf).1 c_15
      exact b_32 x0 H locs ls hf hP hD hS hl
    · have hf := (zbr hf).2 c_15
      refine lv_iload_n hx hb d_R_hexadecimalDigit_18 rfl (lv_at hl 0 rfl) ?_
      refine lv_bipush (v := 102) hx hb d_R_hexadecimalDigit_19 (by decide) ?_
      refine lv_icmp_gt (tgt := 32) hx hb d_R_hexadecimalDigit_21 (by decide) (fun c_21 => ?_) (fun c_21 => ?_)
      · have hf := (zbr hf).1 c_21
        exact b_32 x0 H locs ls hf hP hD hS hl
      · have hf := (zbr hf).2 c_21
        refine lv_iload_n hx hb d_R_hexadecimalDigit_24 rfl (lv_at hl 0 rfl) ?_
        refine lv_bipush (v := 97) hx hb d_R_hexadecimalDigit_25 (by decide) ?_
        refine lv_isub hx hb d_R_hexadecimalDigit_27 ?_
        refine lv_bipush (v := 10) hx hb d_R_hexadecimalDigit_28 (by decide) ?_
        refine lv_iadd hx hb d_R_hexadecimalDigit_30 ?_
        exact hret (((x0 - 97) + 10)) () H locs ls _ d_R_hexadecimalDigit_31 hP hD hS (Option.some.inj hf)
  · have hf := (zbr hf).2 c_4
    refine lv_iload_n hx hb d_R_hexadecimalDigit_7 rfl (lv_at hl 0 rfl) ?_
    refine lv_bipush (v := 48) hx hb d_R_hexadecimalDigit_8 (by decide) ?_
    refine lv_isub hx hb d_R_hexadecimalDigit_10 ?_
    exact hret ((x0 - 48)) () H locs ls _ d_R_hexadecimalDigit_11 hP hD hS (Option.some.inj hf)
theorem d_R_unitAt_0 : decode c_R_unitAt 0 = .ok (.iload_n 1, 1) := by decide +kernel
theorem d_R_unitAt_1 : decode c_R_unitAt 1 = .ok (.ifCond .lt 20, 3) := by decide +kernel
theorem d_R_unitAt_4 : decode c_R_unitAt 4 = .ok (.iload_n 1, 1) := by decide +kernel
theorem d_R_unitAt_5 : decode c_R_unitAt 5 = .ok (.aload_n 0, 1) := by decide +kernel
theorem d_R_unitAt_6 : decode c_R_unitAt 6 = .ok (.getfield 20, 3) := by decide +kernel
theorem d_R_unitAt_9 : decode c_R_unitAt 9 = .ok (.if_icmp .ge 12, 3) := by decide +kernel
theorem d_R_unitAt_12 : decode c_R_unitAt 12 = .ok (.aload_n 0, 1) := by decide +kernel
theorem d_R_unitAt_13 : decode c_R_unitAt 13 = .ok (.getfield 9, 3) := by decide +kernel
theorem d_R_unitAt_16 : decode c_R_unitAt 16 = .ok (.iload_n 1, 1) := by decide +kernel
theorem d_R_unitAt_17 : decode c_R_unitAt 17 = .ok (.iaload, 1) := by decide +kernel
theorem d_R_unitAt_18 : decode c_R_unitAt 18 = .ok (.goto 4, 3) := by decide +kernel
theorem d_R_unitAt_21 : decode c_R_unitAt 21 = .ok (.iconst (-1), 1) := by decide +kernel
theorem d_R_unitAt_22 : decode c_R_unitAt 22 = .ok (.ireturn, 1) := by decide +kernel
set_option maxHeartbeats 4000000 in
set_option maxRecDepth 100000 in
theorem k_R_unitAt (κ : zC) (X : zXT) (hX : zX κ X) (l : Launch) (a_t a_t_units a_t_numerator a_t_denominator : Nat) (sz : Nat) (t_count : Int32) (t_at : Int32) (t_end : Int32) (t_counting : Int32) (t_power : Int32) (t_units : Nat → Int32) (x1 : Int32) (out : Int32) (hf : f_R_unitAt t_count t_at t_end t_counting t_power t_units x1 = some out) : zMet κ X l y_R_unitAt c_R_unitAt 2 (some .int) 0 0 [.ref a_t, .int x1] sz [(a_t, .inr (4, [.ref a_t_units, .int t_count, .int t_at, .int t_end, .ref a_t_numerator, .ref a_t_denominator, .int t_counting, .int t_power])), (a_t_units, .inl (κ.2.1, 600, .inl t_units))] (zQi κ (fun (r : Int32) (_ : Unit) => r = out) (fun u => [(a_t, .inr (4, [.ref a_t_units, .int t_count, .int t_at, .int t_end, .ref a_t_numerator, .ref a_t_denominator, .int t_counting, .int t_power])), (a_t_units, .inl (κ.2.1, 600, .inl t_units))])) := by
  refine zMet.ofI (by decide +kernel) (Nat.le_of_ble_eq_true rfl) ?_
  intro p e s m args below meth c ls A Q hF hK hP hD hA hXs hS hl hret
  obtain ⟨hx, hb, hml, hown, hts⟩ := id hF
  obtain ⟨H, hH⟩ : ∃ H, H = s.heap := ⟨_, rfl⟩
  obtain ⟨locs, hlo⟩ : ∃ z : List Loc, z = [] := ⟨_, rfl⟩
  replace hP : zP κ [(a_t, .inr (4, [.ref a_t_units, .int t_count, .int t_at, .int t_end, .ref a_t_numerator, .ref a_t_denominator, .int t_counting, .int t_power])), (a_t_units, .inl (κ.2.1, 600, .inl t_units))] H := by rw [hH]; exact hP
  replace hS : va_S A s.heap H locs := by rw [hH, hlo]; exact hS
  suffices hgo : W p l e (zR 0 0) s m args below meth c H locs 0 0 Q (F0 m 0 ls []) by rw [hH, hlo] at hgo; exact hgo
  clear hH hlo
  replace hl : lv_has ls 2 [(0, .ref a_t), (1, .int x1)] := hl
  unfold f_R_unitAt at hf
  refine lv_iload_n hx hb d_R_unitAt_0 rfl (lv_at hl 1 rfl) ?_
  refine lv_if_lt (tgt := 21) hx hb d_R_unitAt_1 (by decide) (fun c_1 => ?_) (fun c_1 => ?_)
  · have hf := (zbr hf).1 c_1
    refine lv_iconst (v := (-1)) hx hb d_R_unitAt_21 (by decide) ?_
    exact hret (((-1) : Int32)) () H locs ls _ d_R_unitAt_22 hP hD hS (Option.some.inj hf)
  · have hf := (zbr hf).2 c_1
    refine lv_iload_n hx hb d_R_unitAt_4 rfl (lv_at hl 1 rfl) ?_
    refine lv_aload_n hx hb d_R_unitAt_5 rfl (lv_at hl 0 rfl) ?_
    refine va_get (C := R_R) (T := F_R) (N := 8) hx hb hts i_R hown hK hP 0 rfl rfl 3 (by decide) (hts _ zfl_R_20) (fun _ h9 => h9) rfl d_R_unitAt_6 ?_
    refine lv_icmp_ge (tgt := 21) hx hb d_R_unitAt_9 (by decide) (fun c_9 => ?_) (fun c_9 => ?_)
    · have hf := (zbr hf).1 c_9
      refine lv_iconst (v := (-1)) hx hb d_R_unitAt_21 (by decide) ?_
      exact hret (((-1) : Int32)) () H locs ls _ d_R_unitAt_22 hP hD hS (Option.some.inj hf)
    · have hf := (zbr hf).2 c_9
      refine lv_aload_n hx hb d_R_unitAt_12 rfl (lv_at hl 0 rfl) ?_
      refine va_get (C := R_R) (T := F_R) (N := 8) hx hb hts i_R hown hK hP 0 rfl rfl 0 (by decide) (hts _ zfl_R_9) (fun _ h9 => h9) rfl d_R_unitAt_13 ?_
      refine lv_iload_n hx hb d_R_unitAt_16 rfl (lv_at hl 1 rfl) ?_
      obtain ⟨g_17, hf⟩ := zgd hf
      refine va_iald hx hb hK hP 1 0 rfl rfl (zin_vp g_17) d_R_unitAt_17 ?_
      refine lv_goto (tgt := 22) hx hb d_R_unitAt_18 (by decide) ?_
      exact hret ((t_units x1.toNatClampNeg)) () H locs ls _ d_R_unitAt_22 hP hD hS (Option.some.inj hf)
theorem d_R_hexadecimal_0 : decode c_R_hexadecimal 0 = .ok (.aload_n 0, 1) := by decide +kernel
theorem d_R_hexadecimal_1 : decode c_R_hexadecimal 1 = .ok (.getfield 17, 3) := by decide +kernel
theorem d_R_hexadecimal_4 : decode c_R_hexadecimal 4 = .ok (.aload_n 0, 1) := by decide +kernel
theorem d_R_hexadecimal_5 : decode c_R_hexadecimal 5 = .ok (.getfield 20, 3) := by decide +kernel
theorem d_R_hexadecimal_8 : decode c_R_hexadecimal 8 = .ok (.if_icmp .lt 7, 3) := by decide +kernel
theorem d_R_hexadecimal_11 : decode c_R_hexadecimal 11 = .ok (.ldc2_w 69, 3) := by decide +kernel
theorem d_R_hexadecimal_14 : decode c_R_hexadecimal 14 = .ok (.lreturn, 1) := by decide +kernel
theorem d_R_hexadecimal_15 : decode c_R_hexadecimal 15 = .ok (.lconst 0, 1) := by decide +kernel
theorem d_R_hexadecimal_16 : decode c_R_hexadecimal 16 = .ok (.lstore_n 1, 1) := by decide +kernel
theorem d_R_hexadecimal_17 : decode c_R_hexadecimal 17 = .ok (.iconst 0, 1) := by decide +kernel
theorem d_R_hexadecimal_18 : decode c_R_hexadecimal 18 = .ok (.istore_n 3, 1) := by decide +kernel
theorem d_R_hexadecimal_19 : decode c_R_hexadecimal 19 = .ok (.aload_n 0, 1) := by decide +kernel
theorem d_R_hexadecimal_20 : decode c_R_hexadecimal 20 = .ok (.getfield 17, 3) := by decide +kernel
theorem d_R_hexadecimal_23 : decode c_R_hexadecimal 23 = .ok (.istore 4, 2) := by decide +kernel
theorem d_R_hexadecimal_25 : decode c_R_hexadecimal 25 = .ok (.iload 4, 2) := by decide +kernel
theorem d_R_hexadecimal_27 : decode c_R_hexadecimal 27 = .ok (.aload_n 0, 1) := by decide +kernel
theorem d_R_hexadecimal_28 : decode c_R_hexadecimal 28 = .ok (.getfield 20, 3) := by decide +kernel
theorem d_R_hexadecimal_31 : decode c_R_hexadecimal 31 = .ok (.if_icmp .ge 65, 3) := by decide +kernel
theorem d_R_hexadecimal_34 : decode c_R_hexadecimal 34 = .ok (.aload_n 0, 1) := by decide +kernel
theorem d_R_hexadecimal_35 : decode c_R_hexadecimal 35 = .ok (.iload 4, 2) := by decide +kernel
theorem d_R_hexadecimal_37 : decode c_R_hexadecimal 37 = .ok (.invokevirtual 42, 3) := by decide +kernel
theorem d_R_hexadecimal_40 : decode c_R_hexadecimal 40 = .ok (.invokestatic 76, 3) := by decide +kernel
theorem d_R_hexadecimal_43 : decode c_R_hexadecimal 43 = .ok (.istore 5, 2) := by decide +kernel
theorem d_R_hexadecimal_45 : decode c_R_hexadecimal 45 = .ok (.iload 5, 2) := by decide +kernel
theorem d_R_hexadecimal_47 : decode c_R_hexadecimal 47 = .ok (.ifCond .ge 7, 3) := by decide +kernel
theorem d_R_hexadecimal_50 : decode c_R_hexadecimal 50 = .ok (.ldc2_w 69, 3) := by decide +kernel
theorem d_R_hexadecimal_53 : decode c_R_hexadecimal 53 = .ok (.lreturn, 1) := by decide +kernel
theorem d_R_hexadecimal_54 : decode c_R_hexadecimal 54 = .ok (.lload_n 1, 1) := by decide +kernel
theorem d_R_hexadecimal_55 : decode c_R_hexadecimal 55 = .ok (.bipush 58, 2) := by decide +kernel
theorem d_R_hexadecimal_57 : decode c_R_hexadecimal 57 = .ok (.lushr, 1) := by decide +kernel
theorem d_R_hexadecimal_58 : decode c_R_hexadecimal 58 = .ok (.lconst 0, 1) := by decide +kernel
theorem d_R_hexadecimal_59 : decode c_R_hexadecimal 59 = .ok (.lcmp, 1) := by decide +kernel
theorem d_R_hexadecimal_60 : decode c_R_hexadecimal 60 = .ok (.ifCond .ne 14, 3) := by decide +kernel
theorem d_R_hexadecimal_63 : decode c_R_hexadecimal 63 = .ok (.lload_n 1, 1) := by decide +kernel
theorem d_R_hexadecimal_64 : decode c_R_hexadecimal 64 = .ok (.iconst 4, 1) := by decide +kernel
theorem d_R_hexadecimal_65 : decode c_R_hexadecimal 65 = .ok (.lshl, 1) := by decide +kernel
theorem d_R_hexadecimal_66 : decode c_R_hexadecimal 66 = .ok (.iload 5, 2) := by decide +kernel
theorem d_R_hexadecimal_68 : decode c_R_hexadecimal 68 = .ok (.i2l, 1) := by decide +kernel
theorem d_R_hexadecimal_69 : decode c_R_hexadecimal 69 = .ok (.lor, 1) := by decide +kernel
theorem d_R_hexadecimal_70 : decode c_R_hexadecimal 70 = .ok (.lstore_n 1, 1) := by decide +kernel
theorem d_R_hexadecimal_71 : decode c_R_hexadecimal 71 = .ok (.goto 19, 3) := by decide +kernel
theorem d_R_hexadecimal_74 : decode c_R_hexadecimal 74 = .ok (.iload 5, 2) := by decide +kernel
theorem d_R_hexadecimal_76 : decode c_R_hexadecimal 76 = .ok (.ifCond .ne 7, 3) := by decide +kernel
theorem d_R_hexadecimal_79 : decode c_R_hexadecimal 79 = .ok (.lload_n 1, 1) := by decide +kernel
theorem d_R_hexadecimal_80 : decode c_R_hexadecimal 80 = .ok (.goto 6, 3) := by decide +kernel
theorem d_R_hexadecimal_83 : decode c_R_hexadecimal 83 = .ok (.lload_n 1, 1) := by decide +kernel
theorem d_R_hexadecimal_84 : decode c_R_hexadecimal 84 = .ok (.lconst 1, 1) := by decide +kernel
theorem d_R_hexadecimal_85 : decode c_R_hexadecimal 85 = .ok (.lor, 1) := by decide +kernel
theorem d_R_hexadecimal_86 : decode c_R_hexadecimal 86 = .ok (.lstore_n 1, 1) := by decide +kernel
theorem d_R_hexadecimal_87 : decode c_R_hexadecimal 87 = .ok (.iinc 3 4, 3) := by decide +kernel
theorem d_R_hexadecimal_90 : decode c_R_hexadecimal 90 = .ok (.iinc 4 1, 3) := by decide +kernel
theorem d_R_hexadecimal_93 : decode c_R_hexadecimal 93 = .ok (.goto (-68), 3) := by decide +kernel
theorem d_R_hexadecimal_96 : decode c_R_hexadecimal 96 = .ok (.lconst 0, 1) := by decide +kernel
theorem d_R_hexadecimal_97 : decode c_R_hexadecimal 97 = .ok (.lload_n 1, 1) := by decide +kernel
theorem d_R_hexadecimal_98 : decode c_R_hexadecimal 98 = .ok (.iload_n 3, 1) := by decide +kernel
theorem d_R_hexadecimal_99 : decode c_R_hexadecimal 99 = .ok (.invokestatic 79, 3) := by decide +kernel
theorem d_R_hexadecimal_102 : decode c_R_hexadecimal 102 = .ok (.lreturn, 1) := by decide +kernel
theorem zn_R_42 : zNV R_R 42 y_R_unitAt c_R_unitAt 2 (some .int) 1 := ⟨zco_R_unitAt, zin_R, zml_R_42, zim_R_unitAt, zse_R_R_unitAt, by decide +kernel⟩
theorem zn_R_76 : zNS R_R 76 y_R_hexadecimalDigit c_R_hexadecimalDigit 1 (some .int) 1 := ⟨zco_R_hexadecimalDigit, zin_R, zml_R_76, zst_R_hexadecimalDigit, by decide +kernel⟩
theorem zn_R_79 : zNS R_R 79 y_B_round c_B_round 9 (some .long) 3 := ⟨zco_B_round, zin_B, zml_R_79, zst_B_round, by decide +kernel⟩
set_option maxHeartbeats 4000000 in
set_option maxRecDepth 100000 in
theorem k_R_hexadecimal (κ : zC) (X : zXT) (hX : zX κ X) (l : Launch) (a_t a_t_units a_t_numerator a_t_denominator : Nat) (sz : Nat) (t_count : Int32) (t_at : Int32) (t_end : Int32) (t_counting : Int32) (t_power : Int32) (t_units : Nat → Int32) (out : Int64) (hf : f_R_hexadecimal t_count t_at t_end t_counting t_power t_units = some out) : zMet κ X l y_R_hexadecimal c_R_hexadecimal 6 (some .long) 3 72 [.ref a_t] sz [(a_t, .inr (4, [.ref a_t_units, .int t_count, .int t_at, .int t_end, .ref a_t_numerator, .ref a_t_denominator, .int t_counting, .int t_power])), (a_t_units, .inl (κ.2.1, 600, .inl t_units))] (zQl κ (fun (r : Int64) (_ : Unit) => r = out) (fun u => [(a_t, .inr (4, [.ref a_t_units, .int t_count, .int t_at, .int t_end, .ref a_t_numerator, .ref a_t_denominator, .int t_counting, .int t_power])), (a_t_units, .inl (κ.2.1, 600, .inl t_units))])) := by
  refine zMet.ofL (by decide +kernel) (Nat.le_of_ble_eq_true rfl) ?_
  intro p e s m args below meth c ls A Q hF hK hP hD hA hXs hS hl hret
  obtain ⟨hx, hb, hml, hown, hts⟩ := id hF
  obtain ⟨H, hH⟩ : ∃ H, H = s.heap := ⟨_, rfl⟩
  obtain ⟨locs, hlo⟩ : ∃ z : List Loc, z = [] := ⟨_, rfl⟩
  replace hP : zP κ [(a_t, .inr (4, [.ref a_t_units, .int t_count, .int t_at, .int t_end, .ref a_t_numerator, .ref a_t_denominator, .int t_counting, .int t_power])), (a_t_units, .inl (κ.2.1, 600, .inl t_units))] H := by rw [hH]; exact hP
  replace hS : va_S A s.heap H locs := by rw [hH, hlo]; exact hS
  suffices hgo : W p l e (zR 3 72) s m args below meth c H locs 0 0 Q (F0 m 0 ls []) by rw [hH, hlo] at hgo; exact hgo
  clear hH hlo
  replace hl : lv_has ls 6 [(0, .ref a_t)] := hl
  have b_96 : ∀ (x1 : Int64) (x3 : Int32) (H : Heap) (locs : List Loc) (ls : Array Slot), f_R_hexadecimal_96 t_count t_at t_end t_counting t_power t_units x1 x3 = some out → zP κ [(a_t, .inr (4, [.ref a_t_units, .int t_count, .int t_at, .int t_end, .ref a_t_numerator, .ref a_t_denominator, .int t_counting, .int t_power])), (a_t_units, .inl (κ.2.1, 600, .inl t_units))] H → va_D A [(a_t, .inr (4, [.ref a_t_units, .int t_count, .int t_at, .int t_end, .ref a_t_numerator, .ref a_t_denominator, .int t_counting, .int t_power])), (a_t_units, .inl (κ.2.1, 600, .inl t_units))] → va_S A s.heap H locs → lv_has ls 6 [(1, .long x1), (3, .int x3)] → W p l e (zR 3 72) s m args below meth c H locs 0 0 Q (F0 m 96 ls []) := by
    intro x1 x3 H locs ls hf hP hD hS hl
    unfold f_R_hexadecimal_96 at hf
    refine lv_lconst (v := 0) hx hb d_R_hexadecimal_96 (by decide) ?_
    refine lv_lload_n hx hb d_R_hexadecimal_97 rfl (lv_at hl 0 rfl) ?_
    refine lv_iload_n hx hb d_R_hexadecimal_98 rfl (lv_at hl 1 rfl) ?_
    obtain ⟨o_99, ho_99, hf⟩ := zbd hf
    refine zSl (isC := []) (isR := [0, 1]) (isN := [0, 1]) (wc := []) (wr := [(a_t, .inr (4, [.ref a_t_units, .int t_count, .int t_at, .int t_end, .ref a_t_numerator, .ref a_t_denominator, .int t_counting, .int t_power])), (a_t_units, .inl (κ.2.1, 600, .inl t_units))]) (wn := fun u => [(a_t, .inr (4, [.ref a_t_units, .int t_count, .int t_at, .int t_end, .ref a_t_numerator, .ref a_t_denominator, .int t_counting, .int t_power])), (a_t_units, .inl (κ.2.1, 600, .inl t_units))]) (rest := []) (As := [.long 0, .long x1, .int x3]) hF zn_R_79 (k_B_round κ X hX l H.size 0 x1 x3 o_99 ho_99) hX hXs hK hA hP hD hS ⟨by decide, by decide⟩ ⟨rfl, rfl, rfl, rfl, rfl, by decide⟩ ⟨rfl, fun _ => rfl, fun _ => rfl⟩ rfl hl.1 rfl (Nat.le_of_ble_eq_true rfl) ⟨Nat.zero_le _, Nat.zero_le _⟩ d_R_hexadecimal_99 (fun r_99 u H locs hw hP hD hS => ?_)
    subst hw
    exact hret (r_99) () H locs ls _ d_R_hexadecimal_102 hP hD hS (Option.some.inj hf)
  have b_25 : ∀ (x1 : Int64) (x3 : Int32) (x4 : Int32) (H : Heap) (locs : List Loc) (ls : Array Slot), f_R_hexadecimal_25 t_count t_at t_end t_counting t_power t_units x1 x3 x4 = some out → zP κ [(a_t, .inr (4, [.ref a_t_units, .int t_count, .int t_at, .int t_end, .ref a_t_numerator, .ref a_t_denominator, .int t_counting, .int t_power])), (a_t_units, .inl (κ.2.1, 600, .inl t_units))] H → va_D A [(a_t, .inr (4, [.ref a_t_units, .int t_count, .int t_at, .int t_end, .ref a_t_numerator, .ref a_t_denominator, .int t_counting, .int t_power])), (a_t_units, .inl (κ.2.1, 600, .inl t_units))] → va_S A s.heap H locs → lv_has ls 6 [(0, .ref a_t), (1, .long x1), (3, .int x3), (4, .int x4)] → W p l e (zR 3 72) s m args below meth c H locs 0 0 Q (F0 m 25 ls []) := by
    intro x1 x3 x4 H locs ls hf hP hD hS hl
    refine zrun_ind (P := fun z : (Int64) × (Int32) × (Int32) => ∀ (H : Heap) (locs : List Loc) (ls : Array Slot), zP κ [(a_t, .inr (4, [.ref a_t_units, .int t_count, .int t_at, .int t_end, .ref a_t_numerator, .ref a_t_denominator, .int t_counting, .int t_power])), (a_t_units, .inl (κ.2.1, 600, .inl t_units))] H → va_D A [(a_t, .inr (4, [.ref a_t_units, .int t_count, .int t_at, .int t_end, .ref a_t_numerator, .ref a_t_denominator, .int t_counting, .int t_power])), (a_t_units, .inl (κ.2.1, 600, .inl t_units))] → va_S A s.heap H locs → lv_has ls 6 [(0, .ref a_t), (1, .long z.1), (3, .int z.2.1), (4, .int z.2.2)] → W p l e (zR 3 72) s m args below meth c H locs 0 0 Q (F0 m 25 ls [])) ?_ hf H locs ls hP hD hS hl
    clear hf hP hD hS hl H locs ls x1 x3 x4
    intro z ih hne hexit_25 H locs ls hP hD hS hl
    obtain ⟨q_25, hf⟩ := zne hne
    have hback_25 := fun y (e : q_25 = .inl y) => ih y (e ▸ hf)
    replace hexit_25 := fun y (e : q_25 = .inr y) => hexit_25 y (e ▸ hf)
    clear ih hne
    obtain ⟨x1, x3, x4⟩ := z
    replace hf : f_R_hexadecimal_25_body t_count t_at t_end t_counting t_power t_units x1 x3 x4 = some q_25 := hf
    replace hP : zP κ [(a_t, .inr (4, [.ref a_t_units, .int t_count, .int t_at, .int t_end, .ref a_t_numerator, .ref a_t_denominator, .int t_counting, .int t_power])), (a_t_units, .inl (κ.2.1, 600, .inl t_units))] H := hP
    replace hD : va_D A [(a_t, .inr (4, [.ref a_t_units, .int t_count, .int t_at, .int t_end, .ref a_t_numerator, .ref a_t_denominator, .int t_counting, .int t_power])), (a_t_units, .inl (κ.2.1, 600, .inl t_units))] := hD
    replace hl : lv_has ls 6 [(0, .ref a_t), (1, .long x1), (3, .int x3), (4, .int x4)] := hl
    have b_90 : ∀ (x1 : Int64) (x3 : Int32) (x4 : Int32) (H : Heap) (locs : List Loc) (ls : Array Slot), f_R_hexadecimal_90 t_count t_at t_end t_counting t_power t_units x1 x3 x4 = some q_25 → zP κ [(a_t, .inr (4, [.ref a_t_units, .int t_count, .int t_at, .int t_end, .ref a_t_numerator, .ref a_t_denominator, .int t_counting, .int t_power])), (a_t_units, .inl (κ.2.1, 600, .inl t_units))] H → va_D A [(a_t, .inr (4, [.ref a_t_units, .int t_count, .int t_at, .int t_end, .ref a_t_numerator, .ref a_t_denominator, .int t_counting, .int t_power])), (a_t_units, .inl (κ.2.1, 600, .inl t_units))] → va_S A s.heap H locs → lv_has ls 6 [(0, .ref a_t), (1, .long x1), (3, .int x3), (4, .int x4)] → W p l e (zR 3 72) s m args below meth c H locs 0 0 Q (F0 m 90 ls []) := by
      intro x1 x3 x4 H locs ls hf hP hD hS hl
      unfold f_R_hexadecimal_90 at hf
      refine lv_iinc (v := (x4 + 1)) (lv' := [(4, .int (x4 + 1)), (0, .ref a_t), (1, .long x1), (3, .int x3)]) hx hb d_R_hexadecimal_90 hl (k := 3) rfl rfl (by decide) rfl (fun ls hl => ?_)
      refine lv_goto (tgt := 25) hx hb d_R_hexadecimal_93 (by decide) ?_
      exact hback_25 _ (Option.some.inj hf).symm H locs ls hP hD hS (lv_sub hl [1, 2, 3, 0] rfl)
    have b_86 : ∀ (x3 : Int32) (x4 : Int32) (s0 : Int64) (H : Heap) (locs : List Loc) (ls : Array Slot), f_R_hexadecimal_86 t_count t_at t_end t_counting t_power t_units x3 x4 s0 = some q_25 → zP κ [(a_t, .inr (4, [.ref a_t_units, .int t_count, .int t_at, .int t_end, .ref a_t_numerator, .ref a_t_denominator, .int t_counting, .int t_power])), (a_t_units, .inl (κ.2.1, 600, .inl t_units))] H → va_D A [(a_t, .inr (4, [.ref a_t_units, .int t_count, .int t_at, .int t_end, .ref a_t_numerator, .ref a_t_denominator, .int t_counting, .int t_power])), (a_t_units, .inl (κ.2.1, 600, .inl t_units))] → va_S A s.heap H locs → lv_has ls 6 [(0, .ref a_t), (3, .int x3), (4, .int x4)] → W p l e (zR 3 72) s m args below meth c H locs 0 0 Q (F0 m 86 ls [.long s0]) := by
      intro x3 x4 s0 H locs ls hf hP hD hS hl
      unfold f_R_hexadecimal_86 at hf
      refine lv_lstore_n (lv' := [(1, .long s0), (0, .ref a_t), (3, .int x3), (4, .int x4)]) hx hb d_R_hexadecimal_86 rfl hl (by decide) rfl (fun ls hl => ?_)
      refine lv_iinc (v := (x3 + 4)) (lv' := [(3, .int (x3 + 4)), (1, .long s0), (0, .ref a_t), (4, .int x4)]) hx hb d_R_hexadecimal_87 hl (k := 2) rfl rfl (by decide) rfl (fun ls hl => ?_)
      exact b_90 s0 (x3 + 4) x4 H locs ls hf hP hD hS (lv_sub hl [2, 1, 0, 3] rfl)
    unfold f_R_hexadecimal_25_body at hf
    refine lv_iload hx hb d_R_hexadecimal_25 (lv_at hl 3 rfl) ?_
    refine lv_aload_n hx hb d_R_hexadecimal_27 rfl (lv_at hl 0 rfl) ?_
    refine va_get (C := R_R) (T := F_R) (N := 8) hx hb hts i_R hown hK hP 0 rfl rfl 3 (by decide) (hts _ zfl_R_20) (fun _ h9 => h9) rfl d_R_hexadecimal_28 ?_
    refine lv_icmp_ge (tgt := 96) hx hb d_R_hexadecimal_31 (by decide) (fun c_31 => ?_) (fun c_31 => ?_)
    · have hf := (zbr hf).1 c_31
      have hf := zex hf hexit_25
      exact b_96 x1 x3 H locs ls hf hP hD hS (lv_sub hl [1, 2] rfl)
    · have hf := (zbr hf).2 c_31
      refine lv_aload_n hx hb d_R_hexadecimal_34 rfl (lv_at hl 0 rfl) ?_
      refine lv_iload hx hb d_R_hexadecimal_35 (lv_at hl 3 rfl) ?_
      obtain ⟨o_37, ho_37, hf⟩ := zbd hf
      refine zVi (isC := [0, 1]) (isR := []) (isN := [0, 1]) (wc := [(a_t, .inr (4, [.ref a_t_units, .int t_count, .int t_at, .int t_end, .ref a_t_numerator, .ref a_t_denominator, .int t_counting, .int t_power])), (a_t_units, .inl (κ.2.1, 600, .inl t_units))]) (wr := []) (wn := fun u => [(a_t, .inr (4, [.ref a_t_units, .int t_count, .int t_at, .int t_end, .ref a_t_numerator, .ref a_t_denominator, .int t_counting, .int t_power])), (a_t_units, .inl (κ.2.1, 600, .inl t_units))]) (rest := []) (As := [.int x4]) hF zn_R_42 (k_R_unitAt κ X hX l a_t a_t_units a_t_numerator a_t_denominator H.size t_count t_at t_end t_counting t_power t_units x4 o_37 ho_37) hX hXs hK hA hP hD hS ⟨by decide, by decide⟩ ⟨rfl, rfl, rfl, rfl, rfl, by decide⟩ ⟨rfl, fun _ => rfl, fun _ => rfl⟩ (ci := 4) rfl rfl rfl rfl hl.1 rfl (Nat.le_of_ble_eq_true rfl) ⟨Nat.zero_le _, Nat.zero_le _⟩ d_R_hexadecimal_37 (fun r_37 u H locs hw hP hD hS => ?_)
      subst hw
      obtain ⟨o_40, ho_40, hf⟩ := zbd hf
      refine zSi (isC := []) (isR := [0, 1]) (isN := [0, 1]) (wc := []) (wr := [(a_t, .inr (4, [.ref a_t_units, .int t_count, .int t_at, .int t_end, .ref a_t_numerator, .ref a_t_denominator, .int t_counting, .int t_power])), (a_t_units, .inl (κ.2.1, 600, .inl t_units))]) (wn := fun u => [(a_t, .inr (4, [.ref a_t_units, .int t_count, .int t_at, .int t_end, .ref a_t_numerator, .ref a_t_denominator, .int t_counting, .int t_power])), (a_t_units, .inl (κ.2.1, 600, .inl t_units))]) (rest := []) (As := [.int r_37]) hF zn_R_76 (k_R_hexadecimalDigit κ X hX l H.size r_37 o_40 ho_40) hX hXs hK hA hP hD hS ⟨by decide, by decide⟩ ⟨rfl, rfl, rfl, rfl, rfl, by decide⟩ ⟨rfl, fun _ => rfl, fun _ => rfl⟩ rfl hl.1 rfl (Nat.le_of_ble_eq_true rfl) ⟨Nat.zero_le _, Nat.zero_le _⟩ d_R_hexadecimal_40 (fun r_40 u H locs hw hP hD hS => ?_)
      subst hw
      refine lv_istore (lv' := [(5, .int r_40), (0, .ref a_t), (1, .long x1), (3, .int x3), (4, .int x4)]) hx hb d_R_hexadecimal_43 hl (by decide) rfl (fun ls hl => ?_)
      refine lv_iload hx hb d_R_hexadecimal_45 (lv_at hl 0 rfl) ?_
      refine lv_if_ge (tgt := 54) hx hb d_R_hexadecimal_47 (by decide) (fun c_47 => ?_) (fun c_47 => ?_)
      · have hf := (zbr hf).1 c_47
        refine lv_lload_n hx hb d_R_hexadecimal_54 rfl (lv_at hl 2 rfl) ?_
        refine lv_bipush (v := 58) hx hb d_R_hexadecimal_55 (by decide) ?_
        refine lv_lushr (v := (jlushr x1 58)) hx hb d_R_hexadecimal_57 rfl ?_
        refine lv_lconst (v := 0) hx hb d_R_hexadecimal_58 (by decide) ?_
        refine W.lcmp hx hb d_R_hexadecimal_59 ?_
        refine lv_if_ne (tgt := 74) hx hb d_R_hexadecimal_60 (by decide) (fun c_60 => ?_) (fun c_60 => ?_)
        · have hf := (zbr hf).2 (zc_neq c_60)
          refine lv_iload hx hb d_R_hexadecimal_74 (lv_at hl 0 rfl) ?_
          refine lv_if_ne (tgt := 83) hx hb d_R_hexadecimal_76 (by decide) (fun c_76 => ?_) (fun c_76 => ?_)
          · have hf := (zbr hf).2 c_76
            refine lv_lload_n hx hb d_R_hexadecimal_83 rfl (lv_at hl 2 rfl) ?_
            refine lv_lconst (v := 1) hx hb d_R_hexadecimal_84 (by decide) ?_
            refine lv_lor hx hb d_R_hexadecimal_85 ?_
            exact b_86 x3 x4 (x1 ||| 1) H locs ls hf hP hD hS (lv_sub hl [1, 3, 4] rfl)
          · have hf := (zbr hf).1 c_76
            refine lv_lload_n hx hb d_R_hexadecimal_79 rfl (lv_at hl 2 rfl) ?_
            refine lv_goto (tgt := 86) hx hb d_R_hexadecimal_80 (by decide) ?_
            exact b_86 x3 x4 x1 H locs ls hf hP hD hS (lv_sub hl [1, 3, 4] rfl)
        · have hf := (zbr hf).1 (zc_eq.mp c_60)
          refine lv_lload_n hx hb d_R_hexadecimal_63 rfl (lv_at hl 2 rfl) ?_
          refine lv_iconst (v := 4) hx hb d_R_hexadecimal_64 (by decide) ?_
          refine lv_lshl (v := (jlshl x1 4)) hx hb d_R_hexadecimal_65 rfl ?_
          refine lv_iload hx hb d_R_hexadecimal_66 (lv_at hl 0 rfl) ?_
          refine lv_i2l hx hb d_R_hexadecimal_68 rfl ?_
          refine lv_lor hx hb d_R_hexadecimal_69 ?_
          refine lv_lstore_n (lv' := [(1, .long ((jlshl x1 4) ||| (r_40).toInt64)), (5, .int r_40), (0, .ref a_t), (3, .int x3), (4, .int x4)]) hx hb d_R_hexadecimal_70 rfl hl (by decide) rfl (fun ls hl => ?_)
          refine lv_goto (tgt := 90) hx hb d_R_hexadecimal_71 (by decide) ?_
          exact b_90 ((jlshl x1 4) ||| (r_40).toInt64) x3 x4 H locs ls hf hP hD hS (lv_sub hl [2, 0, 3, 4] rfl)
      · have hf := (zbr hf).2 c_47
        refine lv_ldc2 (v := 9221120237041090560) hx hb hown (hts _ zkl_R_69) d_R_hexadecimal_50 ?_
        have hf := zex hf hexit_25
        exact hret ((9221120237041090560 : Int64)) () H locs ls _ d_R_hexadecimal_53 hP hD hS (Option.some.inj hf)
  unfold f_R_hexadecimal at hf
  refine lv_aload_n hx hb d_R_hexadecimal_0 rfl (lv_at hl 0 rfl) ?_
  refine va_get (C := R_R) (T := F_R) (N := 8) hx hb hts i_R hown hK hP 0 rfl rfl 2 (by decide) (hts _ zfl_R_17) (fun _ h9 => h9) rfl d_R_hexadecimal_1 ?_
  refine lv_aload_n hx hb d_R_hexadecimal_4 rfl (lv_at hl 0 rfl) ?_
  refine va_get (C := R_R) (T := F_R) (N := 8) hx hb hts i_R hown hK hP 0 rfl rfl 3 (by decide) (hts _ zfl_R_20) (fun _ h9 => h9) rfl d_R_hexadecimal_5 ?_
  refine lv_icmp_lt (tgt := 15) hx hb d_R_hexadecimal_8 (by decide) (fun c_8 => ?_) (fun c_8 => ?_)
  · have hf := (zbr hf).1 c_8
    refine lv_lconst (v := 0) hx hb d_R_hexadecimal_15 (by decide) ?_
    refine lv_lstore_n (lv' := [(1, .long 0), (0, .ref a_t)]) hx hb d_R_hexadecimal_16 rfl hl (by decide) rfl (fun ls hl => ?_)
    refine lv_iconst (v := 0) hx hb d_R_hexadecimal_17 (by decide) ?_
    refine lv_istore_n (lv' := [(3, .int 0), (1, .long 0), (0, .ref a_t)]) hx hb d_R_hexadecimal_18 rfl hl (by decide) rfl (fun ls hl => ?_)
    refine lv_aload_n hx hb d_R_hexadecimal_19 rfl (lv_at hl 2 rfl) ?_
    refine va_get (C := R_R) (T := F_R) (N := 8) hx hb hts i_R hown hK hP 0 rfl rfl 2 (by decide) (hts _ zfl_R_17) (fun _ h9 => h9) rfl d_R_hexadecimal_20 ?_
    refine lv_istore (lv' := [(4, .int t_at), (3, .int 0), (1, .long 0), (0, .ref a_t)]) hx hb d_R_hexadecimal_23 hl (by decide) rfl (fun ls hl => ?_)
    exact b_25 0 0 t_at H locs ls hf hP hD hS (lv_sub hl [3, 2, 1, 0] rfl)
  · have hf := (zbr hf).2 c_8
    refine lv_ldc2 (v := 9221120237041090560) hx hb hown (hts _ zkl_R_69) d_R_hexadecimal_11 ?_
    exact hret ((9221120237041090560 : Int64)) () H locs ls _ d_R_hexadecimal_14 hP hD hS (Option.some.inj hf)
theorem d_R_isInfinityLeft_0 : decode c_R_isInfinityLeft 0 = .ok (.aload_n 0, 1) := by decide +kernel
theorem d_R_isInfinityLeft_1 : decode c_R_isInfinityLeft 1 = .ok (.getfield 20, 3) := by decide +kernel
theorem d_R_isInfinityLeft_4 : decode c_R_isInfinityLeft 4 = .ok (.aload_n 0, 1) := by decide +kernel
theorem d_R_isInfinityLeft_5 : decode c_R_isInfinityLeft 5 = .ok (.getfield 17, 3) := by decide +kernel
theorem d_R_isInfinityLeft_8 : decode c_R_isInfinityLeft 8 = .ok (.isub, 1) := by decide +kernel
theorem d_R_isInfinityLeft_9 : decode c_R_isInfinityLeft 9 = .ok (.ldc 86, 2) := by decide +kernel
theorem d_R_isInfinityLeft_11 : decode c_R_isInfinityLeft 11 = .ok (.invokevirtual 88, 3) := by decide +kernel
theorem d_R_isInfinityLeft_14 : decode c_R_isInfinityLeft 14 = .ok (.if_icmp .eq 5, 3) := by decide +kernel
theorem d_R_isInfinityLeft_17 : decode c_R_isInfinityLeft 17 = .ok (.iconst 0, 1) := by decide +kernel
theorem d_R_isInfinityLeft_18 : decode c_R_isInfinityLeft 18 = .ok (.ireturn, 1) := by decide +kernel
theorem d_R_isInfinityLeft_19 : decode c_R_isInfinityLeft 19 = .ok (.iconst 0, 1) := by decide +kernel
theorem d_R_isInfinityLeft_20 : decode c_R_isInfinityLeft 20 = .ok (.istore_n 1, 1) := by decide +kernel
theorem d_R_isInfinityLeft_21 : decode c_R_isInfinityLeft 21 = .ok (.iload_n 1, 1) := by decide +kernel
theorem d_R_isInfinityLeft_22 : decode c_R_isInfinityLeft 22 = .ok (.ldc 86, 2) := by decide +kernel
theorem d_R_isInfinityLeft_24 : decode c_R_isInfinityLeft 24 = .ok (.invokevirtual 88, 3) := by decide +kernel
theorem d_R_isInfinityLeft_27 : decode c_R_isInfinityLeft 27 = .ok (.if_icmp .ge 30, 3) := by decide +kernel
theorem d_R_isInfinityLeft_30 : decode c_R_isInfinityLeft 30 = .ok (.aload_n 0, 1) := by decide +kernel
theorem d_R_isInfinityLeft_31 : decode c_R_isInfinityLeft 31 = .ok (.aload_n 0, 1) := by decide +kernel
theorem d_R_isInfinityLeft_32 : decode c_R_isInfinityLeft 32 = .ok (.getfield 17, 3) := by decide +kernel
theorem d_R_isInfinityLeft_35 : decode c_R_isInfinityLeft 35 = .ok (.iload_n 1, 1) := by decide +kernel
theorem d_R_isInfinityLeft_36 : decode c_R_isInfinityLeft 36 = .ok (.iadd, 1) := by decide +kernel
theorem d_R_isInfinityLeft_37 : decode c_R_isInfinityLeft 37 = .ok (.invokevirtual 42, 3) := by decide +kernel
theorem d_R_isInfinityLeft_40 : decode c_R_isInfinityLeft 40 = .ok (.ldc 86, 2) := by decide +kernel
theorem d_R_isInfinityLeft_42 : decode c_R_isInfinityLeft 42 = .ok (.iload_n 1, 1) := by decide +kernel
theorem d_R_isInfinityLeft_43 : decode c_R_isInfinityLeft 43 = .ok (.invokevirtual 94, 3) := by decide +kernel
theorem d_R_isInfinityLeft_46 : decode c_R_isInfinityLeft 46 = .ok (.if_icmp .eq 5, 3) := by decide +kernel
theorem d_R_isInfinityLeft_49 : decode c_R_isInfinityLeft 49 = .ok (.iconst 0, 1) := by decide +kernel
theorem d_R_isInfinityLeft_50 : decode c_R_isInfinityLeft 50 = .ok (.ireturn, 1) := by decide +kernel
theorem d_R_isInfinityLeft_51 : decode c_R_isInfinityLeft 51 = .ok (.iinc 1 1, 3) := by decide +kernel
theorem d_R_isInfinityLeft_54 : decode c_R_isInfinityLeft 54 = .ok (.goto (-33), 3) := by decide +kernel
theorem d_R_isInfinityLeft_57 : decode c_R_isInfinityLeft 57 = .ok (.iconst 1, 1) := by decide +kernel
theorem d_R_isInfinityLeft_58 : decode c_R_isInfinityLeft 58 = .ok (.ireturn, 1) := by decide +kernel
theorem zn_R_88 : zNV R_R 88 y_JS_length c_JS_length 1 (some .int) 0 := ⟨zco_JS_length, zin_JS, zml_R_88, zim_JS_length, zse_JS_JS_length, by decide +kernel⟩
theorem zn_R_94 : zNV R_R 94 y_JS_charAt c_JS_charAt 2 (some .char) 1 := ⟨zco_JS_charAt, zin_JS, zml_R_94, zim_JS_charAt, zse_JS_JS_charAt, by decide +kernel⟩
set_option maxHeartbeats 4000000 in
set_option maxRecDepth 100000 in
theorem k_R_isInfinityLeft (κ : zC) (X : zXT) (hX : zX κ X) (l : Launch) (a_t a_t_units a_t_numerator a_t_denominator : Nat) (sz : Nat) (t_count : Int32) (t_at : Int32) (t_end : Int32) (t_counting : Int32) (t_power : Int32) (t_units : Nat → Int32) (out : Int32) (hf : f_R_isInfinityLeft t_count t_at t_end t_counting t_power t_units = some out) : zMet κ X l y_R_isInfinityLeft c_R_isInfinityLeft 2 (some .boolean) 4 85 [.ref a_t] sz [(a_t, .inr (4, [.ref a_t_units, .int t_count, .int t_at, .int t_end, .ref a_t_numerator, .ref a_t_denominator, .int t_counting, .int t_power])), (a_t_units, .inl (κ.2.1, 600, .inl t_units))] (zQi κ (fun (r : Int32) (_ : Unit) => r = out) (fun u => [(a_t, .inr (4, [.ref a_t_units, .int t_count, .int t_at, .int t_end, .ref a_t_numerator, .ref a_t_denominator, .int t_counting, .int t_power])), (a_t_units, .inl (κ.2.1, 600, .inl t_units))])) := by
  refine zMet.ofZ (by decide +kernel) (Nat.le_of_ble_eq_true rfl) ?_
  intro p e s m args below meth c ls A Q hF hK hP hD hA hXs hS hl hret
  obtain ⟨hx, hb, hml, hown, hts⟩ := id hF
  obtain ⟨H, hH⟩ : ∃ H, H = s.heap := ⟨_, rfl⟩
  obtain ⟨locs, hlo⟩ : ∃ z : List Loc, z = [] := ⟨_, rfl⟩
  replace hP : zP κ [(a_t, .inr (4, [.ref a_t_units, .int t_count, .int t_at, .int t_end, .ref a_t_numerator, .ref a_t_denominator, .int t_counting, .int t_power])), (a_t_units, .inl (κ.2.1, 600, .inl t_units))] H := by rw [hH]; exact hP
  replace hS : va_S A s.heap H locs := by rw [hH, hlo]; exact hS
  suffices hgo : W p l e (zR 4 85) s m args below meth c H locs 0 0 Q (F0 m 0 ls []) by rw [hH, hlo] at hgo; exact hgo
  clear hH hlo
  replace hl : lv_has ls 2 [(0, .ref a_t)] := hl
  obtain ⟨av, hZ⟩ := hX.2
  obtain ⟨hpw, hpt, -, -, hst, hr0, hr1, hr2, hr3, hr4⟩ := hZ _ _ _ hXs
  have b_21 : ∀ (x1 : Int32) (H : Heap) (locs : List Loc) (ls : Array Slot), f_R_isInfinityLeft_21 t_count t_at t_end t_counting t_power t_units x1 = some out → zP κ [(a_t, .inr (4, [.ref a_t_units, .int t_count, .int t_at, .int t_end, .ref a_t_numerator, .ref a_t_denominator, .int t_counting, .int t_power])), (a_t_units, .inl (κ.2.1, 600, .inl t_units))] H → va_D A [(a_t, .inr (4, [.ref a_t_units, .int t_count, .int t_at, .int t_end, .ref a_t_numerator, .ref a_t_denominator, .int t_counting, .int t_power])), (a_t_units, .inl (κ.2.1, 600, .inl t_units))] → va_S A s.heap H locs → lv_has ls 2 [(0, .ref a_t), (1, .int x1)] → W p l e (zR 4 85) s m args below meth c H locs 0 0 Q (F0 m 21 ls []) := by
    intro x1 H locs ls hf hP hD hS hl
    refine zrun_ind (P := fun z : (Int32) => ∀ (H : Heap) (locs : List Loc) (ls : Array Slot), zP κ [(a_t, .inr (4, [.ref a_t_units, .int t_count, .int t_at, .int t_end, .ref a_t_numerator, .ref a_t_denominator, .int t_counting, .int t_power])), (a_t_units, .inl (κ.2.1, 600, .inl t_units))] H → va_D A [(a_t, .inr (4, [.ref a_t_units, .int t_count, .int t_at, .int t_end, .ref a_t_numerator, .ref a_t_denominator, .int t_counting, .int t_power])), (a_t_units, .inl (κ.2.1, 600, .inl t_units))] → va_S A s.heap H locs → lv_has ls 2 [(0, .ref a_t), (1, .int z)] → W p l e (zR 4 85) s m args below meth c H locs 0 0 Q (F0 m 21 ls [])) ?_ hf H locs ls hP hD hS hl
    clear hf hP hD hS hl H locs ls x1
    intro z ih hne hexit_21 H locs ls hP hD hS hl
    obtain ⟨q_21, hf⟩ := zne hne
    have hback_21 := fun y (e : q_21 = .inl y) => ih y (e ▸ hf)
    replace hexit_21 := fun y (e : q_21 = .inr y) => hexit_21 y (e ▸ hf)
    clear ih hne
    obtain ⟨x1, rfl⟩ : ∃ w, w = z := ⟨_, rfl⟩
    replace hf : f_R_isInfinityLeft_21_body t_count t_at t_end t_counting t_power t_units x1 = some q_21 := hf
    replace hP : zP κ [(a_t, .inr (4, [.ref a_t_units, .int t_count, .int t_at, .int t_end, .ref a_t_numerator, .ref a_t_denominator, .int t_counting, .int t_power])), (a_t_units, .inl (κ.2.1, 600, .inl t_units))] H := hP
    replace hD : va_D A [(a_t, .inr (4, [.ref a_t_units, .int t_count, .int t_at, .int t_end, .ref a_t_numerator, .ref a_t_denominator, .int t_counting, .int t_power])), (a_t_units, .inl (κ.2.1, 600, .inl t_units))] := hD
    replace hl : lv_has ls 2 [(0, .ref a_t), (1, .int x1)] := hl
    unfold f_R_isInfinityLeft_21_body at hf
    refine lv_iload_n hx hb d_R_isInfinityLeft_21 rfl (lv_at hl 1 rfl) ?_
    refine va_ldcS hx hb hown hr0 d_R_isInfinityLeft_22 ?_
    refine zVs (isC := []) (isR := [0, 1]) (isN := [0, 1]) (wc := []) (wr := [(a_t, .inr (4, [.ref a_t_units, .int t_count, .int t_at, .int t_end, .ref a_t_numerator, .ref a_t_denominator, .int t_counting, .int t_power])), (a_t_units, .inl (κ.2.1, 600, .inl t_units))]) (wn := fun _ => [(a_t, .inr (4, [.ref a_t_units, .int t_count, .int t_at, .int t_end, .ref a_t_numerator, .ref a_t_denominator, .int t_counting, .int t_power])), (a_t_units, .inl (κ.2.1, 600, .inl t_units))]) (rest := [.int x1]) (As := []) hF zn_R_88 (k_JS_length κ X hX l _ 0 (by decide)) hX hXs hK hA hP hD hS ⟨by decide, by decide⟩ ⟨rfl, rfl, rfl, rfl, rfl, by decide⟩ ⟨rfl, fun _ => rfl, fun _ => rfl⟩ (hst 0 (by decide)).1 rfl hl.1 rfl (Nat.le_of_ble_eq_true rfl) ⟨Nat.zero_le _, Nat.zero_le _⟩ d_R_isInfinityLeft_24 (fun r u H locs hw hP hD hS => ?_)
    subst hw
    refine lv_icmp_ge (tgt := 57) hx hb d_R_isInfinityLeft_27 (by decide) (fun c_27 => ?_) (fun c_27 => ?_)
    · have hf := (zbr hf).1 c_27
      refine lv_iconst (v := 1) hx hb d_R_isInfinityLeft_57 (by decide) ?_
      have hf := zex hf hexit_21
      exact hret ((1 : Int32)) () H locs ls _ d_R_isInfinityLeft_58 hP hD hS (by decide) (Option.some.inj hf)
    · have hf := (zbr hf).2 c_27
      refine lv_aload_n hx hb d_R_isInfinityLeft_30 rfl (lv_at hl 0 rfl) ?_
      refine lv_aload_n hx hb d_R_isInfinityLeft_31 rfl (lv_at hl 0 rfl) ?_
      refine va_get (C := R_R) (T := F_R) (N := 8) hx hb hts i_R hown hK hP 0 rfl rfl 2 (by decide) (hts _ zfl_R_17) (fun _ h9 => h9) rfl d_R_isInfinityLeft_32 ?_
      refine lv_iload_n hx hb d_R_isInfinityLeft_35 rfl (lv_at hl 1 rfl) ?_
      refine lv_iadd hx hb d_R_isInfinityLeft_36 ?_
      obtain ⟨o_37, ho_37, hf⟩ := zbd hf
      refine zVi (isC := [0, 1]) (isR := []) (isN := [0, 1]) (wc := [(a_t, .inr (4, [.ref a_t_units, .int t_count, .int t_at, .int t_end, .ref a_t_numerator, .ref a_t_denominator, .int t_counting, .int t_power])), (a_t_units, .inl (κ.2.1, 600, .inl t_units))]) (wr := []) (wn := fun u => [(a_t, .inr (4, [.ref a_t_units, .int t_count, .int t_at, .int t_end, .ref a_t_numerator, .ref a_t_denominator, .int t_counting, .int t_power])), (a_t_units, .inl (κ.2.1, 600, .inl t_units))]) (rest := []) (As := [.int (t_at + x1)]) hF zn_R_42 (k_R_unitAt κ X hX l a_t a_t_units a_t_numerator a_t_denominator H.size t_count t_at t_end t_counting t_power t_units (t_at + x1) o_37 ho_37) hX hXs hK hA hP hD hS ⟨by decide, by decide⟩ ⟨rfl, rfl, rfl, rfl, rfl, by decide⟩ ⟨rfl, fun _ => rfl, fun _ => rfl⟩ (ci := 4) rfl rfl rfl rfl hl.1 rfl (Nat.le_of_ble_eq_true rfl) ⟨Nat.zero_le _, Nat.zero_le _⟩ d_R_isInfinityLeft_37 (fun r_37 u H locs hw hP hD hS => ?_)
      subst hw
      refine va_ldcS hx hb hown hr0 d_R_isInfinityLeft_40 ?_
      refine lv_iload_n hx hb d_R_isInfinityLeft_42 rfl (lv_at hl 1 rfl) ?_
      obtain ⟨g_43, hf⟩ := zgd hf
      refine zVs (isC := []) (isR := [0, 1]) (isN := [0, 1]) (wc := []) (wr := [(a_t, .inr (4, [.ref a_t_units, .int t_count, .int t_at, .int t_end, .ref a_t_numerator, .ref a_t_denominator, .int t_counting, .int t_power])), (a_t_units, .inl (κ.2.1, 600, .inl t_units))]) (wn := fun _ => [(a_t, .inr (4, [.ref a_t_units, .int t_count, .int t_at, .int t_end, .ref a_t_numerator, .ref a_t_denominator, .int t_counting, .int t_power])), (a_t_units, .inl (κ.2.1, 600, .inl t_units))]) (rest := [.int r_37]) (As := [.int x1]) hF zn_R_94 (k_JS_charAt κ X hX l _ 0 (by decide) x1 g_43) hX hXs hK hA hP hD hS ⟨by decide, by decide⟩ ⟨rfl, rfl, rfl, rfl, rfl, by decide⟩ ⟨rfl, fun _ => rfl, fun _ => rfl⟩ (hst 0 (by decide)).1 rfl hl.1 rfl (Nat.le_of_ble_eq_true rfl) ⟨Nat.zero_le _, Nat.zero_le _⟩ d_R_isInfinityLeft_43 (fun r u H locs hw hP hD hS => ?_)
      subst hw
      refine lv_icmp_eq (tgt := 51) hx hb d_R_isInfinityLeft_46 (by decide) (fun c_46 => ?_) (fun c_46 => ?_)
      · have hf := (zbr hf).1 c_46
        refine lv_iinc (v := (x1 + 1)) (lv' := [(1, .int (x1 + 1)), (0, .ref a_t)]) hx hb d_R_isInfinityLeft_51 hl (k := 1) rfl rfl (by decide) rfl (fun ls hl => ?_)
        refine lv_goto (tgt := 21) hx hb d_R_isInfinityLeft_54 (by decide) ?_
        exact hback_21 _ (Option.some.inj hf).symm H locs ls hP hD hS (lv_sub hl [1, 0] rfl)
      · have hf := (zbr hf).2 c_46
        refine lv_iconst (v := 0) hx hb d_R_isInfinityLeft_49 (by decide) ?_
        have hf := zex hf hexit_21
        exact hret ((0 : Int32)) () H locs ls _ d_R_isInfinityLeft_50 hP hD hS (by decide) (Option.some.inj hf)
  unfold f_R_isInfinityLeft at hf
  refine lv_aload_n hx hb d_R_isInfinityLeft_0 rfl (lv_at hl 0 rfl) ?_
  refine va_get (C := R_R) (T := F_R) (N := 8) hx hb hts i_R hown hK hP 0 rfl rfl 3 (by decide) (hts _ zfl_R_20) (fun _ h9 => h9) rfl d_R_isInfinityLeft_1 ?_
  refine lv_aload_n hx hb d_R_isInfinityLeft_4 rfl (lv_at hl 0 rfl) ?_
  refine va_get (C := R_R) (T := F_R) (N := 8) hx hb hts i_R hown hK hP 0 rfl rfl 2 (by decide) (hts _ zfl_R_17) (fun _ h9 => h9) rfl d_R_isInfinityLeft_5 ?_
  refine lv_isub hx hb d_R_isInfinityLeft_8 ?_
  refine va_ldcS hx hb hown hr0 d_R_isInfinityLeft_9 ?_
  refine zVs (isC := []) (isR := [0, 1]) (isN := [0, 1]) (wc := []) (wr := [(a_t, .inr (4, [.ref a_t_units, .int t_count, .int t_at, .int t_end, .ref a_t_numerator, .ref a_t_denominator, .int t_counting, .int t_power])), (a_t_units, .inl (κ.2.1, 600, .inl t_units))]) (wn := fun _ => [(a_t, .inr (4, [.ref a_t_units, .int t_count, .int t_at, .int t_end, .ref a_t_numerator, .ref a_t_denominator, .int t_counting, .int t_power])), (a_t_units, .inl (κ.2.1, 600, .inl t_units))]) (rest := [.int (t_end - t_at)]) (As := []) hF zn_R_88 (k_JS_length κ X hX l _ 0 (by decide)) hX hXs hK hA hP hD hS ⟨by decide, by decide⟩ ⟨rfl, rfl, rfl, rfl, rfl, by decide⟩ ⟨rfl, fun _ => rfl, fun _ => rfl⟩ (hst 0 (by decide)).1 rfl hl.1 rfl (Nat.le_of_ble_eq_true rfl) ⟨Nat.zero_le _, Nat.zero_le _⟩ d_R_isInfinityLeft_11 (fun r u H locs hw hP hD hS => ?_)
  subst hw
  refine lv_icmp_eq (tgt := 19) hx hb d_R_isInfinityLeft_14 (by decide) (fun c_14 => ?_) (fun c_14 => ?_)
  · have hf := (zbr hf).1 c_14
    refine lv_iconst (v := 0) hx hb d_R_isInfinityLeft_19 (by decide) ?_
    refine lv_istore_n (lv' := [(1, .int 0), (0, .ref a_t)]) hx hb d_R_isInfinityLeft_20 rfl hl (by decide) rfl (fun ls hl => ?_)
    exact b_21 0 H locs ls hf hP hD hS (lv_sub hl [1, 0] rfl)
  · have hf := (zbr hf).2 c_14
    refine lv_iconst (v := 0) hx hb d_R_isInfinityLeft_17 (by decide) ?_
    exact hret ((0 : Int32)) () H locs ls _ d_R_isInfinityLeft_18 hP hD hS (by decide) (Option.some.inj hf)
theorem d_R_roundedQuotient_0 : decode c_R_roundedQuotient 0 = .ok (.aload_n 0, 1) := by decide +kernel
theorem d_R_roundedQuotient_1 : decode c_R_roundedQuotient 1 = .ok (.getfield 30, 3) := by decide +kernel
theorem d_R_roundedQuotient_4 : decode c_R_roundedQuotient 4 = .ok (.invokevirtual 128, 3) := by decide +kernel
theorem d_R_roundedQuotient_7 : decode c_R_roundedQuotient 7 = .ok (.aload_n 0, 1) := by decide +kernel
theorem d_R_roundedQuotient_8 : decode c_R_roundedQuotient 8 = .ok (.getfield 26, 3) := by decide +kernel
theorem d_R_roundedQuotient_11 : decode c_R_roundedQuotient 11 = .ok (.invokevirtual 128, 3) := by decide +kernel
theorem d_R_roundedQuotient_14 : decode c_R_roundedQuotient 14 = .ok (.isub, 1) := by decide +kernel
theorem d_R_roundedQuotient_15 : decode c_R_roundedQuotient 15 = .ok (.istore_n 1, 1) := by decide +kernel
theorem d_R_roundedQuotient_16 : decode c_R_roundedQuotient 16 = .ok (.aload_n 0, 1) := by decide +kernel
theorem d_R_roundedQuotient_17 : decode c_R_roundedQuotient 17 = .ok (.getfield 26, 3) := by decide +kernel
theorem d_R_roundedQuotient_20 : decode c_R_roundedQuotient 20 = .ok (.iload_n 1, 1) := by decide +kernel
theorem d_R_roundedQuotient_21 : decode c_R_roundedQuotient 21 = .ok (.invokevirtual 131, 3) := by decide +kernel
theorem d_R_roundedQuotient_24 : decode c_R_roundedQuotient 24 = .ok (.aload_n 0, 1) := by decide +kernel
theorem d_R_roundedQuotient_25 : decode c_R_roundedQuotient 25 = .ok (.getfield 30, 3) := by decide +kernel
theorem d_R_roundedQuotient_28 : decode c_R_roundedQuotient 28 = .ok (.iload_n 1, 1) := by decide +kernel
theorem d_R_roundedQuotient_29 : decode c_R_roundedQuotient 29 = .ok (.ineg, 1) := by decide +kernel
theorem d_R_roundedQuotient_30 : decode c_R_roundedQuotient 30 = .ok (.invokevirtual 131, 3) := by decide +kernel
theorem d_R_roundedQuotient_33 : decode c_R_roundedQuotient 33 = .ok (.aload_n 0, 1) := by decide +kernel
theorem d_R_roundedQuotient_34 : decode c_R_roundedQuotient 34 = .ok (.getfield 30, 3) := by decide +kernel
theorem d_R_roundedQuotient_37 : decode c_R_roundedQuotient 37 = .ok (.invokevirtual 134, 3) := by decide +kernel
theorem d_R_roundedQuotient_40 : decode c_R_roundedQuotient 40 = .ok (.istore_n 2, 1) := by decide +kernel
theorem d_R_roundedQuotient_41 : decode c_R_roundedQuotient 41 = .ok (.aload_n 0, 1) := by decide +kernel
theorem d_R_roundedQuotient_42 : decode c_R_roundedQuotient 42 = .ok (.getfield 26, 3) := by decide +kernel
theorem d_R_roundedQuotient_45 : decode c_R_roundedQuotient 45 = .ok (.iload_n 2, 1) := by decide +kernel
theorem d_R_roundedQuotient_46 : decode c_R_roundedQuotient 46 = .ok (.invokevirtual 131, 3) := by decide +kernel
theorem d_R_roundedQuotient_49 : decode c_R_roundedQuotient 49 = .ok (.aload_n 0, 1) := by decide +kernel
theorem d_R_roundedQuotient_50 : decode c_R_roundedQuotient 50 = .ok (.getfield 30, 3) := by decide +kernel
theorem d_R_roundedQuotient_53 : decode c_R_roundedQuotient 53 = .ok (.iload_n 2, 1) := by decide +kernel
theorem d_R_roundedQuotient_54 : decode c_R_roundedQuotient 54 = .ok (.invokevirtual 131, 3) := by decide +kernel
theorem d_R_roundedQuotient_57 : decode c_R_roundedQuotient 57 = .ok (.aload_n 0, 1) := by decide +kernel
theorem d_R_roundedQuotient_58 : decode c_R_roundedQuotient 58 = .ok (.getfield 26, 3) := by decide +kernel
theorem d_R_roundedQuotient_61 : decode c_R_roundedQuotient 61 = .ok (.aload_n 0, 1) := by decide +kernel
theorem d_R_roundedQuotient_62 : decode c_R_roundedQuotient 62 = .ok (.getfield 30, 3) := by decide +kernel
theorem d_R_roundedQuotient_65 : decode c_R_roundedQuotient 65 = .ok (.invokevirtual 137, 3) := by decide +kernel
theorem d_R_roundedQuotient_68 : decode c_R_roundedQuotient 68 = .ok (.i2l, 1) := by decide +kernel
theorem d_R_roundedQuotient_69 : decode c_R_roundedQuotient 69 = .ok (.lstore_n 3, 1) := by decide +kernel
theorem d_R_roundedQuotient_70 : decode c_R_roundedQuotient 70 = .ok (.iconst 0, 1) := by decide +kernel
theorem d_R_roundedQuotient_71 : decode c_R_roundedQuotient 71 = .ok (.istore 5, 2) := by decide +kernel
theorem d_R_roundedQuotient_73 : decode c_R_roundedQuotient 73 = .ok (.iload 5, 2) := by decide +kernel
theorem d_R_roundedQuotient_75 : decode c_R_roundedQuotient 75 = .ok (.iconst 3, 1) := by decide +kernel
theorem d_R_roundedQuotient_76 : decode c_R_roundedQuotient 76 = .ok (.if_icmp .ge 36, 3) := by decide +kernel
theorem d_R_roundedQuotient_79 : decode c_R_roundedQuotient 79 = .ok (.aload_n 0, 1) := by decide +kernel
theorem d_R_roundedQuotient_80 : decode c_R_roundedQuotient 80 = .ok (.getfield 26, 3) := by decide +kernel
theorem d_R_roundedQuotient_83 : decode c_R_roundedQuotient 83 = .ok (.bipush 20, 2) := by decide +kernel
theorem d_R_roundedQuotient_85 : decode c_R_roundedQuotient 85 = .ok (.invokevirtual 131, 3) := by decide +kernel
theorem d_R_roundedQuotient_88 : decode c_R_roundedQuotient 88 = .ok (.lload_n 3, 1) := by decide +kernel
theorem d_R_roundedQuotient_89 : decode c_R_roundedQuotient 89 = .ok (.bipush 20, 2) := by decide +kernel
theorem d_R_roundedQuotient_91 : decode c_R_roundedQuotient 91 = .ok (.lshl, 1) := by decide +kernel
theorem d_R_roundedQuotient_92 : decode c_R_roundedQuotient 92 = .ok (.aload_n 0, 1) := by decide +kernel
theorem d_R_roundedQuotient_93 : decode c_R_roundedQuotient 93 = .ok (.getfield 26, 3) := by decide +kernel
theorem d_R_roundedQuotient_96 : decode c_R_roundedQuotient 96 = .ok (.aload_n 0, 1) := by decide +kernel
theorem d_R_roundedQuotient_97 : decode c_R_roundedQuotient 97 = .ok (.getfield 30, 3) := by decide +kernel
theorem d_R_roundedQuotient_100 : decode c_R_roundedQuotient 100 = .ok (.invokevirtual 137, 3) := by decide +kernel
theorem d_R_roundedQuotient_103 : decode c_R_roundedQuotient 103 = .ok (.i2l, 1) := by decide +kernel
theorem d_R_roundedQuotient_104 : decode c_R_roundedQuotient 104 = .ok (.lor, 1) := by decide +kernel
theorem d_R_roundedQuotient_105 : decode c_R_roundedQuotient 105 = .ok (.lstore_n 3, 1) := by decide +kernel
theorem d_R_roundedQuotient_106 : decode c_R_roundedQuotient 106 = .ok (.iinc 5 1, 3) := by decide +kernel
theorem d_R_roundedQuotient_109 : decode c_R_roundedQuotient 109 = .ok (.goto (-36), 3) := by decide +kernel
theorem d_R_roundedQuotient_112 : decode c_R_roundedQuotient 112 = .ok (.aload_n 0, 1) := by decide +kernel
theorem d_R_roundedQuotient_113 : decode c_R_roundedQuotient 113 = .ok (.getfield 26, 3) := by decide +kernel
theorem d_R_roundedQuotient_116 : decode c_R_roundedQuotient 116 = .ok (.invokevirtual 118, 3) := by decide +kernel
theorem d_R_roundedQuotient_119 : decode c_R_roundedQuotient 119 = .ok (.ifCond .eq 7, 3) := by decide +kernel
theorem d_R_roundedQuotient_122 : decode c_R_roundedQuotient 122 = .ok (.lload_n 3, 1) := by decide +kernel
theorem d_R_roundedQuotient_123 : decode c_R_roundedQuotient 123 = .ok (.goto 6, 3) := by decide +kernel
theorem d_R_roundedQuotient_126 : decode c_R_roundedQuotient 126 = .ok (.lload_n 3, 1) := by decide +kernel
theorem d_R_roundedQuotient_127 : decode c_R_roundedQuotient 127 = .ok (.lconst 1, 1) := by decide +kernel
theorem d_R_roundedQuotient_128 : decode c_R_roundedQuotient 128 = .ok (.lor, 1) := by decide +kernel
theorem d_R_roundedQuotient_129 : decode c_R_roundedQuotient 129 = .ok (.lstore_n 3, 1) := by decide +kernel
theorem d_R_roundedQuotient_130 : decode c_R_roundedQuotient 130 = .ok (.lconst 0, 1) := by decide +kernel
theorem d_R_roundedQuotient_131 : decode c_R_roundedQuotient 131 = .ok (.lload_n 3, 1) := by decide +kernel
theorem d_R_roundedQuotient_132 : decode c_R_roundedQuotient 132 = .ok (.iload_n 1, 1) := by decide +kernel
theorem d_R_roundedQuotient_133 : decode c_R_roundedQuotient 133 = .ok (.ineg, 1) := by decide +kernel
theorem d_R_roundedQuotient_134 : decode c_R_roundedQuotient 134 = .ok (.bipush 60, 2) := by decide +kernel
theorem d_R_roundedQuotient_136 : decode c_R_roundedQuotient 136 = .ok (.isub, 1) := by decide +kernel
theorem d_R_roundedQuotient_137 : decode c_R_roundedQuotient 137 = .ok (.invokestatic 79, 3) := by decide +kernel
theorem d_R_roundedQuotient_140 : decode c_R_roundedQuotient 140 = .ok (.lreturn, 1) := by decide +kernel
theorem zn_R_128 : zNV R_R 128 y_N_bitLength c_N_bitLength 1 (some .int) 0 := ⟨zco_N_bitLength, zin_N, zml_R_128, zim_N_bitLength, zse_N_N_bitLength, by decide +kernel⟩
theorem zn_R_131 : zNV R_R 131 y_N_shiftUp c_N_shiftUp 6 none 1 := ⟨zco_N_shiftUp, zin_N, zml_R_131, zim_N_shiftUp, zse_N_N_shiftUp, by decide +kernel⟩
theorem zn_R_134 : zNV R_R 134 y_N_slack c_N_slack 1 (some .int) 0 := ⟨zco_N_slack, zin_N, zml_R_134, zim_N_slack, zse_N_N_slack, by decide +kernel⟩
theorem zn_R_137 : zNV R_R 137 y_N_divideLeavingRest c_N_divideLeavingRest 6 (some .int) 1 := ⟨zco_N_divideLeavingRest, zin_N, zml_R_137, zim_N_divideLeavingRest, zse_N_N_divideLeavingRest, by decide +kernel⟩
theorem zn_R_118 : zNV R_R 118 y_N_isZero c_N_isZero 1 (some .boolean) 0 := ⟨zco_N_isZero, zin_N, zml_R_118, zim_N_isZero, zse_N_N_isZero, by decide +kernel⟩
set_option maxHeartbeats 4000000 in
set_option maxRecDepth 100000 in
theorem k_R_roundedQuotient (κ : zC) (X : zXT) (hX : zX κ X) (l : Launch) (a_t a_t_units a_t_numerator a_t_denominator a_t_numerator_limbs a_t_denominator_limbs : Nat) (sz : Nat) (t_count : Int32) (t_at : Int32) (t_end : Int32) (t_counting : Int32) (t_power : Int32) (t_numerator_used : Int32) (t_numerator_limbs : Nat → Int32) (t_denominator_used : Int32) (t_denominator_limbs : Nat → Int32) (out : Int64 × ((Int32) × (Nat → Int32) × (Int32) × (Nat → Int32))) (hf : f_R_roundedQuotient t_count t_at t_end t_counting t_power t_numerator_used t_numerator_limbs t_denominator_used t_denominator_limbs = some out) : zMet κ X l y_R_roundedQuotient c_R_roundedQuotient 6 (some .long) 3 72 [.ref a_t] sz [(a_t, .inr (4, [.ref a_t_units, .int t_count, .int t_at, .int t_end, .ref a_t_numerator, .ref a_t_denominator, .int t_counting, .int t_power])), (a_t_numerator, .inr (2, [.ref a_t_numerator_limbs, .int t_numerator_used])), (a_t_numerator_limbs, .inl (κ.2.1, 48, .inl t_numerator_limbs)), (a_t_denominator, .inr (2, [.ref a_t_denominator_limbs, .int t_denominator_used])), (a_t_denominator_limbs, .inl (κ.2.1, 48, .inl t_denominator_limbs))] (zQl κ (fun (r : Int64) (u : (Int32) × (Nat → Int32) × (Int32) × (Nat → Int32)) => (r, u) = out) (fun u => [(a_t, .inr (4, [.ref a_t_units, .int t_count, .int t_at, .int t_end, .ref a_t_numerator, .ref a_t_denominator, .int t_counting, .int t_power])), (a_t_numerator, .inr (2, [.ref a_t_numerator_limbs, .int u.1])), (a_t_numerator_limbs, .inl (κ.2.1, 48, .inl u.2.1)), (a_t_denominator, .inr (2, [.ref a_t_denominator_limbs, .int u.2.2.1])), (a_t_denominator_limbs, .inl (κ.2.1, 48, .inl u.2.2.2))])) := by
  refine zMet.ofL (by decide +kernel) (Nat.le_of_ble_eq_true rfl) ?_
  intro p e s m args below meth c ls A Q hF hK hP hD hA hXs hS hl hret
  obtain ⟨hx, hb, hml, hown, hts⟩ := id hF
  obtain ⟨H, hH⟩ : ∃ H, H = s.heap := ⟨_, rfl⟩
  obtain ⟨locs, hlo⟩ : ∃ z : List Loc, z = [] := ⟨_, rfl⟩
  replace hP : zP κ [(a_t, .inr (4, [.ref a_t_units, .int t_count, .int t_at, .int t_end, .ref a_t_numerator, .ref a_t_denominator, .int t_counting, .int t_power])), (a_t_numerator, .inr (2, [.ref a_t_numerator_limbs, .int t_numerator_used])), (a_t_numerator_limbs, .inl (κ.2.1, 48, .inl t_numerator_limbs)), (a_t_denominator, .inr (2, [.ref a_t_denominator_limbs, .int t_denominator_used])), (a_t_denominator_limbs, .inl (κ.2.1, 48, .inl t_denominator_limbs))] H := by rw [hH]; exact hP
  replace hS : va_S A s.heap H locs := by rw [hH, hlo]; exact hS
  suffices hgo : W p l e (zR 3 72) s m args below meth c H locs 0 0 Q (F0 m 0 ls []) by rw [hH, hlo] at hgo; exact hgo
  clear hH hlo
  replace hl : lv_has ls 6 [(0, .ref a_t)] := hl
  have b_129 : ∀ (t_numerator_used : Int32) (t_numerator_limbs : Nat → Int32) (t_denominator_used : Int32) (t_denominator_limbs : Nat → Int32) (x1 : Int32) (s0 : Int64) (H : Heap) (locs : List Loc) (ls : Array Slot), f_R_roundedQuotient_129 t_count t_at t_end t_counting t_power t_numerator_used t_numerator_limbs t_denominator_used t_denominator_limbs x1 s0 = some out → zP κ [(a_t, .inr (4, [.ref a_t_units, .int t_count, .int t_at, .int t_end, .ref a_t_numerator, .ref a_t_denominator, .int t_counting, .int t_power])), (a_t_numerator, .inr (2, [.ref a_t_numerator_limbs, .int t_numerator_used])), (a_t_numerator_limbs, .inl (κ.2.1, 48, .inl t_numerator_limbs)), (a_t_denominator, .inr (2, [.ref a_t_denominator_limbs, .int t_denominator_used])), (a_t_denominator_limbs, .inl (κ.2.1, 48, .inl t_denominator_limbs))] H → va_D A [(a_t, .inr (4, [.ref a_t_units, .int t_count, .int t_at, .int t_end, .ref a_t_numerator, .ref a_t_denominator, .int t_counting, .int t_power])), (a_t_numerator, .inr (2, [.ref a_t_numerator_limbs, .int t_numerator_used])), (a_t_numerator_limbs, .inl (κ.2.1, 48, .inl t_numerator_limbs)), (a_t_denominator, .inr (2, [.ref a_t_denominator_limbs, .int t_denominator_used])), (a_t_denominator_limbs, .inl (κ.2.1, 48, .inl t_denominator_limbs))] → va_S A s.heap H locs → lv_has ls 6 [(1, .int x1)] → W p l e (zR 3 72) s m args below meth c H locs 0 0 Q (F0 m 129 ls [.long s0]) := by
    intro t_numerator_used t_numerator_limbs t_denominator_used t_denominator_limbs x1 s0 H locs ls hf hP hD hS hl
    unfold f_R_roundedQuotient_129 at hf
    refine lv_lstore_n (lv' := [(3, .long s0), (1, .int x1)]) hx hb d_R_roundedQuotient_129 rfl hl (by decide) rfl (fun ls hl => ?_)
    refine lv_lconst (v := 0) hx hb d_R_roundedQuotient_130 (by decide) ?_
    refine lv_lload_n hx hb d_R_roundedQuotient_131 rfl (lv_at hl 0 rfl) ?_
    refine lv_iload_n hx hb d_R_roundedQuotient_132 rfl (lv_at hl 1 rfl) ?_
    refine lv_ineg hx hb d_R_roundedQuotient_133 ?_
    refine lv_bipush (v := 60) hx hb d_R_roundedQuotient_134 (by decide) ?_
    refine lv_isub hx hb d_R_roundedQuotient_136 ?_
    obtain ⟨o_137, ho_137, hf⟩ := zbd hf
    refine zSl (isC := []) (isR := [0, 1, 2, 3, 4]) (isN := [0, 1, 2, 3, 4]) (wc := []) (wr := [(a_t, .inr (4, [.ref a_t_units, .int t_count, .int t_at, .int t_end, .ref a_t_numerator, .ref a_t_denominator, .int t_counting, .int t_power])), (a_t_numerator, .inr (2, [.ref a_t_numerator_limbs, .int t_numerator_used])), (a_t_numerator_limbs, .inl (κ.2.1, 48, .inl t_numerator_limbs)), (a_t_denominator, .inr (2, [.ref a_t_denominator_limbs, .int t_denominator_used])), (a_t_denominator_limbs, .inl (κ.2.1, 48, .inl t_denominator_limbs))]) (wn := fun u => [(a_t, .inr (4, [.ref a_t_units, .int t_count, .int t_at, .int t_end, .ref a_t_numerator, .ref a_t_denominator, .int t_counting, .int t_power])), (a_t_numerator, .inr (2, [.ref a_t_numerator_limbs, .int t_numerator_used])), (a_t_numerator_limbs, .inl (κ.2.1, 48, .inl t_numerator_limbs)), (a_t_denominator, .inr (2, [.ref a_t_denominator_limbs, .int t_denominator_used])), (a_t_denominator_limbs, .inl (κ.2.1, 48, .inl t_denominator_limbs))]) (rest := []) (As := [.long 0, .long s0, .int ((-x1) - 60)]) hF zn_R_79 (k_B_round κ X hX l H.size 0 s0 ((-x1) - 60) o_137 ho_137) hX hXs hK hA hP hD hS ⟨by decide, by decide⟩ ⟨rfl, rfl, rfl, rfl, rfl, by decide⟩ ⟨rfl, fun _ => rfl, fun _ => rfl⟩ rfl hl.1 rfl (Nat.le_of_ble_eq_true rfl) ⟨Nat.zero_le _, Nat.zero_le _⟩ d_R_roundedQuotient_137 (fun r_137 u H locs hw hP hD hS => ?_)
    subst hw
    exact hret (r_137) ((t_numerator_used, t_numerator_limbs, t_denominator_used, t_denominator_limbs)) H locs ls _ d_R_roundedQuotient_140 hP hD hS (Option.some.inj hf)
  have b_112 : ∀ (t_numerator_used : Int32) (t_numerator_limbs : Nat → Int32) (t_denominator_used : Int32) (t_denominator_limbs : Nat → Int32) (x1 : Int32) (x3 : Int64) (H : Heap) (locs : List Loc) (ls : Array Slot), f_R_roundedQuotient_112 t_count t_at t_end t_counting t_power t_numerator_used t_numerator_limbs t_denominator_used t_denominator_limbs x1 x3 = some out → zP κ [(a_t, .inr (4, [.ref a_t_units, .int t_count, .int t_at, .int t_end, .ref a_t_numerator, .ref a_t_denominator, .int t_counting, .int t_power])), (a_t_numerator, .inr (2, [.ref a_t_numerator_limbs, .int t_numerator_used])), (a_t_numerator_limbs, .inl (κ.2.1, 48, .inl t_numerator_limbs)), (a_t_denominator, .inr (2, [.ref a_t_denominator_limbs, .int t_denominator_used])), (a_t_denominator_limbs, .inl (κ.2.1, 48, .inl t_denominator_limbs))] H → va_D A [(a_t, .inr (4, [.ref a_t_units, .int t_count, .int t_at, .int t_end, .ref a_t_numerator, .ref a_t_denominator, .int t_counting, .int t_power])), (a_t_numerator, .inr (2, [.ref a_t_numerator_limbs, .int t_numerator_used])), (a_t_numerator_limbs, .inl (κ.2.1, 48, .inl t_numerator_limbs)), (a_t_denominator, .inr (2, [.ref a_t_denominator_limbs, .int t_denominator_used])), (a_t_denominator_limbs, .inl (κ.2.1, 48, .inl t_denominator_limbs))] → va_S A s.heap H locs → lv_has ls 6 [(0, .ref a_t), (1, .int x1), (3, .long x3)] → W p l e (zR 3 72) s m args below meth c H locs 0 0 Q (F0 m 112 ls []) := by
    intro t_numerator_used t_numerator_limbs t_denominator_used t_denominator_limbs x1 x3 H locs ls hf hP hD hS hl
    unfold f_R_roundedQuotient_112 at hf
    refine lv_aload_n hx hb d_R_roundedQuotient_112 rfl (lv_at hl 0 rfl) ?_
    refine va_get (C := R_R) (T := F_R) (N := 8) hx hb hts i_R hown hK hP 0 rfl rfl 4 (by decide) (hts _ zfl_R_26) (fun _ h9 => h9) rfl d_R_roundedQuotient_113 ?_
    obtain ⟨o_116, ho_116, hf⟩ := zbd hf
    refine zVi (isC := [1]) (isR := [0, 2, 3, 4]) (isN := [0, 4, 1, 2, 3]) (wc := [(a_t_numerator, .inr (2, [.ref a_t_numerator_limbs, .int t_numerator_used]))]) (wr := [(a_t, .inr (4, [.ref a_t_units, .int t_count, .int t_at, .int t_end, .ref a_t_numerator, .ref a_t_denominator, .int t_counting, .int t_power])), (a_t_numerator_limbs, .inl (κ.2.1, 48, .inl t_numerator_limbs)), (a_t_denominator, .inr (2, [.ref a_t_denominator_limbs, .int t_denominator_used])), (a_t_denominator_limbs, .inl (κ.2.1, 48, .inl t_denominator_limbs))]) (wn := fun u => [(a_t, .inr (4, [.ref a_t_units, .int t_count, .int t_at, .int t_end, .ref a_t_numerator, .ref a_t_denominator, .int t_counting, .int t_power])), (a_t_numerator, .inr (2, [.ref a_t_numerator_limbs, .int t_numerator_used])), (a_t_numerator_limbs, .inl (κ.2.1, 48, .inl t_numerator_limbs)), (a_t_denominator, .inr (2, [.ref a_t_denominator_limbs, .int t_denominator_used])), (a_t_denominator_limbs, .inl (κ.2.1, 48, .inl t_denominator_limbs))]) (rest := []) (As := []) hF zn_R_118 (k_N_isZero κ X hX l a_t_numerator a_t_numerator_limbs H.size t_numerator_used o_116 ho_116) hX hXs hK hA hP hD hS ⟨by decide, by decide⟩ ⟨rfl, rfl, rfl, rfl, rfl, by decide⟩ ⟨rfl, fun _ => rfl, fun _ => rfl⟩ (ci := 2) rfl rfl rfl rfl hl.1 rfl (Nat.le_of_ble_eq_true rfl) ⟨Nat.zero_le _, Nat.zero_le _⟩ d_R_roundedQuotient_116 (fun r_116 u H locs hw hP hD hS => ?_)
    subst hw
    refine lv_if_eq (tgt := 126) hx hb d_R_roundedQuotient_119 (by decide) (fun c_119 => ?_) (fun c_119 => ?_)
    · have hf := (zbr hf).1 c_119
      refine lv_lload_n hx hb d_R_roundedQuotient_126 rfl (lv_at hl 2 rfl) ?_
      refine lv_lconst (v := 1) hx hb d_R_roundedQuotient_127 (by decide) ?_
      refine lv_lor hx hb d_R_roundedQuotient_128 ?_
      exact b_129 t_numerator_used t_numerator_limbs t_denominator_used t_denominator_limbs x1 (x3 ||| 1) H locs ls hf hP hD hS (lv_sub hl [1] rfl)
    · have hf := (zbr hf).2 c_119
      refine lv_lload_n hx hb d_R_roundedQuotient_122 rfl (lv_at hl 2 rfl) ?_
      refine lv_goto (tgt := 129) hx hb d_R_roundedQuotient_123 (by decide) ?_
      exact b_129 t_numerator_used t_numerator_limbs t_denominator_used t_denominator_limbs x1 x3 H locs ls hf hP hD hS (lv_sub hl [1] rfl)
  have b_73 : ∀ (t_numerator_used : Int32) (t_numerator_limbs : Nat → Int32) (t_denominator_used : Int32) (t_denominator_limbs : Nat → Int32) (x1 : Int32) (x3 : Int64) (x5 : Int32) (H : Heap) (locs : List Loc) (ls : Array Slot), f_R_roundedQuotient_73 t_count t_at t_end t_counting t_power t_numerator_used t_numerator_limbs t_denominator_used t_denominator_limbs x1 x3 x5 = some out → zP κ [(a_t, .inr (4, [.ref a_t_units, .int t_count, .int t_at, .int t_end, .ref a_t_numerator, .ref a_t_denominator, .int t_counting, .int t_power])), (a_t_numerator, .inr (2, [.ref a_t_numerator_limbs, .int t_numerator_used])), (a_t_numerator_limbs, .inl (κ.2.1, 48, .inl t_numerator_limbs)), (a_t_denominator, .inr (2, [.ref a_t_denominator_limbs, .int t_denominator_used])), (a_t_denominator_limbs, .inl (κ.2.1, 48, .inl t_denominator_limbs))] H → va_D A [(a_t, .inr (4, [.ref a_t_units, .int t_count, .int t_at, .int t_end, .ref a_t_numerator, .ref a_t_denominator, .int t_counting, .int t_power])), (a_t_numerator, .inr (2, [.ref a_t_numerator_limbs, .int t_numerator_used])), (a_t_numerator_limbs, .inl (κ.2.1, 48, .inl t_numerator_limbs)), (a_t_denominator, .inr (2, [.ref a_t_denominator_limbs, .int t_denominator_used])), (a_t_denominator_limbs, .inl (κ.2.1, 48, .inl t_denominator_limbs))] → va_S A s.heap H locs → lv_has ls 6 [(0, .ref a_t), (1, .int x1), (3, .long x3), (5, .int x5)] → W p l e (zR 3 72) s m args below meth c H locs 0 0 Q (F0 m 73 ls []) := by
    intro t_numerator_used t_numerator_limbs t_denominator_used t_denominator_limbs x1 x3 x5 H locs ls hf hP hD hS hl
    refine zrun_ind (P := fun z : (Int32) × (Nat → Int32) × (Int32) × (Nat → Int32) × (Int64) × (Int32) => ∀ (H : Heap) (locs : List Loc) (ls : Array Slot), zP κ [(a_t, .inr (4, [.ref a_t_units, .int t_count, .int t_at, .int t_end, .ref a_t_numerator, .ref a_t_denominator, .int t_counting, .int t_power])), (a_t_numerator, .inr (2, [.ref a_t_numerator_limbs, .int z.1])), (a_t_numerator_limbs, .inl (κ.2.1, 48, .inl z.2.1)), (a_t_denominator, .inr (2, [.ref a_t_denominator_limbs, .int z.2.2.1])), (a_t_denominator_limbs, .inl (κ.2.1, 48, .inl z.2.2.2.1))] H → va_D A [(a_t, .inr (4, [.ref a_t_units, .int t_count, .int t_at, .int t_end, .ref a_t_numerator, .ref a_t_denominator, .int t_counting, .int t_power])), (a_t_numerator, .inr (2, [.ref a_t_numerator_limbs, .int z.1])), (a_t_numerator_limbs, .inl (κ.2.1, 48, .inl z.2.1)), (a_t_denominator, .inr (2, [.ref a_t_denominator_limbs, .int z.2.2.1])), (a_t_denominator_limbs, .inl (κ.2.1, 48, .inl z.2.2.2.1))] → va_S A s.heap H locs → lv_has ls 6 [(0, .ref a_t), (1, .int x1), (3, .long z.2.2.2.2.1), (5, .int z.2.2.2.2.2)] → W p l e (zR 3 72) s m args below meth c H locs 0 0 Q (F0 m 73 ls [])) ?_ hf H locs ls hP hD hS hl
    clear hf hP hD hS hl H locs ls t_numerator_used t_numerator_limbs t_denominator_used t_denominator_limbs x3 x5
    intro z ih hne hexit_73 H locs ls hP hD hS hl
    obtain ⟨q_73, hf⟩ := zne hne
    have hback_73 := fun y (e : q_73 = .inl y) => ih y (e ▸ hf)
    replace hexit_73 := fun y (e : q_73 = .inr y) => hexit_73 y (e ▸ hf)
    clear ih hne
    obtain ⟨t_numerator_used, t_numerator_limbs, t_denominator_used, t_denominator_limbs, x3, x5⟩ := z
    replace hf : f_R_roundedQuotient_73_body t_count t_at t_end t_counting t_power x1 t_numerator_used t_numerator_limbs t_denominator_used t_denominator_limbs x3 x5 = some q_73 := hf
    replace hP : zP κ [(a_t, .inr (4, [.ref a_t_units, .int t_count, .int t_at, .int t_end, .ref a_t_numerator, .ref a_t_denominator, .int t_counting, .int t_power])), (a_t_numerator, .inr (2, [.ref a_t_numerator_limbs, .int t_numerator_used])), (a_t_numerator_limbs, .inl (κ.2.1, 48, .inl t_numerator_limbs)), (a_t_denominator, .inr (2, [.ref a_t_denominator_limbs, .int t_denominator_used])), (a_t_denominator_limbs, .inl (κ.2.1, 48, .inl t_denominator_limbs))] H := hP
    replace hD : va_D A [(a_t, .inr (4, [.ref a_t_units, .int t_count, .int t_at, .int t_end, .ref a_t_numerator, .ref a_t_denominator, .int t_counting, .int t_power])), (a_t_numerator, .inr (2, [.ref a_t_numerator_limbs, .int t_numerator_used])), (a_t_numerator_limbs, .inl (κ.2.1, 48, .inl t_numerator_limbs)), (a_t_denominator, .inr (2, [.ref a_t_denominator_limbs, .int t_denominator_used])), (a_t_denominator_limbs, .inl (κ.2.1, 48, .inl t_denominator_limbs))] := hD
    replace hl : lv_has ls 6 [(0, .ref a_t), (1, .int x1), (3, .long x3), (5, .int x5)] := hl
    unfold f_R_roundedQuotient_73_body at hf
    refine lv_iload hx hb d_R_roundedQuotient_73 (lv_at hl 3 rfl) ?_
    refine lv_iconst (v := 3) hx hb d_R_roundedQuotient_75 (by decide) ?_
    refine lv_icmp_ge (tgt := 112) hx hb d_R_roundedQuotient_76 (by decide) (fun c_76 => ?_) (fun c_76 => ?_)
    · have hf := (zbr hf).1 c_76
      have hf := zex hf hexit_73
      exact b_112 t_numerator_used t_numerator_limbs t_denominator_used t_denominator_limbs x1 x3 H locs ls hf hP hD hS (lv_sub hl [0, 1, 2] rfl)
    · have hf := (zbr hf).2 c_76
      refine lv_aload_n hx hb d_R_roundedQuotient_79 rfl (lv_at hl 0 rfl) ?_
      refine va_get (C := R_R) (T := F_R) (N := 8) hx hb hts i_R hown hK hP 0 rfl rfl 4 (by decide) (hts _ zfl_R_26) (fun _ h9 => h9) rfl d_R_roundedQuotient_80 ?_
      refine lv_bipush (v := 20) hx hb d_R_roundedQuotient_83 (by decide) ?_
      obtain ⟨o_85, ho_85, hf⟩ := zbd hf
      refine zVv (isC := [1, 2]) (isR := [0, 3, 4]) (isN := [0, 3, 4, 1, 2]) (wc := [(a_t_numerator, .inr (2, [.ref a_t_numerator_limbs, .int t_numerator_used])), (a_t_numerator_limbs, .inl (κ.2.1, 48, .inl t_numerator_limbs))]) (wr := [(a_t, .inr (4, [.ref a_t_units, .int t_count, .int t_at, .int t_end, .ref a_t_numerator, .ref a_t_denominator, .int t_counting, .int t_power])), (a_t_denominator, .inr (2, [.ref a_t_denominator_limbs, .int t_denominator_used])), (a_t_denominator_limbs, .inl (κ.2.1, 48, .inl t_denominator_limbs))]) (wn := fun u => [(a_t, .inr (4, [.ref a_t_units, .int t_count, .int t_at, .int t_end, .ref a_t_numerator, .ref a_t_denominator, .int t_counting, .int t_power])), (a_t_numerator, .inr (2, [.ref a_t_numerator_limbs, .int u.1])), (a_t_numerator_limbs, .inl (κ.2.1, 48, .inl u.2)), (a_t_denominator, .inr (2, [.ref a_t_denominator_limbs, .int t_denominator_used])), (a_t_denominator_limbs, .inl (κ.2.1, 48, .inl t_denominator_limbs))]) (rest := []) (As := [.int 20]) hF zn_R_131 (k_N_shiftUp κ X hX l a_t_numerator a_t_numerator_limbs H.size t_numerator_used t_numerator_limbs 20 o_85 ho_85) hX hXs hK hA hP hD hS ⟨by decide, by decide⟩ ⟨rfl, rfl, rfl, rfl, rfl, by decide⟩ ⟨rfl, fun _ => rfl, fun _ => rfl⟩ (ci := 2) rfl rfl rfl rfl hl.1 rfl (Nat.le_of_ble_eq_true rfl) ⟨Nat.zero_le _, Nat.zero_le _⟩ d_R_roundedQuotient_85 (fun u H locs hw hP hD hS => ?_)
      obtain ⟨u85_t_numerator_used, u85_t_numerator_limbs⟩ := u
      have hP : zP κ [(a_t, .inr (4, [.ref a_t_units, .int t_count, .int t_at, .int t_end, .ref a_t_numerator, .ref a_t_denominator, .int t_counting, .int t_power])), (a_t_numerator, .inr (2, [.ref a_t_numerator_limbs, .int u85_t_numerator_used])), (a_t_numerator_limbs, .inl (κ.2.1, 48, .inl u85_t_numerator_limbs)), (a_t_denominator, .inr (2, [.ref a_t_denominator_limbs, .int t_denominator_used])), (a_t_denominator_limbs, .inl (κ.2.1, 48, .inl t_denominator_limbs))] H := hP
      have hD : va_D A [(a_t, .inr (4, [.ref a_t_units, .int t_count, .int t_at, .int t_end, .ref a_t_numerator, .ref a_t_denominator, .int t_counting, .int t_power])), (a_t_numerator, .inr (2, [.ref a_t_numerator_limbs, .int u85_t_numerator_used])), (a_t_numerator_limbs, .inl (κ.2.1, 48, .inl u85_t_numerator_limbs)), (a_t_denominator, .inr (2, [.ref a_t_denominator_limbs, .int t_denominator_used])), (a_t_denominator_limbs, .inl (κ.2.1, 48, .inl t_denominator_limbs))] := hD
      subst hw
      dsimp only at hf
      refine lv_lload_n hx hb d_R_roundedQuotient_88 rfl (lv_at hl 2 rfl) ?_
      refine lv_bipush (v := 20) hx hb d_R_roundedQuotient_89 (by decide) ?_
      refine lv_lshl (v := (jlshl x3 20)) hx hb d_R_roundedQuotient_91 rfl ?_
      refine lv_aload_n hx hb d_R_roundedQuotient_92 rfl (lv_at hl 0 rfl) ?_
      refine va_get (C := R_R) (T := F_R) (N := 8) hx hb hts i_R hown hK hP 0 rfl rfl 4 (by decide) (hts _ zfl_R_26) (fun _ h9 => h9) rfl d_R_roundedQuotient_93 ?_
      refine lv_aload_n hx hb d_R_roundedQuotient_96 rfl (lv_at hl 0 rfl) ?_
      refine va_get (C := R_R) (T := F_R) (N := 8) hx hb hts i_R hown hK hP 0 rfl rfl 5 (by decide) (hts _ zfl_R_30) (fun _ h9 => h9) rfl d_R_roundedQuotient_97 ?_
      obtain ⟨o_100, ho_100, hf⟩ := zbd hf
      refine zVi (isC := [1, 2, 3, 4]) (isR := [0]) (isN := [0, 1, 2, 3, 4]) (wc := [(a_t_numerator, .inr (2, [.ref a_t_numerator_limbs, .int u85_t_numerator_used])), (a_t_numerator_limbs, .inl (κ.2.1, 48, .inl u85_t_numerator_limbs)), (a_t_denominator, .inr (2, [.ref a_t_denominator_limbs, .int t_denominator_used])), (a_t_denominator_limbs, .inl (κ.2.1, 48, .inl t_denominator_limbs))]) (wr := [(a_t, .inr (4, [.ref a_t_units, .int t_count, .int t_at, .int t_end, .ref a_t_numerator, .ref a_t_denominator, .int t_counting, .int t_power]))]) (wn := fun u => [(a_t, .inr (4, [.ref a_t_units, .int t_count, .int t_at, .int t_end, .ref a_t_numerator, .ref a_t_denominator, .int t_counting, .int t_power])), (a_t_numerator, .inr (2, [.ref a_t_numerator_limbs, .int u.1])), (a_t_numerator_limbs, .inl (κ.2.1, 48, .inl u.2)), (a_t_denominator, .inr (2, [.ref a_t_denominator_limbs, .int t_denominator_used])), (a_t_denominator_limbs, .inl (κ.2.1, 48, .inl t_denominator_limbs))]) (rest := [.long (jlshl x3 20)]) (As := [.ref a_t_denominator]) hF zn_R_137 (k_N_divideLeavingRest κ X hX l a_t_numerator a_t_denominator a_t_numerator_limbs a_t_denominator_limbs H.size u85_t_numerator_used u85_t_numerator_limbs t_denominator_used t_denominator_limbs o_100 ho_100) hX hXs hK hA hP hD hS ⟨by decide, by decide⟩ ⟨rfl, rfl, rfl, rfl, rfl, by decide⟩ ⟨rfl, fun _ => rfl, fun _ => rfl⟩ (ci := 2) rfl rfl rfl rfl hl.1 rfl (Nat.le_of_ble_eq_true rfl) ⟨Nat.zero_le _, Nat.zero_le _⟩ d_R_roundedQuotient_100 (fun r_100 u H locs hw hP hD hS => ?_)
      obtain ⟨u100_t_numerator_used, u100_t_numerator_limbs⟩ := u
      have hP : zP κ [(a_t, .inr (4, [.ref a_t_units, .int t_count, .int t_at, .int t_end, .ref a_t_numerator, .ref a_t_denominator, .int t_counting, .int t_power])), (a_t_numerator, .inr (2, [.ref a_t_numerator_limbs, .int u100_t_numerator_used])), (a_t_numerator_limbs, .inl (κ.2.1, 48, .inl u100_t_numerator_limbs)), (a_t_denominator, .inr (2, [.ref a_t_denominator_limbs, .int t_denominator_used])), (a_t_denominator_limbs, .inl (κ.2.1, 48, .inl t_denominator_limbs))] H := hP
      have hD : va_D A [(a_t, .inr (4, [.ref a_t_units, .int t_count, .int t_at, .int t_end, .ref a_t_numerator, .ref a_t_denominator, .int t_counting, .int t_power])), (a_t_numerator, .inr (2, [.ref a_t_numerator_limbs, .int u100_t_numerator_used])), (a_t_numerator_limbs, .inl (κ.2.1, 48, .inl u100_t_numerator_limbs)), (a_t_denominator, .inr (2, [.ref a_t_denominator_limbs, .int t_denominator_used])), (a_t_denominator_limbs, .inl (κ.2.1, 48, .inl t_denominator_limbs))] := hD
      subst hw
      dsimp only at hf
      refine lv_i2l hx hb d_R_roundedQuotient_103 rfl ?_
      refine lv_lor hx hb d_R_roundedQuotient_104 ?_
      refine lv_lstore_n (lv' := [(3, .long ((jlshl x3 20) ||| (r_100).toInt64)), (0, .ref a_t), (1, .int x1), (5, .int x5)]) hx hb d_R_roundedQuotient_105 rfl hl (by decide) rfl (fun ls hl => ?_)
      refine lv_iinc (v := (x5 + 1)) (lv' := [(5, .int (x5 + 1)), (3, .long ((jlshl x3 20) ||| (r_100).toInt64)), (0, .ref a_t), (1, .int x1)]) hx hb d_R_roundedQuotient_106 hl (k := 3) rfl rfl (by decide) rfl (fun ls hl => ?_)
      refine lv_goto (tgt := 73) hx hb d_R_roundedQuotient_109 (by decide) ?_
      exact hback_73 _ (Option.some.inj hf).symm H locs ls hP hD hS (lv_sub hl [2, 3, 1, 0] rfl)
  unfold f_R_roundedQuotient at hf
  refine lv_aload_n hx hb d_R_roundedQuotient_0 rfl (lv_at hl 0 rfl) ?_
  refine va_get (C := R_R) (T := F_R) (N := 8) hx hb hts i_R hown hK hP 0 rfl rfl 5 (by decide) (hts _ zfl_R_30) (fun _ h9 => h9) rfl d_R_roundedQuotient_1 ?_
  obtain ⟨o_4, ho_4, hf⟩ := zbd hf
  refine zVi (isC := [3, 4]) (isR := [0, 1, 2]) (isN := [0, 1, 2, 3, 4]) (wc := [(a_t_denominator, .inr (2, [.ref a_t_denominator_limbs, .int t_denominator_used])), (a_t_denominator_limbs, .inl (κ.2.1, 48, .inl t_denominator_limbs))]) (wr := [(a_t, .inr (4, [.ref a_t_units, .int t_count, .int t_at, .int t_end, .ref a_t_numerator, .ref a_t_denominator, .int t_counting, .int t_power])), (a_t_numerator, .inr (2, [.ref a_t_numerator_limbs, .int t_numerator_used])), (a_t_numerator_limbs, .inl (κ.2.1, 48, .inl t_numerator_limbs))]) (wn := fun u => [(a_t, .inr (4, [.ref a_t_units, .int t_count, .int t_at, .int t_end, .ref a_t_numerator, .ref a_t_denominator, .int t_counting, .int t_power])), (a_t_numerator, .inr (2, [.ref a_t_numerator_limbs, .int t_numerator_used])), (a_t_numerator_limbs, .inl (κ.2.1, 48, .inl t_numerator_limbs)), (a_t_denominator, .inr (2, [.ref a_t_denominator_limbs, .int t_denominator_used])), (a_t_denominator_limbs, .inl (κ.2.1, 48, .inl t_denominator_limbs))]) (rest := []) (As := []) hF zn_R_128 (k_N_bitLength κ X hX l a_t_denominator a_t_denominator_limbs H.size t_denominator_used t_denominator_limbs o_4 ho_4) hX hXs hK hA hP hD hS ⟨by decide, by decide⟩ ⟨rfl, rfl, rfl, rfl, rfl, by decide⟩ ⟨rfl, fun _ => rfl, fun _ => rfl⟩ (ci := 2) rfl rfl rfl rfl hl.1 rfl (Nat.le_of_ble_eq_true rfl) ⟨Nat.zero_le _, Nat.zero_le _⟩ d_R_roundedQuotient_4 (fun r_4 u H locs hw hP hD hS => ?_)
  subst hw
  refine lv_aload_n hx hb d_R_roundedQuotient_7 rfl (lv_at hl 0 rfl) ?_
  refine va_get (C := R_R) (T := F_R) (N := 8) hx hb hts i_R hown hK hP 0 rfl rfl 4 (by decide) (hts _ zfl_R_26) (fun _ h9 => h9) rfl d_R_roundedQuotient_8 ?_
  obtain ⟨o_11, ho_11, hf⟩ := zbd hf
  refine zVi (isC := [1, 2]) (isR := [0, 3, 4]) (isN := [0, 3, 4, 1, 2]) (wc := [(a_t_numerator, .inr (2, [.ref a_t_numerator_limbs, .int t_numerator_used])), (a_t_numerator_limbs, .inl (κ.2.1, 48, .inl t_numerator_limbs))]) (wr := [(a_t, .inr (4, [.ref a_t_units, .int t_count, .int t_at, .int t_end, .ref a_t_numerator, .ref a_t_denominator, .int t_counting, .int t_power])), (a_t_denominator, .inr (2, [.ref a_t_denominator_limbs, .int t_denominator_used])), (a_t_denominator_limbs, .inl (κ.2.1, 48, .inl t_denominator_limbs))]) (wn := fun u => [(a_t, .inr (4, [.ref a_t_units, .int t_count, .int t_at, .int t_end, .ref a_t_numerator, .ref a_t_denominator, .int t_counting, .int t_power])), (a_t_numerator, .inr (2, [.ref a_t_numerator_limbs, .int t_numerator_used])), (a_t_numerator_limbs, .inl (κ.2.1, 48, .inl t_numerator_limbs)), (a_t_denominator, .inr (2, [.ref a_t_denominator_limbs, .int t_denominator_used])), (a_t_denominator_limbs, .inl (κ.2.1, 48, .inl t_denominator_limbs))]) (rest := [.int r_4]) (As := []) hF zn_R_128 (k_N_bitLength κ X hX l a_t_numerator a_t_numerator_limbs H.size t_numerator_used t_numerator_limbs o_11 ho_11) hX hXs hK hA hP hD hS ⟨by decide, by decide⟩ ⟨rfl, rfl, rfl, rfl, rfl, by decide⟩ ⟨rfl, fun _ => rfl, fun _ => rfl⟩ (ci := 2) rfl rfl rfl rfl hl.1 rfl (Nat.le_of_ble_eq_true rfl) ⟨Nat.zero_le _, Nat.zero_le _⟩ d_R_roundedQuotient_11 (fun r_11 u H locs hw hP hD hS => ?_)
  subst hw
  refine lv_isub hx hb d_R_roundedQuotient_14 ?_
  refine lv_istore_n (lv' := [(1, .int (r_4 - r_11)), (0, .ref a_t)]) hx hb d_R_roundedQuotient_15 rfl hl (by decide) rfl (fun ls hl => ?_)
  refine lv_aload_n hx hb d_R_roundedQuotient_16 rfl (lv_at hl 1 rfl) ?_
  refine va_get (C := R_R) (T := F_R) (N := 8) hx hb hts i_R hown hK hP 0 rfl rfl 4 (by decide) (hts _ zfl_R_26) (fun _ h9 => h9) rfl d_R_roundedQuotient_17 ?_
  refine lv_iload_n hx hb d_R_roundedQuotient_20 rfl (lv_at hl 0 rfl) ?_
  obtain ⟨o_21, ho_21, hf⟩ := zbd hf
  refine zVv (isC := [1, 2]) (isR := [0, 3, 4]) (isN := [0, 3, 4, 1, 2]) (wc := [(a_t_numerator, .inr (2, [.ref a_t_numerator_limbs, .int t_numerator_used])), (a_t_numerator_limbs, .inl (κ.2.1, 48, .inl t_numerator_limbs))]) (wr := [(a_t, .inr (4, [.ref a_t_units, .int t_count, .int t_at, .int t_end, .ref a_t_numerator, .ref a_t_denominator, .int t_counting, .int t_power])), (a_t_denominator, .inr (2, [.ref a_t_denominator_limbs, .int t_denominator_used])), (a_t_denominator_limbs, .inl (κ.2.1, 48, .inl t_denominator_limbs))]) (wn := fun u => [(a_t, .inr (4, [.ref a_t_units, .int t_count, .int t_at, .int t_end, .ref a_t_numerator, .ref a_t_denominator, .int t_counting, .int t_power])), (a_t_numerator, .inr (2, [.ref a_t_numerator_limbs, .int u.1])), (a_t_numerator_limbs, .inl (κ.2.1, 48, .inl u.2)), (a_t_denominator, .inr (2, [.ref a_t_denominator_limbs, .int t_denominator_used])), (a_t_denominator_limbs, .inl (κ.2.1, 48, .inl t_denominator_limbs))]) (rest := []) (As := [.int (r_4 - r_11)]) hF zn_R_131 (k_N_shiftUp κ X hX l a_t_numerator a_t_numerator_limbs H.size t_numerator_used t_numerator_limbs (r_4 - r_11) o_21 ho_21) hX hXs hK hA hP hD hS ⟨by decide, by decide⟩ ⟨rfl, rfl, rfl, rfl, rfl, by decide⟩ ⟨rfl, fun _ => rfl, fun _ => rfl⟩ (ci := 2) rfl rfl rfl rfl hl.1 rfl (Nat.le_of_ble_eq_true rfl) ⟨Nat.zero_le _, Nat.zero_le _⟩ d_R_roundedQuotient_21 (fun u H locs hw hP hD hS => ?_)
  obtain ⟨u21_t_numerator_used, u21_t_numerator_limbs⟩ := u
  have hP : zP κ [(a_t, .inr (4, [.ref a_t_units, .int t_count, .int t_at, .int t_end, .ref a_t_numerator, .ref a_t_denominator, .int t_counting, .int t_power])), (a_t_numerator, .inr (2, [.ref a_t_numerator_limbs, .int u21_t_numerator_used])), (a_t_numerator_limbs, .inl (κ.2.1, 48, .inl u21_t_numerator_limbs)), (a_t_denominator, .inr (2, [.ref a_t_denominator_limbs, .int t_denominator_used])), (a_t_denominator_limbs, .inl (κ.2.1, 48, .inl t_denominator_limbs))] H := hP
  have hD : va_D A [(a_t, .inr (4, [.ref a_t_units, .int t_count, .int t_at, .int t_end, .ref a_t_numerator, .ref a_t_denominator, .int t_counting, .int t_power])), (a_t_numerator, .inr (2, [.ref a_t_numerator_limbs, .int u21_t_numerator_used])), (a_t_numerator_limbs, .inl (κ.2.1, 48, .inl u21_t_numerator_limbs)), (a_t_denominator, .inr (2, [.ref a_t_denominator_limbs, .int t_denominator_used])), (a_t_denominator_limbs, .inl (κ.2.1, 48, .inl t_denominator_limbs))] := hD
  subst hw
  dsimp only at hf
  refine lv_aload_n hx hb d_R_roundedQuotient_24 rfl (lv_at hl 1 rfl) ?_
  refine va_get (C := R_R) (T := F_R) (N := 8) hx hb hts i_R hown hK hP 0 rfl rfl 5 (by decide) (hts _ zfl_R_30) (fun _ h9 => h9) rfl d_R_roundedQuotient_25 ?_
  refine lv_iload_n hx hb d_R_roundedQuotient_28 rfl (lv_at hl 0 rfl) ?_
  refine lv_ineg hx hb d_R_roundedQuotient_29 ?_
  obtain ⟨o_30, ho_30, hf⟩ := zbd hf
  refine zVv (isC := [3, 4]) (isR := [0, 1, 2]) (isN := [0, 1, 2, 3, 4]) (wc := [(a_t_denominator, .inr (2, [.ref a_t_denominator_limbs, .int t_denominator_used])), (a_t_denominator_limbs, .inl (κ.2.1, 48, .inl t_denominator_limbs))]) (wr := [(a_t, .inr (4, [.ref a_t_units, .int t_count, .int t_at, .int t_end, .ref a_t_numerator, .ref a_t_denominator, .int t_counting, .int t_power])), (a_t_numerator, .inr (2, [.ref a_t_numerator_limbs, .int u21_t_numerator_used])), (a_t_numerator_limbs, .inl (κ.2.1, 48, .inl u21_t_numerator_limbs))]) (wn := fun u => [(a_t, .inr (4, [.ref a_t_units, .int t_count, .int t_at, .int t_end, .ref a_t_numerator, .ref a_t_denominator, .int t_counting, .int t_power])), (a_t_numerator, .inr (2, [.ref a_t_numerator_limbs, .int u21_t_numerator_used])), (a_t_numerator_limbs, .inl (κ.2.1, 48, .inl u21_t_numerator_limbs)), (a_t_denominator, .inr (2, [.ref a_t_denominator_limbs, .int u.1])), (a_t_denominator_limbs, .inl (κ.2.1, 48, .inl u.2))]) (rest := []) (As := [.int (-(r_4 - r_11))]) hF zn_R_131 (k_N_shiftUp κ X hX l a_t_denominator a_t_denominator_limbs H.size t_denominator_used t_denominator_limbs (-(r_4 - r_11)) o_30 ho_30) hX hXs hK hA hP hD hS ⟨by decide, by decide⟩ ⟨rfl, rfl, rfl, rfl, rfl, by decide⟩ ⟨rfl, fun _ => rfl, fun _ => rfl⟩ (ci := 2) rfl rfl rfl rfl hl.1 rfl (Nat.le_of_ble_eq_true rfl) ⟨Nat.zero_le _, Nat.zero_le _⟩ d_R_roundedQuotient_30 (fun u H locs hw hP hD hS => ?_)
  obtain ⟨u30_t_denominator_used, u30_t_denominator_limbs⟩ := u
  have hP : zP κ [(a_t, .inr (4, [.ref a_t_units, .int t_count, .int t_at, .int t_end, .ref a_t_numerator, .ref a_t_denominator, .int t_counting, .int t_power])), (a_t_numerator, .inr (2, [.ref a_t_numerator_limbs, .int u21_t_numerator_used])), (a_t_numerator_limbs, .inl (κ.2.1, 48, .inl u21_t_numerator_limbs)), (a_t_denominator, .inr (2, [.ref a_t_denominator_limbs, .int u30_t_denominator_used])), (a_t_denominator_limbs, .inl (κ.2.1, 48, .inl u30_t_denominator_limbs))] H := hP
  have hD : va_D A [(a_t, .inr (4, [.ref a_t_units, .int t_count, .int t_at, .int t_end, .ref a_t_numerator, .ref a_t_denominator, .int t_counting, .int t_power])), (a_t_numerator, .inr (2, [.ref a_t_numerator_limbs, .int u21_t_numerator_used])), (a_t_numerator_limbs, .inl (κ.2.1, 48, .inl u21_t_numerator_limbs)), (a_t_denominator, .inr (2, [.ref a_t_denominator_limbs, .int u30_t_denominator_used])), (a_t_denominator_limbs, .inl (κ.2.1, 48, .inl u30_t_denominator_limbs))] := hD
  subst hw
  dsimp only at hf
  refine lv_aload_n hx hb d_R_roundedQuotient_33 rfl (lv_at hl 1 rfl) ?_
  refine va_get (C := R_R) (T := F_R) (N := 8) hx hb hts i_R hown hK hP 0 rfl rfl 5 (by decide) (hts _ zfl_R_30) (fun _ h9 => h9) rfl d_R_roundedQuotient_34 ?_
  obtain ⟨o_37, ho_37, hf⟩ := zbd hf
  refine zVi (isC := [3, 4]) (isR := [0, 1, 2]) (isN := [0, 1, 2, 3, 4]) (wc := [(a_t_denominator, .inr (2, [.ref a_t_denominator_limbs, .int u30_t_denominator_used])), (a_t_denominator_limbs, .inl (κ.2.1, 48, .inl u30_t_denominator_limbs))]) (wr := [(a_t, .inr (4, [.ref a_t_units, .int t_count, .int t_at, .int t_end, .ref a_t_numerator, .ref a_t_denominator, .int t_counting, .int t_power])), (a_t_numerator, .inr (2, [.ref a_t_numerator_limbs, .int u21_t_numerator_used])), (a_t_numerator_limbs, .inl (κ.2.1, 48, .inl u21_t_numerator_limbs))]) (wn := fun u => [(a_t, .inr (4, [.ref a_t_units, .int t_count, .int t_at, .int t_end, .ref a_t_numerator, .ref a_t_denominator, .int t_counting, .int t_power])), (a_t_numerator, .inr (2, [.ref a_t_numerator_limbs, .int u21_t_numerator_used])), (a_t_numerator_limbs, .inl (κ.2.1, 48, .inl u21_t_numerator_limbs)), (a_t_denominator, .inr (2, [.ref a_t_denominator_limbs, .int u30_t_denominator_used])), (a_t_denominator_limbs, .inl (κ.2.1, 48, .inl u30_t_denominator_limbs))]) (rest := []) (As := []) hF zn_R_134 (k_N_slack κ X hX l a_t_denominator a_t_denominator_limbs H.size u30_t_denominator_used u30_t_denominator_limbs o_37 ho_37) hX hXs hK hA hP hD hS ⟨by decide, by decide⟩ ⟨rfl, rfl, rfl, rfl, rfl, by decide⟩ ⟨rfl, fun _ => rfl, fun _ => rfl⟩ (ci := 2) rfl rfl rfl rfl hl.1 rfl (Nat.le_of_ble_eq_true rfl) ⟨Nat.zero_le _, Nat.zero_le _⟩ d_R_roundedQuotient_37 (fun r_37 u H locs hw hP hD hS => ?_)
  subst hw
  refine lv_istore_n (lv' := [(2, .int r_37), (1, .int (r_4 - r_11)), (0, .ref a_t)]) hx hb d_R_roundedQuotient_40 rfl hl (by decide) rfl (fun ls hl => ?_)
  refine lv_aload_n hx hb d_R_roundedQuotient_41 rfl (lv_at hl 2 rfl) ?_
  refine va_get (C := R_R) (T := F_R) (N := 8) hx hb hts i_R hown hK hP 0 rfl rfl 4 (by decide) (hts _ zfl_R_26) (fun _ h9 => h9) rfl d_R_roundedQuotient_42 ?_
  refine lv_iload_n hx hb d_R_roundedQuotient_45 rfl (lv_at hl 0 rfl) ?_
  obtain ⟨o_46, ho_46, hf⟩ := zbd hf
  refine zVv (isC := [1, 2]) (isR := [0, 3, 4]) (isN := [0, 3, 4, 1, 2]) (wc := [(a_t_numerator, .inr (2, [.ref a_t_numerator_limbs, .int u21_t_numerator_used])), (a_t_numerator_limbs, .inl (κ.2.1, 48, .inl u21_t_numerator_limbs))]) (wr := [(a_t, .inr (4, [.ref a_t_units, .int t_count, .int t_at, .int t_end, .ref a_t_numerator, .ref a_t_denominator, .int t_counting, .int t_power])), (a_t_denominator, .inr (2, [.ref a_t_denominator_limbs, .int u30_t_denominator_used])), (a_t_denominator_limbs, .inl (κ.2.1, 48, .inl u30_t_denominator_limbs))]) (wn := fun u => [(a_t, .inr (4, [.ref a_t_units, .int t_count, .int t_at, .int t_end, .ref a_t_numerator, .ref a_t_denominator, .int t_counting, .int t_power])), (a_t_numerator, .inr (2, [.ref a_t_numerator_limbs, .int u.1])), (a_t_numerator_limbs, .inl (κ.2.1, 48, .inl u.2)), (a_t_denominator, .inr (2, [.ref a_t_denominator_limbs, .int u30_t_denominator_used])), (a_t_denominator_limbs, .inl (κ.2.1, 48, .inl u30_t_denominator_limbs))]) (rest := []) (As := [.int r_37]) hF zn_R_131 (k_N_shiftUp κ X hX l a_t_numerator a_t_numerator_limbs H.size u21_t_numerator_used u21_t_numerator_limbs r_37 o_46 ho_46) hX hXs hK hA hP hD hS ⟨by decide, by decide⟩ ⟨rfl, rfl, rfl, rfl, rfl, by decide⟩ ⟨rfl, fun _ => rfl, fun _ => rfl⟩ (ci := 2) rfl rfl rfl rfl hl.1 rfl (Nat.le_of_ble_eq_true rfl) ⟨Nat.zero_le _, Nat.zero_le _⟩ d_R_roundedQuotient_46 (fun u H locs hw hP hD hS => ?_)
  obtain ⟨u46_t_numerator_used, u46_t_numerator_limbs⟩ := u
  have hP : zP κ [(a_t, .inr (4, [.ref a_t_units, .int t_count, .int t_at, .int t_end, .ref a_t_numerator, .ref a_t_denominator, .int t_counting, .int t_power])), (a_t_numerator, .inr (2, [.ref a_t_numerator_limbs, .int u46_t_numerator_used])), (a_t_numerator_limbs, .inl (κ.2.1, 48, .inl u46_t_numerator_limbs)), (a_t_denominator, .inr (2, [.ref a_t_denominator_limbs, .int u30_t_denominator_used])), (a_t_denominator_limbs, .inl (κ.2.1, 48, .inl u30_t_denominator_limbs))] H := hP
  have hD : va_D A [(a_t, .inr (4, [.ref a_t_units, .int t_count, .int t_at, .int t_end, .ref a_t_numerator, .ref a_t_denominator, .int t_counting, .int t_power])), (a_t_numerator, .inr (2, [.ref a_t_numerator_limbs, .int u46_t_numerator_used])), (a_t_numerator_limbs, .inl (κ.2.1, 48, .inl u46_t_numerator_limbs)), (a_t_denominator, .inr (2, [.ref a_t_denominator_limbs, .int u30_t_denominator_used])), (a_t_denominator_limbs, .inl (κ.2.1, 48, .inl u30_t_denominator_limbs))] := hD
  subst hw
  dsimp only at hf
  refine lv_aload_n hx hb d_R_roundedQuotient_49 rfl (lv_at hl 2 rfl) ?_
  refine va_get (C := R_R) (T := F_R) (N := 8) hx hb hts i_R hown hK hP 0 rfl rfl 5 (by decide) (hts _ zfl_R_30) (fun _ h9 => h9) rfl d_R_roundedQuotient_50 ?_
  refine lv_iload_n hx hb d_R_roundedQuotient_53 rfl (lv_at hl 0 rfl) ?_
  obtain ⟨o_54, ho_54, hf⟩ := zbd hf
  refine zVv (isC := [3, 4]) (isR := [0, 1, 2]) (isN := [0, 1, 2, 3, 4]) (wc := [(a_t_denominator, .inr (2, [.ref a_t_denominator_limbs, .int u30_t_denominator_used])), (a_t_denominator_limbs, .inl (κ.2.1, 48, .inl u30_t_denominator_limbs))]) (wr := [(a_t, .inr (4, [.ref a_t_units, .int t_count, .int t_at, .int t_end, .ref a_t_numerator, .ref a_t_denominator, .int t_counting, .int t_power])), (a_t_numerator, .inr (2, [.ref a_t_numerator_limbs, .int u46_t_numerator_used])), (a_t_numerator_limbs, .inl (κ.2.1, 48, .inl u46_t_numerator_limbs))]) (wn := fun u => [(a_t, .inr (4, [.ref a_t_units, .int t_count, .int t_at, .int t_end, .ref a_t_numerator, .ref a_t_denominator, .int t_counting, .int t_power])), (a_t_numerator, .inr (2, [.ref a_t_numerator_limbs, .int u46_t_numerator_used])), (a_t_numerator_limbs, .inl (κ.2.1, 48, .inl u46_t_numerator_limbs)), (a_t_denominator, .inr (2, [.ref a_t_denominator_limbs, .int u.1])), (a_t_denominator_limbs, .inl (κ.2.1, 48, .inl u.2))]) (rest := []) (As := [.int r_37]) hF zn_R_131 (k_N_shiftUp κ X hX l a_t_denominator a_t_denominator_limbs H.size u30_t_denominator_used u30_t_denominator_limbs r_37 o_54 ho_54) hX hXs hK hA hP hD hS ⟨by decide, by decide⟩ ⟨rfl, rfl, rfl, rfl, rfl, by decide⟩ ⟨rfl, fun _ => rfl, fun _ => rfl⟩ (ci := 2) rfl rfl rfl rfl hl.1 rfl (Nat.le_of_ble_eq_true rfl) ⟨Nat.zero_le _, Nat.zero_le _⟩ d_R_roundedQuotient_54 (fun u H locs hw hP hD hS => ?_)
  obtain ⟨u54_t_denominator_used, u54_t_denominator_limbs⟩ := u
  have hP : zP κ [(a_t, .inr (4, [.ref a_t_units, .int t_count, .int t_at, .int t_end, .ref a_t_numerator, .ref a_t_denominator, .int t_counting, .int t_power])), (a_t_numerator, .inr (2, [.ref a_t_numerator_limbs, .int u46_t_numerator_used])), (a_t_numerator_limbs, .inl (κ.2.1, 48, .inl u46_t_numerator_limbs)), (a_t_denominator, .inr (2, [.ref a_t_denominator_limbs, .int u54_t_denominator_used])), (a_t_denominator_limbs, .inl (κ.2.1, 48, .inl u54_t_denominator_limbs))] H := hP
  have hD : va_D A [(a_t, .inr (4, [.ref a_t_units, .int t_count, .int t_at, .int t_end, .ref a_t_numerator, .ref a_t_denominator, .int t_counting, .int t_power])), (a_t_numerator, .inr (2, [.ref a_t_numerator_limbs, .int u46_t_numerator_used])), (a_t_numerator_limbs, .inl (κ.2.1, 48, .inl u46_t_numerator_limbs)), (a_t_denominator, .inr (2, [.ref a_t_denominator_limbs, .int u54_t_denominator_used])), (a_t_denominator_limbs, .inl (κ.2.1, 48, .inl u54_t_denominator_limbs))] := hD
  subst hw
  dsimp only at hf
  refine lv_aload_n hx hb d_R_roundedQuotient_57 rfl (lv_at hl 2 rfl) ?_
  refine va_get (C := R_R) (T := F_R) (N := 8) hx hb hts i_R hown hK hP 0 rfl rfl 4 (by decide) (hts _ zfl_R_26) (fun _ h9 => h9) rfl d_R_roundedQuotient_58 ?_
  refine lv_aload_n hx hb d_R_roundedQuotient_61 rfl (lv_at hl 2 rfl) ?_
  refine va_get (C := R_R) (T := F_R) (N := 8) hx hb hts i_R hown hK hP 0 rfl rfl 5 (by decide) (hts _ zfl_R_30) (fun _ h9 => h9) rfl d_R_roundedQuotient_62 ?_
  obtain ⟨o_65, ho_65, hf⟩ := zbd hf
  refine zVi (isC := [1, 2, 3, 4]) (isR := [0]) (isN := [0, 1, 2, 3, 4]) (wc := [(a_t_numerator, .inr (2, [.ref a_t_numerator_limbs, .int u46_t_numerator_used])), (a_t_numerator_limbs, .inl (κ.2.1, 48, .inl u46_t_numerator_limbs)), (a_t_denominator, .inr (2, [.ref a_t_denominator_limbs, .int u54_t_denominator_used])), (a_t_denominator_limbs, .inl (κ.2.1, 48, .inl u54_t_denominator_limbs))]) (wr := [(a_t, .inr (4, [.ref a_t_units, .int t_count, .int t_at, .int t_end, .ref a_t_numerator, .ref a_t_denominator, .int t_counting, .int t_power]))]) (wn := fun u => [(a_t, .inr (4, [.ref a_t_units, .int t_count, .int t_at, .int t_end, .ref a_t_numerator, .ref a_t_denominator, .int t_counting, .int t_power])), (a_t_numerator, .inr (2, [.ref a_t_numerator_limbs, .int u.1])), (a_t_numerator_limbs, .inl (κ.2.1, 48, .inl u.2)), (a_t_denominator, .inr (2, [.ref a_t_denominator_limbs, .int u54_t_denominator_used])), (a_t_denominator_limbs, .inl (κ.2.1, 48, .inl u54_t_denominator_limbs))]) (rest := []) (As := [.ref a_t_denominator]) hF zn_R_137 (k_N_divideLeavingRest κ X hX l a_t_numerator a_t_denominator a_t_numerator_limbs a_t_denominator_limbs H.size u46_t_numerator_used u46_t_numerator_limbs u54_t_denominator_used u54_t_denominator_limbs o_65 ho_65) hX hXs hK hA hP hD hS ⟨by decide, by decide⟩ ⟨rfl, rfl, rfl, rfl, rfl, by decide⟩ ⟨rfl, fun _ => rfl, fun _ => rfl⟩ (ci := 2) rfl rfl rfl rfl hl.1 rfl (Nat.le_of_ble_eq_true rfl) ⟨Nat.zero_le _, Nat.zero_le _⟩ d_R_roundedQuotient_65 (fun r_65 u H locs hw hP hD hS => ?_)
  obtain ⟨u65_t_numerator_used, u65_t_numerator_limbs⟩ := u
  have hP : zP κ [(a_t, .inr (4, [.ref a_t_units, .int t_count, .int t_at, .int t_end, .ref a_t_numerator, .ref a_t_denominator, .int t_counting, .int t_power])), (a_t_numerator, .inr (2, [.ref a_t_numerator_limbs, .int u65_t_numerator_used])), (a_t_numerator_limbs, .inl (κ.2.1, 48, .inl u65_t_numerator_limbs)), (a_t_denominator, .inr (2, [.ref a_t_denominator_limbs, .int u54_t_denominator_used])), (a_t_denominator_limbs, .inl (κ.2.1, 48, .inl u54_t_denominator_limbs))] H := hP
  have hD : va_D A [(a_t, .inr (4, [.ref a_t_units, .int t_count, .int t_at, .int t_end, .ref a_t_numerator, .ref a_t_denominator, .int t_counting, .int t_power])), (a_t_numerator, .inr (2, [.ref a_t_numerator_limbs, .int u65_t_numerator_used])), (a_t_numerator_limbs, .inl (κ.2.1, 48, .inl u65_t_numerator_limbs)), (a_t_denominator, .inr (2, [.ref a_t_denominator_limbs, .int u54_t_denominator_used])), (a_t_denominator_limbs, .inl (κ.2.1, 48, .inl u54_t_denominator_limbs))] := hD
  subst hw
  dsimp only at hf
  refine lv_i2l hx hb d_R_roundedQuotient_68 rfl ?_
  refine lv_lstore_n (lv' := [(3, .long (r_65).toInt64), (2, .int r_37), (1, .int (r_4 - r_11)), (0, .ref a_t)]) hx hb d_R_roundedQuotient_69 rfl hl (by decide) rfl (fun ls hl => ?_)
  refine lv_iconst (v := 0) hx hb d_R_roundedQuotient_70 (by decide) ?_
  refine lv_istore (lv' := [(5, .int 0), (3, .long (r_65).toInt64), (2, .int r_37), (1, .int (r_4 - r_11)), (0, .ref a_t)]) hx hb d_R_roundedQuotient_71 hl (by decide) rfl (fun ls hl => ?_)
  exact b_73 u65_t_numerator_used u65_t_numerator_limbs u54_t_denominator_used u54_t_denominator_limbs (r_4 - r_11) ((r_65).toInt64) 0 H locs ls hf hP hD hS (lv_sub hl [4, 3, 1, 0] rfl)
theorem d_R_roundedDecimal_0 : decode c_R_roundedDecimal 0 = .ok (.aload_n 0, 1) := by decide +kernel
theorem d_R_roundedDecimal_1 : decode c_R_roundedDecimal 1 = .ok (.getfield 26, 3) := by decide +kernel
theorem d_R_roundedDecimal_4 : decode c_R_roundedDecimal 4 = .ok (.invokevirtual 118, 3) := by decide +kernel
theorem d_R_roundedDecimal_7 : decode c_R_roundedDecimal 7 = .ok (.ifCond .ne 18, 3) := by decide +kernel
theorem d_R_roundedDecimal_10 : decode c_R_roundedDecimal 10 = .ok (.aload_n 0, 1) := by decide +kernel
theorem d_R_roundedDecimal_11 : decode c_R_roundedDecimal 11 = .ok (.getfield 33, 3) := by decide +kernel
theorem d_R_roundedDecimal_14 : decode c_R_roundedDecimal 14 = .ok (.aload_n 0, 1) := by decide +kernel
theorem d_R_roundedDecimal_15 : decode c_R_roundedDecimal 15 = .ok (.getfield 36, 3) := by decide +kernel
theorem d_R_roundedDecimal_18 : decode c_R_roundedDecimal 18 = .ok (.iadd, 1) := by decide +kernel
theorem d_R_roundedDecimal_19 : decode c_R_roundedDecimal 19 = .ok (.sipush (-323), 3) := by decide +kernel
theorem d_R_roundedDecimal_22 : decode c_R_roundedDecimal 22 = .ok (.if_icmp .ge 5, 3) := by decide +kernel
theorem d_R_roundedDecimal_25 : decode c_R_roundedDecimal 25 = .ok (.lconst 0, 1) := by decide +kernel
theorem d_R_roundedDecimal_26 : decode c_R_roundedDecimal 26 = .ok (.lreturn, 1) := by decide +kernel
theorem d_R_roundedDecimal_27 : decode c_R_roundedDecimal 27 = .ok (.aload_n 0, 1) := by decide +kernel
theorem d_R_roundedDecimal_28 : decode c_R_roundedDecimal 28 = .ok (.getfield 33, 3) := by decide +kernel
theorem d_R_roundedDecimal_31 : decode c_R_roundedDecimal 31 = .ok (.aload_n 0, 1) := by decide +kernel
theorem d_R_roundedDecimal_32 : decode c_R_roundedDecimal 32 = .ok (.getfield 36, 3) := by decide +kernel
theorem d_R_roundedDecimal_35 : decode c_R_roundedDecimal 35 = .ok (.iadd, 1) := by decide +kernel
theorem d_R_roundedDecimal_36 : decode c_R_roundedDecimal 36 = .ok (.sipush 309, 3) := by decide +kernel
theorem d_R_roundedDecimal_39 : decode c_R_roundedDecimal 39 = .ok (.if_icmp .le 7, 3) := by decide +kernel
theorem d_R_roundedDecimal_42 : decode c_R_roundedDecimal 42 = .ok (.ldc2_w 61, 3) := by decide +kernel
theorem d_R_roundedDecimal_45 : decode c_R_roundedDecimal 45 = .ok (.lreturn, 1) := by decide +kernel
theorem d_R_roundedDecimal_46 : decode c_R_roundedDecimal 46 = .ok (.aload_n 0, 1) := by decide +kernel
theorem d_R_roundedDecimal_47 : decode c_R_roundedDecimal 47 = .ok (.getfield 30, 3) := by decide +kernel
theorem d_R_roundedDecimal_50 : decode c_R_roundedDecimal 50 = .ok (.lconst 1, 1) := by decide +kernel
theorem d_R_roundedDecimal_51 : decode c_R_roundedDecimal 51 = .ok (.invokevirtual 98, 3) := by decide +kernel
theorem d_R_roundedDecimal_54 : decode c_R_roundedDecimal 54 = .ok (.aload_n 0, 1) := by decide +kernel
theorem d_R_roundedDecimal_55 : decode c_R_roundedDecimal 55 = .ok (.getfield 26, 3) := by decide +kernel
theorem d_R_roundedDecimal_58 : decode c_R_roundedDecimal 58 = .ok (.aload_n 0, 1) := by decide +kernel
theorem d_R_roundedDecimal_59 : decode c_R_roundedDecimal 59 = .ok (.getfield 36, 3) := by decide +kernel
theorem d_R_roundedDecimal_62 : decode c_R_roundedDecimal 62 = .ok (.invokevirtual 121, 3) := by decide +kernel
theorem d_R_roundedDecimal_65 : decode c_R_roundedDecimal 65 = .ok (.aload_n 0, 1) := by decide +kernel
theorem d_R_roundedDecimal_66 : decode c_R_roundedDecimal 66 = .ok (.getfield 30, 3) := by decide +kernel
theorem d_R_roundedDecimal_69 : decode c_R_roundedDecimal 69 = .ok (.aload_n 0, 1) := by decide +kernel
theorem d_R_roundedDecimal_70 : decode c_R_roundedDecimal 70 = .ok (.getfield 36, 3) := by decide +kernel
theorem d_R_roundedDecimal_73 : decode c_R_roundedDecimal 73 = .ok (.ineg, 1) := by decide +kernel
theorem d_R_roundedDecimal_74 : decode c_R_roundedDecimal 74 = .ok (.invokevirtual 121, 3) := by decide +kernel
theorem d_R_roundedDecimal_77 : decode c_R_roundedDecimal 77 = .ok (.aload_n 0, 1) := by decide +kernel
theorem d_R_roundedDecimal_78 : decode c_R_roundedDecimal 78 = .ok (.invokevirtual 125, 3) := by decide +kernel
theorem d_R_roundedDecimal_81 : decode c_R_roundedDecimal 81 = .ok (.lreturn, 1) := by decide +kernel
theorem zn_R_98 : zNV R_R 98 y_N_set c_N_set 4 none 1 := ⟨zco_N_set, zin_N, zml_R_98, zim_N_set, zse_N_N_set, by decide +kernel⟩
theorem zn_R_121 : zNV R_R 121 y_N_multiplyByPowerOfTen c_N_multiplyByPowerOfTen 3 none 1 := ⟨zco_N_multiplyByPowerOfTen, zin_N, zml_R_121, zim_N_multiplyByPowerOfTen, zse_N_N_multiplyByPowerOfTen, by decide +kernel⟩
theorem zn_R_125 : zNV R_R 125 y_R_roundedQuotient c_R_roundedQuotient 6 (some .long) 0 := ⟨zco_R_roundedQuotient, zin_R, zml_R_125, zim_R_roundedQuotient, zse_R_R_roundedQuotient, by decide +kernel⟩
set_option maxHeartbeats 4000000 in
set_option maxRecDepth 100000 in
theorem k_R_roundedDecimal (κ : zC) (X : zXT) (hX : zX κ X) (l : Launch) (a_t a_t_units a_t_numerator a_t_denominator a_t_numerator_limbs a_t_denominator_limbs : Nat) (sz : Nat) (t_count : Int32) (t_at : Int32) (t_end : Int32) (t_counting : Int32) (t_power : Int32) (t_numerator_used : Int32) (t_numerator_limbs : Nat → Int32) (t_denominator_used : Int32) (t_denominator_limbs : Nat → Int32) (out : Int64 × ((Int32) × (Nat → Int32) × (Int32) × (Nat → Int32))) (hf : f_R_roundedDecimal t_count t_at t_end t_counting t_power t_numerator_used t_numerator_limbs t_denominator_used t_denominator_limbs = some out) : zMet κ X l y_R_roundedDecimal c_R_roundedDecimal 1 (some .long) 4 97 [.ref a_t] sz [(a_t, .inr (4, [.ref a_t_units, .int t_count, .int t_at, .int t_end, .ref a_t_numerator, .ref a_t_denominator, .int t_counting, .int t_power])), (a_t_numerator, .inr (2, [.ref a_t_numerator_limbs, .int t_numerator_used])), (a_t_numerator_limbs, .inl (κ.2.1, 48, .inl t_numerator_limbs)), (a_t_denominator, .inr (2, [.ref a_t_denominator_limbs, .int t_denominator_used])), (a_t_denominator_limbs, .inl (κ.2.1, 48, .inl t_denominator_limbs))] (zQl κ (fun (r : Int64) (u : (Int32) × (Nat → Int32) × (Int32) × (Nat → Int32)) => (r, u) = out) (fun u => [(a_t, .inr (4, [.ref a_t_units, .int t_count, .int t_at, .int t_end, .ref a_t_numerator, .ref a_t_denominator, .int t_counting, .int t_power])), (a_t_numerator, .inr (2, [.ref a_t_numerator_limbs, .int u.1])), (a_t_numerator_limbs, .inl (κ.2.1, 48, .inl u.2.1)), (a_t_denominator, .inr (2, [.ref a_t_denominator_limbs, .int u.2.2.1])), (a_t_denominator_limbs, .inl (κ.2.1, 48, .inl u.2.2.2))])) := by
  refine zMet.ofL (by decide +kernel) (Nat.le_of_ble_eq_true rfl) ?_
  intro p e s m args below meth c ls A Q hF hK hP hD hA hXs hS hl hret
  obtain ⟨hx, hb, hml, hown, hts⟩ := id hF
  obtain ⟨H, hH⟩ : ∃ H, H = s.heap := ⟨_, rfl⟩
  obtain ⟨locs, hlo⟩ : ∃ z : List Loc, z = [] := ⟨_, rfl⟩
  replace hP : zP κ [(a_t, .inr (4, [.ref a_t_units, .int t_count, .int t_at, .int t_end, .ref a_t_numerator, .ref a_t_denominator, .int t_counting, .int t_power])), (a_t_numerator, .inr (2, [.ref a_t_numerator_limbs, .int t_numerator_used])), (a_t_numerator_limbs, .inl (κ.2.1, 48, .inl t_numerator_limbs)), (a_t_denominator, .inr (2, [.ref a_t_denominator_limbs, .int t_denominator_used])), (a_t_denominator_limbs, .inl (κ.2.1, 48, .inl t_denominator_limbs))] H := by rw [hH]; exact hP
  replace hS : va_S A s.heap H locs := by rw [hH, hlo]; exact hS
  suffices hgo : W p l e (zR 4 97) s m args below meth c H locs 0 0 Q (F0 m 0 ls []) by rw [hH, hlo] at hgo; exact hgo
  clear hH hlo
  replace hl : lv_has ls 1 [(0, .ref a_t)] := hl
  unfold f_R_roundedDecimal at hf
  refine lv_aload_n hx hb d_R_roundedDecimal_0 rfl (lv_at hl 0 rfl) ?_
  refine va_get (C := R_R) (T := F_R) (N := 8) hx hb hts i_R hown hK hP 0 rfl rfl 4 (by decide) (hts _ zfl_R_26) (fun _ h9 => h9) rfl d_R_roundedDecimal_1 ?_
  obtain ⟨o_4, ho_4, hf⟩ := zbd hf
  refine zVi (isC := [1]) (isR := [0, 2, 3, 4]) (isN := [0, 4, 1, 2, 3]) (wc := [(a_t_numerator, .inr (2, [.ref a_t_numerator_limbs, .int t_numerator_used]))]) (wr := [(a_t, .inr (4, [.ref a_t_units, .int t_count, .int t_at, .int t_end, .ref a_t_numerator, .ref a_t_denominator, .int t_counting, .int t_power])), (a_t_numerator_limbs, .inl (κ.2.1, 48, .inl t_numerator_limbs)), (a_t_denominator, .inr (2, [.ref a_t_denominator_limbs, .int t_denominator_used])), (a_t_denominator_limbs, .inl (κ.2.1, 48, .inl t_denominator_limbs))]) (wn := fun u => [(a_t, .inr (4, [.ref a_t_units, .int t_count, .int t_at, .int t_end, .ref a_t_numerator, .ref a_t_denominator, .int t_counting, .int t_power])), (a_t_numerator, .inr (2, [.ref a_t_numerator_limbs, .int t_numerator_used])), (a_t_numerator_limbs, .inl (κ.2.1, 48, .inl t_numerator_limbs)), (a_t_denominator, .inr (2, [.ref a_t_denominator_limbs, .int t_denominator_used])), (a_t_denominator_limbs, .inl (κ.2.1, 48, .inl t_denominator_limbs))]) (rest := []) (As := []) hF zn_R_118 (k_N_isZero κ X hX l a_t_numerator a_t_numerator_limbs H.size t_numerator_used o_4 ho_4) hX hXs hK hA hP hD hS ⟨by decide, by decide⟩ ⟨rfl, rfl, rfl, rfl, rfl, by decide⟩ ⟨rfl, fun _ => rfl, fun _ => rfl⟩ (ci := 2) rfl rfl rfl rfl hl.1 rfl (Nat.le_of_ble_eq_true rfl) ⟨Nat.zero_le _, Nat.zero_le _⟩ d_R_roundedDecimal_4 (fun r_4 u H locs hw hP hD hS => ?_)
  subst hw
  refine lv_if_ne (tgt := 25) hx hb d_R_roundedDecimal_7 (by decide) (fun c_7 => ?_) (fun c_7 => ?_)
  · have hf := (zbr hf).2 c_7
    refine lv_lconst (v := 0) hx hb d_R_roundedDecimal_25 (by decide) ?_
    exact hret ((0 : Int64)) ((t_numerator_used, t_numerator_limbs, t_denominator_used, t_denominator_limbs)) H locs ls _ d_R_roundedDecimal_26 hP hD hS (Option.some.inj hf)
  · have hf := (zbr hf).1 c_7
    refine lv_aload_n hx hb d_R_roundedDecimal_10 rfl (lv_at hl 0 rfl) ?_
    refine va_get (C := R_R) (T := F_R) (N := 8) hx hb hts i_R hown hK hP 0 rfl rfl 6 (by decide) (hts _ zfl_R_33) (fun _ h9 => h9) rfl d_R_roundedDecimal_11 ?_
    refine lv_aload_n hx hb d_R_roundedDecimal_14 rfl (lv_at hl 0 rfl) ?_
    refine va_get (C := R_R) (T := F_R) (N := 8) hx hb hts i_R hown hK hP 0 rfl rfl 7 (by decide) (hts _ zfl_R_36) (fun _ h9 => h9) rfl d_R_roundedDecimal_15 ?_
    refine lv_iadd hx hb d_R_roundedDecimal_18 ?_
    refine lv_sipush (v := (-323)) hx hb d_R_roundedDecimal_19 (by decide) ?_
    refine lv_icmp_ge (tgt := 27) hx hb d_R_roundedDecimal_22 (by decide) (fun c_22 => ?_) (fun c_22 => ?_)
    · have hf := (zbr hf).1 c_22
      refine lv_aload_n hx hb d_R_roundedDecimal_27 rfl (lv_at hl 0 rfl) ?_
      refine va_get (C := R_R) (T := F_R) (N := 8) hx hb hts i_R hown hK hP 0 rfl rfl 6 (by decide) (hts _ zfl_R_33) (fun _ h9 => h9) rfl d_R_roundedDecimal_28 ?_
      refine lv_aload_n hx hb d_R_roundedDecimal_31 rfl (lv_at hl 0 rfl) ?_
      refine va_get (C := R_R) (T := F_R) (N := 8) hx hb hts i_R hown hK hP 0 rfl rfl 7 (by decide) (hts _ zfl_R_36) (fun _ h9 => h9) rfl d_R_roundedDecimal_32 ?_
      refine lv_iadd hx hb d_R_roundedDecimal_35 ?_
      refine lv_sipush (v := 309) hx hb d_R_roundedDecimal_36 (by decide) ?_
      refine lv_icmp_le (tgt := 46) hx hb d_R_roundedDecimal_39 (by decide) (fun c_39 => ?_) (fun c_39 => ?_)
      · have hf := (zbr hf).1 c_39
        refine lv_aload_n hx hb d_R_roundedDecimal_46 rfl (lv_at hl 0 rfl) ?_
        refine va_get (C := R_R) (T := F_R) (N := 8) hx hb hts i_R hown hK hP 0 rfl rfl 5 (by decide) (hts _ zfl_R_30) (fun _ h9 => h9) rfl d_R_roundedDecimal_47 ?_
        refine lv_lconst (v := 1) hx hb d_R_roundedDecimal_50 (by decide) ?_
        obtain ⟨o_51, ho_51, hf⟩ := zbd hf
        refine zVv (isC := [3, 4]) (isR := [0, 1, 2]) (isN := [0, 1, 2, 3, 4]) (wc := [(a_t_denominator, .inr (2, [.ref a_t_denominator_limbs, .int t_denominator_used])), (a_t_denominator_limbs, .inl (κ.2.1, 48, .inl t_denominator_limbs))]) (wr := [(a_t, .inr (4, [.ref a_t_units, .int t_count, .int t_at, .int t_end, .ref a_t_numerator, .ref a_t_denominator, .int t_counting, .int t_power])), (a_t_numerator, .inr (2, [.ref a_t_numerator_limbs, .int t_numerator_used])), (a_t_numerator_limbs, .inl (κ.2.1, 48, .inl t_numerator_limbs))]) (wn := fun u => [(a_t, .inr (4, [.ref a_t_units, .int t_count, .int t_at, .int t_end, .ref a_t_numerator, .ref a_t_denominator, .int t_counting, .int t_power])), (a_t_numerator, .inr (2, [.ref a_t_numerator_limbs, .int t_numerator_used])), (a_t_numerator_limbs, .inl (κ.2.1, 48, .inl t_numerator_limbs)), (a_t_denominator, .inr (2, [.ref a_t_denominator_limbs, .int u.1])), (a_t_denominator_limbs, .inl (κ.2.1, 48, .inl u.2))]) (rest := []) (As := [.long 1]) hF zn_R_98 (k_N_set κ X hX l a_t_denominator a_t_denominator_limbs H.size t_denominator_used t_denominator_limbs 1 o_51 ho_51) hX hXs hK hA hP hD hS ⟨by decide, by decide⟩ ⟨rfl, rfl, rfl, rfl, rfl, by decide⟩ ⟨rfl, fun _ => rfl, fun _ => rfl⟩ (ci := 2) rfl rfl rfl rfl hl.1 rfl (Nat.le_of_ble_eq_true rfl) ⟨Nat.zero_le _, Nat.zero_le _⟩ d_R_roundedDecimal_51 (fun u H locs hw hP hD hS => ?_)
        obtain ⟨u51_t_denominator_used, u51_t_denominator_limbs⟩ := u
        have hP : zP κ [(a_t, .inr (4, [.ref a_t_units, .int t_count, .int t_at, .int t_end, .ref a_t_numerator, .ref a_t_denominator, .int t_counting, .int t_power])), (a_t_numerator, .inr (2, [.ref a_t_numerator_limbs, .int t_numerator_used])), (a_t_numerator_limbs, .inl (κ.2.1, 48, .inl t_numerator_limbs)), (a_t_denominator, .inr (2, [.ref a_t_denominator_limbs, .int u51_t_denominator_used])), (a_t_denominator_limbs, .inl (κ.2.1, 48, .inl u51_t_denominator_limbs))] H := hP
        have hD : va_D A [(a_t, .inr (4, [.ref a_t_units, .int t_count, .int t_at, .int t_end, .ref a_t_numerator, .ref a_t_denominator, .int t_counting, .int t_power])), (a_t_numerator, .inr (2, [.ref a_t_numerator_limbs, .int t_numerator_used])), (a_t_numerator_limbs, .inl (κ.2.1, 48, .inl t_numerator_limbs)), (a_t_denominator, .inr (2, [.ref a_t_denominator_limbs, .int u51_t_denominator_used])), (a_t_denominator_limbs, .inl (κ.2.1, 48, .inl u51_t_denominator_limbs))] := hD
        subst hw
        dsimp only at hf
        refine lv_aload_n hx hb d_R_roundedDecimal_54 rfl (lv_at hl 0 rfl) ?_
        refine va_get (C := R_R) (T := F_R) (N := 8) hx hb hts i_R hown hK hP 0 rfl rfl 4 (by decide) (hts _ zfl_R_26) (fun _ h9 => h9) rfl d_R_roundedDecimal_55 ?_
        refine lv_aload_n hx hb d_R_roundedDecimal_58 rfl (lv_at hl 0 rfl) ?_
        refine va_get (C := R_R) (T := F_R) (N := 8) hx hb hts i_R hown hK hP 0 rfl rfl 7 (by decide) (hts _ zfl_R_36) (fun _ h9 => h9) rfl d_R_roundedDecimal_59 ?_
        obtain ⟨o_62, ho_62, hf⟩ := zbd hf
        refine zVv (isC := [1, 2]) (isR := [0, 3, 4]) (isN := [0, 3, 4, 1, 2]) (wc := [(a_t_numerator, .inr (2, [.ref a_t_numerator_limbs, .int t_numerator_used])), (a_t_numerator_limbs, .inl (κ.2.1, 48, .inl t_numerator_limbs))]) (wr := [(a_t, .inr (4, [.ref a_t_units, .int t_count, .int t_at, .int t_end, .ref a_t_numerator, .ref a_t_denominator, .int t_counting, .int t_power])), (a_t_denominator, .inr (2, [.ref a_t_denominator_limbs, .int u51_t_denominator_used])), (a_t_denominator_limbs, .inl (κ.2.1, 48, .inl u51_t_denominator_limbs))]) (wn := fun u => [(a_t, .inr (4, [.ref a_t_units, .int t_count, .int t_at, .int t_end, .ref a_t_numerator, .ref a_t_denominator, .int t_counting, .int t_power])), (a_t_numerator, .inr (2, [.ref a_t_numerator_limbs, .int u.1])), (a_t_numerator_limbs, .inl (κ.2.1, 48, .inl u.2)), (a_t_denominator, .inr (2, [.ref a_t_denominator_limbs, .int u51_t_denominator_used])), (a_t_denominator_limbs, .inl (κ.2.1, 48, .inl u51_t_denominator_limbs))]) (rest := []) (As := [.int t_power]) hF zn_R_121 (k_N_multiplyByPowerOfTen κ X hX l a_t_numerator a_t_numerator_limbs H.size t_numerator_used t_numerator_limbs t_power o_62 ho_62) hX hXs hK hA hP hD hS ⟨by decide, by decide⟩ ⟨rfl, rfl, rfl, rfl, rfl, by decide⟩ ⟨rfl, fun _ => rfl, fun _ => rfl⟩ (ci := 2) rfl rfl rfl rfl hl.1 rfl (Nat.le_of_ble_eq_true rfl) ⟨Nat.zero_le _, Nat.zero_le _⟩ d_R_roundedDecimal_62 (fun u H locs hw hP hD hS => ?_)
        obtain ⟨u62_t_numerator_used, u62_t_numerator_limbs⟩ := u
        have hP : zP κ [(a_t, .inr (4, [.ref a_t_units, .int t_count, .int t_at, .int t_end, .ref a_t_numerator, .ref a_t_denominator, .int t_counting, .int t_power])), (a_t_numerator, .inr (2, [.ref a_t_numerator_limbs, .int u62_t_numerator_used])), (a_t_numerator_limbs, .inl (κ.2.1, 48, .inl u62_t_numerator_limbs)), (a_t_denominator, .inr (2, [.ref a_t_denominator_limbs, .int u51_t_denominator_used])), (a_t_denominator_limbs, .inl (κ.2.1, 48, .inl u51_t_denominator_limbs))] H := hP
        have hD : va_D A [(a_t, .inr (4, [.ref a_t_units, .int t_count, .int t_at, .int t_end, .ref a_t_numerator, .ref a_t_denominator, .int t_counting, .int t_power])), (a_t_numerator, .inr (2, [.ref a_t_numerator_limbs, .int u62_t_numerator_used])), (a_t_numerator_limbs, .inl (κ.2.1, 48, .inl u62_t_numerator_limbs)), (a_t_denominator, .inr (2, [.ref a_t_denominator_limbs, .int u51_t_denominator_used])), (a_t_denominator_limbs, .inl (κ.2.1, 48, .inl u51_t_denominator_limbs))] := hD
        subst hw
        dsimp only at hf
        refine lv_aload_n hx hb d_R_roundedDecimal_65 rfl (lv_at hl 0 rfl) ?_
        refine va_get (C := R_R) (T := F_R) (N := 8) hx hb hts i_R hown hK hP 0 rfl rfl 5 (by decide) (hts _ zfl_R_30) (fun _ h9 => h9) rfl d_R_roundedDecimal_66 ?_
        refine lv_aload_n hx hb d_R_roundedDecimal_69 rfl (lv_at hl 0 rfl) ?_
        refine va_get (C := R_R) (T := F_R) (N := 8) hx hb hts i_R hown hK hP 0 rfl rfl 7 (by decide) (hts _ zfl_R_36) (fun _ h9 => h9) rfl d_R_roundedDecimal_70 ?_
        refine lv_ineg hx hb d_R_roundedDecimal_73 ?_
        obtain ⟨o_74, ho_74, hf⟩ := zbd hf
        refine zVv (isC := [3, 4]) (isR := [0, 1, 2]) (isN := [0, 1, 2, 3, 4]) (wc := [(a_t_denominator, .inr (2, [.ref a_t_denominator_limbs, .int u51_t_denominator_used])), (a_t_denominator_limbs, .inl (κ.2.1, 48, .inl u51_t_denominator_limbs))]) (wr := [(a_t, .inr (4, [.ref a_t_units, .int t_count, .int t_at, .int t_end, .ref a_t_numerator, .ref a_t_denominator, .int t_counting, .int t_power])), (a_t_numerator, .inr (2, [.ref a_t_numerator_limbs, .int u62_t_numerator_used])), (a_t_numerator_limbs, .inl (κ.2.1, 48, .inl u62_t_numerator_limbs))]) (wn := fun u => [(a_t, .inr (4, [.ref a_t_units, .int t_count, .int t_at, .int t_end, .ref a_t_numerator, .ref a_t_denominator, .int t_counting, .int t_power])), (a_t_numerator, .inr (2, [.ref a_t_numerator_limbs, .int u62_t_numerator_used])), (a_t_numerator_limbs, .inl (κ.2.1, 48, .inl u62_t_numerator_limbs)), (a_t_denominator, .inr (2, [.ref a_t_denominator_limbs, .int u.1])), (a_t_denominator_limbs, .inl (κ.2.1, 48, .inl u.2))]) (rest := []) (As := [.int (-t_power)]) hF zn_R_121 (k_N_multiplyByPowerOfTen κ X hX l a_t_denominator a_t_denominator_limbs H.size u51_t_denominator_used u51_t_denominator_limbs (-t_power) o_74 ho_74) hX hXs hK hA hP hD hS ⟨by decide, by decide⟩ ⟨rfl, rfl, rfl, rfl, rfl, by decide⟩ ⟨rfl, fun _ => rfl, fun _ => rfl⟩ (ci := 2) rfl rfl rfl rfl hl.1 rfl (Nat.le_of_ble_eq_true rfl) ⟨Nat.zero_le _, Nat.zero_le _⟩ d_R_roundedDecimal_74 (fun u H locs hw hP hD hS => ?_)
        obtain ⟨u74_t_denominator_used, u74_t_denominator_limbs⟩ := u
        have hP : zP κ [(a_t, .inr (4, [.ref a_t_units, .int t_count, .int t_at, .int t_end, .ref a_t_numerator, .ref a_t_denominator, .int t_counting, .int t_power])), (a_t_numerator, .inr (2, [.ref a_t_numerator_limbs, .int u62_t_numerator_used])), (a_t_numerator_limbs, .inl (κ.2.1, 48, .inl u62_t_numerator_limbs)), (a_t_denominator, .inr (2, [.ref a_t_denominator_limbs, .int u74_t_denominator_used])), (a_t_denominator_limbs, .inl (κ.2.1, 48, .inl u74_t_denominator_limbs))] H := hP
        have hD : va_D A [(a_t, .inr (4, [.ref a_t_units, .int t_count, .int t_at, .int t_end, .ref a_t_numerator, .ref a_t_denominator, .int t_counting, .int t_power])), (a_t_numerator, .inr (2, [.ref a_t_numerator_limbs, .int u62_t_numerator_used])), (a_t_numerator_limbs, .inl (κ.2.1, 48, .inl u62_t_numerator_limbs)), (a_t_denominator, .inr (2, [.ref a_t_denominator_limbs, .int u74_t_denominator_used])), (a_t_denominator_limbs, .inl (κ.2.1, 48, .inl u74_t_denominator_limbs))] := hD
        subst hw
        dsimp only at hf
        refine lv_aload_n hx hb d_R_roundedDecimal_77 rfl (lv_at hl 0 rfl) ?_
        obtain ⟨o_78, ho_78, hf⟩ := zbd hf
        refine zVl (isC := [0, 1, 2, 3, 4]) (isR := []) (isN := [0, 1, 2, 3, 4]) (wc := [(a_t, .inr (4, [.ref a_t_units, .int t_count, .int t_at, .int t_end, .ref a_t_numerator, .ref a_t_denominator, .int t_counting, .int t_power])), (a_t_numerator, .inr (2, [.ref a_t_numerator_limbs, .int u62_t_numerator_used])), (a_t_numerator_limbs, .inl (κ.2.1, 48, .inl u62_t_numerator_limbs)), (a_t_denominator, .inr (2, [.ref a_t_denominator_limbs, .int u74_t_denominator_used])), (a_t_denominator_limbs, .inl (κ.2.1, 48, .inl u74_t_denominator_limbs))]) (wr := []) (wn := fun u => [(a_t, .inr (4, [.ref a_t_units, .int t_count, .int t_at, .int t_end, .ref a_t_numerator, .ref a_t_denominator, .int t_counting, .int t_power])), (a_t_numerator, .inr (2, [.ref a_t_numerator_limbs, .int u.1])), (a_t_numerator_limbs, .inl (κ.2.1, 48, .inl u.2.1)), (a_t_denominator, .inr (2, [.ref a_t_denominator_limbs, .int u.2.2.1])), (a_t_denominator_limbs, .inl (κ.2.1, 48, .inl u.2.2.2))]) (rest := []) (As := []) hF zn_R_125 (k_R_roundedQuotient κ X hX l a_t a_t_units a_t_numerator a_t_denominator a_t_numerator_limbs a_t_denominator_limbs H.size t_count t_at t_end t_counting t_power u62_t_numerator_used u62_t_numerator_limbs u74_t_denominator_used u74_t_denominator_limbs o_78 ho_78) hX hXs hK hA hP hD hS ⟨by decide, by decide⟩ ⟨rfl, rfl, rfl, rfl, rfl, by decide⟩ ⟨rfl, fun _ => rfl, fun _ => rfl⟩ (ci := 4) rfl rfl rfl rfl hl.1 rfl (Nat.le_of_ble_eq_true rfl) ⟨Nat.zero_le _, Nat.zero_le _⟩ d_R_roundedDecimal_78 (fun r_78 u H locs hw hP hD hS => ?_)
        obtain ⟨u78_t_numerator_used, u78_t_numerator_limbs, u78_t_denominator_used, u78_t_denominator_limbs⟩ := u
        have hP : zP κ [(a_t, .inr (4, [.ref a_t_units, .int t_count, .int t_at, .int t_end, .ref a_t_numerator, .ref a_t_denominator, .int t_counting, .int t_power])), (a_t_numerator, .inr (2, [.ref a_t_numerator_limbs, .int u78_t_numerator_used])), (a_t_numerator_limbs, .inl (κ.2.1, 48, .inl u78_t_numerator_limbs)), (a_t_denominator, .inr (2, [.ref a_t_denominator_limbs, .int u78_t_denominator_used])), (a_t_denominator_limbs, .inl (κ.2.1, 48, .inl u78_t_denominator_limbs))] H := hP
        have hD : va_D A [(a_t, .inr (4, [.ref a_t_units, .int t_count, .int t_at, .int t_end, .ref a_t_numerator, .ref a_t_denominator, .int t_counting, .int t_power])), (a_t_numerator, .inr (2, [.ref a_t_numerator_limbs, .int u78_t_numerator_used])), (a_t_numerator_limbs, .inl (κ.2.1, 48, .inl u78_t_numerator_limbs)), (a_t_denominator, .inr (2, [.ref a_t_denominator_limbs, .int u78_t_denominator_used])), (a_t_denominator_limbs, .inl (κ.2.1, 48, .inl u78_t_denominator_limbs))] := hD
        subst hw
        dsimp only at hf
        exact hret (r_78) ((u78_t_numerator_used, u78_t_numerator_limbs, u78_t_denominator_used, u78_t_denominator_limbs)) H locs ls _ d_R_roundedDecimal_81 hP hD hS (Option.some.inj hf)
      · have hf := (zbr hf).2 c_39
        refine lv_ldc2 (v := 9218868437227405312) hx hb hown (hts _ zkl_R_61) d_R_roundedDecimal_42 ?_
        exact hret ((9218868437227405312 : Int64)) ((t_numerator_used, t_numerator_limbs, t_denominator_used, t_denominator_limbs)) H locs ls _ d_R_roundedDecimal_45 hP hD hS (Option.some.inj hf)
    · have hf := (zbr hf).2 c_22
      refine lv_lconst (v := 0) hx hb d_R_roundedDecimal_25 (by decide) ?_
      exact hret ((0 : Int64)) ((t_numerator_used, t_numerator_limbs, t_denominator_used, t_denominator_limbs)) H locs ls _ d_R_roundedDecimal_26 hP hD hS (Option.some.inj hf)
theorem d_R_isBlank_0 : decode c_R_isBlank 0 = .ok (.iload_n 0, 1) := by decide +kernel
theorem d_R_isBlank_1 : decode c_R_isBlank 1 = .ok (.sipush 5760, 3) := by decide +kernel
theorem d_R_isBlank_4 : decode c_R_isBlank 4 = .ok (.if_icmp .ge 34, 3) := by decide +kernel
theorem d_R_isBlank_7 : decode c_R_isBlank 7 = .ok (.iload_n 0, 1) := by decide +kernel
theorem d_R_isBlank_8 : decode c_R_isBlank 8 = .ok (.bipush 9, 2) := by decide +kernel
theorem d_R_isBlank_10 : decode c_R_isBlank 10 = .ok (.if_icmp .lt 9, 3) := by decide +kernel
theorem d_R_isBlank_13 : decode c_R_isBlank 13 = .ok (.iload_n 0, 1) := by decide +kernel
theorem d_R_isBlank_14 : decode c_R_isBlank 14 = .ok (.bipush 13, 2) := by decide +kernel
theorem d_R_isBlank_16 : decode c_R_isBlank 16 = .ok (.if_icmp .le 16, 3) := by decide +kernel
theorem d_R_isBlank_19 : decode c_R_isBlank 19 = .ok (.iload_n 0, 1) := by decide +kernel
theorem d_R_isBlank_20 : decode c_R_isBlank 20 = .ok (.bipush 32, 2) := by decide +kernel
theorem d_R_isBlank_22 : decode c_R_isBlank 22 = .ok (.if_icmp .eq 10, 3) := by decide +kernel
theorem d_R_isBlank_25 : decode c_R_isBlank 25 = .ok (.iload_n 0, 1) := by decide +kernel
theorem d_R_isBlank_26 : decode c_R_isBlank 26 = .ok (.sipush 160, 3) := by decide +kernel
theorem d_R_isBlank_29 : decode c_R_isBlank 29 = .ok (.if_icmp .ne 7, 3) := by decide +kernel
theorem d_R_isBlank_32 : decode c_R_isBlank 32 = .ok (.iconst 1, 1) := by decide +kernel
theorem d_R_isBlank_33 : decode c_R_isBlank 33 = .ok (.goto 4, 3) := by decide +kernel
theorem d_R_isBlank_36 : decode c_R_isBlank 36 = .ok (.iconst 0, 1) := by decide +kernel
theorem d_R_isBlank_37 : decode c_R_isBlank 37 = .ok (.ireturn, 1) := by decide +kernel
theorem d_R_isBlank_38 : decode c_R_isBlank 38 = .ok (.iload_n 0, 1) := by decide +kernel
theorem d_R_isBlank_39 : decode c_R_isBlank 39 = .ok (.sipush 5760, 3) := by decide +kernel
theorem d_R_isBlank_42 : decode c_R_isBlank 42 = .ok (.if_icmp .eq 65, 3) := by decide +kernel
theorem d_R_isBlank_45 : decode c_R_isBlank 45 = .ok (.iload_n 0, 1) := by decide +kernel
theorem d_R_isBlank_46 : decode c_R_isBlank 46 = .ok (.sipush 6158, 3) := by decide +kernel
theorem d_R_isBlank_49 : decode c_R_isBlank 49 = .ok (.if_icmp .eq 58, 3) := by decide +kernel
theorem d_R_isBlank_52 : decode c_R_isBlank 52 = .ok (.iload_n 0, 1) := by decide +kernel
theorem d_R_isBlank_53 : decode c_R_isBlank 53 = .ok (.sipush 8192, 3) := by decide +kernel
theorem d_R_isBlank_56 : decode c_R_isBlank 56 = .ok (.if_icmp .lt 10, 3) := by decide +kernel
theorem d_R_isBlank_59 : decode c_R_isBlank 59 = .ok (.iload_n 0, 1) := by decide +kernel
theorem d_R_isBlank_60 : decode c_R_isBlank 60 = .ok (.sipush 8202, 3) := by decide +kernel
theorem d_R_isBlank_63 : decode c_R_isBlank 63 = .ok (.if_icmp .le 44, 3) := by decide +kernel
theorem d_R_isBlank_66 : decode c_R_isBlank 66 = .ok (.iload_n 0, 1) := by decide +kernel
theorem d_R_isBlank_67 : decode c_R_isBlank 67 = .ok (.sipush 8232, 3) := by decide +kernel
theorem d_R_isBlank_70 : decode c_R_isBlank 70 = .ok (.if_icmp .eq 37, 3) := by decide +kernel
theorem d_R_isBlank_73 : decode c_R_isBlank 73 = .ok (.iload_n 0, 1) := by decide +kernel
theorem d_R_isBlank_74 : decode c_R_isBlank 74 = .ok (.sipush 8233, 3) := by decide +kernel
theorem d_R_isBlank_77 : decode c_R_isBlank 77 = .ok (.if_icmp .eq 30, 3) := by decide +kernel
theorem d_R_isBlank_80 : decode c_R_isBlank 80 = .ok (.iload_n 0, 1) := by decide +kernel
theorem d_R_isBlank_81 : decode c_R_isBlank 81 = .ok (.sipush 8239, 3) := by decide +kernel
theorem d_R_isBlank_84 : decode c_R_isBlank 84 = .ok (.if_icmp .eq 23, 3) := by decide +kernel
theorem d_R_isBlank_87 : decode c_R_isBlank 87 = .ok (.iload_n 0, 1) := by decide +kernel
theorem d_R_isBlank_88 : decode c_R_isBlank 88 = .ok (.sipush 8287, 3) := by decide +kernel
theorem d_R_isBlank_91 : decode c_R_isBlank 91 = .ok (.if_icmp .eq 16, 3) := by decide +kernel
theorem d_R_isBlank_94 : decode c_R_isBlank 94 = .ok (.iload_n 0, 1) := by decide +kernel
theorem d_R_isBlank_95 : decode c_R_isBlank 95 = .ok (.sipush 12288, 3) := by decide +kernel
theorem d_R_isBlank_98 : decode c_R_isBlank 98 = .ok (.if_icmp .eq 9, 3) := by decide +kernel
theorem d_R_isBlank_101 : decode c_R_isBlank 101 = .ok (.iload_n 0, 1) := by decide +kernel
theorem d_R_isBlank_102 : decode c_R_isBlank 102 = .ok (.ldc 75, 2) := by decide +kernel
theorem d_R_isBlank_104 : decode c_R_isBlank 104 = .ok (.if_icmp .ne 7, 3) := by decide +kernel
theorem d_R_isBlank_107 : decode c_R_isBlank 107 = .ok (.iconst 1, 1) := by decide +kernel
theorem d_R_isBlank_108 : decode c_R_isBlank 108 = .ok (.goto 4, 3) := by decide +kernel
theorem d_R_isBlank_111 : decode c_R_isBlank 111 = .ok (.iconst 0, 1) := by decide +kernel
theorem d_R_isBlank_112 : decode c_R_isBlank 112 = .ok (.ireturn, 1) := by decide +kernel
set_option maxHeartbeats 4000000 in
set_option maxRecDepth 100000 in
theorem k_R_isBlank (κ : zC) (X : zXT) (hX : zX κ X) (l : Launch) (sz : Nat) (x0 : Int32) (out : Int32) (hf : f_R_isBlank x0 = some out) : zMet κ X l y_R_isBlank c_R_isBlank 1 (some .boolean) 0 0 [.int x0] sz [] (zQi κ (fun (r : Int32) (_ : Unit) => r = out) (fun u => [])) := by
  refine zMet.ofZ (by decide +kernel) (Nat.le_of_ble_eq_true rfl) ?_
  intro p e s m args below meth c ls A Q hF hK hP hD hA hXs hS hl hret
  obtain ⟨hx, hb, hml, hown, hts⟩ := id hF
  obtain ⟨H, hH⟩ : ∃ H, H = s.heap := ⟨_, rfl⟩
  obtain ⟨locs, hlo⟩ : ∃ z : List Loc, z = [] := ⟨_, rfl⟩
  replace hP : zP κ [] H := by rw [hH]; exact hP
  replace hS : va_S A s.heap H locs := by rw [hH, hlo]; exact hS
  suffices hgo : W p l e (zR 0 0) s m args below meth c H locs 0 0 Q (F0 m 0 ls []) by rw [hH, hlo] at hgo; exact hgo
  clear hH hlo
  replace hl : lv_has ls 1 [(0, .int x0)] := hl
  have b_107 : ∀ (H : Heap) (locs : List Loc) (ls : Array Slot), f_R_isBlank_107 = some out → zP κ [] H → va_D A [] → va_S A s.heap H locs → lv_has ls 1 [] → W p l e (zR 0 0) s m args below meth c H locs 0 0 Q (F0 m 107 ls []) := by
    intro  H locs ls hf hP hD hS hl
    unfold f_R_isBlank_107 at hf
    refine lv_iconst (v := 1) hx hb d_R_isBlank_107 (by decide) ?_
    refine lv_goto (tgt := 112) hx hb d_R_isBlank_108 (by decide) ?_
    exact hret ((1 : Int32)) () H locs ls _ d_R_isBlank_112 hP hD hS (by decide) (Option.some.inj hf)
  have b_66 : ∀ (x0 : Int32) (H : Heap) (locs : List Loc) (ls : Array Slot), f_R_isBlank_66 x0 = some out → zP κ [] H → va_D A [] → va_S A s.heap H locs → lv_has ls 1 [(0, .int x0)] → W p l e (zR 0 0) s m args below meth c H locs 0 0 Q (F0 m 66 ls []) := by
    intro x0 H locs ls hf hP hD hS hl
    unfold f_R_isBlank_66 at hf
    refine lv_iload_n hx hb d_R_isBlank_66 rfl (lv_at hl 0 rfl) ?_
    refine lv_sipush (v := 8232) hx hb d_R_isBlank_67 (by decide) ?_
    refine lv_icmp_eq (tgt := 107) hx hb d_R_isBlank_70 (by decide) (fun c_70 => ?_) (fun c_70 => ?_)
    · have hf := (zbr hf).1 c_70
      exact b_107  H locs ls hf hP hD hS (lv_sub hl [] rfl)
    · have hf := (zbr hf).2 c_70
      refine lv_iload_n hx hb d_R_isBlank_73 rfl (lv_at hl 0 rfl) ?_
      refine lv_sipush (v := 8233) hx hb d_R_isBlank_74 (by decide) ?_
      refine lv_icmp_eq (tgt := 107) hx hb d_R_isBlank_77 (by decide) (fun c_77 => ?_) (fun c_77 => ?_)
      · have hf := (zbr hf).1 c_77
        exact b_107  H locs ls hf hP hD hS (lv_sub hl [] rfl)
      · have hf := (zbr hf).2 c_77
        refine lv_iload_n hx hb d_R_isBlank_80 rfl (lv_at hl 0 rfl) ?_
        refine lv_sipush (v := 8239) hx hb d_R_isBlank_81 (by decide) ?_
        refine lv_icmp_eq (tgt := 107) hx hb d_R_isBlank_84 (by decide) (fun c_84 => ?_) (fun c_84 => ?_)
        · have hf := (zbr hf).1 c_84
          exact b_107  H locs ls hf hP hD hS (lv_sub hl [] rfl)
        · have hf := (zbr hf).2 c_84
          refine lv_iload_n hx hb d_R_isBlank_87 rfl (lv_at hl 0 rfl) ?_
          refine lv_sipush (v := 8287) hx hb d_R_isBlank_88 (by decide) ?_
          refine lv_icmp_eq (tgt := 107) hx hb d_R_isBlank_91 (by decide) (fun c_91 => ?_) (fun c_91 => ?_)
          · have hf := (zbr hf).1 c_91
            exact b_107  H locs ls hf hP hD hS (lv_sub hl [] rfl)
          · have hf := (zbr hf).2 c_91
            refine lv_iload_n hx hb d_R_isBlank_94 rfl (lv_at hl 0 rfl) ?_
            refine lv_sipush (v := 12288) hx hb d_R_isBlank_95 (by decide) ?_
            refine lv_icmp_eq (tgt := 107) hx hb d_R_isBlank_98 (by decide) (fun c_98 => ?_) (fun c_98 => ?_)
            · have hf := (zbr hf).1 c_98
              exact b_107  H locs ls hf hP hD hS (lv_sub hl [] rfl)
            · have hf := (zbr hf).2 c_98
              refine lv_iload_n hx hb d_R_isBlank_101 rfl (lv_at hl 0 rfl) ?_
              refine lv_ldc (v := 65279) hx hb hown (hts _ zki_R_75) d_R_isBlank_102 ?_
              refine lv_icmp_ne (tgt := 111) hx hb d_R_isBlank_104 (by decide) (fun c_104 => ?_) (fun c_104 => ?_)
              · have hf := (zbr hf).2 c_104
                refine lv_iconst (v := 0) hx hb d_R_isBlank_111 (by decide) ?_
                exact hret ((0 : Int32)) () H locs ls _ d_R_isBlank_112 hP hD hS (by decide) (Option.some.inj hf)
              · have hf := (zbr hf).1 c_104
                exact b_107  H locs ls hf hP hD hS (lv_sub hl [] rfl)
  have b_32 : ∀ (H : Heap) (locs : List Loc) (ls : Array Slot), f_R_isBlank_32 = some out → zP κ [] H → va_D A [] → va_S A s.heap H locs → lv_has ls 1 [] → W p l e (zR 0 0) s m args below meth c H locs 0 0 Q (F0 m 32 ls []) := by
    intro  H locs ls hf hP hD hS hl
    unfold f_R_isBlank_32 at hf
    refine lv_iconst (v := 1) hx hb d_R_isBlank_32 (by decide) ?_
    refine lv_goto (tgt := 37) hx hb d_R_isBlank_33 (by decide) ?_
    exact hret ((1 : Int32)) () H locs ls _ d_R_isBlank_37 hP hD hS (by decide) (Option.some.inj hf)
  have b_19 : ∀ (x0 : Int32) (H : Heap) (locs : List Loc) (ls : Array Slot), f_R_isBlank_19 x0 = some out → zP κ [] H → va_D A [] → va_S A s.heap H locs → lv_has ls 1 [(0, .int x0)] → W p l e (zR 0 0) s m args below meth c H locs 0 0 Q (F0 m 19 ls []) := by
    intro x0 H locs ls hf hP hD hS hl
    unfold f_R_isBlank_19 at hf
    refine lv_iload_n hx hb d_R_isBlank_19 rfl (lv_at hl 0 rfl) ?_
    refine lv_bipush (v := 32) hx hb d_R_isBlank_20 (by decide) ?_
    refine lv_icmp_eq (tgt := 32) hx hb d_R_isBlank_22 (by decide) (fun c_22 => ?_) (fun c_22 => ?_)
    · have hf := (zbr hf).1 c_22
      exact b_32  H locs ls hf hP hD hS (lv_sub hl [] rfl)
    · have hf := (zbr hf).2 c_22
      refine lv_iload_n hx hb d_R_isBlank_25 rfl (lv_at hl 0 rfl) ?_
      refine lv_sipush (v := 160) hx hb d_R_isBlank_26 (by decide) ?_
      refine lv_icmp_ne (tgt := 36) hx hb d_R_isBlank_29 (by decide) (fun c_29 => ?_) (fun c_29 => ?_)
      · have hf := (zbr hf).2 c_29
        refine lv_iconst (v := 0) hx hb d_R_isBlank_36 (by decide) ?_
        exact hret ((0 : Int32)) () H locs ls _ d_R_isBlank_37 hP hD hS (by decide) (Option.some.inj hf)
      · have hf := (zbr hf).1 c_29
        exact b_32  H locs ls hf hP hD hS (lv_sub hl [] rfl)
  unfold f_R_isBlank at hf
  refine lv_iload_n hx hb d_R_isBlank_0 rfl (lv_at hl 0 rfl) ?_
  refine lv_sipush (v := 5760) hx hb d_R_isBlank_1 (by decide) ?_
  refine lv_icmp_ge (tgt := 38) hx hb d_R_isBlank_4 (by decide) (fun c_4 => ?_) (fun c_4 => ?_)
  · have hf := (zbr hf).1 c_4
    refine lv_iload_n hx hb d_R_isBlank_38 rfl (lv_at hl 0 rfl) ?_
    refine lv_sipush (v := 5760) hx hb d_R_isBlank_39 (by decide) ?_
    refine lv_icmp_eq (tgt := 107) hx hb d_R_isBlank_42 (by decide) (fun c_42 => ?_) (fun c_42 => ?_)
    · have hf := (zbr hf).1 c_42
      exact b_107  H locs ls hf hP hD hS (lv_sub hl [] rfl)
    · have hf := (zbr hf).2 c_42
      refine lv_iload_n hx hb d_R_isBlank_45 rfl (lv_at hl 0 rfl) ?_
      refine lv_sipush (v := 6158) hx hb d_R_isBlank_46 (by decide) ?_
      refine lv_icmp_eq (tgt := 107) hx hb d_R_isBlank_49 (by decide) (fun c_49 => ?_) (fun c_49 => ?_)
      · have hf := (zbr hf).1 c_49
        exact b_107  H locs ls hf hP hD hS (lv_sub hl [] rfl)
      · have hf := (zbr hf).2 c_49
        refine lv_iload_n hx hb d_R_isBlank_52 rfl (lv_at hl 0 rfl) ?_
        refine lv_sipush (v := 8192) hx hb d_R_isBlank_53 (by decide) ?_
        refine lv_icmp_lt (tgt := 66) hx hb d_R_isBlank_56 (by decide) (fun c_56 => ?_) (fun c_56 => ?_)
        · have hf := (zbr hf).1 c_56
          exact b_66 x0 H locs ls hf hP hD hS hl
        · have hf := (zbr hf).2 c_56
          refine lv_iload_n hx hb d_R_isBlank_59 rfl (lv_at hl 0 rfl) ?_
          refine lv_sipush (v := 8202) hx hb d_R_isBlank_60 (by decide) ?_
          refine lv_icmp_le (tgt := 107) hx hb d_R_isBlank_63 (by decide) (fun c_63 => ?_) (fun c_63 => ?_)
          · have hf := (zbr hf).1 c_63
            exact b_107  H locs ls hf hP hD hS (lv_sub hl [] rfl)
          · have hf := (zbr hf).2 c_63
            exact b_66 x0 H locs ls hf hP hD hS hl
  · have hf := (zbr hf).2 c_4
    refine lv_iload_n hx hb d_R_isBlank_7 rfl (lv_at hl 0 rfl) ?_
    refine lv_bipush (v := 9) hx hb d_R_isBlank_8 (by decide) ?_
    refine lv_icmp_lt (tgt := 19) hx hb d_R_isBlank_10 (by decide) (fun c_10 => ?_) (fun c_10 => ?_)
    · have hf := (zbr hf).1 c_10
      exact b_19 x0 H locs ls hf hP hD hS hl
    · have hf := (zbr hf).2 c_10
      refine lv_iload_n hx hb d_R_isBlank_13 rfl (lv_at hl 0 rfl) ?_
      refine lv_bipush (v := 13) hx hb d_R_isBlank_14 (by decide) ?_
      refine lv_icmp_le (tgt := 32) hx hb d_R_isBlank_16 (by decide) (fun c_16 => ?_) (fun c_16 => ?_)
      · have hf := (zbr hf).1 c_16
        exact b_32  H locs ls hf hP hD hS (lv_sub hl [] rfl)
      · have hf := (zbr hf).2 c_16
        exact b_19 x0 H locs ls hf hP hD hS hl
theorem d_R_takeBlanksOff_0 : decode c_R_takeBlanksOff 0 = .ok (.aload_n 0, 1) := by decide +kernel
theorem d_R_takeBlanksOff_1 : decode c_R_takeBlanksOff 1 = .ok (.iconst 0, 1) := by decide +kernel
theorem d_R_takeBlanksOff_2 : decode c_R_takeBlanksOff 2 = .ok (.putfield 17, 3) := by decide +kernel
theorem d_R_takeBlanksOff_5 : decode c_R_takeBlanksOff 5 = .ok (.aload_n 0, 1) := by decide +kernel
theorem d_R_takeBlanksOff_6 : decode c_R_takeBlanksOff 6 = .ok (.aload_n 0, 1) := by decide +kernel
theorem d_R_takeBlanksOff_7 : decode c_R_takeBlanksOff 7 = .ok (.getfield 13, 3) := by decide +kernel
theorem d_R_takeBlanksOff_10 : decode c_R_takeBlanksOff 10 = .ok (.putfield 20, 3) := by decide +kernel
theorem d_R_takeBlanksOff_13 : decode c_R_takeBlanksOff 13 = .ok (.aload_n 0, 1) := by decide +kernel
theorem d_R_takeBlanksOff_14 : decode c_R_takeBlanksOff 14 = .ok (.getfield 17, 3) := by decide +kernel
theorem d_R_takeBlanksOff_17 : decode c_R_takeBlanksOff 17 = .ok (.aload_n 0, 1) := by decide +kernel
theorem d_R_takeBlanksOff_18 : decode c_R_takeBlanksOff 18 = .ok (.getfield 20, 3) := by decide +kernel
theorem d_R_takeBlanksOff_21 : decode c_R_takeBlanksOff 21 = .ok (.if_icmp .ge 31, 3) := by decide +kernel
theorem d_R_takeBlanksOff_24 : decode c_R_takeBlanksOff 24 = .ok (.aload_n 0, 1) := by decide +kernel
theorem d_R_takeBlanksOff_25 : decode c_R_takeBlanksOff 25 = .ok (.getfield 9, 3) := by decide +kernel
theorem d_R_takeBlanksOff_28 : decode c_R_takeBlanksOff 28 = .ok (.aload_n 0, 1) := by decide +kernel
theorem d_R_takeBlanksOff_29 : decode c_R_takeBlanksOff 29 = .ok (.getfield 17, 3) := by decide +kernel
theorem d_R_takeBlanksOff_32 : decode c_R_takeBlanksOff 32 = .ok (.iaload, 1) := by decide +kernel
theorem d_R_takeBlanksOff_33 : decode c_R_takeBlanksOff 33 = .ok (.invokestatic 71, 3) := by decide +kernel
theorem d_R_takeBlanksOff_36 : decode c_R_takeBlanksOff 36 = .ok (.ifCond .eq 16, 3) := by decide +kernel
theorem d_R_takeBlanksOff_39 : decode c_R_takeBlanksOff 39 = .ok (.aload_n 0, 1) := by decide +kernel
theorem d_R_takeBlanksOff_40 : decode c_R_takeBlanksOff 40 = .ok (.dup, 1) := by decide +kernel
theorem d_R_takeBlanksOff_41 : decode c_R_takeBlanksOff 41 = .ok (.getfield 17, 3) := by decide +kernel
theorem d_R_takeBlanksOff_44 : decode c_R_takeBlanksOff 44 = .ok (.iconst 1, 1) := by decide +kernel
theorem d_R_takeBlanksOff_45 : decode c_R_takeBlanksOff 45 = .ok (.iadd, 1) := by decide +kernel
theorem d_R_takeBlanksOff_46 : decode c_R_takeBlanksOff 46 = .ok (.putfield 17, 3) := by decide +kernel
theorem d_R_takeBlanksOff_49 : decode c_R_takeBlanksOff 49 = .ok (.goto (-36), 3) := by decide +kernel
theorem d_R_takeBlanksOff_52 : decode c_R_takeBlanksOff 52 = .ok (.aload_n 0, 1) := by decide +kernel
theorem d_R_takeBlanksOff_53 : decode c_R_takeBlanksOff 53 = .ok (.getfield 20, 3) := by decide +kernel
theorem d_R_takeBlanksOff_56 : decode c_R_takeBlanksOff 56 = .ok (.aload_n 0, 1) := by decide +kernel
theorem d_R_takeBlanksOff_57 : decode c_R_takeBlanksOff 57 = .ok (.getfield 17, 3) := by decide +kernel
theorem d_R_takeBlanksOff_60 : decode c_R_takeBlanksOff 60 = .ok (.if_icmp .le 33, 3) := by decide +kernel
theorem d_R_takeBlanksOff_63 : decode c_R_takeBlanksOff 63 = .ok (.aload_n 0, 1) := by decide +kernel
theorem d_R_takeBlanksOff_64 : decode c_R_takeBlanksOff 64 = .ok (.getfield 9, 3) := by decide +kernel
theorem d_R_takeBlanksOff_67 : decode c_R_takeBlanksOff 67 = .ok (.aload_n 0, 1) := by decide +kernel
theorem d_R_takeBlanksOff_68 : decode c_R_takeBlanksOff 68 = .ok (.getfield 20, 3) := by decide +kernel
theorem d_R_takeBlanksOff_71 : decode c_R_takeBlanksOff 71 = .ok (.iconst 1, 1) := by decide +kernel
theorem d_R_takeBlanksOff_72 : decode c_R_takeBlanksOff 72 = .ok (.isub, 1) := by decide +kernel
theorem d_R_takeBlanksOff_73 : decode c_R_takeBlanksOff 73 = .ok (.iaload, 1) := by decide +kernel
theorem d_R_takeBlanksOff_74 : decode c_R_takeBlanksOff 74 = .ok (.invokestatic 71, 3) := by decide +kernel
theorem d_R_takeBlanksOff_77 : decode c_R_takeBlanksOff 77 = .ok (.ifCond .eq 16, 3) := by decide +kernel
theorem d_R_takeBlanksOff_80 : decode c_R_takeBlanksOff 80 = .ok (.aload_n 0, 1) := by decide +kernel
theorem d_R_takeBlanksOff_81 : decode c_R_takeBlanksOff 81 = .ok (.dup, 1) := by decide +kernel
theorem d_R_takeBlanksOff_82 : decode c_R_takeBlanksOff 82 = .ok (.getfield 20, 3) := by decide +kernel
theorem d_R_takeBlanksOff_85 : decode c_R_takeBlanksOff 85 = .ok (.iconst 1, 1) := by decide +kernel
theorem d_R_takeBlanksOff_86 : decode c_R_takeBlanksOff 86 = .ok (.isub, 1) := by decide +kernel
theorem d_R_takeBlanksOff_87 : decode c_R_takeBlanksOff 87 = .ok (.putfield 20, 3) := by decide +kernel
theorem d_R_takeBlanksOff_90 : decode c_R_takeBlanksOff 90 = .ok (.goto (-38), 3) := by decide +kernel
theorem d_R_takeBlanksOff_93 : decode c_R_takeBlanksOff 93 = .ok (.return_, 1) := by decide +kernel
theorem zn_R_71 : zNS R_R 71 y_R_isBlank c_R_isBlank 1 (some .boolean) 1 := ⟨zco_R_isBlank, zin_R, zml_R_71, zst_R_isBlank, by decide +kernel⟩
set_option maxHeartbeats 4000000 in
set_option maxRecDepth 100000 in
theorem k_R_takeBlanksOff (κ : zC) (X : zXT) (hX : zX κ X) (l : Launch) (a_t a_t_units a_t_numerator a_t_denominator : Nat) (sz : Nat) (t_count : Int32) (t_at : Int32) (t_end : Int32) (t_counting : Int32) (t_power : Int32) (t_units : Nat → Int32) (out : (Int32) × (Int32)) (hf : f_R_takeBlanksOff t_count t_at t_end t_counting t_power t_units = some out) : zMet κ X l y_R_takeBlanksOff c_R_takeBlanksOff 1 none 1 20 [.ref a_t] sz [(a_t, .inr (4, [.ref a_t_units, .int t_count, .int t_at, .int t_end, .ref a_t_numerator, .ref a_t_denominator, .int t_counting, .int t_power])), (a_t_units, .inl (κ.2.1, 600, .inl t_units))] (zQv κ (fun (u : (Int32) × (Int32)) => u = out) (fun u => [(a_t, .inr (4, [.ref a_t_units, .int t_count, .int u.1, .int u.2, .ref a_t_numerator, .ref a_t_denominator, .int t_counting, .int t_power])), (a_t_units, .inl (κ.2.1, 600, .inl t_units))])) := by
  refine zMet.ofV (by decide +kernel) (Nat.le_of_ble_eq_true rfl) ?_
  intro p e s m args below meth c ls A Q hF hK hP hD hA hXs hS hl hret
  obtain ⟨hx, hb, hml, hown, hts⟩ := id hF
  obtain ⟨H, hH⟩ : ∃ H, H = s.heap := ⟨_, rfl⟩
  obtain ⟨locs, hlo⟩ : ∃ z : List Loc, z = [] := ⟨_, rfl⟩
  replace hP : zP κ [(a_t, .inr (4, [.ref a_t_units, .int t_count, .int t_at, .int t_end, .ref a_t_numerator, .ref a_t_denominator, .int t_counting, .int t_power])), (a_t_units, .inl (κ.2.1, 600, .inl t_units))] H := by rw [hH]; exact hP
  replace hS : va_S A s.heap H locs := by rw [hH, hlo]; exact hS
  suffices hgo : W p l e (zR 1 20) s m args below meth c H locs 0 0 Q (F0 m 0 ls []) by rw [hH, hlo] at hgo; exact hgo
  clear hH hlo
  replace hl : lv_has ls 1 [(0, .ref a_t)] := hl
  have b_52 : ∀ (t_at : Int32) (t_end : Int32) (H : Heap) (locs : List Loc) (ls : Array Slot), f_R_takeBlanksOff_52 t_count t_at t_end t_counting t_power t_units = some out → zP κ [(a_t, .inr (4, [.ref a_t_units, .int t_count, .int t_at, .int t_end, .ref a_t_numerator, .ref a_t_denominator, .int t_counting, .int t_power])), (a_t_units, .inl (κ.2.1, 600, .inl t_units))] H → va_D A [(a_t, .inr (4, [.ref a_t_units, .int t_count, .int t_at, .int t_end, .ref a_t_numerator, .ref a_t_denominator, .int t_counting, .int t_power])), (a_t_units, .inl (κ.2.1, 600, .inl t_units))] → va_S A s.heap H locs → lv_has ls 1 [(0, .ref a_t)] → W p l e (zR 1 20) s m args below meth c H locs 0 0 Q (F0 m 52 ls []) := by
    intro t_at t_end H locs ls hf hP hD hS hl
    refine zrun_ind (P := fun z : (Int32) × (Int32) => ∀ (H : Heap) (locs : List Loc) (ls : Array Slot), zP κ [(a_t, .inr (4, [.ref a_t_units, .int t_count, .int z.1, .int z.2, .ref a_t_numerator, .ref a_t_denominator, .int t_counting, .int t_power])), (a_t_units, .inl (κ.2.1, 600, .inl t_units))] H → va_D A [(a_t, .inr (4, [.ref a_t_units, .int t_count, .int z.1, .int z.2, .ref a_t_numerator, .ref a_t_denominator, .int t_counting, .int t_power])), (a_t_units, .inl (κ.2.1, 600, .inl t_units))] → va_S A s.heap H locs → lv_has ls 1 [(0, .ref a_t)] → W p l e (zR 1 20) s m args below meth c H locs 0 0 Q (F0 m 52 ls [])) ?_ hf H locs ls hP hD hS hl
    clear hf hP hD hS hl H locs ls t_at t_end
    intro z ih hne hexit_52 H locs ls hP hD hS hl
    obtain ⟨q_52, hf⟩ := zne hne
    have hback_52 := fun y (e : q_52 = .inl y) => ih y (e ▸ hf)
    replace hexit_52 := fun y (e : q_52 = .inr y) => hexit_52 y (e ▸ hf)
    clear ih hne
    obtain ⟨t_at, t_end⟩ := z
    replace hf : f_R_takeBlanksOff_52_body t_count t_counting t_power t_units t_at t_end = some q_52 := hf
    replace hP : zP κ [(a_t, .inr (4, [.ref a_t_units, .int t_count, .int t_at, .int t_end, .ref a_t_numerator, .ref a_t_denominator, .int t_counting, .int t_power])), (a_t_units, .inl (κ.2.1, 600, .inl t_units))] H := hP
    replace hD : va_D A [(a_t, .inr (4, [.ref a_t_units, .int t_count, .int t_at, .int t_end, .ref a_t_numerator, .ref a_t_denominator, .int t_counting, .int t_power])), (a_t_units, .inl (κ.2.1, 600, .inl t_units))] := hD
    replace hl : lv_has ls 1 [(0, .ref a_t)] := hl
    unfold f_R_takeBlanksOff_52_body at hf
    refine lv_aload_n hx hb d_R_takeBlanksOff_52 rfl (lv_at hl 0 rfl) ?_
    refine va_get (C := R_R) (T := F_R) (N := 8) hx hb hts i_R hown hK hP 0 rfl rfl 3 (by decide) (hts _ zfl_R_20) (fun _ h9 => h9) rfl d_R_takeBlanksOff_53 ?_
    refine lv_aload_n hx hb d_R_takeBlanksOff_56 rfl (lv_at hl 0 rfl) ?_
    refine va_get (C := R_R) (T := F_R) (N := 8) hx hb hts i_R hown hK hP 0 rfl rfl 2 (by decide) (hts _ zfl_R_17) (fun _ h9 => h9) rfl d_R_takeBlanksOff_57 ?_
    refine lv_icmp_le (tgt := 93) hx hb d_R_takeBlanksOff_60 (by decide) (fun c_60 => ?_) (fun c_60 => ?_)
    · have hf := (zbr hf).1 c_60
      have hf := zex hf hexit_52
      exact hret ((t_at, t_end)) H locs ls _ d_R_takeBlanksOff_93 hP hD hS (Option.some.inj hf)
    · have hf := (zbr hf).2 c_60
      refine lv_aload_n hx hb d_R_takeBlanksOff_63 rfl (lv_at hl 0 rfl) ?_
      refine va_get (C := R_R) (T := F_R) (N := 8) hx hb hts i_R hown hK hP 0 rfl rfl 0 (by decide) (hts _ zfl_R_9) (fun _ h9 => h9) rfl d_R_takeBlanksOff_64 ?_
      refine lv_aload_n hx hb d_R_takeBlanksOff_67 rfl (lv_at hl 0 rfl) ?_
      refine va_get (C := R_R) (T := F_R) (N := 8) hx hb hts i_R hown hK hP 0 rfl rfl 3 (by decide) (hts _ zfl_R_20) (fun _ h9 => h9) rfl d_R_takeBlanksOff_68 ?_
      refine lv_iconst (v := 1) hx hb d_R_takeBlanksOff_71 (by decide) ?_
      refine lv_isub hx hb d_R_takeBlanksOff_72 ?_
      obtain ⟨g_73, hf⟩ := zgd hf
      refine va_iald hx hb hK hP 1 0 rfl rfl (zin_vp g_73) d_R_takeBlanksOff_73 ?_
      obtain ⟨o_74, ho_74, hf⟩ := zbd hf
      refine zSi (isC := []) (isR := [0, 1]) (isN := [0, 1]) (wc := []) (wr := [(a_t, .inr (4, [.ref a_t_units, .int t_count, .int t_at, .int t_end, .ref a_t_numerator, .ref a_t_denominator, .int t_counting, .int t_power])), (a_t_units, .inl (κ.2.1, 600, .inl t_units))]) (wn := fun u => [(a_t, .inr (4, [.ref a_t_units, .int t_count, .int t_at, .int t_end, .ref a_t_numerator, .ref a_t_denominator, .int t_counting, .int t_power])), (a_t_units, .inl (κ.2.1, 600, .inl t_units))]) (rest := []) (As := [.int (t_units (t_end - 1).toNatClampNeg)]) hF zn_R_71 (k_R_isBlank κ X hX l H.size (t_units (t_end - 1).toNatClampNeg) o_74 ho_74) hX hXs hK hA hP hD hS ⟨by decide, by decide⟩ ⟨rfl, rfl, rfl, rfl, rfl, by decide⟩ ⟨rfl, fun _ => rfl, fun _ => rfl⟩ rfl hl.1 rfl (Nat.le_of_ble_eq_true rfl) ⟨Nat.zero_le _, Nat.zero_le _⟩ d_R_takeBlanksOff_74 (fun r_74 u H locs hw hP hD hS => ?_)
      subst hw
      refine lv_if_eq (tgt := 93) hx hb d_R_takeBlanksOff_77 (by decide) (fun c_77 => ?_) (fun c_77 => ?_)
      · have hf := (zbr hf).1 c_77
        have hf := zex hf hexit_52
        exact hret ((t_at, t_end)) H locs ls _ d_R_takeBlanksOff_93 hP hD hS (Option.some.inj hf)
      · have hf := (zbr hf).2 c_77
        refine lv_aload_n hx hb d_R_takeBlanksOff_80 rfl (lv_at hl 0 rfl) ?_
        refine lv_dup hx hb d_R_takeBlanksOff_81 rfl ?_
        refine va_get (C := R_R) (T := F_R) (N := 8) hx hb hts i_R hown hK hP 0 rfl rfl 3 (by decide) (hts _ zfl_R_20) (fun _ h9 => h9) rfl d_R_takeBlanksOff_82 ?_
        refine lv_iconst (v := 1) hx hb d_R_takeBlanksOff_85 (by decide) ?_
        refine lv_isub hx hb d_R_takeBlanksOff_86 ?_
        refine va_put (C := R_R) (T := F_R) (N := 8) hx hb hts i_R ty_R ty_R_ok n_R hown hK hP hD hS 0 rfl rfl 3 (by decide) (hts _ zfl_R_20) (fun _ h9 => h9) rfl (ty_R_ok 3 (by decide)) rfl rfl (Nat.le_of_ble_eq_true rfl) d_R_takeBlanksOff_87 (fun H locs hP hD hS => ?_)
        have hP : zP κ [(a_t, .inr (4, [.ref a_t_units, .int t_count, .int t_at, .int (t_end - 1), .ref a_t_numerator, .ref a_t_denominator, .int t_counting, .int t_power])), (a_t_units, .inl (κ.2.1, 600, .inl t_units))] H := hP
        have hD : va_D A [(a_t, .inr (4, [.ref a_t_units, .int t_count, .int t_at, .int (t_end - 1), .ref a_t_numerator, .ref a_t_denominator, .int t_counting, .int t_power])), (a_t_units, .inl (κ.2.1, 600, .inl t_units))] := hD
        refine lv_goto (tgt := 52) hx hb d_R_takeBlanksOff_90 (by decide) ?_
        exact hback_52 _ (Option.some.inj hf).symm H locs ls hP hD hS hl
  have b_13 : ∀ (t_at : Int32) (t_end : Int32) (H : Heap) (locs : List Loc) (ls : Array Slot), f_R_takeBlanksOff_13 t_count t_at t_end t_counting t_power t_units = some out → zP κ [(a_t, .inr (4, [.ref a_t_units, .int t_count, .int t_at, .int t_end, .ref a_t_numerator, .ref a_t_denominator, .int t_counting, .int t_power])), (a_t_units, .inl (κ.2.1, 600, .inl t_units))] H → va_D A [(a_t, .inr (4, [.ref a_t_units, .int t_count, .int t_at, .int t_end, .ref a_t_numerator, .ref a_t_denominator, .int t_counting, .int t_power])), (a_t_units, .inl (κ.2.1, 600, .inl t_units))] → va_S A s.heap H locs → lv_has ls 1 [(0, .ref a_t)] → W p l e (zR 1 20) s m args below meth c H locs 0 0 Q (F0 m 13 ls []) := by
    intro t_at t_end H locs ls hf hP hD hS hl
    refine zrun_ind (P := fun z : (Int32) × (Int32) => ∀ (H : Heap) (locs : List Loc) (ls : Array Slot), zP κ [(a_t, .inr (4, [.ref a_t_units, .int t_count, .int z.1, .int z.2, .ref a_t_numerator, .ref a_t_denominator, .int t_counting, .int t_power])), (a_t_units, .inl (κ.2.1, 600, .inl t_units))] H → va_D A [(a_t, .inr (4, [.ref a_t_units, .int t_count, .int z.1, .int z.2, .ref a_t_numerator, .ref a_t_denominator, .int t_counting, .int t_power])), (a_t_units, .inl (κ.2.1, 600, .inl t_units))] → va_S A s.heap H locs → lv_has ls 1 [(0, .ref a_t)] → W p l e (zR 1 20) s m args below meth c H locs 0 0 Q (F0 m 13 ls [])) ?_ hf H locs ls hP hD hS hl
    clear hf hP hD hS hl H locs ls t_at t_end
    intro z ih hne hexit_13 H locs ls hP hD hS hl
    obtain ⟨q_13, hf⟩ := zne hne
    have hback_13 := fun y (e : q_13 = .inl y) => ih y (e ▸ hf)
    replace hexit_13 := fun y (e : q_13 = .inr y) => hexit_13 y (e ▸ hf)
    clear ih hne
    obtain ⟨t_at, t_end⟩ := z
    replace hf : f_R_takeBlanksOff_13_body t_count t_counting t_power t_units t_at t_end = some q_13 := hf
    replace hP : zP κ [(a_t, .inr (4, [.ref a_t_units, .int t_count, .int t_at, .int t_end, .ref a_t_numerator, .ref a_t_denominator, .int t_counting, .int t_power])), (a_t_units, .inl (κ.2.1, 600, .inl t_units))] H := hP
    replace hD : va_D A [(a_t, .inr (4, [.ref a_t_units, .int t_count, .int t_at, .int t_end, .ref a_t_numerator, .ref a_t_denominator, .int t_counting, .int t_power])), (a_t_units, .inl (κ.2.1, 600, .inl t_units))] := hD
    replace hl : lv_has ls 1 [(0, .ref a_t)] := hl
    unfold f_R_takeBlanksOff_13_body at hf
    refine lv_aload_n hx hb d_R_takeBlanksOff_13 rfl (lv_at hl 0 rfl) ?_
    refine va_get (C := R_R) (T := F_R) (N := 8) hx hb hts i_R hown hK hP 0 rfl rfl 2 (by decide) (hts _ zfl_R_17) (fun _ h9 => h9) rfl d_R_takeBlanksOff_14 ?_
    refine lv_aload_n hx hb d_R_takeBlanksOff_17 rfl (lv_at hl 0 rfl) ?_
    refine va_get (C := R_R) (T := F_R) (N := 8) hx hb hts i_R hown hK hP 0 rfl rfl 3 (by decide) (hts _ zfl_R_20) (fun _ h9 => h9) rfl d_R_takeBlanksOff_18 ?_
    refine lv_icmp_ge (tgt := 52) hx hb d_R_takeBlanksOff_21 (by decide) (fun c_21 => ?_) (fun c_21 => ?_)
    · have hf := (zbr hf).1 c_21
      have hf := zex hf hexit_13
      exact b_52 t_at t_end H locs ls hf hP hD hS hl
    · have hf := (zbr hf).2 c_21
      refine lv_aload_n hx hb d_R_takeBlanksOff_24 rfl (lv_at hl 0 rfl) ?_
      refine va_get (C := R_R) (T := F_R) (N := 8) hx hb hts i_R hown hK hP 0 rfl rfl 0 (by decide) (hts _ zfl_R_9) (fun _ h9 => h9) rfl d_R_takeBlanksOff_25 ?_
      refine lv_aload_n hx hb d_R_takeBlanksOff_28 rfl (lv_at hl 0 rfl) ?_
      refine va_get (C := R_R) (T := F_R) (N := 8) hx hb hts i_R hown hK hP 0 rfl rfl 2 (by decide) (hts _ zfl_R_17) (fun _ h9 => h9) rfl d_R_takeBlanksOff_29 ?_
      obtain ⟨g_32, hf⟩ := zgd hf
      refine va_iald hx hb hK hP 1 0 rfl rfl (zin_vp g_32) d_R_takeBlanksOff_32 ?_
      obtain ⟨o_33, ho_33, hf⟩ := zbd hf
      refine zSi (isC := []) (isR := [0, 1]) (isN := [0, 1]) (wc := []) (wr := [(a_t, .inr (4, [.ref a_t_units, .int t_count, .int t_at, .int t_end, .ref a_t_numerator, .ref a_t_denominator, .int t_counting, .int t_power])), (a_t_units, .inl (κ.2.1, 600, .inl t_units))]) (wn := fun u => [(a_t, .inr (4, [.ref a_t_units, .int t_count, .int t_at, .int t_end, .ref a_t_numerator, .ref a_t_denominator, .int t_counting, .int t_power])), (a_t_units, .inl (κ.2.1, 600, .inl t_units))]) (rest := []) (As := [.int (t_units t_at.toNatClampNeg)]) hF zn_R_71 (k_R_isBlank κ X hX l H.size (t_units t_at.toNatClampNeg) o_33 ho_33) hX hXs hK hA hP hD hS ⟨by decide, by decide⟩ ⟨rfl, rfl, rfl, rfl, rfl, by decide⟩ ⟨rfl, fun _ => rfl, fun _ => rfl⟩ rfl hl.1 rfl (Nat.le_of_ble_eq_true rfl) ⟨Nat.zero_le _, Nat.zero_le _⟩ d_R_takeBlanksOff_33 (fun r_33 u H locs hw hP hD hS => ?_)
      subst hw
      refine lv_if_eq (tgt := 52) hx hb d_R_takeBlanksOff_36 (by decide) (fun c_36 => ?_) (fun c_36 => ?_)
      · have hf := (zbr hf).1 c_36
        have hf := zex hf hexit_13
        exact b_52 t_at t_end H locs ls hf hP hD hS hl
      · have hf := (zbr hf).2 c_36
        refine lv_aload_n hx hb d_R_takeBlanksOff_39 rfl (lv_at hl 0 rfl) ?_
        refine lv_dup hx hb d_R_takeBlanksOff_40 rfl ?_
        refine va_get (C := R_R) (T := F_R) (N := 8) hx hb hts i_R hown hK hP 0 rfl rfl 2 (by decide) (hts _ zfl_R_17) (fun _ h9 => h9) rfl d_R_takeBlanksOff_41 ?_
        refine lv_iconst (v := 1) hx hb d_R_takeBlanksOff_44 (by decide) ?_
        refine lv_iadd hx hb d_R_takeBlanksOff_45 ?_
        refine va_put (C := R_R) (T := F_R) (N := 8) hx hb hts i_R ty_R ty_R_ok n_R hown hK hP hD hS 0 rfl rfl 2 (by decide) (hts _ zfl_R_17) (fun _ h9 => h9) rfl (ty_R_ok 2 (by decide)) rfl rfl (Nat.le_of_ble_eq_true rfl) d_R_takeBlanksOff_46 (fun H locs hP hD hS => ?_)
        have hP : zP κ [(a_t, .inr (4, [.ref a_t_units, .int t_count, .int (t_at + 1), .int t_end, .ref a_t_numerator, .ref a_t_denominator, .int t_counting, .int t_power])), (a_t_units, .inl (κ.2.1, 600, .inl t_units))] H := hP
        have hD : va_D A [(a_t, .inr (4, [.ref a_t_units, .int t_count, .int (t_at + 1), .int t_end, .ref a_t_numerator, .ref a_t_denominator, .int t_counting, .int t_power])), (a_t_units, .inl (κ.2.1, 600, .inl t_units))] := hD
        refine lv_goto (tgt := 13) hx hb d_R_takeBlanksOff_49 (by decide) ?_
        exact hback_13 _ (Option.some.inj hf).symm H locs ls hP hD hS hl
  unfold f_R_takeBlanksOff at hf
  refine lv_aload_n hx hb d_R_takeBlanksOff_0 rfl (lv_at hl 0 rfl) ?_
  refine lv_iconst (v := 0) hx hb d_R_takeBlanksOff_1 (by decide) ?_
  refine va_put (C := R_R) (T := F_R) (N := 8) hx hb hts i_R ty_R ty_R_ok n_R hown hK hP hD hS 0 rfl rfl 2 (by decide) (hts _ zfl_R_17) (fun _ h9 => h9) rfl (ty_R_ok 2 (by decide)) rfl rfl (Nat.le_of_ble_eq_true rfl) d_R_takeBlanksOff_2 (fun H locs hP hD hS => ?_)
  have hP : zP κ [(a_t, .inr (4, [.ref a_t_units, .int t_count, .int 0, .int t_end, .ref a_t_numerator, .ref a_t_denominator, .int t_counting, .int t_power])), (a_t_units, .inl (κ.2.1, 600, .inl t_units))] H := hP
  have hD : va_D A [(a_t, .inr (4, [.ref a_t_units, .int t_count, .int 0, .int t_end, .ref a_t_numerator, .ref a_t_denominator, .int t_counting, .int t_power])), (a_t_units, .inl (κ.2.1, 600, .inl t_units))] := hD
  refine lv_aload_n hx hb d_R_takeBlanksOff_5 rfl (lv_at hl 0 rfl) ?_
  refine lv_aload_n hx hb d_R_takeBlanksOff_6 rfl (lv_at hl 0 rfl) ?_
  refine va_get (C := R_R) (T := F_R) (N := 8) hx hb hts i_R hown hK hP 0 rfl rfl 1 (by decide) (hts _ zfl_R_13) (fun _ h9 => h9) rfl d_R_takeBlanksOff_7 ?_
  refine va_put (C := R_R) (T := F_R) (N := 8) hx hb hts i_R ty_R ty_R_ok n_R hown hK hP hD hS 0 rfl rfl 3 (by decide) (hts _ zfl_R_20) (fun _ h9 => h9) rfl (ty_R_ok 3 (by decide)) rfl rfl (Nat.le_of_ble_eq_true rfl) d_R_takeBlanksOff_10 (fun H locs hP hD hS => ?_)
  have hP : zP κ [(a_t, .inr (4, [.ref a_t_units, .int t_count, .int 0, .int t_count, .ref a_t_numerator, .ref a_t_denominator, .int t_counting, .int t_power])), (a_t_units, .inl (κ.2.1, 600, .inl t_units))] H := hP
  have hD : va_D A [(a_t, .inr (4, [.ref a_t_units, .int t_count, .int 0, .int t_count, .ref a_t_numerator, .ref a_t_denominator, .int t_counting, .int t_power])), (a_t_units, .inl (κ.2.1, 600, .inl t_units))] := hD
  exact b_13 0 t_count H locs ls hf hP hD hS hl
theorem d_R_takeDigit_0 : decode c_R_takeDigit 0 = .ok (.aload_n 0, 1) := by decide +kernel
theorem d_R_takeDigit_1 : decode c_R_takeDigit 1 = .ok (.getfield 33, 3) := by decide +kernel
theorem d_R_takeDigit_4 : decode c_R_takeDigit 4 = .ok (.ifCond .gt 7, 3) := by decide +kernel
theorem d_R_takeDigit_7 : decode c_R_takeDigit 7 = .ok (.iload_n 1, 1) := by decide +kernel
theorem d_R_takeDigit_8 : decode c_R_takeDigit 8 = .ok (.ifCond .eq 7, 3) := by decide +kernel
theorem d_R_takeDigit_11 : decode c_R_takeDigit 11 = .ok (.iconst 1, 1) := by decide +kernel
theorem d_R_takeDigit_12 : decode c_R_takeDigit 12 = .ok (.goto 4, 3) := by decide +kernel
theorem d_R_takeDigit_15 : decode c_R_takeDigit 15 = .ok (.iconst 0, 1) := by decide +kernel
theorem d_R_takeDigit_16 : decode c_R_takeDigit 16 = .ok (.istore_n 3, 1) := by decide +kernel
theorem d_R_takeDigit_17 : decode c_R_takeDigit 17 = .ok (.iload_n 3, 1) := by decide +kernel
theorem d_R_takeDigit_18 : decode c_R_takeDigit 18 = .ok (.ifCond .eq 34, 3) := by decide +kernel
theorem d_R_takeDigit_21 : decode c_R_takeDigit 21 = .ok (.aload_n 0, 1) := by decide +kernel
theorem d_R_takeDigit_22 : decode c_R_takeDigit 22 = .ok (.getfield 33, 3) := by decide +kernel
theorem d_R_takeDigit_25 : decode c_R_takeDigit 25 = .ok (.bipush 20, 2) := by decide +kernel
theorem d_R_takeDigit_27 : decode c_R_takeDigit 27 = .ok (.if_icmp .ne 25, 3) := by decide +kernel
theorem d_R_takeDigit_30 : decode c_R_takeDigit 30 = .ok (.aload_n 0, 1) := by decide +kernel
theorem d_R_takeDigit_31 : decode c_R_takeDigit 31 = .ok (.iload_n 2, 1) := by decide +kernel
theorem d_R_takeDigit_32 : decode c_R_takeDigit 32 = .ok (.ifCond .eq 10, 3) := by decide +kernel
theorem d_R_takeDigit_35 : decode c_R_takeDigit 35 = .ok (.aload_n 0, 1) := by decide +kernel
theorem d_R_takeDigit_36 : decode c_R_takeDigit 36 = .ok (.getfield 36, 3) := by decide +kernel
theorem d_R_takeDigit_39 : decode c_R_takeDigit 39 = .ok (.goto 9, 3) := by decide +kernel
theorem d_R_takeDigit_42 : decode c_R_takeDigit 42 = .ok (.aload_n 0, 1) := by decide +kernel
theorem d_R_takeDigit_43 : decode c_R_takeDigit 43 = .ok (.getfield 36, 3) := by decide +kernel
theorem d_R_takeDigit_46 : decode c_R_takeDigit 46 = .ok (.iconst 1, 1) := by decide +kernel
theorem d_R_takeDigit_47 : decode c_R_takeDigit 47 = .ok (.iadd, 1) := by decide +kernel
theorem d_R_takeDigit_48 : decode c_R_takeDigit 48 = .ok (.putfield 36, 3) := by decide +kernel
theorem d_R_takeDigit_51 : decode c_R_takeDigit 51 = .ok (.return_, 1) := by decide +kernel
theorem d_R_takeDigit_52 : decode c_R_takeDigit 52 = .ok (.iload_n 3, 1) := by decide +kernel
theorem d_R_takeDigit_53 : decode c_R_takeDigit 53 = .ok (.ifCond .eq 23, 3) := by decide +kernel
theorem d_R_takeDigit_56 : decode c_R_takeDigit 56 = .ok (.aload_n 0, 1) := by decide +kernel
theorem d_R_takeDigit_57 : decode c_R_takeDigit 57 = .ok (.getfield 26, 3) := by decide +kernel
theorem d_R_takeDigit_60 : decode c_R_takeDigit 60 = .ok (.bipush 10, 2) := by decide +kernel
theorem d_R_takeDigit_62 : decode c_R_takeDigit 62 = .ok (.iload_n 1, 1) := by decide +kernel
theorem d_R_takeDigit_63 : decode c_R_takeDigit 63 = .ok (.invokevirtual 113, 3) := by decide +kernel
theorem d_R_takeDigit_66 : decode c_R_takeDigit 66 = .ok (.aload_n 0, 1) := by decide +kernel
theorem d_R_takeDigit_67 : decode c_R_takeDigit 67 = .ok (.dup, 1) := by decide +kernel
theorem d_R_takeDigit_68 : decode c_R_takeDigit 68 = .ok (.getfield 33, 3) := by decide +kernel
theorem d_R_takeDigit_71 : decode c_R_takeDigit 71 = .ok (.iconst 1, 1) := by decide +kernel
theorem d_R_takeDigit_72 : decode c_R_takeDigit 72 = .ok (.iadd, 1) := by decide +kernel
theorem d_R_takeDigit_73 : decode c_R_takeDigit 73 = .ok (.putfield 33, 3) := by decide +kernel
theorem d_R_takeDigit_76 : decode c_R_takeDigit 76 = .ok (.aload_n 0, 1) := by decide +kernel
theorem d_R_takeDigit_77 : decode c_R_takeDigit 77 = .ok (.iload_n 2, 1) := by decide +kernel
theorem d_R_takeDigit_78 : decode c_R_takeDigit 78 = .ok (.ifCond .eq 12, 3) := by decide +kernel
theorem d_R_takeDigit_81 : decode c_R_takeDigit 81 = .ok (.aload_n 0, 1) := by decide +kernel
theorem d_R_takeDigit_82 : decode c_R_takeDigit 82 = .ok (.getfield 36, 3) := by decide +kernel
theorem d_R_takeDigit_85 : decode c_R_takeDigit 85 = .ok (.iconst 1, 1) := by decide +kernel
theorem d_R_takeDigit_86 : decode c_R_takeDigit 86 = .ok (.isub, 1) := by decide +kernel
theorem d_R_takeDigit_87 : decode c_R_takeDigit 87 = .ok (.goto 7, 3) := by decide +kernel
theorem d_R_takeDigit_90 : decode c_R_takeDigit 90 = .ok (.aload_n 0, 1) := by decide +kernel
theorem d_R_takeDigit_91 : decode c_R_takeDigit 91 = .ok (.getfield 36, 3) := by decide +kernel
theorem d_R_takeDigit_94 : decode c_R_takeDigit 94 = .ok (.putfield 36, 3) := by decide +kernel
theorem d_R_takeDigit_97 : decode c_R_takeDigit 97 = .ok (.return_, 1) := by decide +kernel
theorem zn_R_113 : zNV R_R 113 y_N_multiplyAndAdd c_N_multiplyAndAdd 6 none 2 := ⟨zco_N_multiplyAndAdd, zin_N, zml_R_113, zim_N_multiplyAndAdd, zse_N_N_multiplyAndAdd, by decide +kernel⟩
set_option maxHeartbeats 4000000 in
set_option maxRecDepth 100000 in
theorem k_R_takeDigit (κ : zC) (X : zXT) (hX : zX κ X) (l : Launch) (a_t a_t_units a_t_numerator a_t_denominator a_t_numerator_limbs : Nat) (sz : Nat) (t_count : Int32) (t_at : Int32) (t_end : Int32) (t_counting : Int32) (t_power : Int32) (t_numerator_used : Int32) (t_numerator_limbs : Nat → Int32) (x1 : Int32) (x2 : Int32) (out : (Int32) × (Int32) × (Int32) × (Nat → Int32)) (hf : f_R_takeDigit t_count t_at t_end t_counting t_power t_numerator_used t_numerator_limbs x1 x2 = some out) : zMet κ X l y_R_takeDigit c_R_takeDigit 4 none 2 46 [.ref a_t, .int x1, .int x2] sz [(a_t, .inr (4, [.ref a_t_units, .int t_count, .int t_at, .int t_end, .ref a_t_numerator, .ref a_t_denominator, .int t_counting, .int t_power])), (a_t_numerator, .inr (2, [.ref a_t_numerator_limbs, .int t_numerator_used])), (a_t_numerator_limbs, .inl (κ.2.1, 48, .inl t_numerator_limbs))] (zQv κ (fun (u : (Int32) × (Int32) × (Int32) × (Nat → Int32)) => u = out) (fun u => [(a_t, .inr (4, [.ref a_t_units, .int t_count, .int t_at, .int t_end, .ref a_t_numerator, .ref a_t_denominator, .int u.1, .int u.2.1])), (a_t_numerator, .inr (2, [.ref a_t_numerator_limbs, .int u.2.2.1])), (a_t_numerator_limbs, .inl (κ.2.1, 48, .inl u.2.2.2))])) := by
  refine zMet.ofV (by decide +kernel) (Nat.le_of_ble_eq_true rfl) ?_
  intro p e s m args below meth c ls A Q hF hK hP hD hA hXs hS hl hret
  obtain ⟨hx, hb, hml, hown, hts⟩ := id hF
  obtain ⟨H, hH⟩ : ∃ H, H = s.heap := ⟨_, rfl⟩
  obtain ⟨locs, hlo⟩ : ∃ z : List Loc, z = [] := ⟨_, rfl⟩
  replace hP : zP κ [(a_t, .inr (4, [.ref a_t_units, .int t_count, .int t_at, .int t_end, .ref a_t_numerator, .ref a_t_denominator, .int t_counting, .int t_power])), (a_t_numerator, .inr (2, [.ref a_t_numerator_limbs, .int t_numerator_used])), (a_t_numerator_limbs, .inl (κ.2.1, 48, .inl t_numerator_limbs))] H := by rw [hH]; exact hP
  replace hS : va_S A s.heap H locs := by rw [hH, hlo]; exact hS
  suffices hgo : W p l e (zR 2 46) s m args below meth c H locs 0 0 Q (F0 m 0 ls []) by rw [hH, hlo] at hgo; exact hgo
  clear hH hlo
  replace hl : lv_has ls 4 [(0, .ref a_t), (1, .int x1), (2, .int x2)] := hl
  have b_76 : ∀ (t_counting : Int32) (t_power : Int32) (t_numerator_used : Int32) (t_numerator_limbs : Nat → Int32) (x2 : Int32) (H : Heap) (locs : List Loc) (ls : Array Slot), f_R_takeDigit_76 t_count t_at t_end t_counting t_power t_numerator_used t_numerator_limbs x2 = some out → zP κ [(a_t, .inr (4, [.ref a_t_units, .int t_count, .int t_at, .int t_end, .ref a_t_numerator, .ref a_t_denominator, .int t_counting, .int t_power])), (a_t_numerator, .inr (2, [.ref a_t_numerator_limbs, .int t_numerator_used])), (a_t_numerator_limbs, .inl (κ.2.1, 48, .inl t_numerator_limbs))] H → va_D A [(a_t, .inr (4, [.ref a_t_units, .int t_count, .int t_at, .int t_end, .ref a_t_numerator, .ref a_t_denominator, .int t_counting, .int t_power])), (a_t_numerator, .inr (2, [.ref a_t_numerator_limbs, .int t_numerator_used])), (a_t_numerator_limbs, .inl (κ.2.1, 48, .inl t_numerator_limbs))] → va_S A s.heap H locs → lv_has ls 4 [(0, .ref a_t), (2, .int x2)] → W p l e (zR 2 46) s m args below meth c H locs 0 0 Q (F0 m 76 ls []) := by
    intro t_counting t_power t_numerator_used t_numerator_limbs x2 H locs ls hf hP hD hS hl
    unfold f_R_takeDigit_76 at hf
    refine lv_aload_n hx hb d_R_takeDigit_76 rfl (lv_at hl 0 rfl) ?_
    refine lv_iload_n hx hb d_R_takeDigit_77 rfl (lv_at hl 1 rfl) ?_
    refine lv_if_eq (tgt := 90) hx hb d_R_takeDigit_78 (by decide) (fun c_78 => ?_) (fun c_78 => ?_)
    · have hf := (zbr hf).1 c_78
      refine lv_aload_n hx hb d_R_takeDigit_90 rfl (lv_at hl 0 rfl) ?_
      refine va_get (C := R_R) (T := F_R) (N := 8) hx hb hts i_R hown hK hP 0 rfl rfl 7 (by decide) (hts _ zfl_R_36) (fun _ h9 => h9) rfl d_R_takeDigit_91 ?_
      refine va_put (C := R_R) (T := F_R) (N := 8) hx hb hts i_R ty_R ty_R_ok n_R hown hK hP hD hS 0 rfl rfl 7 (by decide) (hts _ zfl_R_36) (fun _ h9 => h9) rfl (ty_R_ok 7 (by decide)) rfl rfl (Nat.le_of_ble_eq_true rfl) d_R_takeDigit_94 (fun H locs hP hD hS => ?_)
      have hP : zP κ [(a_t, .inr (4, [.ref a_t_units, .int t_count, .int t_at, .int t_end, .ref a_t_numerator, .ref a_t_denominator, .int t_counting, .int t_power])), (a_t_numerator, .inr (2, [.ref a_t_numerator_limbs, .int t_numerator_used])), (a_t_numerator_limbs, .inl (κ.2.1, 48, .inl t_numerator_limbs))] H := hP
      have hD : va_D A [(a_t, .inr (4, [.ref a_t_units, .int t_count, .int t_at, .int t_end, .ref a_t_numerator, .ref a_t_denominator, .int t_counting, .int t_power])), (a_t_numerator, .inr (2, [.ref a_t_numerator_limbs, .int t_numerator_used])), (a_t_numerator_limbs, .inl (κ.2.1, 48, .inl t_numerator_limbs))] := hD
      exact hret ((t_counting, t_power, t_numerator_used, t_numerator_limbs)) H locs ls _ d_R_takeDigit_97 hP hD hS (Option.some.inj hf)
    · have hf := (zbr hf).2 c_78
      refine lv_aload_n hx hb d_R_takeDigit_81 rfl (lv_at hl 0 rfl) ?_
      refine va_get (C := R_R) (T := F_R) (N := 8) hx hb hts i_R hown hK hP 0 rfl rfl 7 (by decide) (hts _ zfl_R_36) (fun _ h9 => h9) rfl d_R_takeDigit_82 ?_
      refine lv_iconst (v := 1) hx hb d_R_takeDigit_85 (by decide) ?_
      refine lv_isub hx hb d_R_takeDigit_86 ?_
      refine lv_goto (tgt := 94) hx hb d_R_takeDigit_87 (by decide) ?_
      refine va_put (C := R_R) (T := F_R) (N := 8) hx hb hts i_R ty_R ty_R_ok n_R hown hK hP hD hS 0 rfl rfl 7 (by decide) (hts _ zfl_R_36) (fun _ h9 => h9) rfl (ty_R_ok 7 (by decide)) rfl rfl (Nat.le_of_ble_eq_true rfl) d_R_takeDigit_94 (fun H locs hP hD hS => ?_)
      have hP : zP κ [(a_t, .inr (4, [.ref a_t_units, .int t_count, .int t_at, .int t_end, .ref a_t_numerator, .ref a_t_denominator, .int t_counting, .int (t_power - 1)])), (a_t_numerator, .inr (2, [.ref a_t_numerator_limbs, .int t_numerator_used])), (a_t_numerator_limbs, .inl (κ.2.1, 48, .inl t_numerator_limbs))] H := hP
      have hD : va_D A [(a_t, .inr (4, [.ref a_t_units, .int t_count, .int t_at, .int t_end, .ref a_t_numerator, .ref a_t_denominator, .int t_counting, .int (t_power - 1)])), (a_t_numerator, .inr (2, [.ref a_t_numerator_limbs, .int t_numerator_used])), (a_t_numerator_limbs, .inl (κ.2.1, 48, .inl t_numerator_limbs))] := hD
      exact hret ((t_counting, (t_power - 1), t_numerator_used, t_numerator_limbs)) H locs ls _ d_R_takeDigit_97 hP hD hS (Option.some.inj hf)
  have b_52 : ∀ (t_counting : Int32) (t_power : Int32) (t_numerator_used : Int32) (t_numerator_limbs : Nat → Int32) (x1 : Int32) (x2 : Int32) (x3 : Int32) (H : Heap) (locs : List Loc) (ls : Array Slot), f_R_takeDigit_52 t_count t_at t_end t_counting t_power t_numerator_used t_numerator_limbs x1 x2 x3 = some out → zP κ [(a_t, .inr (4, [.ref a_t_units, .int t_count, .int t_at, .int t_end, .ref a_t_numerator, .ref a_t_denominator, .int t_counting, .int t_power])), (a_t_numerator, .inr (2, [.ref a_t_numerator_limbs, .int t_numerator_used])), (a_t_numerator_limbs, .inl (κ.2.1, 48, .inl t_numerator_limbs))] H → va_D A [(a_t, .inr (4, [.ref a_t_units, .int t_count, .int t_at, .int t_end, .ref a_t_numerator, .ref a_t_denominator, .int t_counting, .int t_power])), (a_t_numerator, .inr (2, [.ref a_t_numerator_limbs, .int t_numerator_used])), (a_t_numerator_limbs, .inl (κ.2.1, 48, .inl t_numerator_limbs))] → va_S A s.heap H locs → lv_has ls 4 [(0, .ref a_t), (1, .int x1), (2, .int x2), (3, .int x3)] → W p l e (zR 2 46) s m args below meth c H locs 0 0 Q (F0 m 52 ls []) := by
    intro t_counting t_power t_numerator_used t_numerator_limbs x1 x2 x3 H locs ls hf hP hD hS hl
    unfold f_R_takeDigit_52 at hf
    refine lv_iload_n hx hb d_R_takeDigit_52 rfl (lv_at hl 3 rfl) ?_
    refine lv_if_eq (tgt := 76) hx hb d_R_takeDigit_53 (by decide) (fun c_53 => ?_) (fun c_53 => ?_)
    · have hf := (zbr hf).1 c_53
      exact b_76 t_counting t_power t_numerator_used t_numerator_limbs x2 H locs ls hf hP hD hS (lv_sub hl [0, 2] rfl)
    · have hf := (zbr hf).2 c_53
      refine lv_aload_n hx hb d_R_takeDigit_56 rfl (lv_at hl 0 rfl) ?_
      refine va_get (C := R_R) (T := F_R) (N := 8) hx hb hts i_R hown hK hP 0 rfl rfl 4 (by decide) (hts _ zfl_R_26) (fun _ h9 => h9) rfl d_R_takeDigit_57 ?_
      refine lv_bipush (v := 10) hx hb d_R_takeDigit_60 (by decide) ?_
      refine lv_iload_n hx hb d_R_takeDigit_62 rfl (lv_at hl 1 rfl) ?_
      obtain ⟨o_63, ho_63, hf⟩ := zbd hf
      refine zVv (isC := [1, 2]) (isR := [0]) (isN := [0, 1, 2]) (wc := [(a_t_numerator, .inr (2, [.ref a_t_numerator_limbs, .int t_numerator_used])), (a_t_numerator_limbs, .inl (κ.2.1, 48, .inl t_numerator_limbs))]) (wr := [(a_t, .inr (4, [.ref a_t_units, .int t_count, .int t_at, .int t_end, .ref a_t_numerator, .ref a_t_denominator, .int t_counting, .int t_power]))]) (wn := fun u => [(a_t, .inr (4, [.ref a_t_units, .int t_count, .int t_at, .int t_end, .ref a_t_numerator, .ref a_t_denominator, .int t_counting, .int t_power])), (a_t_numerator, .inr (2, [.ref a_t_numerator_limbs, .int u.1])), (a_t_numerator_limbs, .inl (κ.2.1, 48, .inl u.2))]) (rest := []) (As := [.int 10, .int x1]) hF zn_R_113 (k_N_multiplyAndAdd κ X hX l a_t_numerator a_t_numerator_limbs H.size t_numerator_used t_numerator_limbs 10 x1 o_63 ho_63) hX hXs hK hA hP hD hS ⟨by decide, by decide⟩ ⟨rfl, rfl, rfl, rfl, rfl, by decide⟩ ⟨rfl, fun _ => rfl, fun _ => rfl⟩ (ci := 2) rfl rfl rfl rfl hl.1 rfl (Nat.le_of_ble_eq_true rfl) ⟨Nat.zero_le _, Nat.zero_le _⟩ d_R_takeDigit_63 (fun u H locs hw hP hD hS => ?_)
      obtain ⟨u63_t_numerator_used, u63_t_numerator_limbs⟩ := u
      have hP : zP κ [(a_t, .inr (4, [.ref a_t_units, .int t_count, .int t_at, .int t_end, .ref a_t_numerator, .ref a_t_denominator, .int t_counting, .int t_power])), (a_t_numerator, .inr (2, [.ref a_t_numerator_limbs, .int u63_t_numerator_used])), (a_t_numerator_limbs, .inl (κ.2.1, 48, .inl u63_t_numerator_limbs))] H := hP
      have hD : va_D A [(a_t, .inr (4, [.ref a_t_units, .int t_count, .int t_at, .int t_end, .ref a_t_numerator, .ref a_t_denominator, .int t_counting, .int t_power])), (a_t_numerator, .inr (2, [.ref a_t_numerator_limbs, .int u63_t_numerator_used])), (a_t_numerator_limbs, .inl (κ.2.1, 48, .inl u63_t_numerator_limbs))] := hD
      subst hw
      dsimp only at hf
      refine lv_aload_n hx hb d_R_takeDigit_66 rfl (lv_at hl 0 rfl) ?_
      refine lv_dup hx hb d_R_takeDigit_67 rfl ?_
      refine va_get (C := R_R) (T := F_R) (N := 8) hx hb hts i_R hown hK hP 0 rfl rfl 6 (by decide) (hts _ zfl_R_33) (fun _ h9 => h9) rfl d_R_takeDigit_68 ?_
      refine lv_iconst (v := 1) hx hb d_R_takeDigit_71 (by decide) ?_
      refine lv_iadd hx hb d_R_takeDigit_72 ?_
      refine va_put (C := R_R) (T := F_R) (N := 8) hx hb hts i_R ty_R ty_R_ok n_R hown hK hP hD hS 0 rfl rfl 6 (by decide) (hts _ zfl_R_33) (fun _ h9 => h9) rfl (ty_R_ok 6 (by decide)) rfl rfl (Nat.le_of_ble_eq_true rfl) d_R_takeDigit_73 (fun H locs hP hD hS => ?_)
      have hP : zP κ [(a_t, .inr (4, [.ref a_t_units, .int t_count, .int t_at, .int t_end, .ref a_t_numerator, .ref a_t_denominator, .int (t_counting + 1), .int t_power])), (a_t_numerator, .inr (2, [.ref a_t_numerator_limbs, .int u63_t_numerator_used])), (a_t_numerator_limbs, .inl (κ.2.1, 48, .inl u63_t_numerator_limbs))] H := hP
      have hD : va_D A [(a_t, .inr (4, [.ref a_t_units, .int t_count, .int t_at, .int t_end, .ref a_t_numerator, .ref a_t_denominator, .int (t_counting + 1), .int t_power])), (a_t_numerator, .inr (2, [.ref a_t_numerator_limbs, .int u63_t_numerator_used])), (a_t_numerator_limbs, .inl (κ.2.1, 48, .inl u63_t_numerator_limbs))] := hD
      exact b_76 (t_counting + 1) t_power u63_t_numerator_used u63_t_numerator_limbs x2 H locs ls hf hP hD hS (lv_sub hl [0, 2] rfl)
  have b_16 : ∀ (t_counting : Int32) (t_power : Int32) (t_numerator_used : Int32) (t_numerator_limbs : Nat → Int32) (x1 : Int32) (x2 : Int32) (s0 : Int32) (H : Heap) (locs : List Loc) (ls : Array Slot), f_R_takeDigit_16 t_count t_at t_end t_counting t_power t_numerator_used t_numerator_limbs x1 x2 s0 = some out → zP κ [(a_t, .inr (4, [.ref a_t_units, .int t_count, .int t_at, .int t_end, .ref a_t_numerator, .ref a_t_denominator, .int t_counting, .int t_power])), (a_t_numerator, .inr (2, [.ref a_t_numerator_limbs, .int t_numerator_used])), (a_t_numerator_limbs, .inl (κ.2.1, 48, .inl t_numerator_limbs))] H → va_D A [(a_t, .inr (4, [.ref a_t_units, .int t_count, .int t_at, .int t_end, .ref a_t_numerator, .ref a_t_denominator, .int t_counting, .int t_power])), (a_t_numerator, .inr (2, [.ref a_t_numerator_limbs, .int t_numerator_used])), (a_t_numerator_limbs, .inl (κ.2.1, 48, .inl t_numerator_limbs))] → va_S A s.heap H locs → lv_has ls 4 [(0, .ref a_t), (1, .int x1), (2, .int x2)] → W p l e (zR 2 46) s m args below meth c H locs 0 0 Q (F0 m 16 ls [.int s0]) := by
    intro t_counting t_power t_numerator_used t_numerator_limbs x1 x2 s0 H locs ls hf hP hD hS hl
    unfold f_R_takeDigit_16 at hf
    refine lv_istore_n (lv' := [(3, .int s0), (0, .ref a_t), (1, .int x1), (2, .int x2)]) hx hb d_R_takeDigit_16 rfl hl (by decide) rfl (fun ls hl => ?_)
    refine lv_iload_n hx hb d_R_takeDigit_17 rfl (lv_at hl 0 rfl) ?_
    refine lv_if_eq (tgt := 52) hx hb d_R_takeDigit_18 (by decide) (fun c_18 => ?_) (fun c_18 => ?_)
    · have hf := (zbr hf).1 c_18
      exact b_52 t_counting t_power t_numerator_used t_numerator_limbs x1 x2 s0 H locs ls hf hP hD hS (lv_sub hl [1, 2, 3, 0] rfl)
    · have hf := (zbr hf).2 c_18
      refine lv_aload_n hx hb d_R_takeDigit_21 rfl (lv_at hl 1 rfl) ?_
      refine va_get (C := R_R) (T := F_R) (N := 8) hx hb hts i_R hown hK hP 0 rfl rfl 6 (by decide) (hts _ zfl_R_33) (fun _ h9 => h9) rfl d_R_takeDigit_22 ?_
      refine lv_bipush (v := 20) hx hb d_R_takeDigit_25 (by decide) ?_
      refine lv_icmp_ne (tgt := 52) hx hb d_R_takeDigit_27 (by decide) (fun c_27 => ?_) (fun c_27 => ?_)
      · have hf := (zbr hf).2 c_27
        exact b_52 t_counting t_power t_numerator_used t_numerator_limbs x1 x2 s0 H locs ls hf hP hD hS (lv_sub hl [1, 2, 3, 0] rfl)
      · have hf := (zbr hf).1 c_27
        refine lv_aload_n hx hb d_R_takeDigit_30 rfl (lv_at hl 1 rfl) ?_
        refine lv_iload_n hx hb d_R_takeDigit_31 rfl (lv_at hl 3 rfl) ?_
        refine lv_if_eq (tgt := 42) hx hb d_R_takeDigit_32 (by decide) (fun c_32 => ?_) (fun c_32 => ?_)
        · have hf := (zbr hf).1 c_32
          refine lv_aload_n hx hb d_R_takeDigit_42 rfl (lv_at hl 1 rfl) ?_
          refine va_get (C := R_R) (T := F_R) (N := 8) hx hb hts i_R hown hK hP 0 rfl rfl 7 (by decide) (hts _ zfl_R_36) (fun _ h9 => h9) rfl d_R_takeDigit_43 ?_
          refine lv_iconst (v := 1) hx hb d_R_takeDigit_46 (by decide) ?_
          refine lv_iadd hx hb d_R_takeDigit_47 ?_
          refine va_put (C := R_R) (T := F_R) (N := 8) hx hb hts i_R ty_R ty_R_ok n_R hown hK hP hD hS 0 rfl rfl 7 (by decide) (hts _ zfl_R_36) (fun _ h9 => h9) rfl (ty_R_ok 7 (by decide)) rfl rfl (Nat.le_of_ble_eq_true rfl) d_R_takeDigit_48 (fun H locs hP hD hS => ?_)
          have hP : zP κ [(a_t, .inr (4, [.ref a_t_units, .int t_count, .int t_at, .int t_end, .ref a_t_numerator, .ref a_t_denominator, .int t_counting, .int (t_power + 1)])), (a_t_numerator, .inr (2, [.ref a_t_numerator_limbs, .int t_numerator_used])), (a_t_numerator_limbs, .inl (κ.2.1, 48, .inl t_numerator_limbs))] H := hP
          have hD : va_D A [(a_t, .inr (4, [.ref a_t_units, .int t_count, .int t_at, .int t_end, .ref a_t_numerator, .ref a_t_denominator, .int t_counting, .int (t_power + 1)])), (a_t_numerator, .inr (2, [.ref a_t_numerator_limbs, .int t_numerator_used])), (a_t_numerator_limbs, .inl (κ.2.1, 48, .inl t_numerator_limbs))] := hD
          exact hret ((t_counting, (t_power + 1), t_numerator_used, t_numerator_limbs)) H locs ls _ d_R_takeDigit_51 hP hD hS (Option.some.inj hf)
        · have hf := (zbr hf).2 c_32
          refine lv_aload_n hx hb d_R_takeDigit_35 rfl (lv_at hl 1 rfl) ?_
          refine va_get (C := R_R) (T := F_R) (N := 8) hx hb hts i_R hown hK hP 0 rfl rfl 7 (by decide) (hts _ zfl_R_36) (fun _ h9 => h9) rfl d_R_takeDigit_36 ?_
          refine lv_goto (tgt := 48) hx hb d_R_takeDigit_39 (by decide) ?_
          refine va_put (C := R_R) (T := F_R) (N := 8) hx hb hts i_R ty_R ty_R_ok n_R hown hK hP hD hS 0 rfl rfl 7 (by decide) (hts _ zfl_R_36) (fun _ h9 => h9) rfl (ty_R_ok 7 (by decide)) rfl rfl (Nat.le_of_ble_eq_true rfl) d_R_takeDigit_48 (fun H locs hP hD hS => ?_)
          have hP : zP κ [(a_t, .inr (4, [.ref a_t_units, .int t_count, .int t_at, .int t_end, .ref a_t_numerator, .ref a_t_denominator, .int t_counting, .int t_power])), (a_t_numerator, .inr (2, [.ref a_t_numerator_limbs, .int t_numerator_used])), (a_t_numerator_limbs, .inl (κ.2.1, 48, .inl t_numerator_limbs))] H := hP
          have hD : va_D A [(a_t, .inr (4, [.ref a_t_units, .int t_count, .int t_at, .int t_end, .ref a_t_numerator, .ref a_t_denominator, .int t_counting, .int t_power])), (a_t_numerator, .inr (2, [.ref a_t_numerator_limbs, .int t_numerator_used])), (a_t_numerator_limbs, .inl (κ.2.1, 48, .inl t_numerator_limbs))] := hD
          exact hret ((t_counting, t_power, t_numerator_used, t_numerator_limbs)) H locs ls _ d_R_takeDigit_51 hP hD hS (Option.some.inj hf)
  have b_11 : ∀ (t_counting : Int32) (t_power : Int32) (t_numerator_used : Int32) (t_numerator_limbs : Nat → Int32) (x1 : Int32) (x2 : Int32) (H : Heap) (locs : List Loc) (ls : Array Slot), f_R_takeDigit_11 t_count t_at t_end t_counting t_power t_numerator_used t_numerator_limbs x1 x2 = some out → zP κ [(a_t, .inr (4, [.ref a_t_units, .int t_count, .int t_at, .int t_end, .ref a_t_numerator, .ref a_t_denominator, .int t_counting, .int t_power])), (a_t_numerator, .inr (2, [.ref a_t_numerator_limbs, .int t_numerator_used])), (a_t_numerator_limbs, .inl (κ.2.1, 48, .inl t_numerator_limbs))] H → va_D A [(a_t, .inr (4, [.ref a_t_units, .int t_count, .int t_at, .int t_end, .ref a_t_numerator, .ref a_t_denominator, .int t_counting, .int t_power])), (a_t_numerator, .inr (2, [.ref a_t_numerator_limbs, .int t_numerator_used])), (a_t_numerator_limbs, .inl (κ.2.1, 48, .inl t_numerator_limbs))] → va_S A s.heap H locs → lv_has ls 4 [(0, .ref a_t), (1, .int x1), (2, .int x2)] → W p l e (zR 2 46) s m args below meth c H locs 0 0 Q (F0 m 11 ls []) := by
    intro t_counting t_power t_numerator_used t_numerator_limbs x1 x2 H locs ls hf hP hD hS hl
    unfold f_R_takeDigit_11 at hf
    refine lv_iconst (v := 1) hx hb d_R_takeDigit_11 (by decide) ?_
    refine lv_goto (tgt := 16) hx hb d_R_takeDigit_12 (by decide) ?_
    exact b_16 t_counting t_power t_numerator_used t_numerator_limbs x1 x2 1 H locs ls hf hP hD hS hl
  unfold f_R_takeDigit at hf
  refine lv_aload_n hx hb d_R_takeDigit_0 rfl (lv_at hl 0 rfl) ?_
  refine va_get (C := R_R) (T := F_R) (N := 8) hx hb hts i_R hown hK hP 0 rfl rfl 6 (by decide) (hts _ zfl_R_33) (fun _ h9 => h9) rfl d_R_takeDigit_1 ?_
  refine lv_if_gt (tgt := 11) hx hb d_R_takeDigit_4 (by decide) (fun c_4 => ?_) (fun c_4 => ?_)
  · have hf := (zbr hf).1 c_4
    exact b_11 t_counting t_power t_numerator_used t_numerator_limbs x1 x2 H locs ls hf hP hD hS hl
  · have hf := (zbr hf).2 c_4
    refine lv_iload_n hx hb d_R_takeDigit_7 rfl (lv_at hl 1 rfl) ?_
    refine lv_if_eq (tgt := 15) hx hb d_R_takeDigit_8 (by decide) (fun c_8 => ?_) (fun c_8 => ?_)
    · have hf := (zbr hf).1 c_8
      refine lv_iconst (v := 0) hx hb d_R_takeDigit_15 (by decide) ?_
      exact b_16 t_counting t_power t_numerator_used t_numerator_limbs x1 x2 0 H locs ls hf hP hD hS hl
    · have hf := (zbr hf).2 c_8
      exact b_11 t_counting t_power t_numerator_used t_numerator_limbs x1 x2 H locs ls hf hP hD hS hl
theorem d_R_takeDigits_0 : decode c_R_takeDigits 0 = .ok (.aload_n 0, 1) := by decide +kernel
theorem d_R_takeDigits_1 : decode c_R_takeDigits 1 = .ok (.getfield 17, 3) := by decide +kernel
theorem d_R_takeDigits_4 : decode c_R_takeDigits 4 = .ok (.istore_n 2, 1) := by decide +kernel
theorem d_R_takeDigits_5 : decode c_R_takeDigits 5 = .ok (.aload_n 0, 1) := by decide +kernel
theorem d_R_takeDigits_6 : decode c_R_takeDigits 6 = .ok (.getfield 17, 3) := by decide +kernel
theorem d_R_takeDigits_9 : decode c_R_takeDigits 9 = .ok (.aload_n 0, 1) := by decide +kernel
theorem d_R_takeDigits_10 : decode c_R_takeDigits 10 = .ok (.getfield 20, 3) := by decide +kernel
theorem d_R_takeDigits_13 : decode c_R_takeDigits 13 = .ok (.if_icmp .ge 48, 3) := by decide +kernel
theorem d_R_takeDigits_16 : decode c_R_takeDigits 16 = .ok (.aload_n 0, 1) := by decide +kernel
theorem d_R_takeDigits_17 : decode c_R_takeDigits 17 = .ok (.getfield 9, 3) := by decide +kernel
theorem d_R_takeDigits_20 : decode c_R_takeDigits 20 = .ok (.aload_n 0, 1) := by decide +kernel
theorem d_R_takeDigits_21 : decode c_R_takeDigits 21 = .ok (.getfield 17, 3) := by decide +kernel
theorem d_R_takeDigits_24 : decode c_R_takeDigits 24 = .ok (.iaload, 1) := by decide +kernel
theorem d_R_takeDigits_25 : decode c_R_takeDigits 25 = .ok (.invokestatic 83, 3) := by decide +kernel
theorem d_R_takeDigits_28 : decode c_R_takeDigits 28 = .ok (.ifCond .eq 33, 3) := by decide +kernel
theorem d_R_takeDigits_31 : decode c_R_takeDigits 31 = .ok (.aload_n 0, 1) := by decide +kernel
theorem d_R_takeDigits_32 : decode c_R_takeDigits 32 = .ok (.aload_n 0, 1) := by decide +kernel
theorem d_R_takeDigits_33 : decode c_R_takeDigits 33 = .ok (.getfield 9, 3) := by decide +kernel
theorem d_R_takeDigits_36 : decode c_R_takeDigits 36 = .ok (.aload_n 0, 1) := by decide +kernel
theorem d_R_takeDigits_37 : decode c_R_takeDigits 37 = .ok (.getfield 17, 3) := by decide +kernel
theorem d_R_takeDigits_40 : decode c_R_takeDigits 40 = .ok (.iaload, 1) := by decide +kernel
theorem d_R_takeDigits_41 : decode c_R_takeDigits 41 = .ok (.bipush 48, 2) := by decide +kernel
theorem d_R_takeDigits_43 : decode c_R_takeDigits 43 = .ok (.isub, 1) := by decide +kernel
theorem d_R_takeDigits_44 : decode c_R_takeDigits 44 = .ok (.iload_n 1, 1) := by decide +kernel
theorem d_R_takeDigits_45 : decode c_R_takeDigits 45 = .ok (.invokevirtual 109, 3) := by decide +kernel
theorem d_R_takeDigits_48 : decode c_R_takeDigits 48 = .ok (.aload_n 0, 1) := by decide +kernel
theorem d_R_takeDigits_49 : decode c_R_takeDigits 49 = .ok (.dup, 1) := by decide +kernel
theorem d_R_takeDigits_50 : decode c_R_takeDigits 50 = .ok (.getfield 17, 3) := by decide +kernel
theorem d_R_takeDigits_53 : decode c_R_takeDigits 53 = .ok (.iconst 1, 1) := by decide +kernel
theorem d_R_takeDigits_54 : decode c_R_takeDigits 54 = .ok (.iadd, 1) := by decide +kernel
theorem d_R_takeDigits_55 : decode c_R_takeDigits 55 = .ok (.putfield 17, 3) := by decide +kernel
theorem d_R_takeDigits_58 : decode c_R_takeDigits 58 = .ok (.goto (-53), 3) := by decide +kernel
theorem d_R_takeDigits_61 : decode c_R_takeDigits 61 = .ok (.aload_n 0, 1) := by decide +kernel
theorem d_R_takeDigits_62 : decode c_R_takeDigits 62 = .ok (.getfield 17, 3) := by decide +kernel
theorem d_R_takeDigits_65 : decode c_R_takeDigits 65 = .ok (.iload_n 2, 1) := by decide +kernel
theorem d_R_takeDigits_66 : decode c_R_takeDigits 66 = .ok (.isub, 1) := by decide +kernel
theorem d_R_takeDigits_67 : decode c_R_takeDigits 67 = .ok (.ireturn, 1) := by decide +kernel
theorem zn_R_109 : zNV R_R 109 y_R_takeDigit c_R_takeDigit 4 none 2 := ⟨zco_R_takeDigit, zin_R, zml_R_109, zim_R_takeDigit, zse_R_R_takeDigit, by decide +kernel⟩
set_option maxHeartbeats 4000000 in
set_option maxRecDepth 100000 in
theorem k_R_takeDigits (κ : zC) (X : zXT) (hX : zX κ X) (l : Launch) (a_t a_t_units a_t_numerator a_t_denominator a_t_numerator_limbs : Nat) (sz : Nat) (t_count : Int32) (t_at : Int32) (t_end : Int32) (t_counting : Int32) (t_power : Int32) (t_units : Nat → Int32) (t_numerator_used : Int32) (t_numerator_limbs : Nat → Int32) (x1 : Int32) (out : Int32 × ((Int32) × (Int32) × (Int32) × (Int32) × (Nat → Int32))) (hf : f_R_takeDigits t_count t_at t_end t_counting t_power t_units t_numerator_used t_numerator_limbs x1 = some out) : zMet κ X l y_R_takeDigits c_R_takeDigits 3 (some .int) 3 69 [.ref a_t, .int x1] sz [(a_t, .inr (4, [.ref a_t_units, .int t_count, .int t_at, .int t_end, .ref a_t_numerator, .ref a_t_denominator, .int t_counting, .int t_power])), (a_t_units, .inl (κ.2.1, 600, .inl t_units)), (a_t_numerator, .inr (2, [.ref a_t_numerator_limbs, .int t_numerator_used])), (a_t_numerator_limbs, .inl (κ.2.1, 48, .inl t_numerator_limbs))] (zQi κ (fun (r : Int32) (u : (Int32) × (Int32) × (Int32) × (Int32) × (Nat → Int32)) => (r, u) = out) (fun u => [(a_t, .inr (4, [.ref a_t_units, .int t_count, .int u.1, .int t_end, .ref a_t_numerator, .ref a_t_denominator, .int u.2.1, .int u.2.2.1])), (a_t_units, .inl (κ.2.1, 600, .inl t_units)), (a_t_numerator, .inr (2, [.ref a_t_numerator_limbs, .int u.2.2.2.1])), (a_t_numerator_limbs, .inl (κ.2.1, 48, .inl u.2.2.2.2))])) := by
  refine zMet.ofI (by decide +kernel) (Nat.le_of_ble_eq_true rfl) ?_
  intro p e s m args below meth c ls A Q hF hK hP hD hA hXs hS hl hret
  obtain ⟨hx, hb, hml, hown, hts⟩ := id hF
  obtain ⟨H, hH⟩ : ∃ H, H = s.heap := ⟨_, rfl⟩
  obtain ⟨locs, hlo⟩ : ∃ z : List Loc, z = [] := ⟨_, rfl⟩
  replace hP : zP κ [(a_t, .inr (4, [.ref a_t_units, .int t_count, .int t_at, .int t_end, .ref a_t_numerator, .ref a_t_denominator, .int t_counting, .int t_power])), (a_t_units, .inl (κ.2.1, 600, .inl t_units)), (a_t_numerator, .inr (2, [.ref a_t_numerator_limbs, .int t_numerator_used])), (a_t_numerator_limbs, .inl (κ.2.1, 48, .inl t_numerator_limbs))] H := by rw [hH]; exact hP
  replace hS : va_S A s.heap H locs := by rw [hH, hlo]; exact hS
  suffices hgo : W p l e (zR 3 69) s m args below meth c H locs 0 0 Q (F0 m 0 ls []) by rw [hH, hlo] at hgo; exact hgo
  clear hH hlo
  replace hl : lv_has ls 3 [(0, .ref a_t), (1, .int x1)] := hl
  have b_61 : ∀ (t_at : Int32) (t_counting : Int32) (t_power : Int32) (t_numerator_used : Int32) (t_numerator_limbs : Nat → Int32) (x2 : Int32) (H : Heap) (locs : List Loc) (ls : Array Slot), f_R_takeDigits_61 t_count t_at t_end t_counting t_power t_units t_numerator_used t_numerator_limbs x2 = some out → zP κ [(a_t, .inr (4, [.ref a_t_units, .int t_count, .int t_at, .int t_end, .ref a_t_numerator, .ref a_t_denominator, .int t_counting, .int t_power])), (a_t_units, .inl (κ.2.1, 600, .inl t_units)), (a_t_numerator, .inr (2, [.ref a_t_numerator_limbs, .int t_numerator_used])), (a_t_numerator_limbs, .inl (κ.2.1, 48, .inl t_numerator_limbs))] H → va_D A [(a_t, .inr (4, [.ref a_t_units, .int t_count, .int t_at, .int t_end, .ref a_t_numerator, .ref a_t_denominator, .int t_counting, .int t_power])), (a_t_units, .inl (κ.2.1, 600, .inl t_units)), (a_t_numerator, .inr (2, [.ref a_t_numerator_limbs, .int t_numerator_used])), (a_t_numerator_limbs, .inl (κ.2.1, 48, .inl t_numerator_limbs))] → va_S A s.heap H locs → lv_has ls 3 [(0, .ref a_t), (2, .int x2)] → W p l e (zR 3 69) s m args below meth c H locs 0 0 Q (F0 m 61 ls []) := by
    intro t_at t_counting t_power t_numerator_used t_numerator_limbs x2 H locs ls hf hP hD hS hl
    unfold f_R_takeDigits_61 at hf
    refine lv_aload_n hx hb d_R_takeDigits_61 rfl (lv_at hl 0 rfl) ?_
    refine va_get (C := R_R) (T := F_R) (N := 8) hx hb hts i_R hown hK hP 0 rfl rfl 2 (by decide) (hts _ zfl_R_17) (fun _ h9 => h9) rfl d_R_takeDigits_62 ?_
    refine lv_iload_n hx hb d_R_takeDigits_65 rfl (lv_at hl 1 rfl) ?_
    refine lv_isub hx hb d_R_takeDigits_66 ?_
    exact hret ((t_at - x2)) ((t_at, t_counting, t_power, t_numerator_used, t_numerator_limbs)) H locs ls _ d_R_takeDigits_67 hP hD hS (Option.some.inj hf)
  have b_5 : ∀ (t_at : Int32) (t_counting : Int32) (t_power : Int32) (t_numerator_used : Int32) (t_numerator_limbs : Nat → Int32) (x1 : Int32) (x2 : Int32) (H : Heap) (locs : List Loc) (ls : Array Slot), f_R_takeDigits_5 t_count t_at t_end t_counting t_power t_units t_numerator_used t_numerator_limbs x1 x2 = some out → zP κ [(a_t, .inr (4, [.ref a_t_units, .int t_count, .int t_at, .int t_end, .ref a_t_numerator, .ref a_t_denominator, .int t_counting, .int t_power])), (a_t_units, .inl (κ.2.1, 600, .inl t_units)), (a_t_numerator, .inr (2, [.ref a_t_numerator_limbs, .int t_numerator_used])), (a_t_numerator_limbs, .inl (κ.2.1, 48, .inl t_numerator_limbs))] H → va_D A [(a_t, .inr (4, [.ref a_t_units, .int t_count, .int t_at, .int t_end, .ref a_t_numerator, .ref a_t_denominator, .int t_counting, .int t_power])), (a_t_units, .inl (κ.2.1, 600, .inl t_units)), (a_t_numerator, .inr (2, [.ref a_t_numerator_limbs, .int t_numerator_used])), (a_t_numerator_limbs, .inl (κ.2.1, 48, .inl t_numerator_limbs))] → va_S A s.heap H locs → lv_has ls 3 [(0, .ref a_t), (1, .int x1), (2, .int x2)] → W p l e (zR 3 69) s m args below meth c H locs 0 0 Q (F0 m 5 ls []) := by
    intro t_at t_counting t_power t_numerator_used t_numerator_limbs x1 x2 H locs ls hf hP hD hS hl
    refine zrun_ind (P := fun z : (Int32) × (Int32) × (Int32) × (Int32) × (Nat → Int32) => ∀ (H : Heap) (locs : List Loc) (ls : Array Slot), zP κ [(a_t, .inr (4, [.ref a_t_units, .int t_count, .int z.1, .int t_end, .ref a_t_numerator, .ref a_t_denominator, .int z.2.1, .int z.2.2.1])), (a_t_units, .inl (κ.2.1, 600, .inl t_units)), (a_t_numerator, .inr (2, [.ref a_t_numerator_limbs, .int z.2.2.2.1])), (a_t_numerator_limbs, .inl (κ.2.1, 48, .inl z.2.2.2.2))] H → va_D A [(a_t, .inr (4, [.ref a_t_units, .int t_count, .int z.1, .int t_end, .ref a_t_numerator, .ref a_t_denominator, .int z.2.1, .int z.2.2.1])), (a_t_units, .inl (κ.2.1, 600, .inl t_units)), (a_t_numerator, .inr (2, [.ref a_t_numerator_limbs, .int z.2.2.2.1])), (a_t_numerator_limbs, .inl (κ.2.1, 48, .inl z.2.2.2.2))] → va_S A s.heap H locs → lv_has ls 3 [(0, .ref a_t), (1, .int x1), (2, .int x2)] → W p l e (zR 3 69) s m args below meth c H locs 0 0 Q (F0 m 5 ls [])) ?_ hf H locs ls hP hD hS hl
    clear hf hP hD hS hl H locs ls t_at t_counting t_power t_numerator_used t_numerator_limbs
    intro z ih hne hexit_5 H locs ls hP hD hS hl
    obtain ⟨q_5, hf⟩ := zne hne
    have hback_5 := fun y (e : q_5 = .inl y) => ih y (e ▸ hf)
    replace hexit_5 := fun y (e : q_5 = .inr y) => hexit_5 y (e ▸ hf)
    clear ih hne
    obtain ⟨t_at, t_counting, t_power, t_numerator_used, t_numerator_limbs⟩ := z
    replace hf : f_R_takeDigits_5_body t_count t_end t_units x1 x2 t_at t_counting t_power t_numerator_used t_numerator_limbs = some q_5 := hf
    replace hP : zP κ [(a_t, .inr (4, [.ref a_t_units, .int t_count, .int t_at, .int t_end, .ref a_t_numerator, .ref a_t_denominator, .int t_counting, .int t_power])), (a_t_units, .inl (κ.2.1, 600, .inl t_units)), (a_t_numerator, .inr (2, [.ref a_t_numerator_limbs, .int t_numerator_used])), (a_t_numerator_limbs, .inl (κ.2.1, 48, .inl t_numerator_limbs))] H := hP
    replace hD : va_D A [(a_t, .inr (4, [.ref a_t_units, .int t_count, .int t_at, .int t_end, .ref a_t_numerator, .ref a_t_denominator, .int t_counting, .int t_power])), (a_t_units, .inl (κ.2.1, 600, .inl t_units)), (a_t_numerator, .inr (2, [.ref a_t_numerator_limbs, .int t_numerator_used])), (a_t_numerator_limbs, .inl (κ.2.1, 48, .inl t_numerator_limbs))] := hD
    replace hl : lv_has ls 3 [(0, .ref a_t), (1, .int x1), (2, .int x2)] := hl
    unfold f_R_takeDigits_5_body at hf
    refine lv_aload_n hx hb d_R_takeDigits_5 rfl (lv_at hl 0 rfl) ?_
    refine va_get (C := R_R) (T := F_R) (N := 8) hx hb hts i_R hown hK hP 0 rfl rfl 2 (by decide) (hts _ zfl_R_17) (fun _ h9 => h9) rfl d_R_takeDigits_6 ?_
    refine lv_aload_n hx hb d_R_takeDigits_9 rfl (lv_at hl 0 rfl) ?_
    refine va_get (C := R_R) (T := F_R) (N := 8) hx hb hts i_R hown hK hP 0 rfl rfl 3 (by decide) (hts _ zfl_R_20) (fun _ h9 => h9) rfl d_R_takeDigits_10 ?_
    refine lv_icmp_ge (tgt := 61) hx hb d_R_takeDigits_13 (by decide) (fun c_13 => ?_) (fun c_13 => ?_)
    · have hf := (zbr hf).1 c_13
      have hf := zex hf hexit_5
      exact b_61 t_at t_counting t_power t_numerator_used t_numerator_limbs x2 H locs ls hf hP hD hS (lv_sub hl [0, 2] rfl)
    · have hf := (zbr hf).2 c_13
      refine lv_aload_n hx hb d_R_takeDigits_16 rfl (lv_at hl 0 rfl) ?_
      refine va_get (C := R_R) (T := F_R) (N := 8) hx hb hts i_R hown hK hP 0 rfl rfl 0 (by decide) (hts _ zfl_R_9) (fun _ h9 => h9) rfl d_R_takeDigits_17 ?_
      refine lv_aload_n hx hb d_R_takeDigits_20 rfl (lv_at hl 0 rfl) ?_
      refine va_get (C := R_R) (T := F_R) (N := 8) hx hb hts i_R hown hK hP 0 rfl rfl 2 (by decide) (hts _ zfl_R_17) (fun _ h9 => h9) rfl d_R_takeDigits_21 ?_
      obtain ⟨g_24, hf⟩ := zgd hf
      refine va_iald hx hb hK hP 1 0 rfl rfl (zin_vp g_24) d_R_takeDigits_24 ?_
      obtain ⟨o_25, ho_25, hf⟩ := zbd hf
      refine zSi (isC := []) (isR := [0, 1, 2, 3]) (isN := [0, 1, 2, 3]) (wc := []) (wr := [(a_t, .inr (4, [.ref a_t_units, .int t_count, .int t_at, .int t_end, .ref a_t_numerator, .ref a_t_denominator, .int t_counting, .int t_power])), (a_t_units, .inl (κ.2.1, 600, .inl t_units)), (a_t_numerator, .inr (2, [.ref a_t_numerator_limbs, .int t_numerator_used])), (a_t_numerator_limbs, .inl (κ.2.1, 48, .inl t_numerator_limbs))]) (wn := fun u => [(a_t, .inr (4, [.ref a_t_units, .int t_count, .int t_at, .int t_end, .ref a_t_numerator, .ref a_t_denominator, .int t_counting, .int t_power])), (a_t_units, .inl (κ.2.1, 600, .inl t_units)), (a_t_numerator, .inr (2, [.ref a_t_numerator_limbs, .int t_numerator_used])), (a_t_numerator_limbs, .inl (κ.2.1, 48, .inl t_numerator_limbs))]) (rest := []) (As := [.int (t_units t_at.toNatClampNeg)]) hF zn_R_83 (k_R_isDigit κ X hX l H.size (t_units t_at.toNatClampNeg) o_25 ho_25) hX hXs hK hA hP hD hS ⟨by decide, by decide⟩ ⟨rfl, rfl, rfl, rfl, rfl, by decide⟩ ⟨rfl, fun _ => rfl, fun _ => rfl⟩ rfl hl.1 rfl (Nat.le_of_ble_eq_true rfl) ⟨Nat.zero_le _, Nat.zero_le _⟩ d_R_takeDigits_25 (fun r_25 u H locs hw hP hD hS => ?_)
      subst hw
      refine lv_if_eq (tgt := 61) hx hb d_R_takeDigits_28 (by decide) (fun c_28 => ?_) (fun c_28 => ?_)
      · have hf := (zbr hf).1 c_28
        have hf := zex hf hexit_5
        exact b_61 t_at t_counting t_power t_numerator_used t_numerator_limbs x2 H locs ls hf hP hD hS (lv_sub hl [0, 2] rfl)
      · have hf := (zbr hf).2 c_28
        refine lv_aload_n hx hb d_R_takeDigits_31 rfl (lv_at hl 0 rfl) ?_
        refine lv_aload_n hx hb d_R_takeDigits_32 rfl (lv_at hl 0 rfl) ?_
        refine va_get (C := R_R) (T := F_R) (N := 8) hx hb hts i_R hown hK hP 0 rfl rfl 0 (by decide) (hts _ zfl_R_9) (fun _ h9 => h9) rfl d_R_takeDigits_33 ?_
        refine lv_aload_n hx hb d_R_takeDigits_36 rfl (lv_at hl 0 rfl) ?_
        refine va_get (C := R_R) (T := F_R) (N := 8) hx hb hts i_R hown hK hP 0 rfl rfl 2 (by decide) (hts _ zfl_R_17) (fun _ h9 => h9) rfl d_R_takeDigits_37 ?_
        obtain ⟨g_40, hf⟩ := zgd hf
        refine va_iald hx hb hK hP 1 0 rfl rfl (zin_vp g_40) d_R_takeDigits_40 ?_
        refine lv_bipush (v := 48) hx hb d_R_takeDigits_41 (by decide) ?_
        refine lv_isub hx hb d_R_takeDigits_43 ?_
        refine lv_iload_n hx hb d_R_takeDigits_44 rfl (lv_at hl 1 rfl) ?_
        obtain ⟨o_45, ho_45, hf⟩ := zbd hf
        refine zVv (isC := [0, 2, 3]) (isR := [1]) (isN := [1, 0, 2, 3]) (wc := [(a_t, .inr (4, [.ref a_t_units, .int t_count, .int t_at, .int t_end, .ref a_t_numerator, .ref a_t_denominator, .int t_counting, .int t_power])), (a_t_numerator, .inr (2, [.ref a_t_numerator_limbs, .int t_numerator_used])), (a_t_numerator_limbs, .inl (κ.2.1, 48, .inl t_numerator_limbs))]) (wr := [(a_t_units, .inl (κ.2.1, 600, .inl t_units))]) (wn := fun u => [(a_t, .inr (4, [.ref a_t_units, .int t_count, .int t_at, .int t_end, .ref a_t_numerator, .ref a_t_denominator, .int u.1, .int u.2.1])), (a_t_units, .inl (κ.2.1, 600, .inl t_units)), (a_t_numerator, .inr (2, [.ref a_t_numerator_limbs, .int u.2.2.1])), (a_t_numerator_limbs, .inl (κ.2.1, 48, .inl u.2.2.2))]) (rest := []) (As := [.int ((t_units t_at.toNatClampNeg) - 48), .int x1]) hF zn_R_109 (k_R_takeDigit κ X hX l a_t a_t_units a_t_numerator a_t_denominator a_t_numerator_limbs H.size t_count t_at t_end t_counting t_power t_numerator_used t_numerator_limbs ((t_units t_at.toNatClampNeg) - 48) x1 o_45 ho_45) hX hXs hK hA hP hD hS ⟨by decide, by decide⟩ ⟨rfl, rfl, rfl, rfl, rfl, by decide⟩ ⟨rfl, fun _ => rfl, fun _ => rfl⟩ (ci := 4) rfl rfl rfl rfl hl.1 rfl (Nat.le_of_ble_eq_true rfl) ⟨Nat.zero_le _, Nat.zero_le _⟩ d_R_takeDigits_45 (fun u H locs hw hP hD hS => ?_)
        obtain ⟨u45_t_counting, u45_t_power, u45_t_numerator_used, u45_t_numerator_limbs⟩ := u
        have hP : zP κ [(a_t, .inr (4, [.ref a_t_units, .int t_count, .int t_at, .int t_end, .ref a_t_numerator, .ref a_t_denominator, .int u45_t_counting, .int u45_t_power])), (a_t_units, .inl (κ.2.1, 600, .inl t_units)), (a_t_numerator, .inr (2, [.ref a_t_numerator_limbs, .int u45_t_numerator_used])), (a_t_numerator_limbs, .inl (κ.2.1, 48, .inl u45_t_numerator_limbs))] H := hP
        have hD : va_D A [(a_t, .inr (4, [.ref a_t_units, .int t_count, .int t_at, .int t_end, .ref a_t_numerator, .ref a_t_denominator, .int u45_t_counting, .int u45_t_power])), (a_t_units, .inl (κ.2.1, 600, .inl t_units)), (a_t_numerator, .inr (2, [.ref a_t_numerator_limbs, .int u45_t_numerator_used])), (a_t_numerator_limbs, .inl (κ.2.1, 48, .inl u45_t_numerator_limbs))] := hD
        subst hw
        dsimp only at hf
        refine lv_aload_n hx hb d_R_takeDigits_48 rfl (lv_at hl 0 rfl) ?_
        refine lv_dup hx hb d_R_takeDigits_49 rfl ?_
        refine va_get (C := R_R) (T := F_R) (N := 8) hx hb hts i_R hown hK hP 0 rfl rfl 2 (by decide) (hts _ zfl_R_17) (fun _ h9 => h9) rfl d_R_takeDigits_50 ?_
        refine lv_iconst (v := 1) hx hb d_R_takeDigits_53 (by decide) ?_
        refine lv_iadd hx hb d_R_takeDigits_54 ?_
        refine va_put (C := R_R) (T := F_R) (N := 8) hx hb hts i_R ty_R ty_R_ok n_R hown hK hP hD hS 0 rfl rfl 2 (by decide) (hts _ zfl_R_17) (fun _ h9 => h9) rfl (ty_R_ok 2 (by decide)) rfl rfl (Nat.le_of_ble_eq_true rfl) d_R_takeDigits_55 (fun H locs hP hD hS => ?_)
        have hP : zP κ [(a_t, .inr (4, [.ref a_t_units, .int t_count, .int (t_at + 1), .int t_end, .ref a_t_numerator, .ref a_t_denominator, .int u45_t_counting, .int u45_t_power])), (a_t_units, .inl (κ.2.1, 600, .inl t_units)), (a_t_numerator, .inr (2, [.ref a_t_numerator_limbs, .int u45_t_numerator_used])), (a_t_numerator_limbs, .inl (κ.2.1, 48, .inl u45_t_numerator_limbs))] H := hP
        have hD : va_D A [(a_t, .inr (4, [.ref a_t_units, .int t_count, .int (t_at + 1), .int t_end, .ref a_t_numerator, .ref a_t_denominator, .int u45_t_counting, .int u45_t_power])), (a_t_units, .inl (κ.2.1, 600, .inl t_units)), (a_t_numerator, .inr (2, [.ref a_t_numerator_limbs, .int u45_t_numerator_used])), (a_t_numerator_limbs, .inl (κ.2.1, 48, .inl u45_t_numerator_limbs))] := hD
        refine lv_goto (tgt := 5) hx hb d_R_takeDigits_58 (by decide) ?_
        exact hback_5 _ (Option.some.inj hf).symm H locs ls hP hD hS hl
  unfold f_R_takeDigits at hf
  refine lv_aload_n hx hb d_R_takeDigits_0 rfl (lv_at hl 0 rfl) ?_
  refine va_get (C := R_R) (T := F_R) (N := 8) hx hb hts i_R hown hK hP 0 rfl rfl 2 (by decide) (hts _ zfl_R_17) (fun _ h9 => h9) rfl d_R_takeDigits_1 ?_
  refine lv_istore_n (lv' := [(2, .int t_at), (0, .ref a_t), (1, .int x1)]) hx hb d_R_takeDigits_4 rfl hl (by decide) rfl (fun ls hl => ?_)
  exact b_5 t_at t_counting t_power t_numerator_used t_numerator_limbs x1 t_at H locs ls hf hP hD hS (lv_sub hl [1, 2, 0] rfl)
theorem d_R_takeMinus_0 : decode c_R_takeMinus 0 = .ok (.aload_n 0, 1) := by decide +kernel
theorem d_R_takeMinus_1 : decode c_R_takeMinus 1 = .ok (.aload_n 0, 1) := by decide +kernel
theorem d_R_takeMinus_2 : decode c_R_takeMinus 2 = .ok (.getfield 17, 3) := by decide +kernel
theorem d_R_takeMinus_5 : decode c_R_takeMinus 5 = .ok (.invokevirtual 42, 3) := by decide +kernel
theorem d_R_takeMinus_8 : decode c_R_takeMinus 8 = .ok (.istore_n 1, 1) := by decide +kernel
theorem d_R_takeMinus_9 : decode c_R_takeMinus 9 = .ok (.iload_n 1, 1) := by decide +kernel
theorem d_R_takeMinus_10 : decode c_R_takeMinus 10 = .ok (.bipush 43, 2) := by decide +kernel
theorem d_R_takeMinus_12 : decode c_R_takeMinus 12 = .ok (.if_icmp .eq 9, 3) := by decide +kernel
theorem d_R_takeMinus_15 : decode c_R_takeMinus 15 = .ok (.iload_n 1, 1) := by decide +kernel
theorem d_R_takeMinus_16 : decode c_R_takeMinus 16 = .ok (.bipush 45, 2) := by decide +kernel
theorem d_R_takeMinus_18 : decode c_R_takeMinus 18 = .ok (.if_icmp .ne 13, 3) := by decide +kernel
theorem d_R_takeMinus_21 : decode c_R_takeMinus 21 = .ok (.aload_n 0, 1) := by decide +kernel
theorem d_R_takeMinus_22 : decode c_R_takeMinus 22 = .ok (.dup, 1) := by decide +kernel
theorem d_R_takeMinus_23 : decode c_R_takeMinus 23 = .ok (.getfield 17, 3) := by decide +kernel
theorem d_R_takeMinus_26 : decode c_R_takeMinus 26 = .ok (.iconst 1, 1) := by decide +kernel
theorem d_R_takeMinus_27 : decode c_R_takeMinus 27 = .ok (.iadd, 1) := by decide +kernel
theorem d_R_takeMinus_28 : decode c_R_takeMinus 28 = .ok (.putfield 17, 3) := by decide +kernel
theorem d_R_takeMinus_31 : decode c_R_takeMinus 31 = .ok (.iload_n 1, 1) := by decide +kernel
theorem d_R_takeMinus_32 : decode c_R_takeMinus 32 = .ok (.bipush 45, 2) := by decide +kernel
theorem d_R_takeMinus_34 : decode c_R_takeMinus 34 = .ok (.if_icmp .ne 7, 3) := by decide +kernel
theorem d_R_takeMinus_37 : decode c_R_takeMinus 37 = .ok (.iconst 1, 1) := by decide +kernel
theorem d_R_takeMinus_38 : decode c_R_takeMinus 38 = .ok (.goto 4, 3) := by decide +kernel
theorem d_R_takeMinus_41 : decode c_R_takeMinus 41 = .ok (.iconst 0, 1) := by decide +kernel
theorem d_R_takeMinus_42 : decode c_R_takeMinus 42 = .ok (.ireturn, 1) := by decide +kernel
set_option maxHeartbeats 4000000 in
set_option maxRecDepth 100000 in
theorem k_R_takeMinus (κ : zC) (X : zXT) (hX : zX κ X) (l : Launch) (a_t a_t_units a_t_numerator a_t_denominator : Nat) (sz : Nat) (t_count : Int32) (t_at : Int32) (t_end : Int32) (t_counting : Int32) (t_power : Int32) (t_units : Nat → Int32) (out : Int32 × ((Int32))) (hf : f_R_takeMinus t_count t_at t_end t_counting t_power t_units = some out) : zMet κ X l y_R_takeMinus c_R_takeMinus 2 (some .boolean) 1 21 [.ref a_t] sz [(a_t, .inr (4, [.ref a_t_units, .int t_count, .int t_at, .int t_end, .ref a_t_numerator, .ref a_t_denominator, .int t_counting, .int t_power])), (a_t_units, .inl (κ.2.1, 600, .inl t_units))] (zQi κ (fun (r : Int32) (u : (Int32)) => (r, u) = out) (fun u => [(a_t, .inr (4, [.ref a_t_units, .int t_count, .int u, .int t_end, .ref a_t_numerator, .ref a_t_denominator, .int t_counting, .int t_power])), (a_t_units, .inl (κ.2.1, 600, .inl t_units))])) := by
  refine zMet.ofZ (by decide +kernel) (Nat.le_of_ble_eq_true rfl) ?_
  intro p e s m args below meth c ls A Q hF hK hP hD hA hXs hS hl hret
  obtain ⟨hx, hb, hml, hown, hts⟩ := id hF
  obtain ⟨H, hH⟩ : ∃ H, H = s.heap := ⟨_, rfl⟩
  obtain ⟨locs, hlo⟩ : ∃ z : List Loc, z = [] := ⟨_, rfl⟩
  replace hP : zP κ [(a_t, .inr (4, [.ref a_t_units, .int t_count, .int t_at, .int t_end, .ref a_t_numerator, .ref a_t_denominator, .int t_counting, .int t_power])), (a_t_units, .inl (κ.2.1, 600, .inl t_units))] H := by rw [hH]; exact hP
  replace hS : va_S A s.heap H locs := by rw [hH, hlo]; exact hS
  suffices hgo : W p l e (zR 1 21) s m args below meth c H locs 0 0 Q (F0 m 0 ls []) by rw [hH, hlo] at hgo; exact hgo
  clear hH hlo
  replace hl : lv_has ls 2 [(0, .ref a_t)] := hl
  have b_31 : ∀ (t_at : Int32) (x1 : Int32) (H : Heap) (locs : List Loc) (ls : Array Slot), f_R_takeMinus_31 t_count t_at t_end t_counting t_power t_units x1 = some out → zP κ [(a_t, .inr (4, [.ref a_t_units, .int t_count, .int t_at, .int t_end, .ref a_t_numerator, .ref a_t_denominator, .int t_counting, .int t_power])), (a_t_units, .inl (κ.2.1, 600, .inl t_units))] H → va_D A [(a_t, .inr (4, [.ref a_t_units, .int t_count, .int t_at, .int t_end, .ref a_t_numerator, .ref a_t_denominator, .int t_counting, .int t_power])), (a_t_units, .inl (κ.2.1, 600, .inl t_units))] → va_S A s.heap H locs → lv_has ls 2 [(1, .int x1)] → W p l e (zR 1 21) s m args below meth c H locs 0 0 Q (F0 m 31 ls []) := by
    intro t_at x1 H locs ls hf hP hD hS hl
    unfold f_R_takeMinus_31 at hf
    refine lv_iload_n hx hb d_R_takeMinus_31 rfl (lv_at hl 0 rfl) ?_
    refine lv_bipush (v := 45) hx hb d_R_takeMinus_32 (by decide) ?_
    refine lv_icmp_ne (tgt := 41) hx hb d_R_takeMinus_34 (by decide) (fun c_34 => ?_) (fun c_34 => ?_)
    · have hf := (zbr hf).2 c_34
      refine lv_iconst (v := 0) hx hb d_R_takeMinus_41 (by decide) ?_
      exact hret ((0 : Int32)) (t_at) H locs ls _ d_R_takeMinus_42 hP hD hS (by decide) (Option.some.inj hf)
    · have hf := (zbr hf).1 c_34
      refine lv_iconst (v := 1) hx hb d_R_takeMinus_37 (by decide) ?_
      refine lv_goto (tgt := 42) hx hb d_R_takeMinus_38 (by decide) ?_
      exact hret ((1 : Int32)) (t_at) H locs ls _ d_R_takeMinus_42 hP hD hS (by decide) (Option.some.inj hf)
  have b_21 : ∀ (t_at : Int32) (x1 : Int32) (H : Heap) (locs : List Loc) (ls : Array Slot), f_R_takeMinus_21 t_count t_at t_end t_counting t_power t_units x1 = some out → zP κ [(a_t, .inr (4, [.ref a_t_units, .int t_count, .int t_at, .int t_end, .ref a_t_numerator, .ref a_t_denominator, .int t_counting, .int t_power])), (a_t_units, .inl (κ.2.1, 600, .inl t_units))] H → va_D A [(a_t, .inr (4, [.ref a_t_units, .int t_count, .int t_at, .int t_end, .ref a_t_numerator, .ref a_t_denominator, .int t_counting, .int t_power])), (a_t_units, .inl (κ.2.1, 600, .inl t_units))] → va_S A s.heap H locs → lv_has ls 2 [(0, .ref a_t), (1, .int x1)] → W p l e (zR 1 21) s m args below meth c H locs 0 0 Q (F0 m 21 ls []) := by
    intro t_at x1 H locs ls hf hP hD hS hl
    unfold f_R_takeMinus_21 at hf
    refine lv_aload_n hx hb d_R_takeMinus_21 rfl (lv_at hl 0 rfl) ?_
    refine lv_dup hx hb d_R_takeMinus_22 rfl ?_
    refine va_get (C := R_R) (T := F_R) (N := 8) hx hb hts i_R hown hK hP 0 rfl rfl 2 (by decide) (hts _ zfl_R_17) (fun _ h9 => h9) rfl d_R_takeMinus_23 ?_
    refine lv_iconst (v := 1) hx hb d_R_takeMinus_26 (by decide) ?_
    refine lv_iadd hx hb d_R_takeMinus_27 ?_
    refine va_put (C := R_R) (T := F_R) (N := 8) hx hb hts i_R ty_R ty_R_ok n_R hown hK hP hD hS 0 rfl rfl 2 (by decide) (hts _ zfl_R_17) (fun _ h9 => h9) rfl (ty_R_ok 2 (by decide)) rfl rfl (Nat.le_of_ble_eq_true rfl) d_R_takeMinus_28 (fun H locs hP hD hS => ?_)
    have hP : zP κ [(a_t, .inr (4, [.ref a_t_units, .int t_count, .int (t_at + 1), .int t_end, .ref a_t_numerator, .ref a_t_denominator, .int t_counting, .int t_power])), (a_t_units, .inl (κ.2.1, 600, .inl t_units))] H := hP
    have hD : va_D A [(a_t, .inr (4, [.ref a_t_units, .int t_count, .int (t_at + 1), .int t_end, .ref a_t_numerator, .ref a_t_denominator, .int t_counting, .int t_power])), (a_t_units, .inl (κ.2.1, 600, .inl t_units))] := hD
    exact b_31 (t_at + 1) x1 H locs ls hf hP hD hS (lv_sub hl [1] rfl)
  unfold f_R_takeMinus at hf
  refine lv_aload_n hx hb d_R_takeMinus_0 rfl (lv_at hl 0 rfl) ?_
  refine lv_aload_n hx hb d_R_takeMinus_1 rfl (lv_at hl 0 rfl) ?_
  refine va_get (C := R_R) (T := F_R) (N := 8) hx hb hts i_R hown hK hP 0 rfl rfl 2 (by decide) (hts _ zfl_R_17) (fun _ h9 => h9) rfl d_R_takeMinus_2 ?_
  obtain ⟨o_5, ho_5, hf⟩ := zbd hf
  refine zVi (isC := [0, 1]) (isR := []) (isN := [0, 1]) (wc := [(a_t, .inr (4, [.ref a_t_units, .int t_count, .int t_at, .int t_end, .ref a_t_numerator, .ref a_t_denominator, .int t_counting, .int t_power])), (a_t_units, .inl (κ.2.1, 600, .inl t_units))]) (wr := []) (wn := fun u => [(a_t, .inr (4, [.ref a_t_units, .int t_count, .int t_at, .int t_end, .ref a_t_numerator, .ref a_t_denominator, .int t_counting, .int t_power])), (a_t_units, .inl (κ.2.1, 600, .inl t_units))]) (rest := []) (As := [.int t_at]) hF zn_R_42 (k_R_unitAt κ X hX l a_t a_t_units a_t_numerator a_t_denominator H.size t_count t_at t_end t_counting t_power t_units t_at o_5 ho_5) hX hXs hK hA hP hD hS ⟨by decide, by decide⟩ ⟨rfl, rfl, rfl, rfl, rfl, by decide⟩ ⟨rfl, fun _ => rfl, fun _ => rfl⟩ (ci := 4) rfl rfl rfl rfl hl.1 rfl (Nat.le_of_ble_eq_true rfl) ⟨Nat.zero_le _, Nat.zero_le _⟩ d_R_takeMinus_5 (fun r_5 u H locs hw hP hD hS => ?_)
  subst hw
  refine lv_istore_n (lv' := [(1, .int r_5), (0, .ref a_t)]) hx hb d_R_takeMinus_8 rfl hl (by decide) rfl (fun ls hl => ?_)
  refine lv_iload_n hx hb d_R_takeMinus_9 rfl (lv_at hl 0 rfl) ?_
  refine lv_bipush (v := 43) hx hb d_R_takeMinus_10 (by decide) ?_
  refine lv_icmp_eq (tgt := 21) hx hb d_R_takeMinus_12 (by decide) (fun c_12 => ?_) (fun c_12 => ?_)
  · have hf := (zbr hf).1 c_12
    exact b_21 t_at r_5 H locs ls hf hP hD hS (lv_sub hl [1, 0] rfl)
  · have hf := (zbr hf).2 c_12
    refine lv_iload_n hx hb d_R_takeMinus_15 rfl (lv_at hl 0 rfl) ?_
    refine lv_bipush (v := 45) hx hb d_R_takeMinus_16 (by decide) ?_
    refine lv_icmp_ne (tgt := 31) hx hb d_R_takeMinus_18 (by decide) (fun c_18 => ?_) (fun c_18 => ?_)
    · have hf := (zbr hf).2 c_18
      exact b_31 t_at r_5 H locs ls hf hP hD hS (lv_sub hl [0] rfl)
    · have hf := (zbr hf).1 c_18
      exact b_21 t_at r_5 H locs ls hf hP hD hS (lv_sub hl [1, 0] rfl)
theorem d_R_takeExponent_0 : decode c_R_takeExponent 0 = .ok (.aload_n 0, 1) := by decide +kernel
theorem d_R_takeExponent_1 : decode c_R_takeExponent 1 = .ok (.invokevirtual 50, 3) := by decide +kernel
theorem d_R_takeExponent_4 : decode c_R_takeExponent 4 = .ok (.istore_n 1, 1) := by decide +kernel
theorem d_R_takeExponent_5 : decode c_R_takeExponent 5 = .ok (.aload_n 0, 1) := by decide +kernel
theorem d_R_takeExponent_6 : decode c_R_takeExponent 6 = .ok (.getfield 17, 3) := by decide +kernel
theorem d_R_takeExponent_9 : decode c_R_takeExponent 9 = .ok (.istore_n 2, 1) := by decide +kernel
theorem d_R_takeExponent_10 : decode c_R_takeExponent 10 = .ok (.iconst 0, 1) := by decide +kernel
theorem d_R_takeExponent_11 : decode c_R_takeExponent 11 = .ok (.istore_n 3, 1) := by decide +kernel
theorem d_R_takeExponent_12 : decode c_R_takeExponent 12 = .ok (.aload_n 0, 1) := by decide +kernel
theorem d_R_takeExponent_13 : decode c_R_takeExponent 13 = .ok (.getfield 17, 3) := by decide +kernel
theorem d_R_takeExponent_16 : decode c_R_takeExponent 16 = .ok (.aload_n 0, 1) := by decide +kernel
theorem d_R_takeExponent_17 : decode c_R_takeExponent 17 = .ok (.getfield 20, 3) := by decide +kernel
theorem d_R_takeExponent_20 : decode c_R_takeExponent 20 = .ok (.if_icmp .ge 59, 3) := by decide +kernel
theorem d_R_takeExponent_23 : decode c_R_takeExponent 23 = .ok (.aload_n 0, 1) := by decide +kernel
theorem d_R_takeExponent_24 : decode c_R_takeExponent 24 = .ok (.getfield 9, 3) := by decide +kernel
theorem d_R_takeExponent_27 : decode c_R_takeExponent 27 = .ok (.aload_n 0, 1) := by decide +kernel
theorem d_R_takeExponent_28 : decode c_R_takeExponent 28 = .ok (.getfield 17, 3) := by decide +kernel
theorem d_R_takeExponent_31 : decode c_R_takeExponent 31 = .ok (.iaload, 1) := by decide +kernel
theorem d_R_takeExponent_32 : decode c_R_takeExponent 32 = .ok (.invokestatic 83, 3) := by decide +kernel
theorem d_R_takeExponent_35 : decode c_R_takeExponent 35 = .ok (.ifCond .eq 44, 3) := by decide +kernel
theorem d_R_takeExponent_38 : decode c_R_takeExponent 38 = .ok (.iload_n 3, 1) := by decide +kernel
theorem d_R_takeExponent_39 : decode c_R_takeExponent 39 = .ok (.ldc 117, 2) := by decide +kernel
theorem d_R_takeExponent_41 : decode c_R_takeExponent 41 = .ok (.if_icmp .ge 23, 3) := by decide +kernel
theorem d_R_takeExponent_44 : decode c_R_takeExponent 44 = .ok (.iload_n 3, 1) := by decide +kernel
theorem d_R_takeExponent_45 : decode c_R_takeExponent 45 = .ok (.bipush 10, 2) := by decide +kernel
theorem d_R_takeExponent_47 : decode c_R_takeExponent 47 = .ok (.imul, 1) := by decide +kernel
theorem d_R_takeExponent_48 : decode c_R_takeExponent 48 = .ok (.aload_n 0, 1) := by decide +kernel
theorem d_R_takeExponent_49 : decode c_R_takeExponent 49 = .ok (.getfield 9, 3) := by decide +kernel
theorem d_R_takeExponent_52 : decode c_R_takeExponent 52 = .ok (.aload_n 0, 1) := by decide +kernel
theorem d_R_takeExponent_53 : decode c_R_takeExponent 53 = .ok (.getfield 17, 3) := by decide +kernel
theorem d_R_takeExponent_56 : decode c_R_takeExponent 56 = .ok (.iaload, 1) := by decide +kernel
theorem d_R_takeExponent_57 : decode c_R_takeExponent 57 = .ok (.iadd, 1) := by decide +kernel
theorem d_R_takeExponent_58 : decode c_R_takeExponent 58 = .ok (.bipush 48, 2) := by decide +kernel
theorem d_R_takeExponent_60 : decode c_R_takeExponent 60 = .ok (.isub, 1) := by decide +kernel
theorem d_R_takeExponent_61 : decode c_R_takeExponent 61 = .ok (.goto 4, 3) := by decide +kernel
theorem d_R_takeExponent_64 : decode c_R_takeExponent 64 = .ok (.iload_n 3, 1) := by decide +kernel
theorem d_R_takeExponent_65 : decode c_R_takeExponent 65 = .ok (.istore_n 3, 1) := by decide +kernel
theorem d_R_takeExponent_66 : decode c_R_takeExponent 66 = .ok (.aload_n 0, 1) := by decide +kernel
theorem d_R_takeExponent_67 : decode c_R_takeExponent 67 = .ok (.dup, 1) := by decide +kernel
theorem d_R_takeExponent_68 : decode c_R_takeExponent 68 = .ok (.getfield 17, 3) := by decide +kernel
theorem d_R_takeExponent_71 : decode c_R_takeExponent 71 = .ok (.iconst 1, 1) := by decide +kernel
theorem d_R_takeExponent_72 : decode c_R_takeExponent 72 = .ok (.iadd, 1) := by decide +kernel
theorem d_R_takeExponent_73 : decode c_R_takeExponent 73 = .ok (.putfield 17, 3) := by decide +kernel
theorem d_R_takeExponent_76 : decode c_R_takeExponent 76 = .ok (.goto (-64), 3) := by decide +kernel
theorem d_R_takeExponent_79 : decode c_R_takeExponent 79 = .ok (.aload_n 0, 1) := by decide +kernel
theorem d_R_takeExponent_80 : decode c_R_takeExponent 80 = .ok (.iload_n 1, 1) := by decide +kernel
theorem d_R_takeExponent_81 : decode c_R_takeExponent 81 = .ok (.ifCond .eq 12, 3) := by decide +kernel
theorem d_R_takeExponent_84 : decode c_R_takeExponent 84 = .ok (.aload_n 0, 1) := by decide +kernel
theorem d_R_takeExponent_85 : decode c_R_takeExponent 85 = .ok (.getfield 36, 3) := by decide +kernel
theorem d_R_takeExponent_88 : decode c_R_takeExponent 88 = .ok (.iload_n 3, 1) := by decide +kernel
theorem d_R_takeExponent_89 : decode c_R_takeExponent 89 = .ok (.isub, 1) := by decide +kernel
theorem d_R_takeExponent_90 : decode c_R_takeExponent 90 = .ok (.goto 9, 3) := by decide +kernel
theorem d_R_takeExponent_93 : decode c_R_takeExponent 93 = .ok (.aload_n 0, 1) := by decide +kernel
theorem d_R_takeExponent_94 : decode c_R_takeExponent 94 = .ok (.getfield 36, 3) := by decide +kernel
theorem d_R_takeExponent_97 : decode c_R_takeExponent 97 = .ok (.iload_n 3, 1) := by decide +kernel
theorem d_R_takeExponent_98 : decode c_R_takeExponent 98 = .ok (.iadd, 1) := by decide +kernel
theorem d_R_takeExponent_99 : decode c_R_takeExponent 99 = .ok (.putfield 36, 3) := by decide +kernel
theorem d_R_takeExponent_102 : decode c_R_takeExponent 102 = .ok (.aload_n 0, 1) := by decide +kernel
theorem d_R_takeExponent_103 : decode c_R_takeExponent 103 = .ok (.getfield 17, 3) := by decide +kernel
theorem d_R_takeExponent_106 : decode c_R_takeExponent 106 = .ok (.iload_n 2, 1) := by decide +kernel
theorem d_R_takeExponent_107 : decode c_R_takeExponent 107 = .ok (.if_icmp .le 7, 3) := by decide +kernel
theorem d_R_takeExponent_110 : decode c_R_takeExponent 110 = .ok (.iconst 1, 1) := by decide +kernel
theorem d_R_takeExponent_111 : decode c_R_takeExponent 111 = .ok (.goto 4, 3) := by decide +kernel
theorem d_R_takeExponent_114 : decode c_R_takeExponent 114 = .ok (.iconst 0, 1) := by decide +kernel
theorem d_R_takeExponent_115 : decode c_R_takeExponent 115 = .ok (.ireturn, 1) := by decide +kernel
theorem zn_R_50 : zNV R_R 50 y_R_takeMinus c_R_takeMinus 2 (some .boolean) 0 := ⟨zco_R_takeMinus, zin_R, zml_R_50, zim_R_takeMinus, zse_R_R_takeMinus, by decide +kernel⟩
set_option maxHeartbeats 4000000 in
set_option maxRecDepth 100000 in
theorem k_R_takeExponent (κ : zC) (X : zXT) (hX : zX κ X) (l : Launch) (a_t a_t_units a_t_numerator a_t_denominator : Nat) (sz : Nat) (t_count : Int32) (t_at : Int32) (t_end : Int32) (t_counting : Int32) (t_power : Int32) (t_units : Nat → Int32) (out : Int32 × ((Int32) × (Int32))) (hf : f_R_takeExponent t_count t_at t_end t_counting t_power t_units = some out) : zMet κ X l y_R_takeExponent c_R_takeExponent 4 (some .boolean) 2 42 [.ref a_t] sz [(a_t, .inr (4, [.ref a_t_units, .int t_count, .int t_at, .int t_end, .ref a_t_numerator, .ref a_t_denominator, .int t_counting, .int t_power])), (a_t_units, .inl (κ.2.1, 600, .inl t_units))] (zQi κ (fun (r : Int32) (u : (Int32) × (Int32)) => (r, u) = out) (fun u => [(a_t, .inr (4, [.ref a_t_units, .int t_count, .int u.1, .int t_end, .ref a_t_numerator, .ref a_t_denominator, .int t_counting, .int u.2])), (a_t_units, .inl (κ.2.1, 600, .inl t_units))])) := by
  refine zMet.ofZ (by decide +kernel) (Nat.le_of_ble_eq_true rfl) ?_
  intro p e s m args below meth c ls A Q hF hK hP hD hA hXs hS hl hret
  obtain ⟨hx, hb, hml, hown, hts⟩ := id hF
  obtain ⟨H, hH⟩ : ∃ H, H = s.heap := ⟨_, rfl⟩
  obtain ⟨locs, hlo⟩ : ∃ z : List Loc, z = [] := ⟨_, rfl⟩
  replace hP : zP κ [(a_t, .inr (4, [.ref a_t_units, .int t_count, .int t_at, .int t_end, .ref a_t_numerator, .ref a_t_denominator, .int t_counting, .int t_power])), (a_t_units, .inl (κ.2.1, 600, .inl t_units))] H := by rw [hH]; exact hP
  replace hS : va_S A s.heap H locs := by rw [hH, hlo]; exact hS
  suffices hgo : W p l e (zR 2 42) s m args below meth c H locs 0 0 Q (F0 m 0 ls []) by rw [hH, hlo] at hgo; exact hgo
  clear hH hlo
  replace hl : lv_has ls 4 [(0, .ref a_t)] := hl
  have b_99 : ∀ (t_at : Int32) (t_power : Int32) (x2 : Int32) (s1 : Int32) (H : Heap) (locs : List Loc) (ls : Array Slot), f_R_takeExponent_99 t_count t_at t_end t_counting t_power t_units x2 s1 = some out → zP κ [(a_t, .inr (4, [.ref a_t_units, .int t_count, .int t_at, .int t_end, .ref a_t_numerator, .ref a_t_denominator, .int t_counting, .int t_power])), (a_t_units, .inl (κ.2.1, 600, .inl t_units))] H → va_D A [(a_t, .inr (4, [.ref a_t_units, .int t_count, .int t_at, .int t_end, .ref a_t_numerator, .ref a_t_denominator, .int t_counting, .int t_power])), (a_t_units, .inl (κ.2.1, 600, .inl t_units))] → va_S A s.heap H locs → lv_has ls 4 [(0, .ref a_t), (2, .int x2)] → W p l e (zR 2 42) s m args below meth c H locs 0 0 Q (F0 m 99 ls [.int s1, .ref a_t]) := by
    intro t_at t_power x2 s1 H locs ls hf hP hD hS hl
    unfold f_R_takeExponent_99 at hf
    refine va_put (C := R_R) (T := F_R) (N := 8) hx hb hts i_R ty_R ty_R_ok n_R hown hK hP hD hS 0 rfl rfl 7 (by decide) (hts _ zfl_R_36) (fun _ h9 => h9) rfl (ty_R_ok 7 (by decide)) rfl rfl (Nat.le_of_ble_eq_true rfl) d_R_takeExponent_99 (fun H locs hP hD hS => ?_)
    have hP : zP κ [(a_t, .inr (4, [.ref a_t_units, .int t_count, .int t_at, .int t_end, .ref a_t_numerator, .ref a_t_denominator, .int t_counting, .int s1])), (a_t_units, .inl (κ.2.1, 600, .inl t_units))] H := hP
    have hD : va_D A [(a_t, .inr (4, [.ref a_t_units, .int t_count, .int t_at, .int t_end, .ref a_t_numerator, .ref a_t_denominator, .int t_counting, .int s1])), (a_t_units, .inl (κ.2.1, 600, .inl t_units))] := hD
    refine lv_aload_n hx hb d_R_takeExponent_102 rfl (lv_at hl 0 rfl) ?_
    refine va_get (C := R_R) (T := F_R) (N := 8) hx hb hts i_R hown hK hP 0 rfl rfl 2 (by decide) (hts _ zfl_R_17) (fun _ h9 => h9) rfl d_R_takeExponent_103 ?_
    refine lv_iload_n hx hb d_R_takeExponent_106 rfl (lv_at hl 1 rfl) ?_
    refine lv_icmp_le (tgt := 114) hx hb d_R_takeExponent_107 (by decide) (fun c_107 => ?_) (fun c_107 => ?_)
    · have hf := (zbr hf).1 c_107
      refine lv_iconst (v := 0) hx hb d_R_takeExponent_114 (by decide) ?_
      exact hret ((0 : Int32)) ((t_at, s1)) H locs ls _ d_R_takeExponent_115 hP hD hS (by decide) (Option.some.inj hf)
    · have hf := (zbr hf).2 c_107
      refine lv_iconst (v := 1) hx hb d_R_takeExponent_110 (by decide) ?_
      refine lv_goto (tgt := 115) hx hb d_R_takeExponent_111 (by decide) ?_
      exact hret ((1 : Int32)) ((t_at, s1)) H locs ls _ d_R_takeExponent_115 hP hD hS (by decide) (Option.some.inj hf)
  have b_79 : ∀ (t_at : Int32) (t_power : Int32) (x1 : Int32) (x2 : Int32) (x3 : Int32) (H : Heap) (locs : List Loc) (ls : Array Slot), f_R_takeExponent_79 t_count t_at t_end t_counting t_power t_units x1 x2 x3 = some out → zP κ [(a_t, .inr (4, [.ref a_t_units, .int t_count, .int t_at, .int t_end, .ref a_t_numerator, .ref a_t_denominator, .int t_counting, .int t_power])), (a_t_units, .inl (κ.2.1, 600, .inl t_units))] H → va_D A [(a_t, .inr (4, [.ref a_t_units, .int t_count, .int t_at, .int t_end, .ref a_t_numerator, .ref a_t_denominator, .int t_counting, .int t_power])), (a_t_units, .inl (κ.2.1, 600, .inl t_units))] → va_S A s.heap H locs → lv_has ls 4 [(0, .ref a_t), (1, .int x1), (2, .int x2), (3, .int x3)] → W p l e (zR 2 42) s m args below meth c H locs 0 0 Q (F0 m 79 ls []) := by
    intro t_at t_power x1 x2 x3 H locs ls hf hP hD hS hl
    unfold f_R_takeExponent_79 at hf
    refine lv_aload_n hx hb d_R_takeExponent_79 rfl (lv_at hl 0 rfl) ?_
    refine lv_iload_n hx hb d_R_takeExponent_80 rfl (lv_at hl 1 rfl) ?_
    refine lv_if_eq (tgt := 93) hx hb d_R_takeExponent_81 (by decide) (fun c_81 => ?_) (fun c_81 => ?_)
    · have hf := (zbr hf).1 c_81
      refine lv_aload_n hx hb d_R_takeExponent_93 rfl (lv_at hl 0 rfl) ?_
      refine va_get (C := R_R) (T := F_R) (N := 8) hx hb hts i_R hown hK hP 0 rfl rfl 7 (by decide) (hts _ zfl_R_36) (fun _ h9 => h9) rfl d_R_takeExponent_94 ?_
      refine lv_iload_n hx hb d_R_takeExponent_97 rfl (lv_at hl 3 rfl) ?_
      refine lv_iadd hx hb d_R_takeExponent_98 ?_
      exact b_99 t_at t_power x2 (t_power + x3) H locs ls hf hP hD hS (lv_sub hl [0, 2] rfl)
    · have hf := (zbr hf).2 c_81
      refine lv_aload_n hx hb d_R_takeExponent_84 rfl (lv_at hl 0 rfl) ?_
      refine va_get (C := R_R) (T := F_R) (N := 8) hx hb hts i_R hown hK hP 0 rfl rfl 7 (by decide) (hts _ zfl_R_36) (fun _ h9 => h9) rfl d_R_takeExponent_85 ?_
      refine lv_iload_n hx hb d_R_takeExponent_88 rfl (lv_at hl 3 rfl) ?_
      refine lv_isub hx hb d_R_takeExponent_89 ?_
      refine lv_goto (tgt := 99) hx hb d_R_takeExponent_90 (by decide) ?_
      exact b_99 t_at t_power x2 (t_power - x3) H locs ls hf hP hD hS (lv_sub hl [0, 2] rfl)
  have b_12 : ∀ (t_at : Int32) (t_power : Int32) (x1 : Int32) (x2 : Int32) (x3 : Int32) (H : Heap) (locs : List Loc) (ls : Array Slot), f_R_takeExponent_12 t_count t_at t_end t_counting t_power t_units x1 x2 x3 = some out → zP κ [(a_t, .inr (4, [.ref a_t_units, .int t_count, .int t_at, .int t_end, .ref a_t_numerator, .ref a_t_denominator, .int t_counting, .int t_power])), (a_t_units, .inl (κ.2.1, 600, .inl t_units))] H → va_D A [(a_t, .inr (4, [.ref a_t_units, .int t_count, .int t_at, .int t_end, .ref a_t_numerator, .ref a_t_denominator, .int t_counting, .int t_power])), (a_t_units, .inl (κ.2.1, 600, .inl t_units))] → va_S A s.heap H locs → lv_has ls 4 [(0, .ref a_t), (1, .int x1), (2, .int x2), (3, .int x3)] → W p l e (zR 2 42) s m args below meth c H locs 0 0 Q (F0 m 12 ls []) := by
    intro t_at t_power x1 x2 x3 H locs ls hf hP hD hS hl
    refine zrun_ind (P := fun z : (Int32) × (Int32) × (Int32) => ∀ (H : Heap) (locs : List Loc) (ls : Array Slot), zP κ [(a_t, .inr (4, [.ref a_t_units, .int t_count, .int z.1, .int t_end, .ref a_t_numerator, .ref a_t_denominator, .int t_counting, .int z.2.1])), (a_t_units, .inl (κ.2.1, 600, .inl t_units))] H → va_D A [(a_t, .inr (4, [.ref a_t_units, .int t_count, .int z.1, .int t_end, .ref a_t_numerator, .ref a_t_denominator, .int t_counting, .int z.2.1])), (a_t_units, .inl (κ.2.1, 600, .inl t_units))] → va_S A s.heap H locs → lv_has ls 4 [(0, .ref a_t), (1, .int x1), (2, .int x2), (3, .int z.2.2)] → W p l e (zR 2 42) s m args below meth c H locs 0 0 Q (F0 m 12 ls [])) ?_ hf H locs ls hP hD hS hl
    clear hf hP hD hS hl H locs ls t_at t_power x3
    intro z ih hne hexit_12 H locs ls hP hD hS hl
    obtain ⟨q_12, hf⟩ := zne hne
    have hback_12 := fun y (e : q_12 = .inl y) => ih y (e ▸ hf)
    replace hexit_12 := fun y (e : q_12 = .inr y) => hexit_12 y (e ▸ hf)
    clear ih hne
    obtain ⟨t_at, t_power, x3⟩ := z
    replace hf : f_R_takeExponent_12_body t_count t_end t_counting t_units x1 x2 t_at t_power x3 = some q_12 := hf
    replace hP : zP κ [(a_t, .inr (4, [.ref a_t_units, .int t_count, .int t_at, .int t_end, .ref a_t_numerator, .ref a_t_denominator, .int t_counting, .int t_power])), (a_t_units, .inl (κ.2.1, 600, .inl t_units))] H := hP
    replace hD : va_D A [(a_t, .inr (4, [.ref a_t_units, .int t_count, .int t_at, .int t_end, .ref a_t_numerator, .ref a_t_denominator, .int t_counting, .int t_power])), (a_t_units, .inl (κ.2.1, 600, .inl t_units))] := hD
    replace hl : lv_has ls 4 [(0, .ref a_t), (1, .int x1), (2, .int x2), (3, .int x3)] := hl
    have b_65 : ∀ (t_at : Int32) (t_power : Int32) (s0 : Int32) (H : Heap) (locs : List Loc) (ls : Array Slot), f_R_takeExponent_65 t_count t_at t_end t_counting t_power t_units x1 x2 s0 = some q_12 → zP κ [(a_t, .inr (4, [.ref a_t_units, .int t_count, .int t_at, .int t_end, .ref a_t_numerator, .ref a_t_denominator, .int t_counting, .int t_power])), (a_t_units, .inl (κ.2.1, 600, .inl t_units))] H → va_D A [(a_t, .inr (4, [.ref a_t_units, .int t_count, .int t_at, .int t_end, .ref a_t_numerator, .ref a_t_denominator, .int t_counting, .int t_power])), (a_t_units, .inl (κ.2.1, 600, .inl t_units))] → va_S A s.heap H locs → lv_has ls 4 [(0, .ref a_t), (1, .int x1), (2, .int x2)] → W p l e (zR 2 42) s m args below meth c H locs 0 0 Q (F0 m 65 ls [.int s0]) := by
      intro t_at t_power s0 H locs ls hf hP hD hS hl
      unfold f_R_takeExponent_65 at hf
      refine lv_istore_n (lv' := [(3, .int s0), (0, .ref a_t), (1, .int x1), (2, .int x2)]) hx hb d_R_takeExponent_65 rfl hl (by decide) rfl (fun ls hl => ?_)
      refine lv_aload_n hx hb d_R_takeExponent_66 rfl (lv_at hl 1 rfl) ?_
      refine lv_dup hx hb d_R_takeExponent_67 rfl ?_
      refine va_get (C := R_R) (T := F_R) (N := 8) hx hb hts i_R hown hK hP 0 rfl rfl 2 (by decide) (hts _ zfl_R_17) (fun _ h9 => h9) rfl d_R_takeExponent_68 ?_
      refine lv_iconst (v := 1) hx hb d_R_takeExponent_71 (by decide) ?_
      refine lv_iadd hx hb d_R_takeExponent_72 ?_
      refine va_put (C := R_R) (T := F_R) (N := 8) hx hb hts i_R ty_R ty_R_ok n_R hown hK hP hD hS 0 rfl rfl 2 (by decide) (hts _ zfl_R_17) (fun _ h9 => h9) rfl (ty_R_ok 2 (by decide)) rfl rfl (Nat.le_of_ble_eq_true rfl) d_R_takeExponent_73 (fun H locs hP hD hS => ?_)
      have hP : zP κ [(a_t, .inr (4, [.ref a_t_units, .int t_count, .int (t_at + 1), .int t_end, .ref a_t_numerator, .ref a_t_denominator, .int t_counting, .int t_power])), (a_t_units, .inl (κ.2.1, 600, .inl t_units))] H := hP
      have hD : va_D A [(a_t, .inr (4, [.ref a_t_units, .int t_count, .int (t_at + 1), .int t_end, .ref a_t_numerator, .ref a_t_denominator, .int t_counting, .int t_power])), (a_t_units, .inl (κ.2.1, 600, .inl t_units))] := hD
      refine lv_goto (tgt := 12) hx hb d_R_takeExponent_76 (by decide) ?_
      exact hback_12 _ (Option.some.inj hf).symm H locs ls hP hD hS (lv_sub hl [1, 2, 3, 0] rfl)
    unfold f_R_takeExponent_12_body at hf
    refine lv_aload_n hx hb d_R_takeExponent_12 rfl (lv_at hl 0 rfl) ?_
    refine va_get (C := R_R) (T := F_R) (N := 8) hx hb hts i_R hown hK hP 0 rfl rfl 2 (by decide) (hts _ zfl_R_17) (fun _ h9 => h9) rfl d_R_takeExponent_13 ?_
    refine lv_aload_n hx hb d_R_takeExponent_16 rfl (lv_at hl 0 rfl) ?_
    refine va_get (C := R_R) (T := F_R) (N := 8) hx hb hts i_R hown hK hP 0 rfl rfl 3 (by decide) (hts _ zfl_R_20) (fun _ h9 => h9) rfl d_R_takeExponent_17 ?_
    refine lv_icmp_ge (tgt := 79) hx hb d_R_takeExponent_20 (by decide) (fun c_20 => ?_) (fun c_20 => ?_)
    · have hf := (zbr hf).1 c_20
      have hf := zex hf hexit_12
      exact b_79 t_at t_power x1 x2 x3 H locs ls hf hP hD hS hl
    · have hf := (zbr hf).2 c_20
      refine lv_aload_n hx hb d_R_takeExponent_23 rfl (lv_at hl 0 rfl) ?_
      refine va_get (C := R_R) (T := F_R) (N := 8) hx hb hts i_R hown hK hP 0 rfl rfl 0 (by decide) (hts _ zfl_R_9) (fun _ h9 => h9) rfl d_R_takeExponent_24 ?_
      refine lv_aload_n hx hb d_R_takeExponent_27 rfl (lv_at hl 0 rfl) ?_
      refine va_get (C := R_R) (T := F_R) (N := 8) hx hb hts i_R hown hK hP 0 rfl rfl 2 (by decide) (hts _ zfl_R_17) (fun _ h9 => h9) rfl d_R_takeExponent_28 ?_
      obtain ⟨g_31, hf⟩ := zgd hf
      refine va_iald hx hb hK hP 1 0 rfl rfl (zin_vp g_31) d_R_takeExponent_31 ?_
      obtain ⟨o_32, ho_32, hf⟩ := zbd hf
      refine zSi (isC := []) (isR := [0, 1]) (isN := [0, 1]) (wc := []) (wr := [(a_t, .inr (4, [.ref a_t_units, .int t_count, .int t_at, .int t_end, .ref a_t_numerator, .ref a_t_denominator, .int t_counting, .int t_power])), (a_t_units, .inl (κ.2.1, 600, .inl t_units))]) (wn := fun u => [(a_t, .inr (4, [.ref a_t_units, .int t_count, .int t_at, .int t_end, .ref a_t_numerator, .ref a_t_denominator, .int t_counting, .int t_power])), (a_t_units, .inl (κ.2.1, 600, .inl t_units))]) (rest := []) (As := [.int (t_units t_at.toNatClampNeg)]) hF zn_R_83 (k_R_isDigit κ X hX l H.size (t_units t_at.toNatClampNeg) o_32 ho_32) hX hXs hK hA hP hD hS ⟨by decide, by decide⟩ ⟨rfl, rfl, rfl, rfl, rfl, by decide⟩ ⟨rfl, fun _ => rfl, fun _ => rfl⟩ rfl hl.1 rfl (Nat.le_of_ble_eq_true rfl) ⟨Nat.zero_le _, Nat.zero_le _⟩ d_R_takeExponent_32 (fun r_32 u H locs hw hP hD hS => ?_)
      subst hw
      refine lv_if_eq (tgt := 79) hx hb d_R_takeExponent_35 (by decide) (fun c_35 => ?_) (fun c_35 => ?_)
      · have hf := (zbr hf).1 c_35
        have hf := zex hf hexit_12
        exact b_79 t_at t_power x1 x2 x3 H locs ls hf hP hD hS hl
      · have hf := (zbr hf).2 c_35
        refine lv_iload_n hx hb d_R_takeExponent_38 rfl (lv_at hl 3 rfl) ?_
        refine lv_ldc (v := 100000) hx hb hown (hts _ zki_R_117) d_R_takeExponent_39 ?_
        refine lv_icmp_ge (tgt := 64) hx hb d_R_takeExponent_41 (by decide) (fun c_41 => ?_) (fun c_41 => ?_)
        · have hf := (zbr hf).1 c_41
          refine lv_iload_n hx hb d_R_takeExponent_64 rfl (lv_at hl 3 rfl) ?_
          exact b_65 t_at t_power x3 H locs ls hf hP hD hS (lv_sub hl [0, 1, 2] rfl)
        · have hf := (zbr hf).2 c_41
          refine lv_iload_n hx hb d_R_takeExponent_44 rfl (lv_at hl 3 rfl) ?_
          refine lv_bipush (v := 10) hx hb d_R_takeExponent_45 (by decide) ?_
          refine lv_imul hx hb d_R_takeExponent_47 ?_
          refine lv_aload_n hx hb d_R_takeExponent_48 rfl (lv_at hl 0 rfl) ?_
          refine va_get (C := R_R) (T := F_R) (N := 8) hx hb hts i_R hown hK hP 0 rfl rfl 0 (by decide) (hts _ zfl_R_9) (fun _ h9 => h9) rfl d_R_takeExponent_49 ?_
          refine lv_aload_n hx hb d_R_takeExponent_52 rfl (lv_at hl 0 rfl) ?_
          refine va_get (C := R_R) (T := F_R) (N := 8) hx hb hts i_R hown hK hP 0 rfl rfl 2 (by decide) (hts _ zfl_R_17) (fun _ h9 => h9) rfl d_R_takeExponent_53 ?_
          obtain ⟨g_56, hf⟩ := zgd hf
          refine va_iald hx hb hK hP 1 0 rfl rfl (zin_vp g_56) d_R_takeExponent_56 ?_
          refine lv_iadd hx hb d_R_takeExponent_57 ?_
          refine lv_bipush (v := 48) hx hb d_R_takeExponent_58 (by decide) ?_
          refine lv_isub hx hb d_R_takeExponent_60 ?_
          refine lv_goto (tgt := 65) hx hb d_R_takeExponent_61 (by decide) ?_
          exact b_65 t_at t_power (((x3 * 10) + (t_units t_at.toNatClampNeg)) - 48) H locs ls hf hP hD hS (lv_sub hl [0, 1, 2] rfl)
  unfold f_R_takeExponent at hf
  refine lv_aload_n hx hb d_R_takeExponent_0 rfl (lv_at hl 0 rfl) ?_
  obtain ⟨o_1, ho_1, hf⟩ := zbd hf
  refine zVi (isC := [0, 1]) (isR := []) (isN := [0, 1]) (wc := [(a_t, .inr (4, [.ref a_t_units, .int t_count, .int t_at, .int t_end, .ref a_t_numerator, .ref a_t_denominator, .int t_counting, .int t_power])), (a_t_units, .inl (κ.2.1, 600, .inl t_units))]) (wr := []) (wn := fun u => [(a_t, .inr (4, [.ref a_t_units, .int t_count, .int u, .int t_end, .ref a_t_numerator, .ref a_t_denominator, .int t_counting, .int t_power])), (a_t_units, .inl (κ.2.1, 600, .inl t_units))]) (rest := []) (As := []) hF zn_R_50 (k_R_takeMinus κ X hX l a_t a_t_units a_t_numerator a_t_denominator H.size t_count t_at t_end t_counting t_power t_units o_1 ho_1) hX hXs hK hA hP hD hS ⟨by decide, by decide⟩ ⟨rfl, rfl, rfl, rfl, rfl, by decide⟩ ⟨rfl, fun _ => rfl, fun _ => rfl⟩ (ci := 4) rfl rfl rfl rfl hl.1 rfl (Nat.le_of_ble_eq_true rfl) ⟨Nat.zero_le _, Nat.zero_le _⟩ d_R_takeExponent_1 (fun r_1 u H locs hw hP hD hS => ?_)
  obtain ⟨u1_t_at, rfl⟩ : ∃ z, z = u := ⟨_, rfl⟩
  have hP : zP κ [(a_t, .inr (4, [.ref a_t_units, .int t_count, .int u1_t_at, .int t_end, .ref a_t_numerator, .ref a_t_denominator, .int t_counting, .int t_power])), (a_t_units, .inl (κ.2.1, 600, .inl t_units))] H := hP
  have hD : va_D A [(a_t, .inr (4, [.ref a_t_units, .int t_count, .int u1_t_at, .int t_end, .ref a_t_numerator, .ref a_t_denominator, .int t_counting, .int t_power])), (a_t_units, .inl (κ.2.1, 600, .inl t_units))] := hD
  subst hw
  dsimp only at hf
  refine lv_istore_n (lv' := [(1, .int r_1), (0, .ref a_t)]) hx hb d_R_takeExponent_4 rfl hl (by decide) rfl (fun ls hl => ?_)
  refine lv_aload_n hx hb d_R_takeExponent_5 rfl (lv_at hl 1 rfl) ?_
  refine va_get (C := R_R) (T := F_R) (N := 8) hx hb hts i_R hown hK hP 0 rfl rfl 2 (by decide) (hts _ zfl_R_17) (fun _ h9 => h9) rfl d_R_takeExponent_6 ?_
  refine lv_istore_n (lv' := [(2, .int u1_t_at), (1, .int r_1), (0, .ref a_t)]) hx hb d_R_takeExponent_9 rfl hl (by decide) rfl (fun ls hl => ?_)
  refine lv_iconst (v := 0) hx hb d_R_takeExponent_10 (by decide) ?_
  refine lv_istore_n (lv' := [(3, .int 0), (2, .int u1_t_at), (1, .int r_1), (0, .ref a_t)]) hx hb d_R_takeExponent_11 rfl hl (by decide) rfl (fun ls hl => ?_)
  exact b_12 u1_t_at t_power r_1 u1_t_at 0 H locs ls hf hP hD hS (lv_sub hl [3, 2, 1, 0] rfl)
theorem d_R_takeDecimal_0 : decode c_R_takeDecimal 0 = .ok (.aload_n 0, 1) := by decide +kernel
theorem d_R_takeDecimal_1 : decode c_R_takeDecimal 1 = .ok (.getfield 26, 3) := by decide +kernel
theorem d_R_takeDecimal_4 : decode c_R_takeDecimal 4 = .ok (.lconst 0, 1) := by decide +kernel
theorem d_R_takeDecimal_5 : decode c_R_takeDecimal 5 = .ok (.invokevirtual 98, 3) := by decide +kernel
theorem d_R_takeDecimal_8 : decode c_R_takeDecimal 8 = .ok (.aload_n 0, 1) := by decide +kernel
theorem d_R_takeDecimal_9 : decode c_R_takeDecimal 9 = .ok (.iconst 0, 1) := by decide +kernel
theorem d_R_takeDecimal_10 : decode c_R_takeDecimal 10 = .ok (.putfield 33, 3) := by decide +kernel
theorem d_R_takeDecimal_13 : decode c_R_takeDecimal 13 = .ok (.aload_n 0, 1) := by decide +kernel
theorem d_R_takeDecimal_14 : decode c_R_takeDecimal 14 = .ok (.iconst 0, 1) := by decide +kernel
theorem d_R_takeDecimal_15 : decode c_R_takeDecimal 15 = .ok (.putfield 36, 3) := by decide +kernel
theorem d_R_takeDecimal_18 : decode c_R_takeDecimal 18 = .ok (.aload_n 0, 1) := by decide +kernel
theorem d_R_takeDecimal_19 : decode c_R_takeDecimal 19 = .ok (.iconst 0, 1) := by decide +kernel
theorem d_R_takeDecimal_20 : decode c_R_takeDecimal 20 = .ok (.invokevirtual 102, 3) := by decide +kernel
theorem d_R_takeDecimal_23 : decode c_R_takeDecimal 23 = .ok (.istore_n 1, 1) := by decide +kernel
theorem d_R_takeDecimal_24 : decode c_R_takeDecimal 24 = .ok (.aload_n 0, 1) := by decide +kernel
theorem d_R_takeDecimal_25 : decode c_R_takeDecimal 25 = .ok (.aload_n 0, 1) := by decide +kernel
theorem d_R_takeDecimal_26 : decode c_R_takeDecimal 26 = .ok (.getfield 17, 3) := by decide +kernel
theorem d_R_takeDecimal_29 : decode c_R_takeDecimal 29 = .ok (.invokevirtual 42, 3) := by decide +kernel
theorem d_R_takeDecimal_32 : decode c_R_takeDecimal 32 = .ok (.bipush 46, 2) := by decide +kernel
theorem d_R_takeDecimal_34 : decode c_R_takeDecimal 34 = .ok (.if_icmp .ne 21, 3) := by decide +kernel
theorem d_R_takeDecimal_37 : decode c_R_takeDecimal 37 = .ok (.aload_n 0, 1) := by decide +kernel
theorem d_R_takeDecimal_38 : decode c_R_takeDecimal 38 = .ok (.dup, 1) := by decide +kernel
theorem d_R_takeDecimal_39 : decode c_R_takeDecimal 39 = .ok (.getfield 17, 3) := by decide +kernel
theorem d_R_takeDecimal_42 : decode c_R_takeDecimal 42 = .ok (.iconst 1, 1) := by decide +kernel
theorem d_R_takeDecimal_43 : decode c_R_takeDecimal 43 = .ok (.iadd, 1) := by decide +kernel
theorem d_R_takeDecimal_44 : decode c_R_takeDecimal 44 = .ok (.putfield 17, 3) := by decide +kernel
theorem d_R_takeDecimal_47 : decode c_R_takeDecimal 47 = .ok (.iload_n 1, 1) := by decide +kernel
theorem d_R_takeDecimal_48 : decode c_R_takeDecimal 48 = .ok (.aload_n 0, 1) := by decide +kernel
theorem d_R_takeDecimal_49 : decode c_R_takeDecimal 49 = .ok (.iconst 1, 1) := by decide +kernel
theorem d_R_takeDecimal_50 : decode c_R_takeDecimal 50 = .ok (.invokevirtual 102, 3) := by decide +kernel
theorem d_R_takeDecimal_53 : decode c_R_takeDecimal 53 = .ok (.iadd, 1) := by decide +kernel
theorem d_R_takeDecimal_54 : decode c_R_takeDecimal 54 = .ok (.istore_n 1, 1) := by decide +kernel
theorem d_R_takeDecimal_55 : decode c_R_takeDecimal 55 = .ok (.iload_n 1, 1) := by decide +kernel
theorem d_R_takeDecimal_56 : decode c_R_takeDecimal 56 = .ok (.ifCond .ne 5, 3) := by decide +kernel
theorem d_R_takeDecimal_59 : decode c_R_takeDecimal 59 = .ok (.iconst 0, 1) := by decide +kernel
theorem d_R_takeDecimal_60 : decode c_R_takeDecimal 60 = .ok (.ireturn, 1) := by decide +kernel
theorem d_R_takeDecimal_61 : decode c_R_takeDecimal 61 = .ok (.aload_n 0, 1) := by decide +kernel
theorem d_R_takeDecimal_62 : decode c_R_takeDecimal 62 = .ok (.aload_n 0, 1) := by decide +kernel
theorem d_R_takeDecimal_63 : decode c_R_takeDecimal 63 = .ok (.getfield 17, 3) := by decide +kernel
theorem d_R_takeDecimal_66 : decode c_R_takeDecimal 66 = .ok (.invokevirtual 42, 3) := by decide +kernel
theorem d_R_takeDecimal_69 : decode c_R_takeDecimal 69 = .ok (.bipush 101, 2) := by decide +kernel
theorem d_R_takeDecimal_71 : decode c_R_takeDecimal 71 = .ok (.if_icmp .eq 16, 3) := by decide +kernel
theorem d_R_takeDecimal_74 : decode c_R_takeDecimal 74 = .ok (.aload_n 0, 1) := by decide +kernel
theorem d_R_takeDecimal_75 : decode c_R_takeDecimal 75 = .ok (.aload_n 0, 1) := by decide +kernel
theorem d_R_takeDecimal_76 : decode c_R_takeDecimal 76 = .ok (.getfield 17, 3) := by decide +kernel
theorem d_R_takeDecimal_79 : decode c_R_takeDecimal 79 = .ok (.invokevirtual 42, 3) := by decide +kernel
theorem d_R_takeDecimal_82 : decode c_R_takeDecimal 82 = .ok (.bipush 69, 2) := by decide +kernel
theorem d_R_takeDecimal_84 : decode c_R_takeDecimal 84 = .ok (.if_icmp .ne 22, 3) := by decide +kernel
theorem d_R_takeDecimal_87 : decode c_R_takeDecimal 87 = .ok (.aload_n 0, 1) := by decide +kernel
theorem d_R_takeDecimal_88 : decode c_R_takeDecimal 88 = .ok (.dup, 1) := by decide +kernel
theorem d_R_takeDecimal_89 : decode c_R_takeDecimal 89 = .ok (.getfield 17, 3) := by decide +kernel
theorem d_R_takeDecimal_92 : decode c_R_takeDecimal 92 = .ok (.iconst 1, 1) := by decide +kernel
theorem d_R_takeDecimal_93 : decode c_R_takeDecimal 93 = .ok (.iadd, 1) := by decide +kernel
theorem d_R_takeDecimal_94 : decode c_R_takeDecimal 94 = .ok (.putfield 17, 3) := by decide +kernel
theorem d_R_takeDecimal_97 : decode c_R_takeDecimal 97 = .ok (.aload_n 0, 1) := by decide +kernel
theorem d_R_takeDecimal_98 : decode c_R_takeDecimal 98 = .ok (.invokevirtual 106, 3) := by decide +kernel
theorem d_R_takeDecimal_101 : decode c_R_takeDecimal 101 = .ok (.ifCond .ne 5, 3) := by decide +kernel
theorem d_R_takeDecimal_104 : decode c_R_takeDecimal 104 = .ok (.iconst 0, 1) := by decide +kernel
theorem d_R_takeDecimal_105 : decode c_R_takeDecimal 105 = .ok (.ireturn, 1) := by decide +kernel
theorem d_R_takeDecimal_106 : decode c_R_takeDecimal 106 = .ok (.aload_n 0, 1) := by decide +kernel
theorem d_R_takeDecimal_107 : decode c_R_takeDecimal 107 = .ok (.getfield 17, 3) := by decide +kernel
theorem d_R_takeDecimal_110 : decode c_R_takeDecimal 110 = .ok (.aload_n 0, 1) := by decide +kernel
theorem d_R_takeDecimal_111 : decode c_R_takeDecimal 111 = .ok (.getfield 20, 3) := by decide +kernel
theorem d_R_takeDecimal_114 : decode c_R_takeDecimal 114 = .ok (.if_icmp .lt 7, 3) := by decide +kernel
theorem d_R_takeDecimal_117 : decode c_R_takeDecimal 117 = .ok (.iconst 1, 1) := by decide +kernel
theorem d_R_takeDecimal_118 : decode c_R_takeDecimal 118 = .ok (.goto 4, 3) := by decide +kernel
theorem d_R_takeDecimal_121 : decode c_R_takeDecimal 121 = .ok (.iconst 0, 1) := by decide +kernel
theorem d_R_takeDecimal_122 : decode c_R_takeDecimal 122 = .ok (.ireturn, 1) := by decide +kernel
theorem zn_R_102 : zNV R_R 102 y_R_takeDigits c_R_takeDigits 3 (some .int) 1 := ⟨zco_R_takeDigits, zin_R, zml_R_102, zim_R_takeDigits, zse_R_R_takeDigits, by decide +kernel⟩
theorem zn_R_106 : zNV R_R 106 y_R_takeExponent c_R_takeExponent 4 (some .boolean) 0 := ⟨zco_R_takeExponent, zin_R, zml_R_106, zim_R_takeExponent, zse_R_R_takeExponent, by decide +kernel⟩
set_option maxHeartbeats 4000000 in
set_option maxRecDepth 100000 in
theorem k_R_takeDecimal (κ : zC) (X : zXT) (hX : zX κ X) (l : Launch) (a_t a_t_units a_t_numerator a_t_denominator a_t_numerator_limbs : Nat) (sz : Nat) (t_count : Int32) (t_at : Int32) (t_end : Int32) (t_counting : Int32) (t_power : Int32) (t_units : Nat → Int32) (t_numerator_used : Int32) (t_numerator_limbs : Nat → Int32) (out : Int32 × ((Int32) × (Int32) × (Int32) × (Int32) × (Nat → Int32))) (hf : f_R_takeDecimal t_count t_at t_end t_counting t_power t_units t_numerator_used t_numerator_limbs = some out) : zMet κ X l y_R_takeDecimal c_R_takeDecimal 2 (some .boolean) 4 91 [.ref a_t] sz [(a_t, .inr (4, [.ref a_t_units, .int t_count, .int t_at, .int t_end, .ref a_t_numerator, .ref a_t_denominator, .int t_counting, .int t_power])), (a_t_units, .inl (κ.2.1, 600, .inl t_units)), (a_t_numerator, .inr (2, [.ref a_t_numerator_limbs, .int t_numerator_used])), (a_t_numerator_limbs, .inl (κ.2.1, 48, .inl t_numerator_limbs))] (zQi κ (fun (r : Int32) (u : (Int32) × (Int32) × (Int32) × (Int32) × (Nat → Int32)) => (r, u) = out) (fun u => [(a_t, .inr (4, [.ref a_t_units, .int t_count, .int u.1, .int t_end, .ref a_t_numerator, .ref a_t_denominator, .int u.2.1, .int u.2.2.1])), (a_t_units, .inl (κ.2.1, 600, .inl t_units)), (a_t_numerator, .inr (2, [.ref a_t_numerator_limbs, .int u.2.2.2.1])), (a_t_numerator_limbs, .inl (κ.2.1, 48, .inl u.2.2.2.2))])) := by
  refine zMet.ofZ (by decide +kernel) (Nat.le_of_ble_eq_true rfl) ?_
  intro p e s m args below meth c ls A Q hF hK hP hD hA hXs hS hl hret
  obtain ⟨hx, hb, hml, hown, hts⟩ := id hF
  obtain ⟨H, hH⟩ : ∃ H, H = s.heap := ⟨_, rfl⟩
  obtain ⟨locs, hlo⟩ : ∃ z : List Loc, z = [] := ⟨_, rfl⟩
  replace hP : zP κ [(a_t, .inr (4, [.ref a_t_units, .int t_count, .int t_at, .int t_end, .ref a_t_numerator, .ref a_t_denominator, .int t_counting, .int t_power])), (a_t_units, .inl (κ.2.1, 600, .inl t_units)), (a_t_numerator, .inr (2, [.ref a_t_numerator_limbs, .int t_numerator_used])), (a_t_numerator_limbs, .inl (κ.2.1, 48, .inl t_numerator_limbs))] H := by rw [hH]; exact hP
  replace hS : va_S A s.heap H locs := by rw [hH, hlo]; exact hS
  suffices hgo : W p l e (zR 4 91) s m args below meth c H locs 0 0 Q (F0 m 0 ls []) by rw [hH, hlo] at hgo; exact hgo
  clear hH hlo
  replace hl : lv_has ls 2 [(0, .ref a_t)] := hl
  have b_106 : ∀ (t_at : Int32) (t_counting : Int32) (t_power : Int32) (t_numerator_used : Int32) (t_numerator_limbs : Nat → Int32) (H : Heap) (locs : List Loc) (ls : Array Slot), f_R_takeDecimal_106 t_count t_at t_end t_counting t_power t_units t_numerator_used t_numerator_limbs = some out → zP κ [(a_t, .inr (4, [.ref a_t_units, .int t_count, .int t_at, .int t_end, .ref a_t_numerator, .ref a_t_denominator, .int t_counting, .int t_power])), (a_t_units, .inl (κ.2.1, 600, .inl t_units)), (a_t_numerator, .inr (2, [.ref a_t_numerator_limbs, .int t_numerator_used])), (a_t_numerator_limbs, .inl (κ.2.1, 48, .inl t_numerator_limbs))] H → va_D A [(a_t, .inr (4, [.ref a_t_units, .int t_count, .int t_at, .int t_end, .ref a_t_numerator, .ref a_t_denominator, .int t_counting, .int t_power])), (a_t_units, .inl (κ.2.1, 600, .inl t_units)), (a_t_numerator, .inr (2, [.ref a_t_numerator_limbs, .int t_numerator_used])), (a_t_numerator_limbs, .inl (κ.2.1, 48, .inl t_numerator_limbs))] → va_S A s.heap H locs → lv_has ls 2 [(0, .ref a_t)] → W p l e (zR 4 91) s m args below meth c H locs 0 0 Q (F0 m 106 ls []) := by
    intro t_at t_counting t_power t_numerator_used t_numerator_limbs H locs ls hf hP hD hS hl
    unfold f_R_takeDecimal_106 at hf
    refine lv_aload_n hx hb d_R_takeDecimal_106 rfl (lv_at hl 0 rfl) ?_
    refine va_get (C := R_R) (T := F_R) (N := 8) hx hb hts i_R hown hK hP 0 rfl rfl 2 (by decide) (hts _ zfl_R_17) (fun _ h9 => h9) rfl d_R_takeDecimal_107 ?_
    refine lv_aload_n hx hb d_R_takeDecimal_110 rfl (lv_at hl 0 rfl) ?_
    refine va_get (C := R_R) (T := F_R) (N := 8) hx hb hts i_R hown hK hP 0 rfl rfl 3 (by decide) (hts _ zfl_R_20) (fun _ h9 => h9) rfl d_R_takeDecimal_111 ?_
    refine lv_icmp_lt (tgt := 121) hx hb d_R_takeDecimal_114 (by decide) (fun c_114 => ?_) (fun c_114 => ?_)
    · have hf := (zbr hf).1 c_114
      refine lv_iconst (v := 0) hx hb d_R_takeDecimal_121 (by decide) ?_
      exact hret ((0 : Int32)) ((t_at, t_counting, t_power, t_numerator_used, t_numerator_limbs)) H locs ls _ d_R_takeDecimal_122 hP hD hS (by decide) (Option.some.inj hf)
    · have hf := (zbr hf).2 c_114
      refine lv_iconst (v := 1) hx hb d_R_takeDecimal_117 (by decide) ?_
      refine lv_goto (tgt := 122) hx hb d_R_takeDecimal_118 (by decide) ?_
      exact hret ((1 : Int32)) ((t_at, t_counting, t_power, t_numerator_used, t_numerator_limbs)) H locs ls _ d_R_takeDecimal_122 hP hD hS (by decide) (Option.some.inj hf)
  have b_87 : ∀ (t_at : Int32) (t_counting : Int32) (t_power : Int32) (t_numerator_used : Int32) (t_numerator_limbs : Nat → Int32) (H : Heap) (locs : List Loc) (ls : Array Slot), f_R_takeDecimal_87 t_count t_at t_end t_counting t_power t_units t_numerator_used t_numerator_limbs = some out → zP κ [(a_t, .inr (4, [.ref a_t_units, .int t_count, .int t_at, .int t_end, .ref a_t_numerator, .ref a_t_denominator, .int t_counting, .int t_power])), (a_t_units, .inl (κ.2.1, 600, .inl t_units)), (a_t_numerator, .inr (2, [.ref a_t_numerator_limbs, .int t_numerator_used])), (a_t_numerator_limbs, .inl (κ.2.1, 48, .inl t_numerator_limbs))] H → va_D A [(a_t, .inr (4, [.ref a_t_units, .int t_count, .int t_at, .int t_end, .ref a_t_numerator, .ref a_t_denominator, .int t_counting, .int t_power])), (a_t_units, .inl (κ.2.1, 600, .inl t_units)), (a_t_numerator, .inr (2, [.ref a_t_numerator_limbs, .int t_numerator_used])), (a_t_numerator_limbs, .inl (κ.2.1, 48, .inl t_numerator_limbs))] → va_S A s.heap H locs → lv_has ls 2 [(0, .ref a_t)] → W p l e (zR 4 91) s m args below meth c H locs 0 0 Q (F0 m 87 ls []) := by
    intro t_at t_counting t_power t_numerator_used t_numerator_limbs H locs ls hf hP hD hS hl
    unfold f_R_takeDecimal_87 at hf
    refine lv_aload_n hx hb d_R_takeDecimal_87 rfl (lv_at hl 0 rfl) ?_
    refine lv_dup hx hb d_R_takeDecimal_88 rfl ?_
    refine va_get (C := R_R) (T := F_R) (N := 8) hx hb hts i_R hown hK hP 0 rfl rfl 2 (by decide) (hts _ zfl_R_17) (fun _ h9 => h9) rfl d_R_takeDecimal_89 ?_
    refine lv_iconst (v := 1) hx hb d_R_takeDecimal_92 (by decide) ?_
    refine lv_iadd hx hb d_R_takeDecimal_93 ?_
    refine va_put (C := R_R) (T := F_R) (N := 8) hx hb hts i_R ty_R ty_R_ok n_R hown hK hP hD hS 0 rfl rfl 2 (by decide) (hts _ zfl_R_17) (fun _ h9 => h9) rfl (ty_R_ok 2 (by decide)) rfl rfl (Nat.le_of_ble_eq_true rfl) d_R_takeDecimal_94 (fun H locs hP hD hS => ?_)
    have hP : zP κ [(a_t, .inr (4, [.ref a_t_units, .int t_count, .int (t_at + 1), .int t_end, .ref a_t_numerator, .ref a_t_denominator, .int t_counting, .int t_power])), (a_t_units, .inl (κ.2.1, 600, .inl t_units)), (a_t_numerator, .inr (2, [.ref a_t_numerator_limbs, .int t_numerator_used])), (a_t_numerator_limbs, .inl (κ.2.1, 48, .inl t_numerator_limbs))] H := hP
    have hD : va_D A [(a_t, .inr (4, [.ref a_t_units, .int t_count, .int (t_at + 1), .int t_end, .ref a_t_numerator, .ref a_t_denominator, .int t_counting, .int t_power])), (a_t_units, .inl (κ.2.1, 600, .inl t_units)), (a_t_numerator, .inr (2, [.ref a_t_numerator_limbs, .int t_numerator_used])), (a_t_numerator_limbs, .inl (κ.2.1, 48, .inl t_numerator_limbs))] := hD
    refine lv_aload_n hx hb d_R_takeDecimal_97 rfl (lv_at hl 0 rfl) ?_
    obtain ⟨o_98, ho_98, hf⟩ := zbd hf
    refine zVi (isC := [0, 1]) (isR := [2, 3]) (isN := [2, 3, 0, 1]) (wc := [(a_t, .inr (4, [.ref a_t_units, .int t_count, .int (t_at + 1), .int t_end, .ref a_t_numerator, .ref a_t_denominator, .int t_counting, .int t_power])), (a_t_units, .inl (κ.2.1, 600, .inl t_units))]) (wr := [(a_t_numerator, .inr (2, [.ref a_t_numerator_limbs, .int t_numerator_used])), (a_t_numerator_limbs, .inl (κ.2.1, 48, .inl t_numerator_limbs))]) (wn := fun u => [(a_t, .inr (4, [.ref a_t_units, .int t_count, .int u.1, .int t_end, .ref a_t_numerator, .ref a_t_denominator, .int t_counting, .int u.2])), (a_t_units, .inl (κ.2.1, 600, .inl t_units)), (a_t_numerator, .inr (2, [.ref a_t_numerator_limbs, .int t_numerator_used])), (a_t_numerator_limbs, .inl (κ.2.1, 48, .inl t_numerator_limbs))]) (rest := []) (As := []) hF zn_R_106 (k_R_takeExponent κ X hX l a_t a_t_units a_t_numerator a_t_denominator H.size t_count (t_at + 1) t_end t_counting t_power t_units o_98 ho_98) hX hXs hK hA hP hD hS ⟨by decide, by decide⟩ ⟨rfl, rfl, rfl, rfl, rfl, by decide⟩ ⟨rfl, fun _ => rfl, fun _ => rfl⟩ (ci := 4) rfl rfl rfl rfl hl.1 rfl (Nat.le_of_ble_eq_true rfl) ⟨Nat.zero_le _, Nat.zero_le _⟩ d_R_takeDecimal_98 (fun r_98 u H locs hw hP hD hS => ?_)
    obtain ⟨u98_t_at, u98_t_power⟩ := u
    have hP : zP κ [(a_t, .inr (4, [.ref a_t_units, .int t_count, .int u98_t_at, .int t_end, .ref a_t_numerator, .ref a_t_denominator, .int t_counting, .int u98_t_power])), (a_t_units, .inl (κ.2.1, 600, .inl t_units)), (a_t_numerator, .inr (2, [.ref a_t_numerator_limbs, .int t_numerator_used])), (a_t_numerator_limbs, .inl (κ.2.1, 48, .inl t_numerator_limbs))] H := hP
    have hD : va_D A [(a_t, .inr (4, [.ref a_t_units, .int t_count, .int u98_t_at, .int t_end, .ref a_t_numerator, .ref a_t_denominator, .int t_counting, .int u98_t_power])), (a_t_units, .inl (κ.2.1, 600, .inl t_units)), (a_t_numerator, .inr (2, [.ref a_t_numerator_limbs, .int t_numerator_used])), (a_t_numerator_limbs, .inl (κ.2.1, 48, .inl t_numerator_limbs))] := hD
    subst hw
    dsimp only at hf
    refine lv_if_ne (tgt := 106) hx hb d_R_takeDecimal_101 (by decide) (fun c_101 => ?_) (fun c_101 => ?_)
    · have hf := (zbr hf).2 c_101
      exact b_106 u98_t_at t_counting u98_t_power t_numerator_used t_numerator_limbs H locs ls hf hP hD hS hl
    · have hf := (zbr hf).1 c_101
      refine lv_iconst (v := 0) hx hb d_R_takeDecimal_104 (by decide) ?_
      exact hret ((0 : Int32)) ((u98_t_at, t_counting, u98_t_power, t_numerator_used, t_numerator_limbs)) H locs ls _ d_R_takeDecimal_105 hP hD hS (by decide) (Option.some.inj hf)
  have b_55 : ∀ (t_at : Int32) (t_counting : Int32) (t_power : Int32) (t_numerator_used : Int32) (t_numerator_limbs : Nat → Int32) (x1 : Int32) (H : Heap) (locs : List Loc) (ls : Array Slot), f_R_takeDecimal_55 t_count t_at t_end t_counting t_power t_units t_numerator_used t_numerator_limbs x1 = some out → zP κ [(a_t, .inr (4, [.ref a_t_units, .int t_count, .int t_at, .int t_end, .ref a_t_numerator, .ref a_t_denominator, .int t_counting, .int t_power])), (a_t_units, .inl (κ.2.1, 600, .inl t_units)), (a_t_numerator, .inr (2, [.ref a_t_numerator_limbs, .int t_numerator_used])), (a_t_numerator_limbs, .inl (κ.2.1, 48, .inl t_numerator_limbs))] H → va_D A [(a_t, .inr (4, [.ref a_t_units, .int t_count, .int t_at, .int t_end, .ref a_t_numerator, .ref a_t_denominator, .int t_counting, .int t_power])), (a_t_units, .inl (κ.2.1, 600, .inl t_units)), (a_t_numerator, .inr (2, [.ref a_t_numerator_limbs, .int t_numerator_used])), (a_t_numerator_limbs, .inl (κ.2.1, 48, .inl t_numerator_limbs))] → va_S A s.heap H locs → lv_has ls 2 [(0, .ref a_t), (1, .int x1)] → W p l e (zR 4 91) s m args below meth c H locs 0 0 Q (F0 m 55 ls []) := by
    intro t_at t_counting t_power t_numerator_used t_numerator_limbs x1 H locs ls hf hP hD hS hl
    unfold f_R_takeDecimal_55 at hf
    refine lv_iload_n hx hb d_R_takeDecimal_55 rfl (lv_at hl 1 rfl) ?_
    refine lv_if_ne (tgt := 61) hx hb d_R_takeDecimal_56 (by decide) (fun c_56 => ?_) (fun c_56 => ?_)
    · have hf := (zbr hf).2 c_56
      refine lv_aload_n hx hb d_R_takeDecimal_61 rfl (lv_at hl 0 rfl) ?_
      refine lv_aload_n hx hb d_R_takeDecimal_62 rfl (lv_at hl 0 rfl) ?_
      refine va_get (C := R_R) (T := F_R) (N := 8) hx hb hts i_R hown hK hP 0 rfl rfl 2 (by decide) (hts _ zfl_R_17) (fun _ h9 => h9) rfl d_R_takeDecimal_63 ?_
      obtain ⟨o_66, ho_66, hf⟩ := zbd hf
      refine zVi (isC := [0, 1]) (isR := [2, 3]) (isN := [2, 3, 0, 1]) (wc := [(a_t, .inr (4, [.ref a_t_units, .int t_count, .int t_at, .int t_end, .ref a_t_numerator, .ref a_t_denominator, .int t_counting, .int t_power])), (a_t_units, .inl (κ.2.1, 600, .inl t_units))]) (wr := [(a_t_numerator, .inr (2, [.ref a_t_numerator_limbs, .int t_numerator_used])), (a_t_numerator_limbs, .inl (κ.2.1, 48, .inl t_numerator_limbs))]) (wn := fun u => [(a_t, .inr (4, [.ref a_t_units, .int t_count, .int t_at, .int t_end, .ref a_t_numerator, .ref a_t_denominator, .int t_counting, .int t_power])), (a_t_units, .inl (κ.2.1, 600, .inl t_units)), (a_t_numerator, .inr (2, [.ref a_t_numerator_limbs, .int t_numerator_used])), (a_t_numerator_limbs, .inl (κ.2.1, 48, .inl t_numerator_limbs))]) (rest := []) (As := [.int t_at]) hF zn_R_42 (k_R_unitAt κ X hX l a_t a_t_units a_t_numerator a_t_denominator H.size t_count t_at t_end t_counting t_power t_units t_at o_66 ho_66) hX hXs hK hA hP hD hS ⟨by decide, by decide⟩ ⟨rfl, rfl, rfl, rfl, rfl, by decide⟩ ⟨rfl, fun _ => rfl, fun _ => rfl⟩ (ci := 4) rfl rfl rfl rfl hl.1 rfl (Nat.le_of_ble_eq_true rfl) ⟨Nat.zero_le _, Nat.zero_le _⟩ d_R_takeDecimal_66 (fun r_66 u H locs hw hP hD hS => ?_)
      subst hw
      refine lv_bipush (v := 101) hx hb d_R_takeDecimal_69 (by decide) ?_
      refine lv_icmp_eq (tgt := 87) hx hb d_R_takeDecimal_71 (by decide) (fun c_71 => ?_) (fun c_71 => ?_)
      · have hf := (zbr hf).1 c_71
        exact b_87 t_at t_counting t_power t_numerator_used t_numerator_limbs H locs ls hf hP hD hS (lv_sub hl [0] rfl)
      · have hf := (zbr hf).2 c_71
        refine lv_aload_n hx hb d_R_takeDecimal_74 rfl (lv_at hl 0 rfl) ?_
        refine lv_aload_n hx hb d_R_takeDecimal_75 rfl (lv_at hl 0 rfl) ?_
        refine va_get (C := R_R) (T := F_R) (N := 8) hx hb hts i_R hown hK hP 0 rfl rfl 2 (by decide) (hts _ zfl_R_17) (fun _ h9 => h9) rfl d_R_takeDecimal_76 ?_
        obtain ⟨o_79, ho_79, hf⟩ := zbd hf
        refine zVi (isC := [0, 1]) (isR := [2, 3]) (isN := [2, 3, 0, 1]) (wc := [(a_t, .inr (4, [.ref a_t_units, .int t_count, .int t_at, .int t_end, .ref a_t_numerator, .ref a_t_denominator, .int t_counting, .int t_power])), (a_t_units, .inl (κ.2.1, 600, .inl t_units))]) (wr := [(a_t_numerator, .inr (2, [.ref a_t_numerator_limbs, .int t_numerator_used])), (a_t_numerator_limbs, .inl (κ.2.1, 48, .inl t_numerator_limbs))]) (wn := fun u => [(a_t, .inr (4, [.ref a_t_units, .int t_count, .int t_at, .int t_end, .ref a_t_numerator, .ref a_t_denominator, .int t_counting, .int t_power])), (a_t_units, .inl (κ.2.1, 600, .inl t_units)), (a_t_numerator, .inr (2, [.ref a_t_numerator_limbs, .int t_numerator_used])), (a_t_numerator_limbs, .inl (κ.2.1, 48, .inl t_numerator_limbs))]) (rest := []) (As := [.int t_at]) hF zn_R_42 (k_R_unitAt κ X hX l a_t a_t_units a_t_numerator a_t_denominator H.size t_count t_at t_end t_counting t_power t_units t_at o_79 ho_79) hX hXs hK hA hP hD hS ⟨by decide, by decide⟩ ⟨rfl, rfl, rfl, rfl, rfl, by decide⟩ ⟨rfl, fun _ => rfl, fun _ => rfl⟩ (ci := 4) rfl rfl rfl rfl hl.1 rfl (Nat.le_of_ble_eq_true rfl) ⟨Nat.zero_le _, Nat.zero_le _⟩ d_R_takeDecimal_79 (fun r_79 u H locs hw hP hD hS => ?_)
        subst hw
        refine lv_bipush (v := 69) hx hb d_R_takeDecimal_82 (by decide) ?_
        refine lv_icmp_ne (tgt := 106) hx hb d_R_takeDecimal_84 (by decide) (fun c_84 => ?_) (fun c_84 => ?_)
        · have hf := (zbr hf).2 c_84
          exact b_106 t_at t_counting t_power t_numerator_used t_numerator_limbs H locs ls hf hP hD hS (lv_sub hl [0] rfl)
        · have hf := (zbr hf).1 c_84
          exact b_87 t_at t_counting t_power t_numerator_used t_numerator_limbs H locs ls hf hP hD hS (lv_sub hl [0] rfl)
    · have hf := (zbr hf).1 c_56
      refine lv_iconst (v := 0) hx hb d_R_takeDecimal_59 (by decide) ?_
      exact hret ((0 : Int32)) ((t_at, t_counting, t_power, t_numerator_used, t_numerator_limbs)) H locs ls _ d_R_takeDecimal_60 hP hD hS (by decide) (Option.some.inj hf)
  unfold f_R_takeDecimal at hf
  refine lv_aload_n hx hb d_R_takeDecimal_0 rfl (lv_at hl 0 rfl) ?_
  refine va_get (C := R_R) (T := F_R) (N := 8) hx hb hts i_R hown hK hP 0 rfl rfl 4 (by decide) (hts _ zfl_R_26) (fun _ h9 => h9) rfl d_R_takeDecimal_1 ?_
  refine lv_lconst (v := 0) hx hb d_R_takeDecimal_4 (by decide) ?_
  obtain ⟨o_5, ho_5, hf⟩ := zbd hf
  refine zVv (isC := [2, 3]) (isR := [0, 1]) (isN := [0, 1, 2, 3]) (wc := [(a_t_numerator, .inr (2, [.ref a_t_numerator_limbs, .int t_numerator_used])), (a_t_numerator_limbs, .inl (κ.2.1, 48, .inl t_numerator_limbs))]) (wr := [(a_t, .inr (4, [.ref a_t_units, .int t_count, .int t_at, .int t_end, .ref a_t_numerator, .ref a_t_denominator, .int t_counting, .int t_power])), (a_t_units, .inl (κ.2.1, 600, .inl t_units))]) (wn := fun u => [(a_t, .inr (4, [.ref a_t_units, .int t_count, .int t_at, .int t_end, .ref a_t_numerator, .ref a_t_denominator, .int t_counting, .int t_power])), (a_t_units, .inl (κ.2.1, 600, .inl t_units)), (a_t_numerator, .inr (2, [.ref a_t_numerator_limbs, .int u.1])), (a_t_numerator_limbs, .inl (κ.2.1, 48, .inl u.2))]) (rest := []) (As := [.long 0]) hF zn_R_98 (k_N_set κ X hX l a_t_numerator a_t_numerator_limbs H.size t_numerator_used t_numerator_limbs 0 o_5 ho_5) hX hXs hK hA hP hD hS ⟨by decide, by decide⟩ ⟨rfl, rfl, rfl, rfl, rfl, by decide⟩ ⟨rfl, fun _ => rfl, fun _ => rfl⟩ (ci := 2) rfl rfl rfl rfl hl.1 rfl (Nat.le_of_ble_eq_true rfl) ⟨Nat.zero_le _, Nat.zero_le _⟩ d_R_takeDecimal_5 (fun u H locs hw hP hD hS => ?_)
  obtain ⟨u5_t_numerator_used, u5_t_numerator_limbs⟩ := u
  have hP : zP κ [(a_t, .inr (4, [.ref a_t_units, .int t_count, .int t_at, .int t_end, .ref a_t_numerator, .ref a_t_denominator, .int t_counting, .int t_power])), (a_t_units, .inl (κ.2.1, 600, .inl t_units)), (a_t_numerator, .inr (2, [.ref a_t_numerator_limbs, .int u5_t_numerator_used])), (a_t_numerator_limbs, .inl (κ.2.1, 48, .inl u5_t_numerator_limbs))] H := hP
  have hD : va_D A [(a_t, .inr (4, [.ref a_t_units, .int t_count, .int t_at, .int t_end, .ref a_t_numerator, .ref a_t_denominator, .int t_counting, .int t_power])), (a_t_units, .inl (κ.2.1, 600, .inl t_units)), (a_t_numerator, .inr (2, [.ref a_t_numerator_limbs, .int u5_t_numerator_used])), (a_t_numerator_limbs, .inl (κ.2.1, 48, .inl u5_t_numerator_limbs))] := hD
  subst hw
  dsimp only at hf
  refine lv_aload_n hx hb d_R_takeDecimal_8 rfl (lv_at hl 0 rfl) ?_
  refine lv_iconst (v := 0) hx hb d_R_takeDecimal_9 (by decide) ?_
  refine va_put (C := R_R) (T := F_R) (N := 8) hx hb hts i_R ty_R ty_R_ok n_R hown hK hP hD hS 0 rfl rfl 6 (by decide) (hts _ zfl_R_33) (fun _ h9 => h9) rfl (ty_R_ok 6 (by decide)) rfl rfl (Nat.le_of_ble_eq_true rfl) d_R_takeDecimal_10 (fun H locs hP hD hS => ?_)
  have hP : zP κ [(a_t, .inr (4, [.ref a_t_units, .int t_count, .int t_at, .int t_end, .ref a_t_numerator, .ref a_t_denominator, .int 0, .int t_power])), (a_t_units, .inl (κ.2.1, 600, .inl t_units)), (a_t_numerator, .inr (2, [.ref a_t_numerator_limbs, .int u5_t_numerator_used])), (a_t_numerator_limbs, .inl (κ.2.1, 48, .inl u5_t_numerator_limbs))] H := hP
  have hD : va_D A [(a_t, .inr (4, [.ref a_t_units, .int t_count, .int t_at, .int t_end, .ref a_t_numerator, .ref a_t_denominator, .int 0, .int t_power])), (a_t_units, .inl (κ.2.1, 600, .inl t_units)), (a_t_numerator, .inr (2, [.ref a_t_numerator_limbs, .int u5_t_numerator_used])), (a_t_numerator_limbs, .inl (κ.2.1, 48, .inl u5_t_numerator_limbs))] := hD
  refine lv_aload_n hx hb d_R_takeDecimal_13 rfl (lv_at hl 0 rfl) ?_
  refine lv_iconst (v := 0) hx hb d_R_takeDecimal_14 (by decide) ?_
  refine va_put (C := R_R) (T := F_R) (N := 8) hx hb hts i_R ty_R ty_R_ok n_R hown hK hP hD hS 0 rfl rfl 7 (by decide) (hts _ zfl_R_36) (fun _ h9 => h9) rfl (ty_R_ok 7 (by decide)) rfl rfl (Nat.le_of_ble_eq_true rfl) d_R_takeDecimal_15 (fun H locs hP hD hS => ?_)
  have hP : zP κ [(a_t, .inr (4, [.ref a_t_units, .int t_count, .int t_at, .int t_end, .ref a_t_numerator, .ref a_t_denominator, .int 0, .int 0])), (a_t_units, .inl (κ.2.1, 600, .inl t_units)), (a_t_numerator, .inr (2, [.ref a_t_numerator_limbs, .int u5_t_numerator_used])), (a_t_numerator_limbs, .inl (κ.2.1, 48, .inl u5_t_numerator_limbs))] H := hP
  have hD : va_D A [(a_t, .inr (4, [.ref a_t_units, .int t_count, .int t_at, .int t_end, .ref a_t_numerator, .ref a_t_denominator, .int 0, .int 0])), (a_t_units, .inl (κ.2.1, 600, .inl t_units)), (a_t_numerator, .inr (2, [.ref a_t_numerator_limbs, .int u5_t_numerator_used])), (a_t_numerator_limbs, .inl (κ.2.1, 48, .inl u5_t_numerator_limbs))] := hD
  refine lv_aload_n hx hb d_R_takeDecimal_18 rfl (lv_at hl 0 rfl) ?_
  refine lv_iconst (v := 0) hx hb d_R_takeDecimal_19 (by decide) ?_
  obtain ⟨o_20, ho_20, hf⟩ := zbd hf
  refine zVi (isC := [0, 1, 2, 3]) (isR := []) (isN := [0, 1, 2, 3]) (wc := [(a_t, .inr (4, [.ref a_t_units, .int t_count, .int t_at, .int t_end, .ref a_t_numerator, .ref a_t_denominator, .int 0, .int 0])), (a_t_units, .inl (κ.2.1, 600, .inl t_units)), (a_t_numerator, .inr (2, [.ref a_t_numerator_limbs, .int u5_t_numerator_used])), (a_t_numerator_limbs, .inl (κ.2.1, 48, .inl u5_t_numerator_limbs))]) (wr := []) (wn := fun u => [(a_t, .inr (4, [.ref a_t_units, .int t_count, .int u.1, .int t_end, .ref a_t_numerator, .ref a_t_denominator, .int u.2.1, .int u.2.2.1])), (a_t_units, .inl (κ.2.1, 600, .inl t_units)), (a_t_numerator, .inr (2, [.ref a_t_numerator_limbs, .int u.2.2.2.1])), (a_t_numerator_limbs, .inl (κ.2.1, 48, .inl u.2.2.2.2))]) (rest := []) (As := [.int 0]) hF zn_R_102 (k_R_takeDigits κ X hX l a_t a_t_units a_t_numerator a_t_denominator a_t_numerator_limbs H.size t_count t_at t_end 0 0 t_units u5_t_numerator_used u5_t_numerator_limbs 0 o_20 ho_20) hX hXs hK hA hP hD hS ⟨by decide, by decide⟩ ⟨rfl, rfl, rfl, rfl, rfl, by decide⟩ ⟨rfl, fun _ => rfl, fun _ => rfl⟩ (ci := 4) rfl rfl rfl rfl hl.1 rfl (Nat.le_of_ble_eq_true rfl) ⟨Nat.zero_le _, Nat.zero_le _⟩ d_R_takeDecimal_20 (fun r_20 u H locs hw hP hD hS => ?_)
  obtain ⟨u20_t_at, u20_t_counting, u20_t_power, u20_t_numerator_used, u20_t_numerator_limbs⟩ := u
  have hP : zP κ [(a_t, .inr (4, [.ref a_t_units, .int t_count, .int u20_t_at, .int t_end, .ref a_t_numerator, .ref a_t_denominator, .int u20_t_counting, .int u20_t_power])), (a_t_units, .inl (κ.2.1, 600, .inl t_units)), (a_t_numerator, .inr (2, [.ref a_t_numerator_limbs, .int u20_t_numerator_used])), (a_t_numerator_limbs, .inl (κ.2.1, 48, .inl u20_t_numerator_limbs))] H := hP
  have hD : va_D A [(a_t, .inr (4, [.ref a_t_units, .int t_count, .int u20_t_at, .int t_end, .ref a_t_numerator, .ref a_t_denominator, .int u20_t_counting, .int u20_t_power])), (a_t_units, .inl (κ.2.1, 600, .inl t_units)), (a_t_numerator, .inr (2, [.ref a_t_numerator_limbs, .int u20_t_numerator_used])), (a_t_numerator_limbs, .inl (κ.2.1, 48, .inl u20_t_numerator_limbs))] := hD
  subst hw
  dsimp only at hf
  refine lv_istore_n (lv' := [(1, .int r_20), (0, .ref a_t)]) hx hb d_R_takeDecimal_23 rfl hl (by decide) rfl (fun ls hl => ?_)
  refine lv_aload_n hx hb d_R_takeDecimal_24 rfl (lv_at hl 1 rfl) ?_
  refine lv_aload_n hx hb d_R_takeDecimal_25 rfl (lv_at hl 1 rfl) ?_
  refine va_get (C := R_R) (T := F_R) (N := 8) hx hb hts i_R hown hK hP 0 rfl rfl 2 (by decide) (hts _ zfl_R_17) (fun _ h9 => h9) rfl d_R_takeDecimal_26 ?_
  obtain ⟨o_29, ho_29, hf⟩ := zbd hf
  refine zVi (isC := [0, 1]) (isR := [2, 3]) (isN := [2, 3, 0, 1]) (wc := [(a_t, .inr (4, [.ref a_t_units, .int t_count, .int u20_t_at, .int t_end, .ref a_t_numerator, .ref a_t_denominator, .int u20_t_counting, .int u20_t_power])), (a_t_units, .inl (κ.2.1, 600, .inl t_units))]) (wr := [(a_t_numerator, .inr (2, [.ref a_t_numerator_limbs, .int u20_t_numerator_used])), (a_t_numerator_limbs, .inl (κ.2.1, 48, .inl u20_t_numerator_limbs))]) (wn := fun u => [(a_t, .inr (4, [.ref a_t_units, .int t_count, .int u20_t_at, .int t_end, .ref a_t_numerator, .ref a_t_denominator, .int u20_t_counting, .int u20_t_power])), (a_t_units, .inl (κ.2.1, 600, .inl t_units)), (a_t_numerator, .inr (2, [.ref a_t_numerator_limbs, .int u20_t_numerator_used])), (a_t_numerator_limbs, .inl (κ.2.1, 48, .inl u20_t_numerator_limbs))]) (rest := []) (As := [.int u20_t_at]) hF zn_R_42 (k_R_unitAt κ X hX l a_t a_t_units a_t_numerator a_t_denominator H.size t_count u20_t_at t_end u20_t_counting u20_t_power t_units u20_t_at o_29 ho_29) hX hXs hK hA hP hD hS ⟨by decide, by decide⟩ ⟨rfl, rfl, rfl, rfl, rfl, by decide⟩ ⟨rfl, fun _ => rfl, fun _ => rfl⟩ (ci := 4) rfl rfl rfl rfl hl.1 rfl (Nat.le_of_ble_eq_true rfl) ⟨Nat.zero_le _, Nat.zero_le _⟩ d_R_takeDecimal_29 (fun r_29 u H locs hw hP hD hS => ?_)
  subst hw
  refine lv_bipush (v := 46) hx hb d_R_takeDecimal_32 (by decide) ?_
  refine lv_icmp_ne (tgt := 55) hx hb d_R_takeDecimal_34 (by decide) (fun c_34 => ?_) (fun c_34 => ?_)
  · have hf := (zbr hf).2 c_34
    exact b_55 u20_t_at u20_t_counting u20_t_power u20_t_numerator_used u20_t_numerator_limbs r_20 H locs ls hf hP hD hS (lv_sub hl [1, 0] rfl)
  · have hf := (zbr hf).1 c_34
    refine lv_aload_n hx hb d_R_takeDecimal_37 rfl (lv_at hl 1 rfl) ?_
    refine lv_dup hx hb d_R_takeDecimal_38 rfl ?_
    refine va_get (C := R_R) (T := F_R) (N := 8) hx hb hts i_R hown hK hP 0 rfl rfl 2 (by decide) (hts _ zfl_R_17) (fun _ h9 => h9) rfl d_R_takeDecimal_39 ?_
    refine lv_iconst (v := 1) hx hb d_R_takeDecimal_42 (by decide) ?_
    refine lv_iadd hx hb d_R_takeDecimal_43 ?_
    refine va_put (C := R_R) (T := F_R) (N := 8) hx hb hts i_R ty_R ty_R_ok n_R hown hK hP hD hS 0 rfl rfl 2 (by decide) (hts _ zfl_R_17) (fun _ h9 => h9) rfl (ty_R_ok 2 (by decide)) rfl rfl (Nat.le_of_ble_eq_true rfl) d_R_takeDecimal_44 (fun H locs hP hD hS => ?_)
    have hP : zP κ [(a_t, .inr (4, [.ref a_t_units, .int t_count, .int (u20_t_at + 1), .int t_end, .ref a_t_numerator, .ref a_t_denominator, .int u20_t_counting, .int u20_t_power])), (a_t_units, .inl (κ.2.1, 600, .inl t_units)), (a_t_numerator, .inr (2, [.ref a_t_numerator_limbs, .int u20_t_numerator_used])), (a_t_numerator_limbs, .inl (κ.2.1, 48, .inl u20_t_numerator_limbs))] H := hP
    have hD : va_D A [(a_t, .inr (4, [.ref a_t_units, .int t_count, .int (u20_t_at + 1), .int t_end, .ref a_t_numerator, .ref a_t_denominator, .int u20_t_counting, .int u20_t_power])), (a_t_units, .inl (κ.2.1, 600, .inl t_units)), (a_t_numerator, .inr (2, [.ref a_t_numerator_limbs, .int u20_t_numerator_used])), (a_t_numerator_limbs, .inl (κ.2.1, 48, .inl u20_t_numerator_limbs))] := hD
    refine lv_iload_n hx hb d_R_takeDecimal_47 rfl (lv_at hl 0 rfl) ?_
    refine lv_aload_n hx hb d_R_takeDecimal_48 rfl (lv_at hl 1 rfl) ?_
    refine lv_iconst (v := 1) hx hb d_R_takeDecimal_49 (by decide) ?_
    obtain ⟨o_50, ho_50, hf⟩ := zbd hf
    refine zVi (isC := [0, 1, 2, 3]) (isR := []) (isN := [0, 1, 2, 3]) (wc := [(a_t, .inr (4, [.ref a_t_units, .int t_count, .int (u20_t_at + 1), .int t_end, .ref a_t_numerator, .ref a_t_denominator, .int u20_t_counting, .int u20_t_power])), (a_t_units, .inl (κ.2.1, 600, .inl t_units)), (a_t_numerator, .inr (2, [.ref a_t_numerator_limbs, .int u20_t_numerator_used])), (a_t_numerator_limbs, .inl (κ.2.1, 48, .inl u20_t_numerator_limbs))]) (wr := []) (wn := fun u => [(a_t, .inr (4, [.ref a_t_units, .int t_count, .int u.1, .int t_end, .ref a_t_numerator, .ref a_t_denominator, .int u.2.1, .int u.2.2.1])), (a_t_units, .inl (κ.2.1, 600, .inl t_units)), (a_t_numerator, .inr (2, [.ref a_t_numerator_limbs, .int u.2.2.2.1])), (a_t_numerator_limbs, .inl (κ.2.1, 48, .inl u.2.2.2.2))]) (rest := [.int r_20]) (As := [.int 1]) hF zn_R_102 (k_R_takeDigits κ X hX l a_t a_t_units a_t_numerator a_t_denominator a_t_numerator_limbs H.size t_count (u20_t_at + 1) t_end u20_t_counting u20_t_power t_units u20_t_numerator_used u20_t_numerator_limbs 1 o_50 ho_50) hX hXs hK hA hP hD hS ⟨by decide, by decide⟩ ⟨rfl, rfl, rfl, rfl, rfl, by decide⟩ ⟨rfl, fun _ => rfl, fun _ => rfl⟩ (ci := 4) rfl rfl rfl rfl hl.1 rfl (Nat.le_of_ble_eq_true rfl) ⟨Nat.zero_le _, Nat.zero_le _⟩ d_R_takeDecimal_50 (fun r_50 u H locs hw hP hD hS => ?_)
    obtain ⟨u50_t_at, u50_t_counting, u50_t_power, u50_t_numerator_used, u50_t_numerator_limbs⟩ := u
    have hP : zP κ [(a_t, .inr (4, [.ref a_t_units, .int t_count, .int u50_t_at, .int t_end, .ref a_t_numerator, .ref a_t_denominator, .int u50_t_counting, .int u50_t_power])), (a_t_units, .inl (κ.2.1, 600, .inl t_units)), (a_t_numerator, .inr (2, [.ref a_t_numerator_limbs, .int u50_t_numerator_used])), (a_t_numerator_limbs, .inl (κ.2.1, 48, .inl u50_t_numerator_limbs))] H := hP
    have hD : va_D A [(a_t, .inr (4, [.ref a_t_units, .int t_count, .int u50_t_at, .int t_end, .ref a_t_numerator, .ref a_t_denominator, .int u50_t_counting, .int u50_t_power])), (a_t_units, .inl (κ.2.1, 600, .inl t_units)), (a_t_numerator, .inr (2, [.ref a_t_numerator_limbs, .int u50_t_numerator_used])), (a_t_numerator_limbs, .inl (κ.2.1, 48, .inl u50_t_numerator_limbs))] := hD
    subst hw
    dsimp only at hf
    refine lv_iadd hx hb d_R_takeDecimal_53 ?_
    refine lv_istore_n (lv' := [(1, .int (r_20 + r_50)), (0, .ref a_t)]) hx hb d_R_takeDecimal_54 rfl hl (by decide) rfl (fun ls hl => ?_)
    exact b_55 u50_t_at u50_t_counting u50_t_power u50_t_numerator_used u50_t_numerator_limbs (r_20 + r_50) H locs ls hf hP hD hS (lv_sub hl [1, 0] rfl)
theorem d_R_numberOfText_0 : decode c_R_numberOfText 0 = .ok (.aload_n 0, 1) := by decide +kernel
theorem d_R_numberOfText_1 : decode c_R_numberOfText 1 = .ok (.invokevirtual 39, 3) := by decide +kernel
theorem d_R_numberOfText_4 : decode c_R_numberOfText 4 = .ok (.aload_n 0, 1) := by decide +kernel
theorem d_R_numberOfText_5 : decode c_R_numberOfText 5 = .ok (.getfield 17, 3) := by decide +kernel
theorem d_R_numberOfText_8 : decode c_R_numberOfText 8 = .ok (.aload_n 0, 1) := by decide +kernel
theorem d_R_numberOfText_9 : decode c_R_numberOfText 9 = .ok (.getfield 20, 3) := by decide +kernel
theorem d_R_numberOfText_12 : decode c_R_numberOfText 12 = .ok (.if_icmp .lt 5, 3) := by decide +kernel
theorem d_R_numberOfText_15 : decode c_R_numberOfText 15 = .ok (.lconst 0, 1) := by decide +kernel
theorem d_R_numberOfText_16 : decode c_R_numberOfText 16 = .ok (.lreturn, 1) := by decide +kernel
theorem d_R_numberOfText_17 : decode c_R_numberOfText 17 = .ok (.aload_n 0, 1) := by decide +kernel
theorem d_R_numberOfText_18 : decode c_R_numberOfText 18 = .ok (.aload_n 0, 1) := by decide +kernel
theorem d_R_numberOfText_19 : decode c_R_numberOfText 19 = .ok (.getfield 17, 3) := by decide +kernel
theorem d_R_numberOfText_22 : decode c_R_numberOfText 22 = .ok (.invokevirtual 42, 3) := by decide +kernel
theorem d_R_numberOfText_25 : decode c_R_numberOfText 25 = .ok (.bipush 48, 2) := by decide +kernel
theorem d_R_numberOfText_27 : decode c_R_numberOfText 27 = .ok (.if_icmp .ne 48, 3) := by decide +kernel
theorem d_R_numberOfText_30 : decode c_R_numberOfText 30 = .ok (.aload_n 0, 1) := by decide +kernel
theorem d_R_numberOfText_31 : decode c_R_numberOfText 31 = .ok (.aload_n 0, 1) := by decide +kernel
theorem d_R_numberOfText_32 : decode c_R_numberOfText 32 = .ok (.getfield 17, 3) := by decide +kernel
theorem d_R_numberOfText_35 : decode c_R_numberOfText 35 = .ok (.iconst 1, 1) := by decide +kernel
theorem d_R_numberOfText_36 : decode c_R_numberOfText 36 = .ok (.iadd, 1) := by decide +kernel
theorem d_R_numberOfText_37 : decode c_R_numberOfText 37 = .ok (.invokevirtual 42, 3) := by decide +kernel
theorem d_R_numberOfText_40 : decode c_R_numberOfText 40 = .ok (.bipush 120, 2) := by decide +kernel
theorem d_R_numberOfText_42 : decode c_R_numberOfText 42 = .ok (.if_icmp .eq 18, 3) := by decide +kernel
theorem d_R_numberOfText_45 : decode c_R_numberOfText 45 = .ok (.aload_n 0, 1) := by decide +kernel
theorem d_R_numberOfText_46 : decode c_R_numberOfText 46 = .ok (.aload_n 0, 1) := by decide +kernel
theorem d_R_numberOfText_47 : decode c_R_numberOfText 47 = .ok (.getfield 17, 3) := by decide +kernel
theorem d_R_numberOfText_50 : decode c_R_numberOfText 50 = .ok (.iconst 1, 1) := by decide +kernel
theorem d_R_numberOfText_51 : decode c_R_numberOfText 51 = .ok (.iadd, 1) := by decide +kernel
theorem d_R_numberOfText_52 : decode c_R_numberOfText 52 = .ok (.invokevirtual 42, 3) := by decide +kernel
theorem d_R_numberOfText_55 : decode c_R_numberOfText 55 = .ok (.bipush 88, 2) := by decide +kernel
theorem d_R_numberOfText_57 : decode c_R_numberOfText 57 = .ok (.if_icmp .ne 18, 3) := by decide +kernel
theorem d_R_numberOfText_60 : decode c_R_numberOfText 60 = .ok (.aload_n 0, 1) := by decide +kernel
theorem d_R_numberOfText_61 : decode c_R_numberOfText 61 = .ok (.dup, 1) := by decide +kernel
theorem d_R_numberOfText_62 : decode c_R_numberOfText 62 = .ok (.getfield 17, 3) := by decide +kernel
theorem d_R_numberOfText_65 : decode c_R_numberOfText 65 = .ok (.iconst 2, 1) := by decide +kernel
theorem d_R_numberOfText_66 : decode c_R_numberOfText 66 = .ok (.iadd, 1) := by decide +kernel
theorem d_R_numberOfText_67 : decode c_R_numberOfText 67 = .ok (.putfield 17, 3) := by decide +kernel
theorem d_R_numberOfText_70 : decode c_R_numberOfText 70 = .ok (.aload_n 0, 1) := by decide +kernel
theorem d_R_numberOfText_71 : decode c_R_numberOfText 71 = .ok (.invokevirtual 46, 3) := by decide +kernel
theorem d_R_numberOfText_74 : decode c_R_numberOfText 74 = .ok (.lreturn, 1) := by decide +kernel
theorem d_R_numberOfText_75 : decode c_R_numberOfText 75 = .ok (.aload_n 0, 1) := by decide +kernel
theorem d_R_numberOfText_76 : decode c_R_numberOfText 76 = .ok (.invokevirtual 50, 3) := by decide +kernel
theorem d_R_numberOfText_79 : decode c_R_numberOfText 79 = .ok (.ifCond .eq 9, 3) := by decide +kernel
theorem d_R_numberOfText_82 : decode c_R_numberOfText 82 = .ok (.ldc2_w 56, 3) := by decide +kernel
theorem d_R_numberOfText_85 : decode c_R_numberOfText 85 = .ok (.goto 4, 3) := by decide +kernel
theorem d_R_numberOfText_88 : decode c_R_numberOfText 88 = .ok (.lconst 0, 1) := by decide +kernel
theorem d_R_numberOfText_89 : decode c_R_numberOfText 89 = .ok (.lstore_n 1, 1) := by decide +kernel
theorem d_R_numberOfText_90 : decode c_R_numberOfText 90 = .ok (.aload_n 0, 1) := by decide +kernel
theorem d_R_numberOfText_91 : decode c_R_numberOfText 91 = .ok (.invokevirtual 58, 3) := by decide +kernel
theorem d_R_numberOfText_94 : decode c_R_numberOfText 94 = .ok (.ifCond .eq 9, 3) := by decide +kernel
theorem d_R_numberOfText_97 : decode c_R_numberOfText 97 = .ok (.lload_n 1, 1) := by decide +kernel
theorem d_R_numberOfText_98 : decode c_R_numberOfText 98 = .ok (.ldc2_w 61, 3) := by decide +kernel
theorem d_R_numberOfText_101 : decode c_R_numberOfText 101 = .ok (.lor, 1) := by decide +kernel
theorem d_R_numberOfText_102 : decode c_R_numberOfText 102 = .ok (.lreturn, 1) := by decide +kernel
theorem d_R_numberOfText_103 : decode c_R_numberOfText 103 = .ok (.aload_n 0, 1) := by decide +kernel
theorem d_R_numberOfText_104 : decode c_R_numberOfText 104 = .ok (.invokevirtual 63, 3) := by decide +kernel
theorem d_R_numberOfText_107 : decode c_R_numberOfText 107 = .ok (.ifCond .eq 12, 3) := by decide +kernel
theorem d_R_numberOfText_110 : decode c_R_numberOfText 110 = .ok (.lload_n 1, 1) := by decide +kernel
theorem d_R_numberOfText_111 : decode c_R_numberOfText 111 = .ok (.aload_n 0, 1) := by decide +kernel
theorem d_R_numberOfText_112 : decode c_R_numberOfText 112 = .ok (.invokevirtual 66, 3) := by decide +kernel
theorem d_R_numberOfText_115 : decode c_R_numberOfText 115 = .ok (.lor, 1) := by decide +kernel
theorem d_R_numberOfText_116 : decode c_R_numberOfText 116 = .ok (.goto 6, 3) := by decide +kernel
theorem d_R_numberOfText_119 : decode c_R_numberOfText 119 = .ok (.ldc2_w 69, 3) := by decide +kernel
theorem d_R_numberOfText_122 : decode c_R_numberOfText 122 = .ok (.lreturn, 1) := by decide +kernel
theorem zn_R_39 : zNV R_R 39 y_R_takeBlanksOff c_R_takeBlanksOff 1 none 0 := ⟨zco_R_takeBlanksOff, zin_R, zml_R_39, zim_R_takeBlanksOff, zse_R_R_takeBlanksOff, by decide +kernel⟩
theorem zn_R_46 : zNV R_R 46 y_R_hexadecimal c_R_hexadecimal 6 (some .long) 0 := ⟨zco_R_hexadecimal, zin_R, zml_R_46, zim_R_hexadecimal, zse_R_R_hexadecimal, by decide +kernel⟩
theorem zn_R_58 : zNV R_R 58 y_R_isInfinityLeft c_R_isInfinityLeft 2 (some .boolean) 0 := ⟨zco_R_isInfinityLeft, zin_R, zml_R_58, zim_R_isInfinityLeft, zse_R_R_isInfinityLeft, by decide +kernel⟩
theorem zn_R_63 : zNV R_R 63 y_R_takeDecimal c_R_takeDecimal 2 (some .boolean) 0 := ⟨zco_R_takeDecimal, zin_R, zml_R_63, zim_R_takeDecimal, zse_R_R_takeDecimal, by decide +kernel⟩
theorem zn_R_66 : zNV R_R 66 y_R_roundedDecimal c_R_roundedDecimal 1 (some .long) 0 := ⟨zco_R_roundedDecimal, zin_R, zml_R_66, zim_R_roundedDecimal, zse_R_R_roundedDecimal, by decide +kernel⟩
set_option maxHeartbeats 4000000 in
set_option maxRecDepth 100000 in
theorem k_R_numberOfText (κ : zC) (X : zXT) (hX : zX κ X) (l : Launch) (a_t a_t_units a_t_numerator a_t_denominator a_t_numerator_limbs a_t_denominator_limbs : Nat) (sz : Nat) (t_count : Int32) (t_at : Int32) (t_end : Int32) (t_counting : Int32) (t_power : Int32) (t_units : Nat → Int32) (t_numerator_used : Int32) (t_numerator_limbs : Nat → Int32) (t_denominator_used : Int32) (t_denominator_limbs : Nat → Int32) (out : Int64 × ((Int32) × (Int32) × (Int32) × (Int32) × (Int32) × (Nat → Int32) × (Int32) × (Nat → Int32))) (hf : f_R_numberOfText t_count t_at t_end t_counting t_power t_units t_numerator_used t_numerator_limbs t_denominator_used t_denominator_limbs = some out) : zMet κ X l y_R_numberOfText c_R_numberOfText 3 (some .long) 5 117 [.ref a_t] sz [(a_t, .inr (4, [.ref a_t_units, .int t_count, .int t_at, .int t_end, .ref a_t_numerator, .ref a_t_denominator, .int t_counting, .int t_power])), (a_t_units, .inl (κ.2.1, 600, .inl t_units)), (a_t_numerator, .inr (2, [.ref a_t_numerator_limbs, .int t_numerator_used])), (a_t_numerator_limbs, .inl (κ.2.1, 48, .inl t_numerator_limbs)), (a_t_denominator, .inr (2, [.ref a_t_denominator_limbs, .int t_denominator_used])), (a_t_denominator_limbs, .inl (κ.2.1, 48, .inl t_denominator_limbs))] (zQl κ (fun (r : Int64) (u : (Int32) × (Int32) × (Int32) × (Int32) × (Int32) × (Nat → Int32) × (Int32) × (Nat → Int32)) => (r, u) = out) (fun u => [(a_t, .inr (4, [.ref a_t_units, .int t_count, .int u.1, .int u.2.1, .ref a_t_numerator, .ref a_t_denominator, .int u.2.2.1, .int u.2.2.2.1])), (a_t_units, .inl (κ.2.1, 600, .inl t_units)), (a_t_numerator, .inr (2, [.ref a_t_numerator_limbs, .int u.2.2.2.2.1])), (a_t_numerator_limbs, .inl (κ.2.1, 48, .inl u.2.2.2.2.2.1)), (a_t_denominator, .inr (2, [.ref a_t_denominator_limbs, .int u.2.2.2.2.2.2.1])), (a_t_denominator_limbs, .inl (κ.2.1, 48, .inl u.2.2.2.2.2.2.2))])) := by
  refine zMet.ofL (by decide +kernel) (Nat.le_of_ble_eq_true rfl) ?_
  intro p e s m args below meth c ls A Q hF hK hP hD hA hXs hS hl hret
  obtain ⟨hx, hb, hml, hown, hts⟩ := id hF
  obtain ⟨H, hH⟩ : ∃ H, H = s.heap := ⟨_, rfl⟩
  obtain ⟨locs, hlo⟩ : ∃ z : List Loc, z = [] := ⟨_, rfl⟩
  replace hP : zP κ [(a_t, .inr (4, [.ref a_t_units, .int t_count, .int t_at, .int t_end, .ref a_t_numerator, .ref a_t_denominator, .int t_counting, .int t_power])), (a_t_units, .inl (κ.2.1, 600, .inl t_units)), (a_t_numerator, .inr (2, [.ref a_t_numerator_limbs, .int t_numerator_used])), (a_t_numerator_limbs, .inl (κ.2.1, 48, .inl t_numerator_limbs)), (a_t_denominator, .inr (2, [.ref a_t_denominator_limbs, .int t_denominator_used])), (a_t_denominator_limbs, .inl (κ.2.1, 48, .inl t_denominator_limbs))] H := by rw [hH]; exact hP
  replace hS : va_S A s.heap H locs := by rw [hH, hlo]; exact hS
  suffices hgo : W p l e (zR 5 117) s m args below meth c H locs 0 0 Q (F0 m 0 ls []) by rw [hH, hlo] at hgo; exact hgo
  clear hH hlo
  replace hl : lv_has ls 3 [(0, .ref a_t)] := hl
  have b_89 : ∀ (t_at : Int32) (t_end : Int32) (t_counting : Int32) (t_power : Int32) (t_numerator_used : Int32) (t_numerator_limbs : Nat → Int32) (t_denominator_used : Int32) (t_denominator_limbs : Nat → Int32) (s0 : Int64) (H : Heap) (locs : List Loc) (ls : Array Slot), f_R_numberOfText_89 t_count t_at t_end t_counting t_power t_units t_numerator_used t_numerator_limbs t_denominator_used t_denominator_limbs s0 = some out → zP κ [(a_t, .inr (4, [.ref a_t_units, .int t_count, .int t_at, .int t_end, .ref a_t_numerator, .ref a_t_denominator, .int t_counting, .int t_power])), (a_t_units, .inl (κ.2.1, 600, .inl t_units)), (a_t_numerator, .inr (2, [.ref a_t_numerator_limbs, .int t_numerator_used])), (a_t_numerator_limbs, .inl (κ.2.1, 48, .inl t_numerator_limbs)), (a_t_denominator, .inr (2, [.ref a_t_denominator_limbs, .int t_denominator_used])), (a_t_denominator_limbs, .inl (κ.2.1, 48, .inl t_denominator_limbs))] H → va_D A [(a_t, .inr (4, [.ref a_t_units, .int t_count, .int t_at, .int t_end, .ref a_t_numerator, .ref a_t_denominator, .int t_counting, .int t_power])), (a_t_units, .inl (κ.2.1, 600, .inl t_units)), (a_t_numerator, .inr (2, [.ref a_t_numerator_limbs, .int t_numerator_used])), (a_t_numerator_limbs, .inl (κ.2.1, 48, .inl t_numerator_limbs)), (a_t_denominator, .inr (2, [.ref a_t_denominator_limbs, .int t_denominator_used])), (a_t_denominator_limbs, .inl (κ.2.1, 48, .inl t_denominator_limbs))] → va_S A s.heap H locs → lv_has ls 3 [(0, .ref a_t)] → W p l e (zR 5 117) s m args below meth c H locs 0 0 Q (F0 m 89 ls [.long s0]) := by
    intro t_at t_end t_counting t_power t_numerator_used t_numerator_limbs t_denominator_used t_denominator_limbs s0 H locs ls hf hP hD hS hl
    unfold f_R_numberOfText_89 at hf
    refine lv_lstore_n (lv' := [(1, .long s0), (0, .ref a_t)]) hx hb d_R_numberOfText_89 rfl hl (by decide) rfl (fun ls hl => ?_)
    refine lv_aload_n hx hb d_R_numberOfText_90 rfl (lv_at hl 1 rfl) ?_
    obtain ⟨o_91, ho_91, hf⟩ := zbd hf
    refine zVi (isC := [0, 1]) (isR := [2, 3, 4, 5]) (isN := [4, 5, 0, 1, 2, 3]) (wc := [(a_t, .inr (4, [.ref a_t_units, .int t_count, .int t_at, .int t_end, .ref a_t_numerator, .ref a_t_denominator, .int t_counting, .int t_power])), (a_t_units, .inl (κ.2.1, 600, .inl t_units))]) (wr := [(a_t_numerator, .inr (2, [.ref a_t_numerator_limbs, .int t_numerator_used])), (a_t_numerator_limbs, .inl (κ.2.1, 48, .inl t_numerator_limbs)), (a_t_denominator, .inr (2, [.ref a_t_denominator_limbs, .int t_denominator_used])), (a_t_denominator_limbs, .inl (κ.2.1, 48, .inl t_denominator_limbs))]) (wn := fun u => [(a_t, .inr (4, [.ref a_t_units, .int t_count, .int t_at, .int t_end, .ref a_t_numerator, .ref a_t_denominator, .int t_counting, .int t_power])), (a_t_units, .inl (κ.2.1, 600, .inl t_units)), (a_t_numerator, .inr (2, [.ref a_t_numerator_limbs, .int t_numerator_used])), (a_t_numerator_limbs, .inl (κ.2.1, 48, .inl t_numerator_limbs)), (a_t_denominator, .inr (2, [.ref a_t_denominator_limbs, .int t_denominator_used])), (a_t_denominator_limbs, .inl (κ.2.1, 48, .inl t_denominator_limbs))]) (rest := []) (As := []) hF zn_R_58 (k_R_isInfinityLeft κ X hX l a_t a_t_units a_t_numerator a_t_denominator H.size t_count t_at t_end t_counting t_power t_units o_91 ho_91) hX hXs hK hA hP hD hS ⟨by decide, by decide⟩ ⟨rfl, rfl, rfl, rfl, rfl, by decide⟩ ⟨rfl, fun _ => rfl, fun _ => rfl⟩ (ci := 4) rfl rfl rfl rfl hl.1 rfl (Nat.le_of_ble_eq_true rfl) ⟨Nat.zero_le _, Nat.zero_le _⟩ d_R_numberOfText_91 (fun r_91 u H locs hw hP hD hS => ?_)
    subst hw
    refine lv_if_eq (tgt := 103) hx hb d_R_numberOfText_94 (by decide) (fun c_94 => ?_) (fun c_94 => ?_)
    · have hf := (zbr hf).1 c_94
      refine lv_aload_n hx hb d_R_numberOfText_103 rfl (lv_at hl 1 rfl) ?_
      obtain ⟨o_104, ho_104, hf⟩ := zbd hf
      refine zVi (isC := [0, 1, 2, 3]) (isR := [4, 5]) (isN := [2, 3, 4, 5, 0, 1]) (wc := [(a_t, .inr (4, [.ref a_t_units, .int t_count, .int t_at, .int t_end, .ref a_t_numerator, .ref a_t_denominator, .int t_counting, .int t_power])), (a_t_units, .inl (κ.2.1, 600, .inl t_units)), (a_t_numerator, .inr (2, [.ref a_t_numerator_limbs, .int t_numerator_used])), (a_t_numerator_limbs, .inl (κ.2.1, 48, .inl t_numerator_limbs))]) (wr := [(a_t_denominator, .inr (2, [.ref a_t_denominator_limbs, .int t_denominator_used])), (a_t_denominator_limbs, .inl (κ.2.1, 48, .inl t_denominator_limbs))]) (wn := fun u => [(a_t, .inr (4, [.ref a_t_units, .int t_count, .int u.1, .int t_end, .ref a_t_numerator, .ref a_t_denominator, .int u.2.1, .int u.2.2.1])), (a_t_units, .inl (κ.2.1, 600, .inl t_units)), (a_t_numerator, .inr (2, [.ref a_t_numerator_limbs, .int u.2.2.2.1])), (a_t_numerator_limbs, .inl (κ.2.1, 48, .inl u.2.2.2.2)), (a_t_denominator, .inr (2, [.ref a_t_denominator_limbs, .int t_denominator_used])), (a_t_denominator_limbs, .inl (κ.2.1, 48, .inl t_denominator_limbs))]) (rest := []) (As := []) hF zn_R_63 (k_R_takeDecimal κ X hX l a_t a_t_units a_t_numerator a_t_denominator a_t_numerator_limbs H.size t_count t_at t_end t_counting t_power t_units t_numerator_used t_numerator_limbs o_104 ho_104) hX hXs hK hA hP hD hS ⟨by decide, by decide⟩ ⟨rfl, rfl, rfl, rfl, rfl, by decide⟩ ⟨rfl, fun _ => rfl, fun _ => rfl⟩ (ci := 4) rfl rfl rfl rfl hl.1 rfl (Nat.le_of_ble_eq_true rfl) ⟨Nat.zero_le _, Nat.zero_le _⟩ d_R_numberOfText_104 (fun r_104 u H locs hw hP hD hS => ?_)
      obtain ⟨u104_t_at, u104_t_counting, u104_t_power, u104_t_numerator_used, u104_t_numerator_limbs⟩ := u
      have hP : zP κ [(a_t, .inr (4, [.ref a_t_units, .int t_count, .int u104_t_at, .int t_end, .ref a_t_numerator, .ref a_t_denominator, .int u104_t_counting, .int u104_t_power])), (a_t_units, .inl (κ.2.1, 600, .inl t_units)), (a_t_numerator, .inr (2, [.ref a_t_numerator_limbs, .int u104_t_numerator_used])), (a_t_numerator_limbs, .inl (κ.2.1, 48, .inl u104_t_numerator_limbs)), (a_t_denominator, .inr (2, [.ref a_t_denominator_limbs, .int t_denominator_used])), (a_t_denominator_limbs, .inl (κ.2.1, 48, .inl t_denominator_limbs))] H := hP
      have hD : va_D A [(a_t, .inr (4, [.ref a_t_units, .int t_count, .int u104_t_at, .int t_end, .ref a_t_numerator, .ref a_t_denominator, .int u104_t_counting, .int u104_t_power])), (a_t_units, .inl (κ.2.1, 600, .inl t_units)), (a_t_numerator, .inr (2, [.ref a_t_numerator_limbs, .int u104_t_numerator_used])), (a_t_numerator_limbs, .inl (κ.2.1, 48, .inl u104_t_numerator_limbs)), (a_t_denominator, .inr (2, [.ref a_t_denominator_limbs, .int t_denominator_used])), (a_t_denominator_limbs, .inl (κ.2.1, 48, .inl t_denominator_limbs))] := hD
      subst hw
      dsimp only at hf
      refine lv_if_eq (tgt := 119) hx hb d_R_numberOfText_107 (by decide) (fun c_107 => ?_) (fun c_107 => ?_)
      · have hf := (zbr hf).1 c_107
        refine lv_ldc2 (v := 9221120237041090560) hx hb hown (hts _ zkl_R_69) d_R_numberOfText_119 ?_
        exact hret ((9221120237041090560 : Int64)) ((u104_t_at, t_end, u104_t_counting, u104_t_power, u104_t_numerator_used, u104_t_numerator_limbs, t_denominator_used, t_denominator_limbs)) H locs ls _ d_R_numberOfText_122 hP hD hS (Option.some.inj hf)
      · have hf := (zbr hf).2 c_107
        refine lv_lload_n hx hb d_R_numberOfText_110 rfl (lv_at hl 0 rfl) ?_
        refine lv_aload_n hx hb d_R_numberOfText_111 rfl (lv_at hl 1 rfl) ?_
        obtain ⟨o_112, ho_112, hf⟩ := zbd hf
        refine zVl (isC := [0, 2, 3, 4, 5]) (isR := [1]) (isN := [1, 0, 2, 3, 4, 5]) (wc := [(a_t, .inr (4, [.ref a_t_units, .int t_count, .int u104_t_at, .int t_end, .ref a_t_numerator, .ref a_t_denominator, .int u104_t_counting, .int u104_t_power])), (a_t_numerator, .inr (2, [.ref a_t_numerator_limbs, .int u104_t_numerator_used])), (a_t_numerator_limbs, .inl (κ.2.1, 48, .inl u104_t_numerator_limbs)), (a_t_denominator, .inr (2, [.ref a_t_denominator_limbs, .int t_denominator_used])), (a_t_denominator_limbs, .inl (κ.2.1, 48, .inl t_denominator_limbs))]) (wr := [(a_t_units, .inl (κ.2.1, 600, .inl t_units))]) (wn := fun u => [(a_t, .inr (4, [.ref a_t_units, .int t_count, .int u104_t_at, .int t_end, .ref a_t_numerator, .ref a_t_denominator, .int u104_t_counting, .int u104_t_power])), (a_t_units, .inl (κ.2.1, 600, .inl t_units)), (a_t_numerator, .inr (2, [.ref a_t_numerator_limbs, .int u.1])), (a_t_numerator_limbs, .inl (κ.2.1, 48, .inl u.2.1)), (a_t_denominator, .inr (2, [.ref a_t_denominator_limbs, .int u.2.2.1])), (a_t_denominator_limbs, .inl (κ.2.1, 48, .inl u.2.2.2))]) (rest := [.long s0]) (As := []) hF zn_R_66 (k_R_roundedDecimal κ X hX l a_t a_t_units a_t_numerator a_t_denominator a_t_numerator_limbs a_t_denominator_limbs H.size t_count u104_t_at t_end u104_t_counting u104_t_power u104_t_numerator_used u104_t_numerator_limbs t_denominator_used t_denominator_limbs o_112 ho_112) hX hXs hK hA hP hD hS ⟨by decide, by decide⟩ ⟨rfl, rfl, rfl, rfl, rfl, by decide⟩ ⟨rfl, fun _ => rfl, fun _ => rfl⟩ (ci := 4) rfl rfl rfl rfl hl.1 rfl (Nat.le_of_ble_eq_true rfl) ⟨Nat.zero_le _, Nat.zero_le _⟩ d_R_numberOfText_112 (fun r_112 u H locs hw hP hD hS => ?_)
        obtain ⟨u112_t_numerator_used, u112_t_numerator_limbs, u112_t_denominator_used, u112_t_denominator_limbs⟩ := u
        have hP : zP κ [(a_t, .inr (4, [.ref a_t_units, .int t_count, .int u104_t_at, .int t_end, .ref a_t_numerator, .ref a_t_denominator, .int u104_t_counting, .int u104_t_power])), (a_t_units, .inl (κ.2.1, 600, .inl t_units)), (a_t_numerator, .inr (2, [.ref a_t_numerator_limbs, .int u112_t_numerator_used])), (a_t_numerator_limbs, .inl (κ.2.1, 48, .inl u112_t_numerator_limbs)), (a_t_denominator, .inr (2, [.ref a_t_denominator_limbs, .int u112_t_denominator_used])), (a_t_denominator_limbs, .inl (κ.2.1, 48, .inl u112_t_denominator_limbs))] H := hP
        have hD : va_D A [(a_t, .inr (4, [.ref a_t_units, .int t_count, .int u104_t_at, .int t_end, .ref a_t_numerator, .ref a_t_denominator, .int u104_t_counting, .int u104_t_power])), (a_t_units, .inl (κ.2.1, 600, .inl t_units)), (a_t_numerator, .inr (2, [.ref a_t_numerator_limbs, .int u112_t_numerator_used])), (a_t_numerator_limbs, .inl (κ.2.1, 48, .inl u112_t_numerator_limbs)), (a_t_denominator, .inr (2, [.ref a_t_denominator_limbs, .int u112_t_denominator_used])), (a_t_denominator_limbs, .inl (κ.2.1, 48, .inl u112_t_denominator_limbs))] := hD
        subst hw
        dsimp only at hf
        refine lv_lor hx hb d_R_numberOfText_115 ?_
        refine lv_goto (tgt := 122) hx hb d_R_numberOfText_116 (by decide) ?_
        exact hret ((s0 ||| r_112)) ((u104_t_at, t_end, u104_t_counting, u104_t_power, u112_t_numerator_used, u112_t_numerator_limbs, u112_t_denominator_used, u112_t_denominator_limbs)) H locs ls _ d_R_numberOfText_122 hP hD hS (Option.some.inj hf)
    · have hf := (zbr hf).2 c_94
      refine lv_lload_n hx hb d_R_numberOfText_97 rfl (lv_at hl 0 rfl) ?_
      refine lv_ldc2 (v := 9218868437227405312) hx hb hown (hts _ zkl_R_61) d_R_numberOfText_98 ?_
      refine lv_lor hx hb d_R_numberOfText_101 ?_
      exact hret ((s0 ||| 9218868437227405312)) ((t_at, t_end, t_counting, t_power, t_numerator_used, t_numerator_limbs, t_denominator_used, t_denominator_limbs)) H locs ls _ d_R_numberOfText_102 hP hD hS (Option.some.inj hf)
  have b_75 : ∀ (t_at : Int32) (t_end : Int32) (t_counting : Int32) (t_power : Int32) (t_numerator_used : Int32) (t_numerator_limbs : Nat → Int32) (t_denominator_used : Int32) (t_denominator_limbs : Nat → Int32) (H : Heap) (locs : List Loc) (ls : Array Slot), f_R_numberOfText_75 t_count t_at t_end t_counting t_power t_units t_numerator_used t_numerator_limbs t_denominator_used t_denominator_limbs = some out → zP κ [(a_t, .inr (4, [.ref a_t_units, .int t_count, .int t_at, .int t_end, .ref a_t_numerator, .ref a_t_denominator, .int t_counting, .int t_power])), (a_t_units, .inl (κ.2.1, 600, .inl t_units)), (a_t_numerator, .inr (2, [.ref a_t_numerator_limbs, .int t_numerator_used])), (a_t_numerator_limbs, .inl (κ.2.1, 48, .inl t_numerator_limbs)), (a_t_denominator, .inr (2, [.ref a_t_denominator_limbs, .int t_denominator_used])), (a_t_denominator_limbs, .inl (κ.2.1, 48, .inl t_denominator_limbs))] H → va_D A [(a_t, .inr (4, [.ref a_t_units, .int t_count, .int t_at, .int t_end, .ref a_t_numerator, .ref a_t_denominator, .int t_counting, .int t_power])), (a_t_units, .inl (κ.2.1, 600, .inl t_units)), (a_t_numerator, .inr (2, [.ref a_t_numerator_limbs, .int t_numerator_used])), (a_t_numerator_limbs, .inl (κ.2.1, 48, .inl t_numerator_limbs)), (a_t_denominator, .inr (2, [.ref a_t_denominator_limbs, .int t_denominator_used])), (a_t_denominator_limbs, .inl (κ.2.1, 48, .inl t_denominator_limbs))] → va_S A s.heap H locs → lv_has ls 3 [(0, .ref a_t)] → W p l e (zR 5 117) s m args below meth c H locs 0 0 Q (F0 m 75 ls []) := by
    intro t_at t_end t_counting t_power t_numerator_used t_numerator_limbs t_denominator_used t_denominator_limbs H locs ls hf hP hD hS hl
    unfold f_R_numberOfText_75 at hf
    refine lv_aload_n hx hb d_R_numberOfText_75 rfl (lv_at hl 0 rfl) ?_
    obtain ⟨o_76, ho_76, hf⟩ := zbd hf
    refine zVi (isC := [0, 1]) (isR := [2, 3, 4, 5]) (isN := [4, 5, 0, 1, 2, 3]) (wc := [(a_t, .inr (4, [.ref a_t_units, .int t_count, .int t_at, .int t_end, .ref a_t_numerator, .ref a_t_denominator, .int t_counting, .int t_power])), (a_t_units, .inl (κ.2.1, 600, .inl t_units))]) (wr := [(a_t_numerator, .inr (2, [.ref a_t_numerator_limbs, .int t_numerator_used])), (a_t_numerator_limbs, .inl (κ.2.1, 48, .inl t_numerator_limbs)), (a_t_denominator, .inr (2, [.ref a_t_denominator_limbs, .int t_denominator_used])), (a_t_denominator_limbs, .inl (κ.2.1, 48, .inl t_denominator_limbs))]) (wn := fun u => [(a_t, .inr (4, [.ref a_t_units, .int t_count, .int u, .int t_end, .ref a_t_numerator, .ref a_t_denominator, .int t_counting, .int t_power])), (a_t_units, .inl (κ.2.1, 600, .inl t_units)), (a_t_numerator, .inr (2, [.ref a_t_numerator_limbs, .int t_numerator_used])), (a_t_numerator_limbs, .inl (κ.2.1, 48, .inl t_numerator_limbs)), (a_t_denominator, .inr (2, [.ref a_t_denominator_limbs, .int t_denominator_used])), (a_t_denominator_limbs, .inl (κ.2.1, 48, .inl t_denominator_limbs))]) (rest := []) (As := []) hF zn_R_50 (k_R_takeMinus κ X hX l a_t a_t_units a_t_numerator a_t_denominator H.size t_count t_at t_end t_counting t_power t_units o_76 ho_76) hX hXs hK hA hP hD hS ⟨by decide, by decide⟩ ⟨rfl, rfl, rfl, rfl, rfl, by decide⟩ ⟨rfl, fun _ => rfl, fun _ => rfl⟩ (ci := 4) rfl rfl rfl rfl hl.1 rfl (Nat.le_of_ble_eq_true rfl) ⟨Nat.zero_le _, Nat.zero_le _⟩ d_R_numberOfText_76 (fun r_76 u H locs hw hP hD hS => ?_)
    obtain ⟨u76_t_at, rfl⟩ : ∃ z, z = u := ⟨_, rfl⟩
    have hP : zP κ [(a_t, .inr (4, [.ref a_t_units, .int t_count, .int u76_t_at, .int t_end, .ref a_t_numerator, .ref a_t_denominator, .int t_counting, .int t_power])), (a_t_units, .inl (κ.2.1, 600, .inl t_units)), (a_t_numerator, .inr (2, [.ref a_t_numerator_limbs, .int t_numerator_used])), (a_t_numerator_limbs, .inl (κ.2.1, 48, .inl t_numerator_limbs)), (a_t_denominator, .inr (2, [.ref a_t_denominator_limbs, .int t_denominator_used])), (a_t_denominator_limbs, .inl (κ.2.1, 48, .inl t_denominator_limbs))] H := hP
    have hD : va_D A [(a_t, .inr (4, [.ref a_t_units, .int t_count, .int u76_t_at, .int t_end, .ref a_t_numerator, .ref a_t_denominator, .int t_counting, .int t_power])), (a_t_units, .inl (κ.2.1, 600, .inl t_units)), (a_t_numerator, .inr (2, [.ref a_t_numerator_limbs, .int t_numerator_used])), (a_t_numerator_limbs, .inl (κ.2.1, 48, .inl t_numerator_limbs)), (a_t_denominator, .inr (2, [.ref a_t_denominator_limbs, .int t_denominator_used])), (a_t_denominator_limbs, .inl (κ.2.1, 48, .inl t_denominator_limbs))] := hD
    subst hw
    dsimp only at hf
    refine lv_if_eq (tgt := 88) hx hb d_R_numberOfText_79 (by decide) (fun c_79 => ?_) (fun c_79 => ?_)
    · have hf := (zbr hf).1 c_79
      refine lv_lconst (v := 0) hx hb d_R_numberOfText_88 (by decide) ?_
      exact b_89 u76_t_at t_end t_counting t_power t_numerator_used t_numerator_limbs t_denominator_used t_denominator_limbs 0 H locs ls hf hP hD hS hl
    · have hf := (zbr hf).2 c_79
      refine lv_ldc2 (v := (-9223372036854775808)) hx hb hown (hts _ zkl_R_56) d_R_numberOfText_82 ?_
      refine lv_goto (tgt := 89) hx hb d_R_numberOfText_85 (by decide) ?_
      exact b_89 u76_t_at t_end t_counting t_power t_numerator_used t_numerator_limbs t_denominator_used t_denominator_limbs (-9223372036854775808) H locs ls hf hP hD hS hl
  have b_60 : ∀ (t_at : Int32) (t_end : Int32) (t_counting : Int32) (t_power : Int32) (t_numerator_used : Int32) (t_numerator_limbs : Nat → Int32) (t_denominator_used : Int32) (t_denominator_limbs : Nat → Int32) (H : Heap) (locs : List Loc) (ls : Array Slot), f_R_numberOfText_60 t_count t_at t_end t_counting t_power t_units t_numerator_used t_numerator_limbs t_denominator_used t_denominator_limbs = some out → zP κ [(a_t, .inr (4, [.ref a_t_units, .int t_count, .int t_at, .int t_end, .ref a_t_numerator, .ref a_t_denominator, .int t_counting, .int t_power])), (a_t_units, .inl (κ.2.1, 600, .inl t_units)), (a_t_numerator, .inr (2, [.ref a_t_numerator_limbs, .int t_numerator_used])), (a_t_numerator_limbs, .inl (κ.2.1, 48, .inl t_numerator_limbs)), (a_t_denominator, .inr (2, [.ref a_t_denominator_limbs, .int t_denominator_used])), (a_t_denominator_limbs, .inl (κ.2.1, 48, .inl t_denominator_limbs))] H → va_D A [(a_t, .inr (4, [.ref a_t_units, .int t_count, .int t_at, .int t_end, .ref a_t_numerator, .ref a_t_denominator, .int t_counting, .int t_power])), (a_t_units, .inl (κ.2.1, 600, .inl t_units)), (a_t_numerator, .inr (2, [.ref a_t_numerator_limbs, .int t_numerator_used])), (a_t_numerator_limbs, .inl (κ.2.1, 48, .inl t_numerator_limbs)), (a_t_denominator, .inr (2, [.ref a_t_denominator_limbs, .int t_denominator_used])), (a_t_denominator_limbs, .inl (κ.2.1, 48, .inl t_denominator_limbs))] → va_S A s.heap H locs → lv_has ls 3 [(0, .ref a_t)] → W p l e (zR 5 117) s m args below meth c H locs 0 0 Q (F0 m 60 ls []) := by
    intro t_at t_end t_counting t_power t_numerator_used t_numerator_limbs t_denominator_used t_denominator_limbs H locs ls hf hP hD hS hl
    unfold f_R_numberOfText_60 at hf
    refine lv_aload_n hx hb d_R_numberOfText_60 rfl (lv_at hl 0 rfl) ?_
    refine lv_dup hx hb d_R_numberOfText_61 rfl ?_
    refine va_get (C := R_R) (T := F_R) (N := 8) hx hb hts i_R hown hK hP 0 rfl rfl 2 (by decide) (hts _ zfl_R_17) (fun _ h9 => h9) rfl d_R_numberOfText_62 ?_
    refine lv_iconst (v := 2) hx hb d_R_numberOfText_65 (by decide) ?_
    refine lv_iadd hx hb d_R_numberOfText_66 ?_
    refine va_put (C := R_R) (T := F_R) (N := 8) hx hb hts i_R ty_R ty_R_ok n_R hown hK hP hD hS 0 rfl rfl 2 (by decide) (hts _ zfl_R_17) (fun _ h9 => h9) rfl (ty_R_ok 2 (by decide)) rfl rfl (Nat.le_of_ble_eq_true rfl) d_R_numberOfText_67 (fun H locs hP hD hS => ?_)
    have hP : zP κ [(a_t, .inr (4, [.ref a_t_units, .int t_count, .int (t_at + 2), .int t_end, .ref a_t_numerator, .ref a_t_denominator, .int t_counting, .int t_power])), (a_t_units, .inl (κ.2.1, 600, .inl t_units)), (a_t_numerator, .inr (2, [.ref a_t_numerator_limbs, .int t_numerator_used])), (a_t_numerator_limbs, .inl (κ.2.1, 48, .inl t_numerator_limbs)), (a_t_denominator, .inr (2, [.ref a_t_denominator_limbs, .int t_denominator_used])), (a_t_denominator_limbs, .inl (κ.2.1, 48, .inl t_denominator_limbs))] H := hP
    have hD : va_D A [(a_t, .inr (4, [.ref a_t_units, .int t_count, .int (t_at + 2), .int t_end, .ref a_t_numerator, .ref a_t_denominator, .int t_counting, .int t_power])), (a_t_units, .inl (κ.2.1, 600, .inl t_units)), (a_t_numerator, .inr (2, [.ref a_t_numerator_limbs, .int t_numerator_used])), (a_t_numerator_limbs, .inl (κ.2.1, 48, .inl t_numerator_limbs)), (a_t_denominator, .inr (2, [.ref a_t_denominator_limbs, .int t_denominator_used])), (a_t_denominator_limbs, .inl (κ.2.1, 48, .inl t_denominator_limbs))] := hD
    refine lv_aload_n hx hb d_R_numberOfText_70 rfl (lv_at hl 0 rfl) ?_
    obtain ⟨o_71, ho_71, hf⟩ := zbd hf
    refine zVl (isC := [0, 1]) (isR := [2, 3, 4, 5]) (isN := [4, 5, 0, 1, 2, 3]) (wc := [(a_t, .inr (4, [.ref a_t_units, .int t_count, .int (t_at + 2), .int t_end, .ref a_t_numerator, .ref a_t_denominator, .int t_counting, .int t_power])), (a_t_units, .inl (κ.2.1, 600, .inl t_units))]) (wr := [(a_t_numerator, .inr (2, [.ref a_t_numerator_limbs, .int t_numerator_used])), (a_t_numerator_limbs, .inl (κ.2.1, 48, .inl t_numerator_limbs)), (a_t_denominator, .inr (2, [.ref a_t_denominator_limbs, .int t_denominator_used])), (a_t_denominator_limbs, .inl (κ.2.1, 48, .inl t_denominator_limbs))]) (wn := fun u => [(a_t, .inr (4, [.ref a_t_units, .int t_count, .int (t_at + 2), .int t_end, .ref a_t_numerator, .ref a_t_denominator, .int t_counting, .int t_power])), (a_t_units, .inl (κ.2.1, 600, .inl t_units)), (a_t_numerator, .inr (2, [.ref a_t_numerator_limbs, .int t_numerator_used])), (a_t_numerator_limbs, .inl (κ.2.1, 48, .inl t_numerator_limbs)), (a_t_denominator, .inr (2, [.ref a_t_denominator_limbs, .int t_denominator_used])), (a_t_denominator_limbs, .inl (κ.2.1, 48, .inl t_denominator_limbs))]) (rest := []) (As := []) hF zn_R_46 (k_R_hexadecimal κ X hX l a_t a_t_units a_t_numerator a_t_denominator H.size t_count (t_at + 2) t_end t_counting t_power t_units o_71 ho_71) hX hXs hK hA hP hD hS ⟨by decide, by decide⟩ ⟨rfl, rfl, rfl, rfl, rfl, by decide⟩ ⟨rfl, fun _ => rfl, fun _ => rfl⟩ (ci := 4) rfl rfl rfl rfl hl.1 rfl (Nat.le_of_ble_eq_true rfl) ⟨Nat.zero_le _, Nat.zero_le _⟩ d_R_numberOfText_71 (fun r_71 u H locs hw hP hD hS => ?_)
    subst hw
    exact hret (r_71) (((t_at + 2), t_end, t_counting, t_power, t_numerator_used, t_numerator_limbs, t_denominator_used, t_denominator_limbs)) H locs ls _ d_R_numberOfText_74 hP hD hS (Option.some.inj hf)
  unfold f_R_numberOfText at hf
  refine lv_aload_n hx hb d_R_numberOfText_0 rfl (lv_at hl 0 rfl) ?_
  obtain ⟨o_1, ho_1, hf⟩ := zbd hf
  refine zVv (isC := [0, 1]) (isR := [2, 3, 4, 5]) (isN := [4, 5, 0, 1, 2, 3]) (wc := [(a_t, .inr (4, [.ref a_t_units, .int t_count, .int t_at, .int t_end, .ref a_t_numerator, .ref a_t_denominator, .int t_counting, .int t_power])), (a_t_units, .inl (κ.2.1, 600, .inl t_units))]) (wr := [(a_t_numerator, .inr (2, [.ref a_t_numerator_limbs, .int t_numerator_used])), (a_t_numerator_limbs, .inl (κ.2.1, 48, .inl t_numerator_limbs)), (a_t_denominator, .inr (2, [.ref a_t_denominator_limbs, .int t_denominator_used])), (a_t_denominator_limbs, .inl (κ.2.1, 48, .inl t_denominator_limbs))]) (wn := fun u => [(a_t, .inr (4, [.ref a_t_units, .int t_count, .int u.1, .int u.2, .ref a_t_numerator, .ref a_t_denominator, .int t_counting, .int t_power])), (a_t_units, .inl (κ.2.1, 600, .inl t_units)), (a_t_numerator, .inr (2, [.ref a_t_numerator_limbs, .int t_numerator_used])), (a_t_numerator_limbs, .inl (κ.2.1, 48, .inl t_numerator_limbs)), (a_t_denominator, .inr (2, [.ref a_t_denominator_limbs, .int t_denominator_used])), (a_t_denominator_limbs, .inl (κ.2.1, 48, .inl t_denominator_limbs))]) (rest := []) (As := []) hF zn_R_39 (k_R_takeBlanksOff κ X hX l a_t a_t_units a_t_numerator a_t_denominator H.size t_count t_at t_end t_counting t_power t_units o_1 ho_1) hX hXs hK hA hP hD hS ⟨by decide, by decide⟩ ⟨rfl, rfl, rfl, rfl, rfl, by decide⟩ ⟨rfl, fun _ => rfl, fun _ => rfl⟩ (ci := 4) rfl rfl rfl rfl hl.1 rfl (Nat.le_of_ble_eq_true rfl) ⟨Nat.zero_le _, Nat.zero_le _⟩ d_R_numberOfText_1 (fun u H locs hw hP hD hS => ?_)
  obtain ⟨u1_t_at, u1_t_end⟩ := u
  have hP : zP κ [(a_t, .inr (4, [.ref a_t_units, .int t_count, .int u1_t_at, .int u1_t_end, .ref a_t_numerator, .ref a_t_denominator, .int t_counting, .int t_power])), (a_t_units, .inl (κ.2.1, 600, .inl t_units)), (a_t_numerator, .inr (2, [.ref a_t_numerator_limbs, .int t_numerator_used])), (a_t_numerator_limbs, .inl (κ.2.1, 48, .inl t_numerator_limbs)), (a_t_denominator, .inr (2, [.ref a_t_denominator_limbs, .int t_denominator_used])), (a_t_denominator_limbs, .inl (κ.2.1, 48, .inl t_denominator_limbs))] H := hP
  have hD : va_D A [(a_t, .inr (4, [.ref a_t_units, .int t_count, .int u1_t_at, .int u1_t_end, .ref a_t_numerator, .ref a_t_denominator, .int t_counting, .int t_power])), (a_t_units, .inl (κ.2.1, 600, .inl t_units)), (a_t_numerator, .inr (2, [.ref a_t_numerator_limbs, .int t_numerator_used])), (a_t_numerator_limbs, .inl (κ.2.1, 48, .inl t_numerator_limbs)), (a_t_denominator, .inr (2, [.ref a_t_denominator_limbs, .int t_denominator_used])), (a_t_denominator_limbs, .inl (κ.2.1, 48, .inl t_denominator_limbs))] := hD
  subst hw
  dsimp only at hf
  refine lv_aload_n hx hb d_R_numberOfText_4 rfl (lv_at hl 0 rfl) ?_
  refine va_get (C := R_R) (T := F_R) (N := 8) hx hb hts i_R hown hK hP 0 rfl rfl 2 (by decide) (hts _ zfl_R_17) (fun _ h9 => h9) rfl d_R_numberOfText_5 ?_
  refine lv_aload_n hx hb d_R_numberOfText_8 rfl (lv_at hl 0 rfl) ?_
  refine va_get (C := R_R) (T := F_R) (N := 8) hx hb hts i_R hown hK hP 0 rfl rfl 3 (by decide) (hts _ zfl_R_20) (fun _ h9 => h9) rfl d_R_numberOfText_9 ?_
  refine lv_icmp_lt (tgt := 17) hx hb d_R_numberOfText_12 (by decide) (fun c_12 => ?_) (fun c_12 => ?_)
  · have hf := (zbr hf).1 c_12
    refine lv_aload_n hx hb d_R_numberOfText_17 rfl (lv_at hl 0 rfl) ?_
    refine lv_aload_n hx hb d_R_numberOfText_18 rfl (lv_at hl 0 rfl) ?_
    refine va_get (C := R_R) (T := F_R) (N := 8) hx hb hts i_R hown hK hP 0 rfl rfl 2 (by decide) (hts _ zfl_R_17) (fun _ h9 => h9) rfl d_R_numberOfText_19 ?_
    obtain ⟨o_22, ho_22, hf⟩ := zbd hf
    refine zVi (isC := [0, 1]) (isR := [2, 3, 4, 5]) (isN := [4, 5, 0, 1, 2, 3]) (wc := [(a_t, .inr (4, [.ref a_t_units, .int t_count, .int u1_t_at, .int u1_t_end, .ref a_t_numerator, .ref a_t_denominator, .int t_counting, .int t_power])), (a_t_units, .inl (κ.2.1, 600, .inl t_units))]) (wr := [(a_t_numerator, .inr (2, [.ref a_t_numerator_limbs, .int t_numerator_used])), (a_t_numerator_limbs, .inl (κ.2.1, 48, .inl t_numerator_limbs)), (a_t_denominator, .inr (2, [.ref a_t_denominator_limbs, .int t_denominator_used])), (a_t_denominator_limbs, .inl (κ.2.1, 48, .inl t_denominator_limbs))]) (wn := fun u => [(a_t, .inr (4, [.ref a_t_units, .int t_count, .int u1_t_at, .int u1_t_end, .ref a_t_numerator, .ref a_t_denominator, .int t_counting, .int t_power])), (a_t_units, .inl (κ.2.1, 600, .inl t_units)), (a_t_numerator, .inr (2, [.ref a_t_numerator_limbs, .int t_numerator_used])), (a_t_numerator_limbs, .inl (κ.2.1, 48, .inl t_numerator_limbs)), (a_t_denominator, .inr (2, [.ref a_t_denominator_limbs, .int t_denominator_used])), (a_t_denominator_limbs, .inl (κ.2.1, 48, .inl t_denominator_limbs))]) (rest := []) (As := [.int u1_t_at]) hF zn_R_42 (k_R_unitAt κ X hX l a_t a_t_units a_t_numerator a_t_denominator H.size t_count u1_t_at u1_t_end t_counting t_power t_units u1_t_at o_22 ho_22) hX hXs hK hA hP hD hS ⟨by decide, by decide⟩ ⟨rfl, rfl, rfl, rfl, rfl, by decide⟩ ⟨rfl, fun _ => rfl, fun _ => rfl⟩ (ci := 4) rfl rfl rfl rfl hl.1 rfl (Nat.le_of_ble_eq_true rfl) ⟨Nat.zero_le _, Nat.zero_le _⟩ d_R_numberOfText_22 (fun r_22 u H locs hw hP hD hS => ?_)
    subst hw
    refine lv_bipush (v := 48) hx hb d_R_numberOfText_25 (by decide) ?_
    refine lv_icmp_ne (tgt := 75) hx hb d_R_numberOfText_27 (by decide) (fun c_27 => ?_) (fun c_27 => ?_)
    · have hf := (zbr hf).2 c_27
      exact b_75 u1_t_at u1_t_end t_counting t_power t_numerator_used t_numerator_limbs t_denominator_used t_denominator_limbs H locs ls hf hP hD hS hl
    · have hf := (zbr hf).1 c_27
      refine lv_aload_n hx hb d_R_numberOfText_30 rfl (lv_at hl 0 rfl) ?_
      refine lv_aload_n hx hb d_R_numberOfText_31 rfl (lv_at hl 0 rfl) ?_
      refine va_get (C := R_R) (T := F_R) (N := 8) hx hb hts i_R hown hK hP 0 rfl rfl 2 (by decide) (hts _ zfl_R_17) (fun _ h9 => h9) rfl d_R_numberOfText_32 ?_
      refine lv_iconst (v := 1) hx hb d_R_numberOfText_35 (by decide) ?_
      refine lv_iadd hx hb d_R_numberOfText_36 ?_
      obtain ⟨o_37, ho_37, hf⟩ := zbd hf
      refine zVi (isC := [0, 1]) (isR := [2, 3, 4, 5]) (isN := [4, 5, 0, 1, 2, 3]) (wc := [(a_t, .inr (4, [.ref a_t_units, .int t_count, .int u1_t_at, .int u1_t_end, .ref a_t_numerator, .ref a_t_denominator, .int t_counting, .int t_power])), (a_t_units, .inl (κ.2.1, 600, .inl t_units))]) (wr := [(a_t_numerator, .inr (2, [.ref a_t_numerator_limbs, .int t_numerator_used])), (a_t_numerator_limbs, .inl (κ.2.1, 48, .inl t_numerator_limbs)), (a_t_denominator, .inr (2, [.ref a_t_denominator_limbs, .int t_denominator_used])), (a_t_denominator_limbs, .inl (κ.2.1, 48, .inl t_denominator_limbs))]) (wn := fun u => [(a_t, .inr (4, [.ref a_t_units, .int t_count, .int u1_t_at, .int u1_t_end, .ref a_t_numerator, .ref a_t_denominator, .int t_counting, .int t_power])), (a_t_units, .inl (κ.2.1, 600, .inl t_units)), (a_t_numerator, .inr (2, [.ref a_t_numerator_limbs, .int t_numerator_used])), (a_t_numerator_limbs, .inl (κ.2.1, 48, .inl t_numerator_limbs)), (a_t_denominator, .inr (2, [.ref a_t_denominator_limbs, .int t_denominator_used])), (a_t_denominator_limbs, .inl (κ.2.1, 48, .inl t_denominator_limbs))]) (rest := []) (As := [.int (u1_t_at + 1)]) hF zn_R_42 (k_R_unitAt κ X hX l a_t a_t_units a_t_numerator a_t_denominator H.size t_count u1_t_at u1_t_end t_counting t_power t_units (u1_t_at + 1) o_37 ho_37) hX hXs hK hA hP hD hS ⟨by decide, by decide⟩ ⟨rfl, rfl, rfl, rfl, rfl, by decide⟩ ⟨rfl, fun _ => rfl, fun _ => rfl⟩ (ci := 4) rfl rfl rfl rfl hl.1 rfl (Nat.le_of_ble_eq_true rfl) ⟨Nat.zero_le _, Nat.zero_le _⟩ d_R_numberOfText_37 (fun r_37 u H locs hw hP hD hS => ?_)
      subst hw
      refine lv_bipush (v := 120) hx hb d_R_numberOfText_40 (by decide) ?_
      refine lv_icmp_eq (tgt := 60) hx hb d_R_numberOfText_42 (by decide) (fun c_42 => ?_) (fun c_42 => ?_)
      · have hf := (zbr hf).1 c_42
        exact b_60 u1_t_at u1_t_end t_counting t_power t_numerator_used t_numerator_limbs t_denominator_used t_denominator_limbs H locs ls hf hP hD hS hl
      · have hf := (zbr hf).2 c_42
        refine lv_aload_n hx hb d_R_numberOfText_45 rfl (lv_at hl 0 rfl) ?_
        refine lv_aload_n hx hb d_R_numberOfText_46 rfl (lv_at hl 0 rfl) ?_
        refine va_get (C := R_R) (T := F_R) (N := 8) hx hb hts i_R hown hK hP 0 rfl rfl 2 (by decide) (hts _ zfl_R_17) (fun _ h9 => h9) rfl d_R_numberOfText_47 ?_
        refine lv_iconst (v := 1) hx hb d_R_numberOfText_50 (by decide) ?_
        refine lv_iadd hx hb d_R_numberOfText_51 ?_
        obtain ⟨o_52, ho_52, hf⟩ := zbd hf
        refine zVi (isC := [0, 1]) (isR := [2, 3, 4, 5]) (isN := [4, 5, 0, 1, 2, 3]) (wc := [(a_t, .inr (4, [.ref a_t_units, .int t_count, .int u1_t_at, .int u1_t_end, .ref a_t_numerator, .ref a_t_denominator, .int t_counting, .int t_power])), (a_t_units, .inl (κ.2.1, 600, .inl t_units))]) (wr := [(a_t_numerator, .inr (2, [.ref a_t_numerator_limbs, .int t_numerator_used])), (a_t_numerator_limbs, .inl (κ.2.1, 48, .inl t_numerator_limbs)), (a_t_denominator, .inr (2, [.ref a_t_denominator_limbs, .int t_denominator_used])), (a_t_denominator_limbs, .inl (κ.2.1, 48, .inl t_denominator_limbs))]) (wn := fun u => [(a_t, .inr (4, [.ref a_t_units, .int t_count, .int u1_t_at, .int u1_t_end, .ref a_t_numerator, .ref a_t_denominator, .int t_counting, .int t_power])), (a_t_units, .inl (κ.2.1, 600, .inl t_units)), (a_t_numerator, .inr (2, [.ref a_t_numerator_limbs, .int t_numerator_used])), (a_t_numerator_limbs, .inl (κ.2.1, 48, .inl t_numerator_limbs)), (a_t_denominator, .inr (2, [.ref a_t_denominator_limbs, .int t_denominator_used])), (a_t_denominator_limbs, .inl (κ.2.1, 48, .inl t_denominator_limbs))]) (rest := []) (As := [.int (u1_t_at + 1)]) hF zn_R_42 (k_R_unitAt κ X hX l a_t a_t_units a_t_numerator a_t_denominator H.size t_count u1_t_at u1_t_end t_counting t_power t_units (u1_t_at + 1) o_52 ho_52) hX hXs hK hA hP hD hS ⟨by decide, by decide⟩ ⟨rfl, rfl, rfl, rfl, rfl, by decide⟩ ⟨rfl, fun _ => rfl, fun _ => rfl⟩ (ci := 4) rfl rfl rfl rfl hl.1 rfl (Nat.le_of_ble_eq_true rfl) ⟨Nat.zero_le _, Nat.zero_le _⟩ d_R_numberOfText_52 (fun r_52 u H locs hw hP hD hS => ?_)
        subst hw
        refine lv_bipush (v := 88) hx hb d_R_numberOfText_55 (by decide) ?_
        refine lv_icmp_ne (tgt := 75) hx hb d_R_numberOfText_57 (by decide) (fun c_57 => ?_) (fun c_57 => ?_)
        · have hf := (zbr hf).2 c_57
          exact b_75 u1_t_at u1_t_end t_counting t_power t_numerator_used t_numerator_limbs t_denominator_used t_denominator_limbs H locs ls hf hP hD hS hl
        · have hf := (zbr hf).1 c_57
          exact b_60 u1_t_at u1_t_end t_counting t_power t_numerator_used t_numerator_limbs t_denominator_used t_denominator_limbs H locs ls hf hP hD hS hl
  · have hf := (zbr hf).2 c_12
    refine lv_lconst (v := 0) hx hb d_R_numberOfText_15 (by decide) ?_
    exact hret ((0 : Int64)) ((u1_t_at, u1_t_end, t_counting, t_power, t_numerator_used, t_numerator_limbs, t_denominator_used, t_denominator_limbs)) H locs ls _ d_R_numberOfText_16 hP hD hS (Option.some.inj hf)
